/-! The constructors, and the beginning of the law (printed by wip/gen/genI.py). -/
theorem hcd_co_init : am_code 11 = am_c_co_init := rfl
theorem hcd_so_init : am_code 26 = am_c_so_init := rfl
theorem hcd_by_init : am_code 4 = am_c_by_init := rfl
theorem hcd_fm_init : am_code 13 = am_c_fm_init := rfl
theorem hcd_sp_init : am_code 33 = am_c_sp_init := rfl
theorem hcd_pr_init : am_code 29 = am_c_pr_init := rfl
theorem hcd_wr_init : am_code 65 = am_c_wr_init := rfl
theorem hcd_rd_init : am_code 37 = am_c_rd_init := rfl
theorem hcd_sh_init : am_code 79 = am_c_sh_init := rfl
theorem hcd_mo_init : am_code 101 = am_c_mo_init := rfl
def zi_h0 : am_H := []
def zi_h1 : am_H := [.inl (7, [.null, .null, .null, .null, .int 0])]
def zi_h2 : am_H := [.inl (7, [.null, .null, .null, .null, .int 0]), .inl (4, [.null, .int 0, .int 0])]
def zi_h3 : am_H := [.inl (7, [.null, .null, .null, .null, .int 0]), .inl (4, [.ref 2, .int 0, .int 8000]), .inr (.inl (64, fun _ => 0))]
def zi_h4 : am_H := [.inl (7, [.ref 1, .null, .null, .null, .int 0]), .inl (4, [.ref 2, .int 0, .int 8000]), .inr (.inl (64, fun _ => 0)), .inl (0, [.null, .int 0])]
def zi_h5 : am_H := [.inl (7, [.ref 1, .null, .null, .null, .int 0]), .inl (4, [.ref 2, .int 0, .int 8000]), .inr (.inl (64, fun _ => 0)), .inl (0, [.ref 4, .int 0]), .inr (.inl (400, fun _ => 0))]
def zi_h6 : am_H := [.inl (7, [.ref 1, .ref 3, .null, .null, .int 0]), .inl (4, [.ref 2, .int 0, .int 8000]), .inr (.inl (64, fun _ => 0)), .inl (0, [.ref 4, .int 0]), .inr (.inl (400, fun _ => 0)), .inl (6, [.null, .null, .null, .null, .null, .null])]
def zi_h7 : am_H := [.inl (7, [.ref 1, .ref 3, .null, .null, .int 0]), .inl (4, [.ref 2, .int 0, .int 8000]), .inr (.inl (64, fun _ => 0)), .inl (0, [.ref 4, .int 0]), .inr (.inl (400, fun _ => 0)), .inl (6, [.null, .null, .null, .null, .null, .null]), .inl (1, [.int 0, .int 0, .int 0, .int 0])]
def zi_h8 : am_H := [.inl (7, [.ref 1, .ref 3, .null, .null, .int 0]), .inl (4, [.ref 2, .int 0, .int 8000]), .inr (.inl (64, fun _ => 0)), .inl (0, [.ref 4, .int 0]), .inr (.inl (400, fun _ => 0)), .inl (6, [.null, .null, .null, .null, .null, .null]), .inl (1, [.int 0, .int 0, .int 0, .int 1])]
def zi_h9 : am_H := [.inl (7, [.ref 1, .ref 3, .null, .null, .int 0]), .inl (4, [.ref 2, .int 0, .int 8000]), .inr (.inl (64, fun _ => 0)), .inl (0, [.ref 4, .int 0]), .inr (.inl (400, fun _ => 0)), .inl (6, [.null, .null, .ref 6, .null, .null, .null]), .inl (1, [.int 0, .int 0, .int 0, .int 1]), .inl (5, [.int 0, .int 0])]
def zi_h10 : am_H := [.inl (7, [.ref 1, .ref 3, .null, .null, .int 0]), .inl (4, [.ref 2, .int 0, .int 8000]), .inr (.inl (64, fun _ => 0)), .inl (0, [.ref 4, .int 0]), .inr (.inl (400, fun _ => 0)), .inl (6, [.null, .null, .ref 6, .ref 7, .null, .null]), .inl (1, [.int 0, .int 0, .int 0, .int 1]), .inl (5, [.int 0, .int 0]), .inl (2, [.int 0, .int 0, .int 0, .int 0])]
def zi_h11 : am_H := [.inl (7, [.ref 1, .ref 3, .null, .null, .int 0]), .inl (4, [.ref 2, .int 0, .int 8000]), .inr (.inl (64, fun _ => 0)), .inl (0, [.ref 4, .int 0]), .inr (.inl (400, fun _ => 0)), .inl (6, [.ref 1, .ref 3, .ref 6, .ref 7, .ref 8, .ref 9]), .inl (1, [.int 0, .int 0, .int 0, .int 1]), .inl (5, [.int 0, .int 0]), .inl (2, [.int 0, .int 0, .int 0, .int 0]), .inr (.inl (16, fun _ => 0))]
def zi_h12 : am_H := [.inl (7, [.ref 1, .ref 3, .ref 5, .null, .int 0]), .inl (4, [.ref 2, .int 0, .int 8000]), .inr (.inl (64, fun _ => 0)), .inl (0, [.ref 4, .int 0]), .inr (.inl (400, fun _ => 0)), .inl (6, [.ref 1, .ref 3, .ref 6, .ref 7, .ref 8, .ref 9]), .inl (1, [.int 0, .int 0, .int 0, .int 1]), .inl (5, [.int 0, .int 0]), .inl (2, [.int 0, .int 0, .int 0, .int 0]), .inr (.inl (16, fun _ => 0)), .inl (3, [.null, .null, .null, .null, .null, .int 0, .long 0, .int 0, .int 0, .int 0, .int 0, .int 0])]
def zi_h13 : am_H := [.inl (7, [.ref 1, .ref 3, .ref 5, .null, .int 0]), .inl (4, [.ref 2, .int 0, .int 8000]), .inr (.inl (64, fun _ => 0)), .inl (0, [.ref 4, .int 0]), .inr (.inl (400, fun _ => 0)), .inl (6, [.ref 1, .ref 3, .ref 6, .ref 7, .ref 8, .ref 9]), .inl (1, [.int 0, .int 0, .int 0, .int 1]), .inl (5, [.int 0, .int 0]), .inl (2, [.int 0, .int 0, .int 0, .int 0]), .inr (.inl (16, fun _ => 0)), .inl (3, [.null, .null, .null, .null, .null, .int 0, .long 0, .int 0, .int 0, .int 0, .int 0, .int 0]), .inl (4, [.null, .int 0, .int 0])]
def zi_h14 : am_H := [.inl (7, [.ref 1, .ref 3, .ref 5, .null, .int 0]), .inl (4, [.ref 2, .int 0, .int 8000]), .inr (.inl (64, fun _ => 0)), .inl (0, [.ref 4, .int 0]), .inr (.inl (400, fun _ => 0)), .inl (6, [.ref 1, .ref 3, .ref 6, .ref 7, .ref 8, .ref 9]), .inl (1, [.int 0, .int 0, .int 0, .int 1]), .inl (5, [.int 0, .int 0]), .inl (2, [.int 0, .int 0, .int 0, .int 0]), .inr (.inl (16, fun _ => 0)), .inl (3, [.null, .null, .null, .null, .null, .int 0, .long 0, .int 0, .int 0, .int 0, .int 0, .int 0]), .inl (4, [.ref 12, .int 0, .int 8000]), .inr (.inl (64, fun _ => 0))]
def zi_h15 : am_H := [.inl (7, [.ref 1, .ref 3, .ref 5, .null, .int 0]), .inl (4, [.ref 2, .int 0, .int 8000]), .inr (.inl (64, fun _ => 0)), .inl (0, [.ref 4, .int 0]), .inr (.inl (400, fun _ => 0)), .inl (6, [.ref 1, .ref 3, .ref 6, .ref 7, .ref 8, .ref 9]), .inl (1, [.int 0, .int 0, .int 0, .int 1]), .inl (5, [.int 0, .int 0]), .inl (2, [.int 0, .int 0, .int 0, .int 0]), .inr (.inl (16, fun _ => 0)), .inl (3, [.null, .ref 11, .null, .null, .null, .int 0, .long 0, .int 0, .int 0, .int 0, .int 0, .int 0]), .inl (4, [.ref 12, .int 0, .int 8000]), .inr (.inl (64, fun _ => 0)), .inl (1, [.int 0, .int 0, .int 0, .int 0])]
def zi_h16 : am_H := [.inl (7, [.ref 1, .ref 3, .ref 5, .null, .int 0]), .inl (4, [.ref 2, .int 0, .int 8000]), .inr (.inl (64, fun _ => 0)), .inl (0, [.ref 4, .int 0]), .inr (.inl (400, fun _ => 0)), .inl (6, [.ref 1, .ref 3, .ref 6, .ref 7, .ref 8, .ref 9]), .inl (1, [.int 0, .int 0, .int 0, .int 1]), .inl (5, [.int 0, .int 0]), .inl (2, [.int 0, .int 0, .int 0, .int 0]), .inr (.inl (16, fun _ => 0)), .inl (3, [.null, .ref 11, .null, .null, .null, .int 0, .long 0, .int 0, .int 0, .int 0, .int 0, .int 0]), .inl (4, [.ref 12, .int 0, .int 8000]), .inr (.inl (64, fun _ => 0)), .inl (1, [.int 0, .int 0, .int 0, .int 1])]
def zi_h17 : am_H := [.inl (7, [.ref 1, .ref 3, .ref 5, .null, .int 0]), .inl (4, [.ref 2, .int 0, .int 8000]), .inr (.inl (64, fun _ => 0)), .inl (0, [.ref 4, .int 0]), .inr (.inl (400, fun _ => 0)), .inl (6, [.ref 1, .ref 3, .ref 6, .ref 7, .ref 8, .ref 9]), .inl (1, [.int 0, .int 0, .int 0, .int 1]), .inl (5, [.int 0, .int 0]), .inl (2, [.int 0, .int 0, .int 0, .int 0]), .inr (.inl (16, fun _ => 0)), .inl (3, [.null, .ref 11, .ref 13, .null, .null, .int 0, .long 0, .int 0, .int 0, .int 0, .int 0, .int 0]), .inl (4, [.ref 12, .int 0, .int 8000]), .inr (.inl (64, fun _ => 0)), .inl (1, [.int 0, .int 0, .int 0, .int 1]), .inl (5, [.int 0, .int 0])]
def zi_h18 : am_H := [.inl (7, [.ref 1, .ref 3, .ref 5, .null, .int 0]), .inl (4, [.ref 2, .int 0, .int 8000]), .inr (.inl (64, fun _ => 0)), .inl (0, [.ref 4, .int 0]), .inr (.inl (400, fun _ => 0)), .inl (6, [.ref 1, .ref 3, .ref 6, .ref 7, .ref 8, .ref 9]), .inl (1, [.int 0, .int 0, .int 0, .int 1]), .inl (5, [.int 0, .int 0]), .inl (2, [.int 0, .int 0, .int 0, .int 0]), .inr (.inl (16, fun _ => 0)), .inl (3, [.null, .ref 11, .ref 13, .ref 14, .null, .int 0, .long 0, .int 0, .int 0, .int 0, .int 0, .int 0]), .inl (4, [.ref 12, .int 0, .int 8000]), .inr (.inl (64, fun _ => 0)), .inl (1, [.int 0, .int 0, .int 0, .int 1]), .inl (5, [.int 0, .int 0]), .inl (2, [.int 0, .int 0, .int 0, .int 0])]
def zi_h19 : am_H := [.inl (7, [.ref 1, .ref 3, .ref 5, .null, .int 0]), .inl (4, [.ref 2, .int 0, .int 8000]), .inr (.inl (64, fun _ => 0)), .inl (0, [.ref 4, .int 0]), .inr (.inl (400, fun _ => 0)), .inl (6, [.ref 1, .ref 3, .ref 6, .ref 7, .ref 8, .ref 9]), .inl (1, [.int 0, .int 0, .int 0, .int 1]), .inl (5, [.int 0, .int 0]), .inl (2, [.int 0, .int 0, .int 0, .int 0]), .inr (.inl (16, fun _ => 0)), .inl (3, [.ref 3, .ref 11, .ref 13, .ref 14, .ref 15, .int 0, .long 0, .int 0, .int 0, .int 0, .int 0, .int 0]), .inl (4, [.ref 12, .int 0, .int 8000]), .inr (.inl (64, fun _ => 0)), .inl (1, [.int 0, .int 0, .int 0, .int 1]), .inl (5, [.int 0, .int 0]), .inl (2, [.int 0, .int 0, .int 0, .int 0])]
def zi_h20 : am_H := [.inl (7, [.ref 1, .ref 3, .ref 5, .ref 10, .int (-1)]), .inl (4, [.ref 2, .int 0, .int 8000]), .inr (.inl (64, fun _ => 0)), .inl (0, [.ref 4, .int 0]), .inr (.inl (400, fun _ => 0)), .inl (6, [.ref 1, .ref 3, .ref 6, .ref 7, .ref 8, .ref 9]), .inl (1, [.int 0, .int 0, .int 0, .int 1]), .inl (5, [.int 0, .int 0]), .inl (2, [.int 0, .int 0, .int 0, .int 0]), .inr (.inl (16, fun _ => 0)), .inl (3, [.ref 3, .ref 11, .ref 13, .ref 14, .ref 15, .int 0, .long 0, .int 0, .int 0, .int 0, .int 0, .int 0]), .inl (4, [.ref 12, .int 0, .int 8000]), .inr (.inl (64, fun _ => 0)), .inl (1, [.int 0, .int 0, .int 0, .int 1]), .inl (5, [.int 0, .int 0]), .inl (2, [.int 0, .int 0, .int 0, .int 0])]
def zi_h21 : am_H := [.inl (7, [.ref 1, .ref 3, .ref 5, .ref 10, .int (-1)]), .inl (4, [.ref 2, .int 0, .int 8000]), .inr (.inl (64, fun _ => 0)), .inl (0, [.ref 4, .int 0]), .inr (.inl (400, fun _ => 0)), .inl (6, [.ref 1, .ref 3, .ref 6, .ref 7, .ref 8, .ref 9]), .inl (1, [.int 0, .int 0, .int 0, .int 1]), .inl (5, [.int 0, .int 0]), .inl (2, [.int 0, .int 0, .int 0, .int 0]), .inr (.inl (16, fun _ => 0)), .inl (3, [.ref 3, .ref 11, .ref 13, .ref 14, .ref 15, .int 0, .long 0, .int 0, .int 0, .int 0, .int 0, .int 0]), .inl (4, [.ref 12, .int 0, .int 8000]), .inr (.inl (64, fun _ => 0)), .inl (1, [.int 0, .int 0, .int 0, .int 1]), .inl (5, [.int 0, .int 0]), .inl (2, [.int 0, .int 0, .int 0, .int 0]), .inl (8, [.int 0, .int 0, .null, .int 0, .int 0, .null, .int 0, .int 0, .int 0, .null, .int 0, .int 0, .int 0, .int 0, .int 0, .int 0, .int 0, .int 0, .int 0, .int 0, .int 0, .null])]
def zi_h22 : am_H := [.inl (7, [.ref 1, .ref 3, .ref 5, .ref 10, .int (-1)]), .inl (4, [.ref 2, .int 0, .int 8000]), .inr (.inl (64, fun _ => 0)), .inl (0, [.ref 4, .int 0]), .inr (.inl (400, fun _ => 0)), .inl (6, [.ref 1, .ref 3, .ref 6, .ref 7, .ref 8, .ref 9]), .inl (1, [.int 0, .int 0, .int 0, .int 1]), .inl (5, [.int 0, .int 0]), .inl (2, [.int 0, .int 0, .int 0, .int 0]), .inr (.inl (16, fun _ => 0)), .inl (3, [.ref 3, .ref 11, .ref 13, .ref 14, .ref 15, .int 0, .long 0, .int 0, .int 0, .int 0, .int 0, .int 0]), .inl (4, [.ref 12, .int 0, .int 8000]), .inr (.inl (64, fun _ => 0)), .inl (1, [.int 0, .int 0, .int 0, .int 1]), .inl (5, [.int 0, .int 0]), .inl (2, [.int 0, .int 0, .int 0, .int 0]), .inl (8, [.int 0, .int 0, .ref 17, .int 8000, .int 0, .ref 18, .int (-1), .int 0, .int 0, .ref 19, .int 0, .int 0, .int 0, .int 0, .int 0, .int 0, .int 0, .int 0, .int 0, .int 0, .int 0, .ref 20]), .inr (.inl (64, fun _ => 0)), .inr (.inl (400, fun _ => 0)), .inr (.inl (64, fun _ => 0)), .inr (.inl (16, fun _ => 0))]
def zi_h23 : am_H := [.inl (7, [.ref 1, .ref 3, .ref 5, .ref 10, .int (-1)]), .inl (4, [.ref 2, .int 0, .int 8000]), .inr (.inl (64, fun _ => 0)), .inl (0, [.ref 4, .int 0]), .inr (.inl (400, fun _ => 0)), .inl (6, [.ref 1, .ref 3, .ref 6, .ref 7, .ref 8, .ref 9]), .inl (1, [.int 0, .int 0, .int 0, .int 1]), .inl (5, [.int 0, .int 0]), .inl (2, [.int 0, .int 0, .int 0, .int 0]), .inr (.inl (16, fun _ => 0)), .inl (3, [.ref 3, .ref 11, .ref 13, .ref 14, .ref 15, .int 0, .long 0, .int 0, .int 0, .int 0, .int 0, .int 0]), .inl (4, [.ref 12, .int 0, .int 8000]), .inr (.inl (64, fun _ => 0)), .inl (1, [.int 0, .int 0, .int 0, .int 1]), .inl (5, [.int 0, .int 0]), .inl (2, [.int 0, .int 0, .int 0, .int 0]), .inl (8, [.int 0, .int 0, .ref 17, .int 8000, .int 0, .ref 18, .int (-1), .int 0, .int 0, .ref 19, .int 0, .int 0, .int 0, .int 0, .int 0, .int 0, .int 0, .int 0, .int 0, .int 0, .int 0, .ref 20]), .inr (.inl (64, fun _ => 0)), .inr (.inl (400, fun _ => 0)), .inr (.inl (64, fun _ => 0)), .inr (.inl (16, fun _ => 0)), .inr (.inr (1, fun _ => 0))]
theorem ti_0 {sc : am_S} : am_ev sc 1 26 [.ref 1] zi_h2 (.inl none, zi_h3, true) := by
  refine am_ev.of true rfl ?_
  show am_go sc _ _ _ _ (0, [some (.ref 1)], [], zi_h2, true) _
  refine am_go.blk hcd_so_init 9 (g := (19, [some (.ref 1)], [], zi_h3, true)) rfl ?_
  exact am_go.ret hcd_so_init rfl rfl ⟨rfl, rfl, (fun h => by cases h), rfl, rfl⟩
theorem ti_1 {sc : am_S} : am_ev sc 1 4 [.ref 3] zi_h4 (.inl none, zi_h5, true) := by
  refine am_ev.of true rfl ?_
  show am_go sc _ _ _ _ (0, [some (.ref 3)], [], zi_h4, true) _
  refine am_go.blk hcd_by_init 6 (g := (13, [some (.ref 3)], [], zi_h5, true)) rfl ?_
  exact am_go.ret hcd_by_init rfl rfl ⟨rfl, rfl, (fun h => by cases h), rfl, rfl⟩
theorem ti_2 {sc : am_S} : am_ev sc 1 13 [.ref 6] zi_h7 (.inl none, zi_h8, true) := by
  refine am_ev.of true rfl ?_
  show am_go sc _ _ _ _ (0, [some (.ref 6)], [], zi_h7, true) _
  refine am_go.blk hcd_fm_init 5 (g := (9, [some (.ref 6)], [], zi_h8, true)) rfl ?_
  exact am_go.ret hcd_fm_init rfl rfl ⟨rfl, rfl, (fun h => by cases h), rfl, rfl⟩
theorem ti_3 {sc : am_S} : am_ev sc 1 11 [.ref 7] zi_h9 (.inl none, zi_h9, true) := by
  refine am_ev.of true rfl ?_
  show am_go sc _ _ _ _ (0, [some (.ref 7)], [], zi_h9, true) _
  refine am_go.blk hcd_co_init 2 (g := (4, [some (.ref 7)], [], zi_h9, true)) rfl ?_
  exact am_go.ret hcd_co_init rfl rfl ⟨rfl, rfl, (fun h => by cases h), rfl, rfl⟩
theorem ti_4 {sc : am_S} : am_ev sc 2 33 [.ref 7] zi_h9 (.inl none, zi_h9, true) := by
  refine am_ev.of true rfl ?_
  show am_go sc _ _ _ _ (0, [some (.ref 7)], [], zi_h9, true) _
  refine am_go.blk hcd_sp_init 1 (g := (1, [some (.ref 7)], [.ref 7], zi_h9, true)) rfl ?_
  refine am_go.call hcd_sp_init rfl rfl rfl rfl (am_le8 rfl) (am_ev.le (Nat.le_of_ble_eq_true rfl) ti_3) ?_
  exact am_go.ret hcd_sp_init rfl rfl ⟨rfl, rfl, (fun h => by cases h), rfl, rfl⟩
theorem ti_5 {sc : am_S} : am_ev sc 1 11 [.ref 8] zi_h10 (.inl none, zi_h10, true) := by
  refine am_ev.of true rfl ?_
  show am_go sc _ _ _ _ (0, [some (.ref 8)], [], zi_h10, true) _
  refine am_go.blk hcd_co_init 2 (g := (4, [some (.ref 8)], [], zi_h10, true)) rfl ?_
  exact am_go.ret hcd_co_init rfl rfl ⟨rfl, rfl, (fun h => by cases h), rfl, rfl⟩
theorem ti_6 {sc : am_S} : am_ev sc 2 29 [.ref 8] zi_h10 (.inl none, zi_h10, true) := by
  refine am_ev.of true rfl ?_
  show am_go sc _ _ _ _ (0, [some (.ref 8)], [], zi_h10, true) _
  refine am_go.blk hcd_pr_init 1 (g := (1, [some (.ref 8)], [.ref 8], zi_h10, true)) rfl ?_
  refine am_go.call hcd_pr_init rfl rfl rfl rfl (am_le8 rfl) (am_ev.le (Nat.le_of_ble_eq_true rfl) ti_5) ?_
  exact am_go.ret hcd_pr_init rfl rfl ⟨rfl, rfl, (fun h => by cases h), rfl, rfl⟩
theorem ti_7 {sc : am_S} : am_ev sc 3 65 [.ref 5, .ref 1, .ref 3] zi_h6 (.inl none, zi_h11, true) := by
  refine am_ev.of true rfl ?_
  show am_go sc _ _ _ _ (0, [some (.ref 5), some (.ref 1), some (.ref 3)], [], zi_h6, true) _
  refine am_go.blk hcd_wr_init 5 (g := (9, [some (.ref 5), some (.ref 1), some (.ref 3)], [.ref 6, .ref 6, .ref 5], zi_h7, true)) rfl ?_
  refine am_go.call hcd_wr_init rfl rfl rfl rfl (am_le8 rfl) (am_ev.le (Nat.le_of_ble_eq_true rfl) ti_2) ?_
  refine am_go.blk hcd_wr_init 4 (g := (20, [some (.ref 5), some (.ref 1), some (.ref 3)], [.ref 7, .ref 7, .ref 5], zi_h9, true)) rfl ?_
  refine am_go.call hcd_wr_init rfl rfl rfl rfl (am_le8 rfl) (am_ev.le (Nat.le_of_ble_eq_true rfl) ti_4) ?_
  refine am_go.blk hcd_wr_init 4 (g := (31, [some (.ref 5), some (.ref 1), some (.ref 3)], [.ref 8, .ref 8, .ref 5], zi_h10, true)) rfl ?_
  refine am_go.call hcd_wr_init rfl rfl rfl rfl (am_le8 rfl) (am_ev.le (Nat.le_of_ble_eq_true rfl) ti_6) ?_
  refine am_go.blk hcd_wr_init 11 (g := (55, [some (.ref 5), some (.ref 1), some (.ref 3)], [], zi_h11, true)) rfl ?_
  exact am_go.ret hcd_wr_init rfl rfl ⟨rfl, rfl, (fun h => by cases h), rfl, rfl⟩
theorem ti_8 {sc : am_S} : am_ev sc 1 26 [.ref 11] zi_h13 (.inl none, zi_h14, true) := by
  refine am_ev.of true rfl ?_
  show am_go sc _ _ _ _ (0, [some (.ref 11)], [], zi_h13, true) _
  refine am_go.blk hcd_so_init 9 (g := (19, [some (.ref 11)], [], zi_h14, true)) rfl ?_
  exact am_go.ret hcd_so_init rfl rfl ⟨rfl, rfl, (fun h => by cases h), rfl, rfl⟩
theorem ti_9 {sc : am_S} : am_ev sc 1 13 [.ref 13] zi_h15 (.inl none, zi_h16, true) := by
  refine am_ev.of true rfl ?_
  show am_go sc _ _ _ _ (0, [some (.ref 13)], [], zi_h15, true) _
  refine am_go.blk hcd_fm_init 5 (g := (9, [some (.ref 13)], [], zi_h16, true)) rfl ?_
  exact am_go.ret hcd_fm_init rfl rfl ⟨rfl, rfl, (fun h => by cases h), rfl, rfl⟩
theorem ti_10 {sc : am_S} : am_ev sc 1 11 [.ref 14] zi_h17 (.inl none, zi_h17, true) := by
  refine am_ev.of true rfl ?_
  show am_go sc _ _ _ _ (0, [some (.ref 14)], [], zi_h17, true) _
  refine am_go.blk hcd_co_init 2 (g := (4, [some (.ref 14)], [], zi_h17, true)) rfl ?_
  exact am_go.ret hcd_co_init rfl rfl ⟨rfl, rfl, (fun h => by cases h), rfl, rfl⟩
theorem ti_11 {sc : am_S} : am_ev sc 2 33 [.ref 14] zi_h17 (.inl none, zi_h17, true) := by
  refine am_ev.of true rfl ?_
  show am_go sc _ _ _ _ (0, [some (.ref 14)], [], zi_h17, true) _
  refine am_go.blk hcd_sp_init 1 (g := (1, [some (.ref 14)], [.ref 14], zi_h17, true)) rfl ?_
  refine am_go.call hcd_sp_init rfl rfl rfl rfl (am_le8 rfl) (am_ev.le (Nat.le_of_ble_eq_true rfl) ti_10) ?_
  exact am_go.ret hcd_sp_init rfl rfl ⟨rfl, rfl, (fun h => by cases h), rfl, rfl⟩
theorem ti_12 {sc : am_S} : am_ev sc 1 11 [.ref 15] zi_h18 (.inl none, zi_h18, true) := by
  refine am_ev.of true rfl ?_
  show am_go sc _ _ _ _ (0, [some (.ref 15)], [], zi_h18, true) _
  refine am_go.blk hcd_co_init 2 (g := (4, [some (.ref 15)], [], zi_h18, true)) rfl ?_
  exact am_go.ret hcd_co_init rfl rfl ⟨rfl, rfl, (fun h => by cases h), rfl, rfl⟩
theorem ti_13 {sc : am_S} : am_ev sc 2 29 [.ref 15] zi_h18 (.inl none, zi_h18, true) := by
  refine am_ev.of true rfl ?_
  show am_go sc _ _ _ _ (0, [some (.ref 15)], [], zi_h18, true) _
  refine am_go.blk hcd_pr_init 1 (g := (1, [some (.ref 15)], [.ref 15], zi_h18, true)) rfl ?_
  refine am_go.call hcd_pr_init rfl rfl rfl rfl (am_le8 rfl) (am_ev.le (Nat.le_of_ble_eq_true rfl) ti_12) ?_
  exact am_go.ret hcd_pr_init rfl rfl ⟨rfl, rfl, (fun h => by cases h), rfl, rfl⟩
theorem ti_14 {sc : am_S} : am_ev sc 3 37 [.ref 10, .ref 3] zi_h12 (.inl none, zi_h19, true) := by
  refine am_ev.of true rfl ?_
  show am_go sc _ _ _ _ (0, [some (.ref 10), some (.ref 3)], [], zi_h12, true) _
  refine am_go.blk hcd_rd_init 5 (g := (9, [some (.ref 10), some (.ref 3)], [.ref 11, .ref 11, .ref 10], zi_h13, true)) rfl ?_
  refine am_go.call hcd_rd_init rfl rfl rfl rfl (am_le8 rfl) (am_ev.le (Nat.le_of_ble_eq_true rfl) ti_8) ?_
  refine am_go.blk hcd_rd_init 4 (g := (20, [some (.ref 10), some (.ref 3)], [.ref 13, .ref 13, .ref 10], zi_h15, true)) rfl ?_
  refine am_go.call hcd_rd_init rfl rfl rfl rfl (am_le8 rfl) (am_ev.le (Nat.le_of_ble_eq_true rfl) ti_9) ?_
  refine am_go.blk hcd_rd_init 4 (g := (31, [some (.ref 10), some (.ref 3)], [.ref 14, .ref 14, .ref 10], zi_h17, true)) rfl ?_
  refine am_go.call hcd_rd_init rfl rfl rfl rfl (am_le8 rfl) (am_ev.le (Nat.le_of_ble_eq_true rfl) ti_11) ?_
  refine am_go.blk hcd_rd_init 4 (g := (42, [some (.ref 10), some (.ref 3)], [.ref 15, .ref 15, .ref 10], zi_h18, true)) rfl ?_
  refine am_go.call hcd_rd_init rfl rfl rfl rfl (am_le8 rfl) (am_ev.le (Nat.le_of_ble_eq_true rfl) ti_13) ?_
  refine am_go.blk hcd_rd_init 4 (g := (53, [some (.ref 10), some (.ref 3)], [], zi_h19, true)) rfl ?_
  exact am_go.ret hcd_rd_init rfl rfl ⟨rfl, rfl, (fun h => by cases h), rfl, rfl⟩
theorem ti_15 {sc : am_S} : am_ev sc 4 79 [.ref 0] zi_h1 (.inl none, zi_h20, true) := by
  refine am_ev.of true rfl ?_
  show am_go sc _ _ _ _ (0, [some (.ref 0)], [], zi_h1, true) _
  refine am_go.blk hcd_sh_init 5 (g := (9, [some (.ref 0)], [.ref 1, .ref 1, .ref 0], zi_h2, true)) rfl ?_
  refine am_go.call hcd_sh_init rfl rfl rfl rfl (am_le8 rfl) (am_ev.le (Nat.le_of_ble_eq_true rfl) ti_0) ?_
  refine am_go.blk hcd_sh_init 4 (g := (20, [some (.ref 0)], [.ref 3, .ref 3, .ref 0], zi_h4, true)) rfl ?_
  refine am_go.call hcd_sh_init rfl rfl rfl rfl (am_le8 rfl) (am_ev.le (Nat.le_of_ble_eq_true rfl) ti_1) ?_
  refine am_go.blk hcd_sh_init 8 (g := (39, [some (.ref 0)], [.ref 3, .ref 1, .ref 5, .ref 5, .ref 0], zi_h6, true)) rfl ?_
  refine am_go.call hcd_sh_init rfl rfl rfl rfl (am_le8 rfl) (am_ev.le (Nat.le_of_ble_eq_true rfl) ti_7) ?_
  refine am_go.blk hcd_sh_init 6 (g := (54, [some (.ref 0)], [.ref 3, .ref 10, .ref 10, .ref 0], zi_h12, true)) rfl ?_
  refine am_go.call hcd_sh_init rfl rfl rfl rfl (am_le8 rfl) (am_ev.le (Nat.le_of_ble_eq_true rfl) ti_14) ?_
  refine am_go.blk hcd_sh_init 4 (g := (65, [some (.ref 0)], [], zi_h20, true)) rfl ?_
  exact am_go.ret hcd_sh_init rfl rfl ⟨rfl, rfl, (fun h => by cases h), rfl, rfl⟩
theorem ti_16 {sc : am_S} : am_ev sc 1 101 [.ref 16] zi_h21 (.inl none, zi_h22, true) := by
  refine am_ev.of true rfl ?_
  show am_go sc _ _ _ _ (0, [some (.ref 16)], [], zi_h21, true) _
  refine am_go.blk hcd_mo_init 24 (g := (49, [some (.ref 16)], [], zi_h22, true)) rfl ?_
  exact am_go.ret hcd_mo_init rfl rfl ⟨rfl, rfl, (fun h => by cases h), rfl, rfl⟩
def zz_c0 : am_Z := ((zz_u (zz_u (zz_u (zz_u (zz_u (fun _ => 0) 0 (-1)) 2 8000) 7 1) 21 8000) 25 1), (fun _ => 0), (fun _ _ => 0))
def zz_m0 : am_Z := ((zz_u (zz_u (fun _ => 0) 3 8000) 6 (-1)), (fun _ => 0), (fun _ _ => 0))
theorem zi_last : zi_h23 = zz_hL zz_c0 zz_m0 (fun _ => 0) [] := rfl
/-- the law, to its loop -/
theorem ti_law {sc : am_S} {r : Int32 × am_Z × am_Z × (Nat → Int64) × am_H} (hF : fz_la_law_23 sc fz_fu (0 : Int32) zz_c0 zz_m0 (fun _ => 0) [] = some r) : am_go sc 9 (am_ev sc 8) 172 [] (0, am_ent 172 [.float 4], [], [], true) ((.inl (some (.int r.1)), zz_hL r.2.1 r.2.2.1 r.2.2.2.1 r.2.2.2.2, true) : am_R) := by
  show am_go sc _ _ _ _ (0, [some (.float 4), none, none, none, none, none, none], [], zi_h0, true) _
  refine am_go.blk hcd_la_law 2 (g := (4, [some (.float 4), none, none, none, none, none, none], [.ref 0, .ref 0], zi_h1, true)) rfl ?_
  refine am_go.call hcd_la_law rfl rfl rfl rfl (am_le8 rfl) (am_ev.le (Nat.le_of_ble_eq_true rfl) ti_15) ?_
  refine am_go.blk hcd_la_law 3 (g := (12, [some (.float 4), some (.ref 0), none, none, none, none, none], [.ref 16, .ref 16], zi_h21, true)) rfl ?_
  refine am_go.call hcd_la_law rfl rfl rfl rfl (am_le8 rfl) (am_ev.le (Nat.le_of_ble_eq_true rfl) ti_16) ?_
  refine am_go.blk hcd_la_law 6 (g := (23, [some (.float 4), some (.ref 0), some (.ref 16), some (.ref 21), some (.int 0), none, none], [], zi_h23, true)) rfl ?_
  have e := tz_la_law_23 (sc := sc) (h0 := []) fz_fu (0 : Int32) zz_c0 zz_m0 (fun _ => 0) [] r hF
  refine am_go.fgl [some (.float 4), some (.ref 0), some (.ref 16), some (.ref 21), some (.int 0), none, none] ⟨rfl, rfl, rfl, rfl, rfl, trivial⟩ ?_
  rw [zi_last]
  exact e
