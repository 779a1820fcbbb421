/-! THE ENTRY: the world that the two constructors leave -/
def zz : Nat → Int32 := fun _ => 0
def stR : List (Nat → Int32) := [fun k => ([32] : List Int32).getD k 0, fun _ => 0, upd (upd (upd (fun _ => 0) (0 : Int32).toNatClampNeg 8) (1 : Int32).toNatClampNeg 0) (2 : Int32).toNatClampNeg 0, fun _ => 0, fun _ => 0, fun _ => 0, fun _ => 0, fun _ => 0]
def sgL : List (Nat → Int32) := [fun _ => 0, fun _ => 0, fun k => nI (3 + k), fun _ => 0, fun _ => 0, fun _ => 0, fun _ => 0, fun _ => 0, fun _ => 0, fun _ => 0] ++ (stR ++ stR ++ stR ++ stR ++ stR ++ stR ++ stR ++ stR ++ stR)
/-- the class's ints at the start -/
def sg0 : Sg := fun q => sgL.getD q (fun _ => 0)
/-- the model's ints at the start -/
def mu0 : Sg := fun j => ([upd (upd (fun _ => 0) (0 : Int32).toNatClampNeg 32) (2 : Int32).toNatClampNeg 8, fun _ => 0, fun _ => 0, fun _ => 0, fun _ => 0, tbF 49] : List (Nat → Int32)).getD j (fun _ => 0)
/-- the place of the k-th that is made -/
def orL : List Nat := [0, 10, 11, 12, 13, 14, 15, 16, 17, 1, 2, 34, 35, 36, 37, 38, 39, 40, 41, 42, 43, 44, 45, 46, 47, 48, 49, 50, 51, 52, 53, 54, 55, 56, 57, 58, 59, 60, 61, 62, 63, 64, 65, 66, 67, 68, 69, 70, 71, 72, 73, 74, 75, 76, 77, 78, 79, 80, 81, 3, 18, 19, 20, 21, 22, 23, 24, 25, 26, 27, 28, 29, 30, 31, 32, 33, 4, 5, 6, 7, 8, 82, 86, 87, 88, 83, 89, 90, 91, 84, 85, 9, 92, 93, 94, 95, 96, 97, 98, 99, 100, 101, 102]
theorem or_ix : ∀ q, q < 103 → orL[ixL.getD q 0]? = some q := by decide +kernel
theorem or_len : orL.length = 103 := by decide +kernel
def mk2 (h : Nat) : Nat → Option Nat := va_up (va_up (va_up (va_up (va_up (va_up (fun _ => none) (0 : Int32).toNatClampNeg (some (h + (9 + 2)))) (1 : Int32).toNatClampNeg (some (h + (9 + 10)))) (2 : Int32).toNatClampNeg (some (h + (9 + 18)))) (3 : Int32).toNatClampNeg (some (h + (9 + 26)))) (4 : Int32).toNatClampNeg (some (h + (9 + 34)))) (5 : Int32).toNatClampNeg (some (h + (9 + 42)))
def mk3 (h : Nat) : Nat → Option Nat := va_up (va_up (fun _ => none) (0 : Int32).toNatClampNeg (some (h + (0 + 60)))) (1 : Int32).toNatClampNeg (some (h + (0 + 68)))
def cell0 (E : En) (q : Nat) : va_E := if q = 2 then iR E 6 (mk2 (eB E)) else if q = 3 then iR E 2 (mk3 (eB E)) else cellOf E sg0 mu0 0 q
theorem ce_c {a b : va_E} {l r : List va_E} (h : a = b) (h2 : l = r) : a :: l = b :: r := by rw [h, h2]
set_option maxRecDepth 100000 in
set_option maxHeartbeats 4000000 in
theorem suf_eq {D : va_G} {Y : Nat → ClassId} {h t : Nat} {S : Nat → Nat} : ap (cX6_initC (mkE D Y h t S) 0) (cX7_initC (mkE D Y h t S) 91) = [0, 10, 11, 12, 13, 14, 15, 16, 17, 1, 2, 34, 35, 36, 37, 38, 39, 40, 41, 42, 43, 44, 45, 46, 47, 48, 49, 50, 51, 52, 53, 54, 55, 56, 57, 58, 59, 60, 61, 62, 63, 64, 65, 66, 67, 68, 69, 70, 71, 72, 73, 74, 75, 76, 77, 78, 79, 80, 81, 3, 18, 19, 20, 21, 22, 23, 24, 25, 26, 27, 28, 29, 30, 31, 32, 33, 4, 5, 6, 7, 8, 82, 86, 87, 88, 83, 89, 90, 91, 84, 85, 9, 92, 93, 94, 95, 96, 97, 98, 99, 100, 101, 102].map (cell0 (mkE D Y h t S)) := by
  simp only [ap, cX6_initC, cX7_initC, cX0_initC, cX1_initC, cX2_initC, cX3_initC, cX4_initC, cX5_initC, List.cons_append, List.nil_append, List.append_assoc, List.map_cons, List.map_nil]
  refine ce_c rfl ?_
  refine ce_c rfl ?_
  refine ce_c rfl ?_
  refine ce_c rfl ?_
  refine ce_c rfl ?_
  refine ce_c rfl ?_
  refine ce_c rfl ?_
  refine ce_c rfl ?_
  refine ce_c rfl ?_
  refine ce_c rfl ?_
  refine ce_c rfl ?_
  refine ce_c rfl ?_
  refine ce_c rfl ?_
  refine ce_c rfl ?_
  refine ce_c rfl ?_
  refine ce_c rfl ?_
  refine ce_c rfl ?_
  refine ce_c rfl ?_
  refine ce_c rfl ?_
  refine ce_c rfl ?_
  refine ce_c rfl ?_
  refine ce_c rfl ?_
  refine ce_c rfl ?_
  refine ce_c rfl ?_
  refine ce_c rfl ?_
  refine ce_c rfl ?_
  refine ce_c rfl ?_
  refine ce_c rfl ?_
  refine ce_c rfl ?_
  refine ce_c rfl ?_
  refine ce_c rfl ?_
  refine ce_c rfl ?_
  refine ce_c rfl ?_
  refine ce_c rfl ?_
  refine ce_c rfl ?_
  refine ce_c rfl ?_
  refine ce_c rfl ?_
  refine ce_c rfl ?_
  refine ce_c rfl ?_
  refine ce_c rfl ?_
  refine ce_c rfl ?_
  refine ce_c rfl ?_
  refine ce_c rfl ?_
  refine ce_c rfl ?_
  refine ce_c rfl ?_
  refine ce_c rfl ?_
  refine ce_c rfl ?_
  refine ce_c rfl ?_
  refine ce_c rfl ?_
  refine ce_c rfl ?_
  refine ce_c rfl ?_
  refine ce_c rfl ?_
  refine ce_c rfl ?_
  refine ce_c rfl ?_
  refine ce_c rfl ?_
  refine ce_c rfl ?_
  refine ce_c rfl ?_
  refine ce_c rfl ?_
  refine ce_c rfl ?_
  refine ce_c rfl ?_
  refine ce_c rfl ?_
  refine ce_c rfl ?_
  refine ce_c rfl ?_
  refine ce_c rfl ?_
  refine ce_c rfl ?_
  refine ce_c rfl ?_
  refine ce_c rfl ?_
  refine ce_c rfl ?_
  refine ce_c rfl ?_
  refine ce_c rfl ?_
  refine ce_c rfl ?_
  refine ce_c rfl ?_
  refine ce_c rfl ?_
  refine ce_c rfl ?_
  refine ce_c rfl ?_
  refine ce_c rfl ?_
  refine ce_c rfl ?_
  refine ce_c rfl ?_
  refine ce_c rfl ?_
  refine ce_c rfl ?_
  refine ce_c rfl ?_
  refine ce_c rfl ?_
  refine ce_c rfl ?_
  refine ce_c rfl ?_
  refine ce_c rfl ?_
  refine ce_c rfl ?_
  refine ce_c rfl ?_
  refine ce_c rfl ?_
  refine ce_c rfl ?_
  refine ce_c rfl ?_
  refine ce_c rfl ?_
  refine ce_c rfl ?_
  refine ce_c rfl ?_
  refine ce_c rfl ?_
  refine ce_c rfl ?_
  refine ce_c rfl ?_
  refine ce_c rfl ?_
  refine ce_c rfl ?_
  refine ce_c rfl ?_
  refine ce_c rfl ?_
  refine ce_c rfl ?_
  refine ce_c rfl ?_
  refine ce_c rfl ?_
  rfl
theorem fx_get {l : List va_E} {f : Nat → va_E} {o : List Nat} {i q : Nat} (h : l = o.map f) (hq : o[i]? = some q) : l[i]? = some (f q) := by rw [h, List.getElem?_map, hq]; rfl
/-- the heap that the constructors leave is the world at its start -/
theorem start_ws {D : va_G} {Y : Nat → ClassId} {h t : Nat} {S : Nat → Nat} {H : Heap} (hP : va_P D vwCl (pw h (ap (ap (cX6_initC (mkE D Y h t S) 0) (cX7_initC (mkE D Y h t S) 91)) [oE (mkE D Y h t S) 0])) H) : va_P D vwCl (wsOf (mkE D Y h t S) sg0 mu0 0) H ∧ Oc (mkE D Y h t S) 0 H := by
  have hl : (ap (cX6_initC (mkE D Y h t S) 0) (cX7_initC (mkE D Y h t S) 91)).length = 103 := by rw [suf_eq]; rfl
  refine ⟨fun k q hk => ?_, ?_⟩
  · have hlt := (List.getElem?_eq_some_iff.mp hk).1
    rw [ws_len] at hlt
    rw [ws_get hlt] at hk
    cases hk
    have h1 : va_at D vwCl (h + ixL.getD k 0, cell0 (mkE D Y h t S) k) H := hP _ _ (pw_at (at_l (fx_get suf_eq (or_ix k hlt))))
    unfold cell0 at h1
    by_cases h2 : k = 2
    · subst h2
      rw [if_pos rfl] at h1
      rw [c_fx (by decide)]
      show H[_]? = some (vp_cell _ _)
      have h1' : H[h + ixL.getD 2 0]? = some (vp_cell (Y 2) (6, .inr (.inr (.inr (.inr (mk2 h)))))) := h1
      refine h1'.trans (congrArg some ?_)
      rw [vp_cell_q, vp_cell_q]
      exact arrV_congr (fun j hj => by
        rcases (show j = 0 ∨ j = 1 ∨ j = 2 ∨ j = 3 ∨ j = 4 ∨ j = 5 by omega) with rfl | rfl | rfl | rfl | rfl | rfl <;> rfl)
    · rw [if_neg h2] at h1
      by_cases h3 : k = 3
      · subst h3
        rw [if_pos rfl] at h1
        rw [c_fx (by decide)]
        show H[_]? = some (vp_cell _ _)
        have h1' : H[h + ixL.getD 3 0]? = some (vp_cell (Y 2) (2, .inr (.inr (.inr (.inr (mk3 h)))))) := h1
        refine h1'.trans (congrArg some ?_)
        rw [vp_cell_q, vp_cell_q]
        exact arrV_congr (fun j hj => by
          rcases (show j = 0 ∨ j = 1 by omega) with rfl | rfl <;> rfl)
      · rw [if_neg h3] at h1
        exact h1
  · have h1 := hP _ _ (pw_at (at_e (e := oE (mkE D Y h t S) 0) hl))
    exact h1
