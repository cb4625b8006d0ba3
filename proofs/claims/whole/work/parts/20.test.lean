/-! ===== common words of the meaning ===== -/
def zmax (x y : Int32) : Int32 := if x < y then y else x
def zabs (x : Int32) : Int32 := if 0 ≤ x then x else 0 - x
def sBulge (i : Nat → Int32) : Nat → Int32
  | 0 => 0
  | p + 1 => zmax (sBulge i p) (zabs (i (p + 1) - i p))
/-- the cells that a Line's methods touch -/
def wLn (w i f : Nat → Int32) (pc ey el ps : Int32) (n : Nat) (lg : Nat → Int32) : zW := [.inr (.inr (1, [.ref 4, .ref 1, .ref 2, .ref 3, .int pc, .int ey, .int el, .int ps])), .inl (0, 7, w), .inl (0, 7, i), .inl (0, 7, f), .inr (.inr (2, [.int (nI n), .ref 5, .ref 6])), .inl (0, 7, lg)]
theorem nI_c1 {k : Nat} (h : k < 1000) : (nI k + 1).toNatClampNeg = k + 1 := by rw [nI_1, nI_clamp (by omega)]
theorem nI_c0 {k : Nat} (h : k < 1000) : (nI k).toNatClampNeg = k := nI_clamp (by omega)
set_option maxRecDepth 100000 in
theorem t_gapAt (w i f : Nat → Int32) (pc ey el ps : Int32) (n : Nat) (lg : Nat → Int32) (k : Nat) (hk : k + 1 < 7) (post : zP) (h : post (some (.int (zabs (i (k + 1) - i k)))) (wLn w i f pc ey el ps n lg)) : zGoes mX1_gapAt 1 2 [.ref 0, .int (nI k)] (wLn w i f pc ey el ps n lg) post := by
  intro K hK
  refine hK [] 40 _ _ _ _ ?_
  refine And.intro (by rw [nI_1]; exact vp_in_nI (by omega) (by omega)) (And.intro (vp_in_nI (by omega) (by omega)) ?_)
  show post (some (.int (if 0 ≤ i (nI k + 1).toNatClampNeg - i (nI k).toNatClampNeg then i (nI k + 1).toNatClampNeg - i (nI k).toNatClampNeg else 0 - (i (nI k + 1).toNatClampNeg - i (nI k).toNatClampNeg)))) _
  rw [nI_c1 (by omega), nI_c0 (by omega)]
  exact h
set_option maxRecDepth 100000 in
theorem t_bulge (w i f : Nat → Int32) (pc ey el ps : Int32) (n : Nat) (lg : Nat → Int32) (hn : n ≤ 7) (post : zP) (h : post (some (.int (sBulge i (n - 1)))) (wLn w i f pc ey el ps n lg)) : zGoes mX1_bulge 1 3 [.ref 0] (wLn w i f pc ey el ps n lg) post := by
  intro K hK
  have loop : ∀ d p : Nat, p + d = n - 1 → K 4 [some (.ref 0), some (.int (sBulge i p)), some (.int (nI p))] [] (wLn w i f pc ey el ps n lg) := by
    intro d
    induction d with
    | zero =>
      intro p hp
      refine hK [4] 60 _ _ _ _ ?_
      refine And.intro (fun c => ?_) (fun c => ?_)
      · have e : p = n - 1 := by omega
        subst e
        exact h
      · exact absurd (by rw [nI_1]; exact nI_le (by omega) (by omega)) c
    | succ d ih =>
      intro p hp
      refine hK [4] 60 _ _ _ _ ?_
      refine And.intro (fun c => ?_) (fun c => ?_)
      · rw [nI_1] at c
        exact absurd c (nI_ge (by omega) (by omega))
      · refine And.intro rfl (Or.inl ⟨rfl, rfl, t_gapAt w i f pc ey el ps n lg p (by omega) _ ?_⟩)
        have := ih (p + 1) (by omega)
        rw [← nI_1] at this
        exact this
  exact hK [4] 60 _ _ _ _ (loop (n - 1) 0 (by omega))
