/-! ===== small static methods ===== -/
set_option maxRecDepth 100000 in
theorem t_within {ws : zW} {post : zP} (a b c : Int32) (h1 : b ≤ a → a ≤ c → post (some (.int 1)) ws) (h0 : ¬ (b ≤ a ∧ a ≤ c) → post (some (.int 0)) ws) : zGoes mX7_within 3 3 [.int a, .int b, .int c] ws post := by
  intro K hK
  refine hK.1 [] 20 _ _ _ _ ?_
  refine And.intro (fun h => ?_) (fun h => ?_)
  · refine And.intro (Or.inl rfl) (h0 (fun q => ?_))
    exact absurd q.1 (Int32.not_le.mpr h)
  · refine And.intro (fun h2 => ?_) (fun h2 => ?_)
    · refine And.intro (Or.inl rfl) (h0 (fun q => ?_))
      exact absurd q.2 (Int32.not_le.mpr h2)
    · exact And.intro (Or.inr rfl) (h1 (Int32.not_lt.mp h) (Int32.not_lt.mp h2))
theorem want_ne {n : Nat} (hn : n ≤ 7) (h : ¬ nI n < 2) : ¬ nI n - 1 = 0 := by
  have h2 : 2 ≤ n := by
    rcases Nat.lt_or_ge n 2 with q | q
    · exact absurd (nI_lt q (by omega)) h
    · exact q
  have : nI n = nI (n - 1) + 1 := by rw [nI_1]; congr 1; omega
  rw [this, show nI (n - 1) + 1 - 1 = nI (n - 1) by rw [nI_1]; exact nI_pred _]
  exact nI_ne0 (by omega) (by omega)
set_option maxRecDepth 100000 in
theorem t_wanted {ws : zW} {post : zP} (a : Int32) (p n : Nat) (hn : n ≤ 7) (h : post (some (.int (sWant a n p))) ws) : zGoes mX7_wanted 1 3 [.int a, .int (nI p), .int (nI n)] ws post := by
  intro K hK
  refine hK.1 [] 20 _ _ _ _ ?_
  unfold sWant at h
  refine And.intro (fun c => ?_) (fun c => ?_)
  · rw [if_neg (Int32.not_lt.mpr c)] at h
    exact And.intro (want_ne hn (Int32.not_lt.mpr c)) h
  · rw [if_pos (Int32.not_le.mp c)] at h
    exact h
/-! ===== Line ===== -/
/-- the cells that a Line's methods touch -/
def wLn (w i f : Nat → Int32) (pc ey el ps : Int32) (n : Nat) (lg : Nat → Int32) : zW := [.inr (.inr (1, [.ref 4, .ref 1, .ref 2, .ref 3, .int pc, .int ey, .int el, .int ps])), .inl (0, 7, w), .inl (0, 7, i), .inl (0, 7, f), .inr (.inr (2, [.int (nI n), .ref 5, .ref 6])), .inl (0, 7, lg)]
section LN
variable {w i f : Nat → Int32} {pc ey el ps : Int32} {n : Nat} {lg : Nat → Int32} {post : zP}
set_option maxRecDepth 100000 in
theorem t_gapAt (k : Nat) (hk : k + 1 < 7) (h : post (some (.int (zabs (i (k + 1) - i k)))) (wLn w i f pc ey el ps n lg)) : zGoes mX1_gapAt 1 2 [.ref 0, .int (nI k)] (wLn w i f pc ey el ps n lg) post := by
  intro K hK
  refine hK.1 [] 40 _ _ _ _ ?_
  refine And.intro (vi1 hk (by omega)) (And.intro (vi0 (by omega) (by omega)) ?_)
  show post (some (.int (if 0 ≤ i (nI k + 1).toNatClampNeg - i (nI k).toNatClampNeg then i (nI k + 1).toNatClampNeg - i (nI k).toNatClampNeg else 0 - (i (nI k + 1).toNatClampNeg - i (nI k).toNatClampNeg)))) _
  rw [nI_c1 (by omega), nI_c0 (by omega)]
  exact h
set_option maxRecDepth 100000 in
theorem t_bulge (hn : n ≤ 7) (h : post (some (.int (sBulge i (n - 1)))) (wLn w i f pc ey el ps n lg)) : zGoes mX1_bulge 1 3 [.ref 0] (wLn w i f pc ey el ps n lg) post := by
  intro K hK
  have loop : ∀ d p : Nat, p + d = n - 1 → K 4 [some (.ref 0), some (.int (sBulge i p)), some (.int (nI p))] [] (wLn w i f pc ey el ps n lg) := by
    intro d
    induction d with
    | zero =>
      intro p hp
      refine hK.1 [4] 60 _ _ _ _ ?_
      refine And.intro (fun c => ?_) (fun c => ?_)
      · have e : p = n - 1 := by omega
        subst e
        exact h
      · exact absurd (by rw [nI_1]; exact nI_le (by omega) (by omega)) c
    | succ d ih =>
      intro p hp
      refine hK.1 [4] 60 _ _ _ _ ?_
      refine And.intro (fun c => ?_) (fun c => ?_)
      · rw [nI_1] at c
        exact absurd c (nI_ge (by omega) (by omega))
      · refine And.intro rfl (Or.inl ⟨rfl, rfl, t_gapAt p (by omega) ?_⟩)
        have := ih (p + 1) (by omega)
        rw [← nI_1] at this
        exact this
  exact hK.1 [4] 60 _ _ _ _ (loop (n - 1) 0 (by omega))
set_option maxRecDepth 100000 in
theorem t_bulgePlace (hn : n ≤ 7) (h : post (some (.int (sFirst (fun p => decide (zabs (i (p + 1) - i p) = sBulge i (n - 1))) (-1009) (n - 1) 0))) (wLn w i f pc ey el ps n lg)) : zGoes mX1_bulgePlace 1 3 [.ref 0] (wLn w i f pc ey el ps n lg) post := by
  intro K hK
  have loop : ∀ d p : Nat, p + d = n - 1 → post (some (.int (sFirst (fun p => decide (zabs (i (p + 1) - i p) = sBulge i (n - 1))) (-1009) d p))) (wLn w i f pc ey el ps n lg) → K 7 [some (.ref 0), some (.int (sBulge i (n - 1))), some (.int (nI p))] [] (wLn w i f pc ey el ps n lg) := by
    intro d
    induction d with
    | zero =>
      intro p hp h
      refine hK.1 [7] 60 _ _ _ _ ?_
      refine And.intro (fun c => ?_) (fun c => ?_)
      · exact h
      · exact absurd (by rw [nI_1]; exact nI_le (by omega) (by omega)) c
    | succ d ih =>
      intro p hp h
      refine hK.1 [7] 60 _ _ _ _ ?_
      refine And.intro (fun c => ?_) (fun c => ?_)
      · rw [nI_1] at c
        exact absurd c (nI_ge (by omega) (by omega))
      · refine And.intro rfl (Or.inl ⟨rfl, rfl, t_gapAt p (by omega) ?_⟩)
        unfold sFirst at h
        refine And.intro (fun c2 => ?_) (fun c2 => ?_)
        · rw [if_pos (by simpa using c2)] at h
          exact h
        · rw [if_neg (by simpa using c2)] at h
          have := ih (p + 1) (by omega) h
          rw [← nI_1] at this
          exact this
  refine hK.1 [7] 60 _ _ _ _ ?_
  exact And.intro rfl (Or.inl ⟨rfl, rfl, t_bulge hn (loop (n - 1) 0 (by omega) h)⟩)
set_option maxRecDepth 100000 in
theorem t_legAt (k : Nat) (hk : k < 7) (hw : vp_in (w k) 7) (h : post (some (.int (lg (w k).toNatClampNeg))) (wLn w i f pc ey el ps n lg)) : zGoes mX1_legAt 1 2 [.ref 0, .int (nI k)] (wLn w i f pc ey el ps n lg) post := by
  intro K hK
  refine hK.1 [] 40 _ _ _ _ ?_
  refine And.intro (vi0 (by omega) (by omega)) ?_
  refine And.intro (by rw [nI_c0 (by omega)]; exact hw) ?_
  show post (some (.int (lg (w (nI k).toNatClampNeg).toNatClampNeg))) _
  rw [nI_c0 (by omega)]
  exact h
set_option maxRecDepth 100000 in
theorem t_wants (k : Nat) (hn : n ≤ 7) (h : post (some (.int (sWant pc n k))) (wLn w i f pc ey el ps n lg)) : zGoes mX1_wants 1 2 [.ref 0, .int (nI k)] (wLn w i f pc ey el ps n lg) post := by
  intro K hK
  refine hK.1 [] 40 _ _ _ _ ?_
  exact Or.inl ⟨rfl, rfl, t_wanted pc k n hn h⟩
end LN
