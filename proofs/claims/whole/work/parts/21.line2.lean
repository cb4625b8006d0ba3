section LN2
variable {w i f : Nat → Int32} {pc ey el ps : Int32} {n : Nat} {lg : Nat → Int32} {post : zP}
theorem sLine_1 (i : Nat → Int32) (p : Nat) : sLine i (p + 1) = sLine i p + if i p = 0 then 1 else 0 := rfl
theorem nle_of {p n : Nat} (h : p < n) (hn : n < 1000) : ¬ nI n ≤ nI p := nI_ge h (by omega)
theorem le_of {p n : Nat} (h : n ≤ p) (hp : p < 1000) : nI n ≤ nI p := nI_le h (by omega)
set_option maxRecDepth 100000 in
theorem t_placesInLine (hn : n ≤ 7) (h : post (some (.int (nI (sLine i n)))) (wLn w i f pc ey el ps n lg)) : zGoes mX1_placesInLine 1 3 [.ref 0] (wLn w i f pc ey el ps n lg) post := by
  intro K hK
  have loop : ∀ d p : Nat, p + d = n → K 4 [some (.ref 0), some (.int (nI (sLine i p))), some (.int (nI p))] [] (wLn w i f pc ey el ps n lg) := by
    intro d
    induction d with
    | zero =>
      intro p hp
      have e : p = n := by omega
      subst e
      refine hK.1 [4] 60 _ _ _ _ (And.intro (fun c => h) (fun c => ?_))
      exact absurd (le_of (Nat.le_refl _) (by omega)) c
    | succ d ih =>
      intro p hp
      refine hK.1 [4] 60 _ _ _ _ (And.intro (fun c => ?_) (fun c => ?_))
      · exact absurd c (nle_of (by omega) (by omega))
      · refine And.intro (vi0 (by omega) (by omega)) ?_
        have ih := ih (p + 1) (by omega)
        rw [sLine_1, ← nI_1] at ih
        refine And.intro (fun c2 => ?_) (fun c2 => ?_)
        · rw [nI_c0 (by omega)] at c2
          rw [if_pos c2, ← nI_1] at ih
          exact ih
        · rw [nI_c0 (by omega)] at c2
          rw [if_neg c2, Nat.add_zero] at ih
          exact ih
  exact hK.1 [4] 60 _ _ _ _ (loop n 0 (by omega))
set_option maxRecDepth 100000 in
theorem t_feet (hn : n ≤ 7) (h : post (some (.int (sFeet f n))) (wLn w i f pc ey el ps n lg)) : zGoes mX1_feet 1 3 [.ref 0] (wLn w i f pc ey el ps n lg) post := by
  intro K hK
  have loop : ∀ d p : Nat, p + d = n → K 4 [some (.ref 0), some (.int (sFeet f p)), some (.int (nI p))] [] (wLn w i f pc ey el ps n lg) := by
    intro d
    induction d with
    | zero =>
      intro p hp
      have e : p = n := by omega
      subst e
      refine hK.1 [4] 60 _ _ _ _ (And.intro (fun c => h) (fun c => ?_))
      exact absurd (le_of (Nat.le_refl _) (by omega)) c
    | succ d ih =>
      intro p hp
      refine hK.1 [4] 60 _ _ _ _ (And.intro (fun c => ?_) (fun c => ?_))
      · exact absurd c (nle_of (by omega) (by omega))
      · refine And.intro (vi0 (by omega) (by omega)) ?_
        have ih := ih (p + 1) (by omega)
        rw [← nI_1] at ih
        have e : f (nI p).toNatClampNeg = f p := by rw [nI_c0 (by omega)]
        unfold sFeet at ih
        rw [← e] at ih
        exact ih
  exact hK.1 [4] 60 _ _ _ _ (loop n 0 (by omega))
theorem sAlike_go {f : Nat → Int32} {n : Nat} (h : ∀ p, p + 1 < n → f p = f (p + 1)) : sAlike f n = true := by
  unfold sAlike
  rw [List.all_eq_true]
  intro p hp
  rw [decide_eq_true_eq]
  exact h p (by have := List.mem_range.mp hp; omega)
theorem sAlike_no {f : Nat → Int32} {n p : Nat} (h : p + 1 < n) (h2 : ¬ f p = f (p + 1)) : sAlike f n = false := by
  cases hs : sAlike f n with
  | false => rfl
  | true =>
    unfold sAlike at hs
    rw [List.all_eq_true] at hs
    have := hs p (List.mem_range.mpr (by omega))
    rw [decide_eq_true_eq] at this
    exact absurd this h2
set_option maxRecDepth 100000 in
theorem t_feetAlike (hn : n ≤ 7) (h : post (some (.int (zb (sAlike f n)))) (wLn w i f pc ey el ps n lg)) : zGoes mX1_feetAlike 3 2 [.ref 0] (wLn w i f pc ey el ps n lg) post := by
  intro K hK
  have loop : ∀ d p : Nat, p + d = n - 1 → (∀ q, q < p → f q = f (q + 1)) → K 2 [some (.ref 0), some (.int (nI p))] [] (wLn w i f pc ey el ps n lg) := by
    intro d
    induction d with
    | zero =>
      intro p hp hq
      rw [sAlike_go (fun q h => hq q (by omega))] at h
      refine hK.1 [2] 60 _ _ _ _ (And.intro (fun c => And.intro (Or.inr rfl) h) (fun c => ?_))
      exact absurd (by rw [nI_1]; exact nI_le (by omega) (by omega)) c
    | succ d ih =>
      intro p hp hq
      refine hK.1 [2] 60 _ _ _ _ (And.intro (fun c => ?_) (fun c => ?_))
      · rw [nI_1] at c
        exact absurd c (nI_ge (by omega) (by omega))
      · refine And.intro (vi0 (by omega) (by omega)) (And.intro (vi1 (by omega) (by omega)) (And.intro (fun c2 => ?_) (fun c2 => ?_)))
        · rw [nI_c0 (by omega), nI_c1 (by omega)] at c2
          have := ih (p + 1) (by omega) (fun q hq2 => by
            rcases Nat.lt_or_ge q p with h3 | h3
            · exact hq q h3
            · have : q = p := by omega
              subst this
              exact c2)
          rw [← nI_1] at this
          exact this
        · rw [nI_c0 (by omega), nI_c1 (by omega)] at c2
          rw [sAlike_no (p := p) (by omega) c2] at h
          exact And.intro (Or.inl rfl) h
  exact hK.1 [2] 60 _ _ _ _ (loop (n - 1) 0 (by omega) (fun q h => by omega))
set_option maxRecDepth 100000 in
theorem t_lose (k : Nat) (hk : k < 7) (x : Int32) (h : post none (wLn w (upd i k (zmax (-999) (i k - x))) f pc ey el ps n lg)) : zGoes mX1_lose 0 3 [.ref 0, .int (nI k), .int x] (wLn w i f pc ey el ps n lg) post := by
  intro K hK
  refine hK.1 [] 60 _ _ _ _ ?_
  refine And.intro (vi0 (by omega) (by omega)) (And.intro (vi0 (by omega) (by omega)) ?_)
  have e : (nI k).toNatClampNeg = k := nI_c0 (by omega)
  rw [← e] at h
  exact h
set_option maxRecDepth 100000 in
theorem t_stepOf (k : Nat) (hk : k < 7) (hw : vp_in (w k) 7) (a b c : Int32) (h : post (some (.int (zmin (lg (w k).toNatClampNeg) (zmax 0 (a + ey * b / 10 + el * c / 10))))) (wLn w i f pc ey el ps n lg)) : zGoes mX1_stepOf 1 6 [.ref 0, .int (nI k), .int a, .int b, .int c] (wLn w i f pc ey el ps n lg) post := by
  intro K hK
  refine hK.1 [] 60 _ _ _ _ ?_
  refine And.intro (by decide) (And.intro (by decide) ?_)
  exact And.intro rfl (Or.inl ⟨rfl, rfl, t_legAt k hk hw h⟩)
end LN2
