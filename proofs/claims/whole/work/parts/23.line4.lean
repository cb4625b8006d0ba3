theorem n1 : nI 1 = 1 := by decide
theorem n2 : nI 2 = 2 := by decide
theorem n7 : nI 7 = 7 := by decide
theorem sFill_same {g i : Nat → Int32} {p : Nat} (h : g p = i p) : sFill g i (p + 1) = sFill g i p := by
  funext k
  unfold sFill
  by_cases h1 : k < p
  · rw [if_pos h1, if_pos (by omega)]
  · rw [if_neg h1]
    by_cases h2 : k = p
    · subst h2; rw [if_pos (by omega), h]
    · rw [if_neg (by omega)]
section LN4
variable {w i f : Nat → Int32} {pc ey el ps : Int32} {n : Nat} {lg : Nat → Int32} {post : zP}
set_option maxRecDepth 100000 in
set_option maxHeartbeats 2000000 in
theorem t_changeFeet (hn : n ≤ 7) (h : post none (wLn w i (sFill (sFt f n) f n) pc ey el ps n lg)) : zGoes mX1_changeFeet 0 6 [.ref 0] (wLn w i f pc ey el ps n lg) post := by
  intro K hK
  have loop : ∀ (d p : Nat) (o3 o4 o5 : Option Value), p + d = n → K 4 [some (.ref 0), some (.int (if 0 < p then f (p - 1) else 0)), some (.int (nI p)), o3, o4, o5] [] (wLn w i (sFill (sFt f n) f p) pc ey el ps n lg) := by
    intro d
    induction d with
    | zero =>
      intro p o3 o4 o5 hp
      have e : p = n := by omega
      subst e
      refine hK.1 [4] 60 _ _ _ _ (And.intro (fun c => h) (fun c => ?_))
      exact absurd (le_of (Nat.le_refl _) (by omega)) c
    | succ d ih =>
      intro p o3 o4 o5 hp
      have ec : (nI p).toNatClampNeg = p := nI_c0 (by omega)
      have eown : (sFill (sFt f n) f p) (nI p).toNatClampNeg = f p := by rw [ec]; exact sFill_ge (Nat.le_refl _)
      have eout : p + 1 < n → (sFill (sFt f n) f p) (nI p + 1).toNatClampNeg = f (p + 1) := fun hlt => by rw [nI_c1 (by omega)]; exact sFill_ge (by omega)
      have j100 : ∀ (o4 o5 : Option Value), K 100 [some (.ref 0), some (.int (if 0 < p then f (p - 1) else 0)), some (.int (nI p)), some (.int (f p)), o4, o5] [] (wLn w i (sFill (sFt f n) f (p + 1)) pc ey el ps n lg) := by
        intro o4 o5
        have := ih (p + 1) (some (.int (f p))) o4 o5 (by omega)
        rw [if_pos (by omega), Nat.add_sub_cancel, ← nI_1] at this
        exact hK.1 [4] 60 _ _ _ _ this
      have j68 : ∀ (o5 : Option Value), K 68 [some (.ref 0), some (.int (if 0 < p then f (p - 1) else 0)), some (.int (nI p)), some (.int (f p)), some (.int (zb (decide (p = 0 ∨ ¬ f (p - 1) = f p)))), o5] [.int (zb (decide (n ≤ p + 1 ∨ ¬ f (p + 1) = f p)))] (wLn w i (sFill (sFt f n) f p) pc ey el ps n lg) := by
        intro o5
        have j := j100 (some (.int (zb (decide (p = 0 ∨ ¬ f (p - 1) = f p))))) (some (.int (zb (decide (n ≤ p + 1 ∨ ¬ f (p + 1) = f p)))))
        refine hK.1 [100] 60 _ _ _ _ (And.intro (fun c => ?_) (fun c => ?_))
        · rw [← n1, nI_leI (by omega) (by omega)] at c
          rw [sFill_same (show sFt f n p = f p from if_neg (fun z => by omega))] at j
          exact j
        · rw [← n1, nI_leI (by omega) (by omega)] at c
          refine And.intro (fun c2 => ?_) (fun c2 => ?_)
          · have c2 := of_decide_eq_false (zb0 c2)
            rw [sFill_same (show sFt f n p = f p from if_neg (fun z => c2 z.1.2))] at j
            exact j
          · have c2 := of_decide_eq_true (zb1 c2)
            refine And.intro (fun c3 => ?_) (fun c3 => ?_)
            · have c3 := of_decide_eq_false (zb0 c3)
              rw [sFill_same (show sFt f n p = f p from if_neg (fun z => c3 z.2))] at j
              exact j
            · have c3 := of_decide_eq_true (zb1 c3)
              have hW : upd (sFill (sFt f n) f p) (nI p).toNatClampNeg (1 - f p) = sFill (sFt f n) f (p + 1) := by
                rw [ec, ← sFill_upd, show sFt f n p = 1 - f p from if_pos ⟨⟨by omega, c2⟩, c3⟩]
              rw [← hW] at j
              exact And.intro (vi0 (by omega) (by omega)) j
      have j36 : ∀ (o4 o5 : Option Value), K 36 [some (.ref 0), some (.int (if 0 < p then f (p - 1) else 0)), some (.int (nI p)), some (.int (f p)), o4, o5] [.int (zb (decide (p = 0 ∨ ¬ f (p - 1) = f p)))] (wLn w i (sFill (sFt f n) f p) pc ey el ps n lg) := by
        intro o4 o5
        have j := j68 o5
        refine hK.1 [68] 60 _ _ _ _ (And.intro (fun c => ?_) (fun c => ?_))
        · rw [nI_1, nI_leI (by omega) (by omega)] at c
          rw [show decide (n ≤ p + 1 ∨ ¬ f (p + 1) = f p) = true from decide_eq_true (Or.inl c)] at j
          exact j
        · rw [nI_1, nI_leI (by omega) (by omega)] at c
          refine And.intro (vi1 (by omega) (by omega)) (And.intro (fun c2 => ?_) (fun c2 => ?_))
          · rw [eout (by omega)] at c2
            rw [show decide (n ≤ p + 1 ∨ ¬ f (p + 1) = f p) = false from decide_eq_false (fun z => z.elim c (fun y => y c2))] at j
            exact j
          · rw [eout (by omega)] at c2
            rw [show decide (n ≤ p + 1 ∨ ¬ f (p + 1) = f p) = true from decide_eq_true (Or.inr c2)] at j
            exact j
      have j := j36 o4 o5
      refine hK.1 [36] 60 _ _ _ _ (And.intro (fun c => ?_) (fun c => ?_))
      · exact absurd c (nle_of (by omega) (by omega))
      · refine And.intro (vi0 (by omega) (by omega)) (And.intro (fun c2 => ?_) (fun c2 => ?_))
        · have c2 : p = 0 := by
            rcases Nat.eq_zero_or_pos p with z | z
            · exact z
            · exact absurd c2 (nI_ne0 z (by omega))
          rw [show decide (p = 0 ∨ ¬ f (p - 1) = f p) = true from decide_eq_true (Or.inl c2), ← eown] at j
          exact j
        · have c2 : 0 < p := by
            rcases Nat.eq_zero_or_pos p with z | z
            · subst z; exact absurd (by decide) c2
            · exact z
          refine And.intro (fun c3 => ?_) (fun c3 => ?_)
          · rw [if_pos c2, eown] at c3
            rw [show decide (p = 0 ∨ ¬ f (p - 1) = f p) = false from decide_eq_false (fun z => z.elim (by omega) (fun y => y c3)), ← eown] at j
            exact j
          · rw [if_pos c2, eown] at c3
            rw [show decide (p = 0 ∨ ¬ f (p - 1) = f p) = true from decide_eq_true (Or.inr c3), ← eown] at j
            exact j
  have := loop n 0 none none none (by omega)
  rw [sFill_0] at this
  exact hK.1 [4] 60 _ _ _ _ this
set_option maxRecDepth 100000 in
theorem t_wheelOnce (hn : n ≤ 7) (hw : ∀ k, k < n → vp_in (w k) 7) (q : Int32) (h : post (some (.int (zb (sMvd w i pc ey el n lg q n)))) (wLn w (sFill (sMv w i pc ey el n lg q) i n) (sFill (sFt f n) f n) pc ey el ps n lg)) : zGoes mX1_wheelOnce 3 3 [.ref 0, .int q] (wLn w i f pc ey el ps n lg) post := by
  intro K hK
  refine hK.1 [] 30 _ _ _ _ ?_
  refine And.intro rfl (Or.inl ⟨rfl, rfl, t_moveAll hn hw q ?_⟩)
  exact And.intro rfl (Or.inl ⟨rfl, rfl, t_changeFeet hn (And.intro (zb_cases _) h)⟩)
set_option maxRecDepth 100000 in
theorem t_pacesBehind (hn : n ≤ 7) (x : Int32) (h : post (some (.int (sBeh i pc n x n))) (wLn w i f pc ey el ps n lg)) : zGoes mX1_pacesBehind 1 6 [.ref 0, .int x] (wLn w i f pc ey el ps n lg) post := by
  intro K hK
  have loop : ∀ (d p : Nat) (o4 o5 : Option Value), p + d = n → K 4 [some (.ref 0), some (.int x), some (.int (sBeh i pc n x p)), some (.int (nI p)), o4, o5] [] (wLn w i f pc ey el ps n lg) := by
    intro d
    induction d with
    | zero =>
      intro p o4 o5 hp
      have e : p = n := by omega
      subst e
      refine hK.1 [4] 60 _ _ _ _ (And.intro (fun c => h) (fun c => ?_))
      exact absurd (le_of (Nat.le_refl _) (by omega)) c
    | succ d ih =>
      intro p o4 o5 hp
      have ec : i (nI p).toNatClampNeg = i p := by rw [nI_c0 (by omega)]
      have j54 : K 54 [some (.ref 0), some (.int x), some (.int (sBeh i pc n x (p + 1))), some (.int (nI p)), some (.int (sWant pc n p)), some (.int (x - i p))] [] (wLn w i f pc ey el ps n lg) := by
        have := ih (p + 1) (some (.int (sWant pc n p))) (some (.int (x - i p))) (by omega)
        rw [← nI_1] at this
        exact hK.1 [4] 60 _ _ _ _ this
      rw [← ec] at j54
      unfold sBeh at j54
      refine hK.1 [54] 60 _ _ _ _ (And.intro (fun c => ?_) (fun c => ?_))
      · exact absurd c (nle_of (by omega) (by omega))
      · refine And.intro rfl (Or.inl ⟨rfl, rfl, t_wants p hn ?_⟩)
        refine And.intro (vi0 (by omega) (by omega)) (And.intro (fun c2 => ?_) (fun c2 => ?_))
        · rw [if_neg (fun z => absurd z.1 (Int32.not_lt.mpr c2))] at j54
          exact j54
        · refine And.intro (fun c3 => ?_) (fun c3 => ?_)
          · rw [if_neg (fun z => absurd c3 (by rw [← ec] at z; exact Int32.not_lt.mpr z.2))] at j54
            exact j54
          · rw [if_pos (show _ ∧ _ from ⟨Int32.not_le.mp c2, by rw [← ec]; exact Int32.not_lt.mp c3⟩), ← ec] at j54
            exact And.intro (fun z => c2 (by rw [z]; decide)) j54
  exact hK.1 [4] 60 _ _ _ _ (loop n 0 none none (by omega))
set_option maxRecDepth 100000 in
theorem t_placeOf (hn : n ≤ 7) (x : Int32) (h : post (some (.int (sFirst (fun p => decide (w p = x)) (-1001) n 0))) (wLn w i f pc ey el ps n lg)) : zGoes mX1_placeOf 1 3 [.ref 0, .int x] (wLn w i f pc ey el ps n lg) post := by
  intro K hK
  have loop : ∀ (d p : Nat), p + d = n → post (some (.int (sFirst (fun p => decide (w p = x)) (-1001) d p))) (wLn w i f pc ey el ps n lg) → K 2 [some (.ref 0), some (.int x), some (.int (nI p))] [] (wLn w i f pc ey el ps n lg) := by
    intro d
    induction d with
    | zero =>
      intro p hp h
      have e : p = n := by omega
      subst e
      refine hK.1 [2] 60 _ _ _ _ (And.intro (fun c => h) (fun c => ?_))
      exact absurd (le_of (Nat.le_refl _) (by omega)) c
    | succ d ih =>
      intro p hp h
      unfold sFirst at h
      refine hK.1 [2] 60 _ _ _ _ (And.intro (fun c => ?_) (fun c => ?_))
      · exact absurd c (nle_of (by omega) (by omega))
      · refine And.intro (vi0 (by omega) (by omega)) (And.intro (fun c2 => ?_) (fun c2 => ?_))
        · rw [nI_c0 (by omega)] at c2
          rw [if_pos (by simpa using c2)] at h
          exact h
        · rw [nI_c0 (by omega)] at c2
          rw [if_neg (by simpa using c2)] at h
          have := ih (p + 1) (by omega) h
          rw [← nI_1] at this
          exact this
  exact hK.1 [2] 60 _ _ _ _ (loop n 0 (by omega) h)
theorem zEqC_i {n : Nat} {f f' : Nat → Int32} (h : ∀ j, j < n → f j = f' j) : zEqC (.inl (0, n, f)) (.inl (0, n, f')) := by
  show zbool (Nat.beq 0 0 && Nat.beq n n) _
  rw [show Nat.beq n n = true from Nat.beq_refl n]
  exact h
set_option maxRecDepth 100000 in
theorem t_formUp (a b c : Int32) (h : post none (wLn nI (fun _ => 0) (fun _ => 0) a b c 0 n lg)) : zGoes mX1_formUp 0 5 [.ref 0, .int a, .int b, .int c] (wLn w i f pc ey el ps n lg) post := by
  intro K hK
  have fin : K 61 [some (.ref 0), some (.int a), some (.int b), some (.int c), some (.int (nI 7))] [] (wLn (sFill nI w 7) (sFill (fun _ => 0) i 7) (sFill (fun _ => 0) f 7) a b c 0 n lg) := by
    refine hK.2 _ _ _ _ (wLn nI (fun _ => 0) (fun _ => 0) a b c 0 n lg) ?_ (hK.1 [] 10 _ _ _ _ h)
    exact ⟨rfl, zEqC_i (fun j hj => sFill_lt hj), zEqC_i (fun j hj => sFill_lt hj), zEqC_i (fun j hj => sFill_lt hj), rfl, zEqC_i (fun _ _ => rfl), trivial⟩
  have loop : ∀ (d p : Nat), p + d = 7 → K 3 [some (.ref 0), some (.int a), some (.int b), some (.int c), some (.int (nI p))] [] (wLn (sFill nI w p) (sFill (fun _ => 0) i p) (sFill (fun _ => 0) f p) pc ey el ps n lg) := by
    intro d
    induction d with
    | zero =>
      intro p hp
      have e : p = 7 := by omega
      subst e
      refine hK.1 [3, 61] 60 _ _ _ _ (And.intro (fun c => fin) (fun c => ?_))
      exact absurd (by decide) c
    | succ d ih =>
      intro p hp
      have ec : (nI p).toNatClampNeg = p := nI_c0 (by omega)
      refine hK.1 [3, 61] 60 _ _ _ _ (And.intro (fun c => ?_) (fun c => ?_))
      · rw [← n7] at c
        exact absurd c (nle_of (by omega) (by omega))
      · refine And.intro (vi0 (by omega) (by omega)) (And.intro (vi0 (by omega) (by omega)) (And.intro (vi0 (by omega) (by omega)) ?_))
        have := ih (p + 1) (by omega)
        have h1 : upd (sFill nI w p) (nI p).toNatClampNeg (nI p) = sFill nI w (p + 1) := by rw [ec, sFill_upd]
        have h2 : upd (sFill (fun _ => 0) i p) (nI p).toNatClampNeg 0 = sFill (fun _ => 0) i (p + 1) := by rw [ec]; exact sFill_upd (fun _ => 0) i p
        have h3 : upd (sFill (fun _ => 0) f p) (nI p).toNatClampNeg 0 = sFill (fun _ => 0) f (p + 1) := by rw [ec]; exact sFill_upd (fun _ => 0) f p
        rw [← nI_1, ← h1, ← h2, ← h3] at this
        exact this
  have := loop 7 0 (by omega)
  rw [sFill_0, sFill_0, sFill_0] at this
  exact hK.1 [3] 60 _ _ _ _ this
end LN4
