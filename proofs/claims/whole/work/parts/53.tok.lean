
/-! the text: tokens -/
def pL (c : Nat) : Bool := decide (97 ≤ c ∧ c ≤ 122)
def pD (c : Nat) : Bool := decide (48 ≤ c ∧ c ≤ 57)
def pRun (P : Nat → Bool) : Nat → Nat → Nat
  | 0, i => i
  | d + 1, i => if P i then pRun P d (i + 1) else i
theorem pRun_in (P : Nat → Bool) : ∀ (d i : Nat), i ≤ pRun P d i ∧ pRun P d i ≤ i + d
  | 0, i => ⟨Nat.le_refl _, Nat.le_refl _⟩
  | d + 1, i => by
    unfold pRun
    split
    · have := pRun_in P d (i + 1)
      omega
    · omega
def pSk (tb : Nat → Nat) (N i : Nat) : Nat := pRun (fun j => decide (tb j = 32)) (N - i) i
def pLe (tb : Nat → Nat) (N i : Nat) : Nat := pRun (fun j => pL (tb j)) (N - i) i
def pDe (tb : Nat → Nat) (N i : Nat) : Nat := pRun (fun j => pD (tb j)) (N - i) i
def pEn (tb : Nat → Nat) (N st : Nat) : Nat := if N ≤ st then st else if pL (tb st) then pLe tb N st else if pD (tb st) then pDe tb N st else st + 1
def pNv (tb : Nat → Nat) (N st : Nat) : Option Nat := if pDe tb N st - st = 1 then some (tb st - 48) else if pDe tb N st - st = 2 ∧ 48 < tb st then some (10 * (tb st - 48) + (tb (st + 1) - 48)) else none
/-- the class's sort of a token, and its value -/
def pT (tb : Nat → Nat) (N st : Nat) : Nat := if N ≤ st then 0 else if pL (tb st) then 1 else if pD (tb st) then 2 else if tb st = 59 then 3 else 4
def pV (tb : Nat → Nat) (N st : Nat) : Option Nat := if N ≤ st then none else if pL (tb st) then (if pLe tb N st - st = 1 then some (tb st) else none) else if pD (tb st) then pNv tb N st else none
def oI (o : Option Nat) : Int32 := match o with
  | none => -1
  | some v => nI v
theorem pt_E {tb : Nat → Nat} {N s : Nat} (h : N ≤ s) : pEn tb N s = s ∧ pT tb N s = 0 ∧ pV tb N s = none := by
  unfold pEn pT pV
  rw [if_pos h, if_pos h, if_pos h]
  exact ⟨rfl, rfl, rfl⟩
theorem pt_L {tb : Nat → Nat} {N s : Nat} (h : ¬ N ≤ s) (h2 : pL (tb s) = true) : pEn tb N s = pLe tb N s ∧ pT tb N s = 1 ∧ pV tb N s = (if pLe tb N s - s = 1 then some (tb s) else none) := by
  unfold pEn pT pV
  rw [if_neg h, if_neg h, if_neg h, if_pos h2, if_pos h2, if_pos h2]
  exact ⟨rfl, rfl, rfl⟩
theorem pt_D {tb : Nat → Nat} {N s : Nat} (h : ¬ N ≤ s) (h2 : pL (tb s) = false) (h3 : pD (tb s) = true) : pEn tb N s = pDe tb N s ∧ pT tb N s = 2 ∧ pV tb N s = pNv tb N s := by
  unfold pEn pT pV
  rw [h2, h3, if_neg h, if_neg h, if_neg h]
  exact ⟨rfl, rfl, rfl⟩
theorem pt_O {tb : Nat → Nat} {N s : Nat} (h : ¬ N ≤ s) (h2 : pL (tb s) = false) (h3 : pD (tb s) = false) : pEn tb N s = s + 1 ∧ pT tb N s = (if tb s = 59 then 3 else 4) ∧ pV tb N s = none := by
  unfold pEn pT pV
  rw [h2, h3, if_neg h, if_neg h, if_neg h]
  exact ⟨rfl, rfl, rfl⟩
theorem nIm {a b : Nat} (hb : b < 2 ^ 30) (h : b ≤ a) : nI a - nI b = nI (a - b) := pk_sub h
def wT (pp ee ww it st : Int32) (r : Nat) (ln at_ tk va du lv : Int32) (k : Nat) (la ha tx : Nat → Int32) : zW := [.inr (.inr (6, [.ref 1, .int pp, .int ee, .int ww, .int it, .int st, .ref r, .int ln, .int at_, .int tk, .int va, .int du, .int lv])), .inr (.inr (2, [.int (nI k), .ref 2, .ref 3])), .inl (0, 7, la), .inl (0, 7, ha), .inl (0, 120, tx)]
set_option maxRecDepth 100000 in
theorem u_isL {ws : zW} {K : zP} (c : Nat) (hc : c < 256) (C : Int32) (hC : C = nI c) (h : K (some (.int (zb (pL c)))) ws) : zFr 1 (zGoes mX6_isLetter 3 1) [.int C] ws K := by
  subst hC
  refine Or.inl ⟨rfl, rfl, fun Z hZ => hZ.1 [] 20 _ _ _ _ (u_within (nI c) 97 122 (fun q => And.intro (Or.inr rfl) ?_) (fun q => And.intro (Or.inl rfl) ?_))⟩
  · rw [show (97 : Int32) = nI 97 by decide, show (122 : Int32) = nI 122 by decide, nI_leI (by omega) (by omega), nI_leI (by omega) (by omega)] at q
    rw [show pL c = true from decide_eq_true q] at h
    exact h
  · rw [show (97 : Int32) = nI 97 by decide, show (122 : Int32) = nI 122 by decide, nI_leI (by omega) (by omega), nI_leI (by omega) (by omega)] at q
    rw [show pL c = false from decide_eq_false q] at h
    exact h
set_option maxRecDepth 100000 in
theorem u_isD {ws : zW} {K : zP} (c : Nat) (hc : c < 256) (C : Int32) (hC : C = nI c) (h : K (some (.int (zb (pD c)))) ws) : zFr 1 (zGoes mX6_isDigit 3 1) [.int C] ws K := by
  subst hC
  refine Or.inl ⟨rfl, rfl, fun Z hZ => hZ.1 [] 20 _ _ _ _ (u_within (nI c) 48 57 (fun q => And.intro (Or.inr rfl) ?_) (fun q => And.intro (Or.inl rfl) ?_))⟩
  · rw [show (48 : Int32) = nI 48 by decide, show (57 : Int32) = nI 57 by decide, nI_leI (by omega) (by omega), nI_leI (by omega) (by omega)] at q
    rw [show pD c = true from decide_eq_true q] at h
    exact h
  · rw [show (48 : Int32) = nI 48 by decide, show (57 : Int32) = nI 57 by decide, nI_leI (by omega) (by omega), nI_leI (by omega) (by omega)] at q
    rw [show pD c = false from decide_eq_false q] at h
    exact h
section TL
variable {pp ee ww it st : Int32} {r : Nat} {ln at_ tk va du lv : Int32} {k : Nat} {la ha tx : Nat → Int32} {post : zP} {tb : Nat → Nat} {N : Nat}
set_option maxRecDepth 100000 in
theorem t_beginWith (hN : N ≤ 120) (h : post none (wT (-1) (-1) (-1) 0 st 4 (nI N) (nI 0) tk va 0 lv 0 la ha tx)) : zGoes mX6_beginWith 0 3 [.ref 0, .ref 4, .int (nI N)] (wT pp ee ww it st r ln at_ tk va du lv k la ha tx) post := by
  intro Z hZ
  have e : (if (120 : Int32) < nI N then (120 : Int32) else nI N) = nI N := by
    rw [if_neg]
    rw [show (120 : Int32) = nI 120 by decide]
    exact nI_nlt hN (by omega)
  rw [← e] at h
  exact hZ.1 [] 80 _ _ _ _ h
set_option maxRecDepth 100000 in
theorem t_readLetters (hN : N ≤ 120) (htx : ∀ j, j < N → tx j = nI (tb j) ∧ tb j < 256) (i : Nat) (hi : i < N) (h : post none (wT pp ee ww it (nI i) 4 (nI N) (nI (pLe tb N i)) 1 (oI (if pLe tb N i - i = 1 then some (tb i) else none)) du lv k la ha tx)) : zGoes mX6_readLetters 0 1 [.ref 0] (wT pp ee ww it (nI i) 4 (nI N) (nI i) tk (-1) du lv k la ha tx) post := by
  intro Z hZ
  have hr := pRun_in (fun j => pL (tb j)) (N - i) i
  have fin : Z 44 [some (.ref 0)] [] (wT pp ee ww it (nI i) 4 (nI N) (nI (pLe tb N i)) 1 (-1) du lv k la ha tx) := by
    have e1 : (nI (pLe tb N i) - nI i : Int32) = nI (pLe tb N i - i) := pk_sub hr.1
    refine hZ.1 [] 40 _ _ _ _ (And.intro (fun c => And.intro (vi0 (by omega) (by omega)) ?_) (fun c => ?_))
    · have c : (nI (pLe tb N i) - nI i : Int32) = 1 := c
      rw [e1, ← n1, nI_eq (by unfold pLe; omega) (by omega)] at c
      rw [if_pos c] at h
      have e2 : tx (nI i).toNatClampNeg = oI (some (tb i)) := by rw [nI_c0 (by omega)]; exact (htx i hi).1
      rw [← e2] at h
      exact h
    · have c : ¬ (nI (pLe tb N i) - nI i : Int32) = 1 := c
      rw [e1, ← n1, nI_eq (by unfold pLe; omega) (by omega)] at c
      rw [if_neg c] at h
      exact h
  have loop : ∀ (d j : Nat), j + d = N → pRun (fun j => pL (tb j)) d j = pLe tb N i → Z 5 [some (.ref 0)] [] (wT pp ee ww it (nI i) 4 (nI N) (nI j) 1 (-1) du lv k la ha tx) := by
    intro d
    induction d with
    | zero =>
      intro j hj hp
      have e : j = N := by omega
      subst e
      have hp : j = pLe tb j i := hp
      rw [← hp] at fin
      exact hZ.1 [5, 44] 40 _ _ _ _ (And.intro (fun _ => fin) (fun c => absurd (Int32.le_refl _) c))
    | succ d ih =>
      intro j hj hp
      unfold pRun at hp
      have ht := htx j (by omega)
      refine hZ.1 [5, 44] 40 _ _ _ _ (And.intro (fun c => absurd (show nI N ≤ nI j from c) (nle_of (by omega) (by omega))) (fun _ => And.intro (vi0 (by omega) (by omega)) (u_isL (tb j) ht.2 _ (by rw [nI_c0 (by omega)]; exact ht.1) (And.intro (fun c => ?_) (fun c => ?_)))))
      · rw [if_neg (by rw [zb0 c]; decide)] at hp
        rw [← hp] at fin
        exact fin
      · rw [if_pos (zb1 c)] at hp
        have := ih (j + 1) (by omega) hp
        rw [← nI_1] at this
        exact this
  exact hZ.1 [5] 40 _ _ _ _ (loop (N - i) i (by omega) rfl)
set_option maxRecDepth 100000 in
theorem t_readDigits (hN : N ≤ 120) (htx : ∀ j, j < N → tx j = nI (tb j) ∧ tb j < 256) (i : Nat) (hi : i < N) (hd : pD (tb i) = true) (h : post none (wT pp ee ww it (nI i) 4 (nI N) (nI (pDe tb N i)) 2 (oI (pNv tb N i)) du lv k la ha tx)) : zGoes mX6_readDigits 0 2 [.ref 0] (wT pp ee ww it (nI i) 4 (nI N) (nI i) tk (-1) du lv k la ha tx) post := by
  intro Z hZ
  have hd := of_decide_eq_true hd
  have hr := pRun_in (fun j => pD (tb j)) (N - i) i
  have hdig : ∀ (d j : Nat), ∀ q, j ≤ q → q < pRun (fun j => pD (tb j)) d j → pD (tb q) = true := by
    intro d
    induction d with
    | zero => intro j q h1 h2; have h2 : q < j := h2; omega
    | succ d ih =>
      intro j q h1 h2
      unfold pRun at h2
      by_cases c : pD (tb j) = true
      · rw [if_pos c] at h2
        by_cases e : q = j
        · rw [e]; exact c
        · exact ih (j + 1) q (by omega) h2
      · rw [if_neg c] at h2
        omega
  have fin : Z 44 [some (.ref 0), none] [] (wT pp ee ww it (nI i) 4 (nI N) (nI (pDe tb N i)) 2 (-1) du lv k la ha tx) := by
    have e1 : (nI (pDe tb N i) - nI i : Int32) = nI (pDe tb N i - i) := pk_sub hr.1
    have e0 : (tx (nI i).toNatClampNeg - 48 : Int32) = nI (tb i - 48) := by
      rw [nI_c0 (by omega), (htx i hi).1, show (48 : Int32) = nI 48 by decide]
      exact pk_sub hd.1
    have j57 : Z 57 [some (.ref 0), some (.int (nI (tb i - 48)))] [] (wT pp ee ww it (nI i) 4 (nI N) (nI (pDe tb N i)) 2 (-1) du lv k la ha tx) := by
      unfold pNv at h
      refine hZ.1 [] 60 _ _ _ _ (And.intro (fun c => ?_) (fun c => And.intro (fun c2 => And.intro (fun c3 => ?_) (fun c3 => And.intro ?_ ?_)) (fun c2 => ?_)))
      · have c : (nI (pDe tb N i) - nI i : Int32) = 1 := c
        rw [e1, ← n1, nI_eq (by unfold pDe; omega) (by omega)] at c
        rw [if_pos c] at h
        exact h
      · have c : ¬ (nI (pDe tb N i) - nI i : Int32) = 1 := c
        rw [e1, ← n1, nI_eq (by unfold pDe; omega) (by omega)] at c
        have c3 : nI (tb i - 48) ≤ 0 := c3
        rw [← nI_0, nI_leI (by omega) (by omega)] at c3
        rw [if_neg c, if_neg (by omega)] at h
        exact h
      · have c2 : (nI (pDe tb N i) - nI i : Int32) = 2 := c2
        rw [e1, ← n2, nI_eq (by unfold pDe; omega) (by omega)] at c2
        have : pDe tb N i ≤ N := by unfold pDe; omega
        exact vi1 (by omega) (by omega)
      · have c : ¬ (nI (pDe tb N i) - nI i : Int32) = 1 := c
        rw [e1, ← n1, nI_eq (by unfold pDe; omega) (by omega)] at c
        have c2 : (nI (pDe tb N i) - nI i : Int32) = 2 := c2
        rw [e1, ← n2, nI_eq (by unfold pDe; omega) (by omega)] at c2
        have c3 : ¬ nI (tb i - 48) ≤ 0 := c3
        rw [← nI_0, nI_leI (by omega) (by omega)] at c3
        rw [if_neg c, if_pos ⟨c2, by omega⟩] at h
        have hle : pDe tb N i ≤ N := by unfold pDe; omega
        have hd1 := of_decide_eq_true (hdig (N - i) i (i + 1) (by omega) (by show i + 1 < pDe tb N i; omega))
        have e5 : (10 * nI (tb i - 48) + tx (nI i + 1).toNatClampNeg - 48 : Int32) = oI (some (10 * (tb i - 48) + (tb (i + 1) - 48))) := by
          rw [nI_c1 (by omega), (htx (i + 1) (by omega)).1, i10, pk_mul, nI_add, show (48 : Int32) = nI 48 by decide, pk_sub (by omega)]
          show nI _ = nI _
          congr 1
          omega
        rw [← e5] at h
        exact h
      · have c : ¬ (nI (pDe tb N i) - nI i : Int32) = 1 := c
        rw [e1, ← n1, nI_eq (by unfold pDe; omega) (by omega)] at c
        have c2 : ¬ (nI (pDe tb N i) - nI i : Int32) = 2 := c2
        rw [e1, ← n2, nI_eq (by unfold pDe; omega) (by omega)] at c2
        rw [if_neg c, if_neg (fun w => c2 w.1)] at h
        exact h
    rw [← e0] at j57
    exact hZ.1 [57] 40 _ _ _ _ (And.intro (vi0 (by omega) (by omega)) j57)
  have loop : ∀ (d j : Nat), j + d = N → pRun (fun j => pD (tb j)) d j = pDe tb N i → Z 5 [some (.ref 0), none] [] (wT pp ee ww it (nI i) 4 (nI N) (nI j) 2 (-1) du lv k la ha tx) := by
    intro d
    induction d with
    | zero =>
      intro j hj hp
      have e : j = N := by omega
      subst e
      have hp : j = pDe tb j i := hp
      rw [← hp] at fin
      exact hZ.1 [5, 44] 40 _ _ _ _ (And.intro (fun _ => fin) (fun c => absurd (Int32.le_refl _) c))
    | succ d ih =>
      intro j hj hp
      unfold pRun at hp
      have ht := htx j (by omega)
      refine hZ.1 [5, 44] 40 _ _ _ _ (And.intro (fun c => absurd (show nI N ≤ nI j from c) (nle_of (by omega) (by omega))) (fun _ => And.intro (vi0 (by omega) (by omega)) (u_isD (tb j) ht.2 _ (by rw [nI_c0 (by omega)]; exact ht.1) (And.intro (fun c => ?_) (fun c => ?_)))))
      · rw [if_neg (by rw [zb0 c]; decide)] at hp
        rw [← hp] at fin
        exact fin
      · rw [if_pos (zb1 c)] at hp
        have := ih (j + 1) (by omega) hp
        rw [← nI_1] at this
        exact this
  exact hZ.1 [5] 40 _ _ _ _ (loop (N - i) i (by omega) rfl)
set_option maxRecDepth 100000 in
theorem t_readToken (hN : N ≤ 120) (htx : ∀ j, j < N → tx j = nI (tb j) ∧ tb j < 256) (i : Nat) (hi : i ≤ N) (h : post none (wT pp ee ww it (nI (pSk tb N i)) 4 (nI N) (nI (pEn tb N (pSk tb N i))) (nI (pT tb N (pSk tb N i))) (oI (pV tb N (pSk tb N i))) du lv k la ha tx)) : zGoes mX6_readToken 0 1 [.ref 0] (wT pp ee ww it st 4 (nI N) (nI i) tk va du lv k la ha tx) post := by
  intro Z hZ
  have fin : ∀ s, s = pSk tb N i → Z 38 [some (.ref 0)] [] (wT pp ee ww it st 4 (nI N) (nI s) tk va du lv k la ha tx) := by
    intro s hs
    have hsN : s ≤ N := by
      have := pRun_in (fun j => decide (tb j = 32)) (N - i) i
      rw [hs]
      unfold pSk
      omega
    rw [← hs] at h
    refine hZ.1 [] 60 _ _ _ _ (And.intro (fun c => ?_) (fun c => ?_))
    · rw [nI_ltI (by omega) (by omega)] at c
      have hNs : ¬ N ≤ s := by omega
      have ht := htx s c
      have et : tx (nI s).toNatClampNeg = nI (tb s) := by rw [nI_c0 (by omega)]; exact ht.1
      refine And.intro (vi0 (by omega) (by omega)) (u_isL (tb s) ht.2 _ et (And.intro (fun c2 => ?_) (fun c2 => ?_)))
      · have c2 := zb0 c2
        refine And.intro (vi0 (by omega) (by omega)) (u_isD (tb s) ht.2 _ et (And.intro (fun c3 => ?_) (fun c3 => ?_)))
        · have c3 := zb0 c3
          obtain ⟨g1, g2, g3⟩ := pt_O (tb := tb) hNs c2 c3
          rw [g1, g2, g3, ← nI_1] at h
          refine And.intro (vi0 (by omega) (by omega)) (And.intro (fun c4 => ?_) (fun c4 => ?_))
          · rw [et, show (59 : Int32) = nI 59 by decide, nI_eq (by omega) (by omega)] at c4
            rw [if_pos c4] at h
            exact h
          · rw [et, show (59 : Int32) = nI 59 by decide, nI_eq (by omega) (by omega)] at c4
            rw [if_neg c4] at h
            exact h
        · have c3 := zb1 c3
          obtain ⟨g1, g2, g3⟩ := pt_D (tb := tb) hNs c2 c3
          rw [g1, g2, g3] at h
          exact And.intro rfl (Or.inl ⟨rfl, rfl, t_readDigits hN htx s c c3 h⟩)
      · have c2 := zb1 c2
        obtain ⟨g1, g2, g3⟩ := pt_L (tb := tb) hNs c2
        rw [g1, g2, g3] at h
        exact And.intro rfl (Or.inl ⟨rfl, rfl, t_readLetters hN htx s c h⟩)
    · rw [nI_ltI (by omega) (by omega)] at c
      obtain ⟨g1, g2, g3⟩ := pt_E (tb := tb) (N := N) (s := s) (by omega)
      rw [g1, g2, g3] at h
      exact h
  have loop : ∀ (d j : Nat), j + d = N → pRun (fun j => decide (tb j = 32)) d j = pSk tb N i → Z 0 [some (.ref 0)] [] (wT pp ee ww it st 4 (nI N) (nI j) tk va du lv k la ha tx) := by
    intro d
    induction d with
    | zero =>
      intro j hj hp
      have e : j = N := by omega
      subst e
      exact hZ.1 [0, 38] 40 _ _ _ _ (And.intro (fun _ => fin j hp) (fun c => absurd (Int32.le_refl _) c))
    | succ d ih =>
      intro j hj hp
      unfold pRun at hp
      have ht := htx j (by omega)
      have et : tx (nI j).toNatClampNeg = nI (tb j) := by rw [nI_c0 (by omega)]; exact ht.1
      refine hZ.1 [0, 38] 40 _ _ _ _ (And.intro (fun c => absurd (show nI N ≤ nI j from c) (nle_of (by omega) (by omega))) (fun _ => And.intro (vi0 (by omega) (by omega)) (And.intro (fun c => ?_) (fun c => ?_))))
      · rw [et, show (32 : Int32) = nI 32 by decide, nI_eq (by omega) (by omega)] at c
        rw [if_pos (decide_eq_true c)] at hp
        have := ih (j + 1) (by omega) hp
        rw [← nI_1] at this
        exact this
      · rw [et, show (32 : Int32) = nI 32 by decide, nI_eq (by omega) (by omega)] at c
        rw [if_neg (by rw [decide_eq_false c]; decide)] at hp
        exact fin j hp
  exact loop (N - i) i (by omega) rfl
end TL
