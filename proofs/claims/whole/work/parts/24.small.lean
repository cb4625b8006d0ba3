theorem cpy7 (f g : Nat → Int32) : ∀ j, j < 7 → va_cpy f g (0 : Int32).toNatClampNeg (0 : Int32).toNatClampNeg (7 : Int32).toNatClampNeg j = f j := by
  intro j hj
  have e0 : (0 : Int32).toNatClampNeg = 0 := by decide
  have e7 : (7 : Int32).toNatClampNeg = 7 := by decide
  unfold va_cpy
  rw [e0, e7, if_pos ⟨Nat.zero_le _, by omega⟩]
  congr 1
  omega
/-- two lines, of the same men (place 8) -/
def wL2 (w i f : Nat → Int32) (pc ey el ps : Int32) (w' i' f' : Nat → Int32) (pc' ey' el' ps' : Int32) : zW := [.inr (.inr (1, [.ref 8, .ref 1, .ref 2, .ref 3, .int pc, .int ey, .int el, .int ps])), .inl (0, 7, w), .inl (0, 7, i), .inl (0, 7, f), .inr (.inr (1, [.ref 8, .ref 5, .ref 6, .ref 7, .int pc', .int ey', .int el', .int ps'])), .inl (0, 7, w'), .inl (0, 7, i'), .inl (0, 7, f')]
set_option maxRecDepth 100000 in
theorem t_copyFrom {w i f w' i' f' : Nat → Int32} {pc ey el ps pc' ey' el' ps' : Int32} {post : zP} (h : post none (wL2 w' i' f' pc' ey' el' ps' w' i' f' pc' ey' el' ps')) : zGoes mX1_copyFrom 0 2 [.ref 0, .ref 4] (wL2 w i f pc ey el ps w' i' f' pc' ey' el' ps') post := by
  intro K hK
  have fin := hK.2 77 [some (.ref 0), some (.ref 4)] [] (wL2 (va_cpy w' w (0 : Int32).toNatClampNeg (0 : Int32).toNatClampNeg (7 : Int32).toNatClampNeg) (va_cpy i' i (0 : Int32).toNatClampNeg (0 : Int32).toNatClampNeg (7 : Int32).toNatClampNeg) (va_cpy f' f (0 : Int32).toNatClampNeg (0 : Int32).toNatClampNeg (7 : Int32).toNatClampNeg) pc' ey' el' ps' w' i' f' pc' ey' el' ps') (wL2 w' i' f' pc' ey' el' ps' w' i' f' pc' ey' el' ps') ⟨rfl, zEqC_i (cpy7 _ _), zEqC_i (cpy7 _ _), zEqC_i (cpy7 _ _), rfl, zEqC_i (fun _ _ => rfl), zEqC_i (fun _ _ => rfl), zEqC_i (fun _ _ => rfl), trivial⟩ (hK.1 [] 10 _ _ _ _ h)
  exact hK.1 [77] 90 _ _ _ _ (And.intro (by decide) (And.intro (by decide) (And.intro (by decide) fin)))
/-- two Men -/
def wM2 (n : Int32) (a b : Nat → Int32) (n' : Int32) (a' b' : Nat → Int32) : zW := [.inr (.inr (2, [.int n, .ref 1, .ref 2])), .inl (0, 7, a), .inl (0, 7, b), .inr (.inr (2, [.int n', .ref 4, .ref 5])), .inl (0, 7, a'), .inl (0, 7, b')]
set_option maxRecDepth 100000 in
theorem t_menCopy {n n' : Int32} {a b a' b' : Nat → Int32} {post : zP} (h : post none (wM2 n' a' b' n' a' b')) : zGoes mX2_copyFrom 0 2 [.ref 0, .ref 3] (wM2 n a b n' a' b') post := by
  intro K hK
  have fin := hK.2 38 [some (.ref 0), some (.ref 3)] [] (wM2 n' (va_cpy a' a (0 : Int32).toNatClampNeg (0 : Int32).toNatClampNeg (7 : Int32).toNatClampNeg) (va_cpy b' b (0 : Int32).toNatClampNeg (0 : Int32).toNatClampNeg (7 : Int32).toNatClampNeg) n' a' b') (wM2 n' a' b' n' a' b') ⟨rfl, zEqC_i (cpy7 _ _), zEqC_i (cpy7 _ _), rfl, zEqC_i (fun _ _ => rfl), zEqC_i (fun _ _ => rfl), trivial⟩ (hK.1 [] 10 _ _ _ _ h)
  exact hK.1 [38] 90 _ _ _ _ (And.intro (by decide) (And.intro (by decide) fin))
/-- one Men -/
def wM1 (n : Nat) (a b : Nat → Int32) : zW := [.inr (.inr (2, [.int (nI n), .ref 1, .ref 2])), .inl (0, 7, a), .inl (0, 7, b)]
set_option maxRecDepth 100000 in
theorem t_join {n : Nat} {a b : Nat → Int32} {post : zP} (hn : n < 7) (x y : Int32) (h : post none (wM1 (n + 1) (upd a n x) (upd b n y))) : zGoes mX2_join 0 3 [.ref 0, .int x, .int y] (wM1 n a b) post := by
  intro K hK
  refine hK.1 [] 90 _ _ _ _ (And.intro (fun c => ?_) (fun c => ?_))
  · rw [← n7] at c
    exact absurd c (nle_of (by omega) (by omega))
  · have ec : (nI n).toNatClampNeg = n := nI_c0 (by omega)
    unfold wM1 at h
    rw [← nI_1] at h
    have h2 : post none [.inr (.inr (2, [.int (nI n + 1), .ref 1, .ref 2])), .inl (0, 7, upd a (nI n).toNatClampNeg x), .inl (0, 7, upd b (nI n).toNatClampNeg y)] := by rw [ec]; exact h
    exact And.intro (vi0 (by omega) (by omega)) (And.intro (vi0 (by omega) (by omega)) h2)
/-- what was seen -/
def wSe (z : Nat) (a b c : Nat → Int32) : zW := [.inr (.inr (5, [.int (nI z), .ref 1, .ref 2, .ref 3])), .inl (0, 6, a), .inl (0, 6, b), .inl (0, 6, c)]
theorem n6 : nI 6 = 6 := by decide
set_option maxRecDepth 100000 in
theorem t_note {z : Nat} {a b c : Nat → Int32} {post : zP} (hz : z < 6) (x y u : Int32) (h : post none (wSe (z + 1) (upd a z x) (upd b z y) (upd c z u))) : zGoes mX5_note 0 4 [.ref 0, .int x, .int y, .int u] (wSe z a b c) post := by
  intro K hK
  refine hK.1 [] 90 _ _ _ _ (And.intro (fun q => ?_) (fun q => ?_))
  · rw [← n6] at q
    exact absurd q (nle_of (by omega) (by omega))
  · have ec : (nI z).toNatClampNeg = z := nI_c0 (by omega)
    unfold wSe at h
    rw [← nI_1] at h
    have h2 : post none [.inr (.inr (5, [.int (nI z + 1), .ref 1, .ref 2, .ref 3])), .inl (0, 6, upd a (nI z).toNatClampNeg x), .inl (0, 6, upd b (nI z).toNatClampNeg y), .inl (0, 6, upd c (nI z).toNatClampNeg u)] := by rw [ec]; exact h
    exact And.intro (vi0 (by omega) (by omega)) (And.intro (vi0 (by omega) (by omega)) (And.intro (vi0 (by omega) (by omega)) h2))
def sLast (b : Nat → Int32) : Nat → Int32
  | 0 => -1
  | k + 1 => zmax (sLast b k) (b k)
set_option maxRecDepth 100000 in
theorem t_lastPace {z : Nat} {a b c : Nat → Int32} {post : zP} (hz : z ≤ 6) (h : post (some (.int (sLast b z))) (wSe z a b c)) : zGoes mX5_lastPace 1 3 [.ref 0] (wSe z a b c) post := by
  intro K hK
  have loop : ∀ d p : Nat, p + d = z → K 4 [some (.ref 0), some (.int (sLast b p)), some (.int (nI p))] [] (wSe z a b c) := by
    intro d
    induction d with
    | zero =>
      intro p hp
      have e : p = z := by omega
      subst e
      refine hK.1 [4] 60 _ _ _ _ (And.intro (fun c => h) (fun c => ?_))
      exact absurd (le_of (Nat.le_refl _) (by omega)) c
    | succ d ih =>
      intro p hp
      refine hK.1 [4] 60 _ _ _ _ (And.intro (fun c => ?_) (fun c => ?_))
      · exact absurd c (nle_of (by omega) (by omega))
      · refine And.intro (vi0 (by omega) (by omega)) ?_
        have ih := ih (p + 1) (by omega)
        have e : b (nI p).toNatClampNeg = b p := by rw [nI_c0 (by omega)]
        unfold sLast at ih
        rw [← nI_1, ← e] at ih
        exact ih
  exact hK.1 [4] 60 _ _ _ _ (loop z 0 (by omega))
/-- what was seen, and a line (place 4) -/
def wSL (z : Nat) (a b c : Nat → Int32) (w i f : Nat → Int32) (pc ey el ps : Int32) : zW := [.inr (.inr (5, [.int (nI z), .ref 1, .ref 2, .ref 3])), .inl (0, 6, a), .inl (0, 6, b), .inl (0, 6, c), .inr (.inr (1, [.ref 8, .ref 5, .ref 6, .ref 7, .int pc, .int ey, .int el, .int ps])), .inl (0, 7, w), .inl (0, 7, i), .inl (0, 7, f)]
def sFit (a b c i : Nat → Int32) (k : Int32) (z : Nat) : Bool := (List.range z).all (fun j => decide (b j = k → i (a j).toNatClampNeg = c j))
theorem sFit_go {a b c i : Nat → Int32} {k : Int32} {z : Nat} (h : ∀ j, j < z → b j = k → i (a j).toNatClampNeg = c j) : sFit a b c i k z = true := by
  unfold sFit
  rw [List.all_eq_true]
  intro j hj
  rw [decide_eq_true_eq]
  exact h j (List.mem_range.mp hj)
theorem sFit_no {a b c i : Nat → Int32} {k : Int32} {z j : Nat} (hj : j < z) (h1 : b j = k) (h2 : ¬ i (a j).toNatClampNeg = c j) : sFit a b c i k z = false := by
  cases hs : sFit a b c i k z with
  | false => rfl
  | true =>
    unfold sFit at hs
    rw [List.all_eq_true] at hs
    have := hs j (List.mem_range.mpr hj)
    rw [decide_eq_true_eq] at this
    exact absurd (this h1) h2
set_option maxRecDepth 100000 in
theorem t_fit {z : Nat} {a b c w i f : Nat → Int32} {pc ey el ps : Int32} {post : zP} (hz : z ≤ 6) (ha : ∀ j, j < z → vp_in (a j) 7) (k : Int32) (h : post (some (.int (zb (sFit a b c i k z)))) (wSL z a b c w i f pc ey el ps)) : zGoes mX5_fit 3 4 [.ref 0, .ref 4, .int k] (wSL z a b c w i f pc ey el ps) post := by
  intro K hK
  have loop : ∀ d p : Nat, p + d = z → (∀ j, j < p → b j = k → i (a j).toNatClampNeg = c j) → K 2 [some (.ref 0), some (.ref 4), some (.int k), some (.int (nI p))] [] (wSL z a b c w i f pc ey el ps) := by
    intro d
    induction d with
    | zero =>
      intro p hp hq
      have e : p = z := by omega
      subst e
      rw [sFit_go hq] at h
      refine hK.1 [2] 60 _ _ _ _ (And.intro (fun c => And.intro (Or.inr rfl) h) (fun c => ?_))
      exact absurd (le_of (Nat.le_refl _) (by omega)) c
    | succ d ih =>
      intro p hp hq
      have ec : (nI p).toNatClampNeg = p := nI_c0 (by omega)
      have next : (b p = k → i (a p).toNatClampNeg = c p) → K 42 [some (.ref 0), some (.ref 4), some (.int k), some (.int (nI p))] [] (wSL z a b c w i f pc ey el ps) := by
        intro hb
        have := ih (p + 1) (by omega) (fun j hj hbj => by
          rcases Nat.lt_or_ge j p with h3 | h3
          · exact hq j h3 hbj
          · have : j = p := by omega
            subst this
            exact hb hbj)
        rw [← nI_1] at this
        exact hK.1 [2] 20 _ _ _ _ this
      refine hK.1 [2, 42] 60 _ _ _ _ (And.intro (fun c => ?_) (fun c => ?_))
      · exact absurd c (nle_of (by omega) (by omega))
      · refine And.intro (vi0 (by omega) (by omega)) (And.intro (fun c2 => ?_) (fun c2 => ?_))
        · rw [ec] at c2
          refine And.intro (vi0 (by omega) (by omega)) (And.intro (by rw [ec]; exact ha p (by omega)) (And.intro (vi0 (by omega) (by omega)) (And.intro (fun c3 => ?_) (fun c3 => ?_))))
          · rw [ec] at c3
            exact next (fun _ => c3)
          · rw [ec] at c3
            rw [sFit_no (by omega) c2 c3] at h
            exact And.intro (Or.inl rfl) h
        · rw [ec] at c2
          exact next (fun q => absurd q c2)
  exact hK.1 [2] 60 _ _ _ _ (loop z 0 (by omega) (fun j hj => by omega))
