
theorem sMv_cong {w i j : Nat → Int32} {pc ey el : Int32} {n : Nat} {lg : Nat → Int32} {q : Int32} {p : Nat} (h : ∀ k, k < n → i k = j k) (hp : p < n) : sMv w i pc ey el n lg q p = sMv w j pc ey el n lg q p := by
  have es : sSees i n p = sSees j n p := by
    unfold sSees
    split
    · rename_i c
      rw [h _ c, h p hp]
    · rfl
  have ef : sFeels i p = sFeels j p := by unfold sFeels; rw [h p hp, h (p - 1) (by omega)]
  have ew : sWould i pc ey el n p = sWould j pc ey el n p := by unfold sWould; rw [es, ef]
  unfold sMv sTakes
  rw [ew, h p hp]
theorem sMvd_no {w i : Nat → Int32} {pc ey el : Int32} {n : Nat} {lg : Nat → Int32} {q : Int32} : ∀ {m : Nat}, sMvd w i pc ey el n lg q m = false → ∀ p, p < m → sMv w i pc ey el n lg q p = i p
  | 0, _, p, h => absurd h (Nat.not_lt_zero _)
  | m + 1, h, p, hp => by
    unfold sMvd at h
    rw [Bool.or_eq_false_iff] at h
    rcases Nat.lt_or_ge p m with c | c
    · exact sMvd_no h.1 p c
    · have e : p = m := by omega
      subst e
      exact Classical.not_not.mp (of_decide_eq_false h.2)
theorem sTillM_stuck {n : Nat} {lg : Nat → Int32} {y : zLn} (hm : sMoved n lg (-1) y = false) (hd : ¬ sLine y.2.1 n = n) : ∀ (d k : Nat) (y' : zLn), y'.1 = y.1 → (∀ j, j < n → y'.2.1 j = y.2.1 j) → y'.2.2.2.1 = y.2.2.2.1 → y'.2.2.2.2.1 = y.2.2.2.2.1 → y'.2.2.2.2.2.1 = y.2.2.2.2.2.1 → sTillM n lg d k y' = -1009
  | 0, _, _, _, _, _, _, _ => rfl
  | d + 1, k, y', h1, h2, h3, h4, h5 => by
    unfold sTillM
    rw [sLine_cong h2, if_neg hd]
    refine sTillM_stuck hm hd d (k + 1) (sStep n lg (-1) y') h1 (fun j hj => ?_) h3 h4 h5
    show sFill (sMv y'.1 y'.2.1 y'.2.2.2.1 y'.2.2.2.2.1 y'.2.2.2.2.2.1 n lg (-1)) y'.2.1 n j = _
    rw [sFill_lt hj, h1, h3, h4, h5, sMv_cong h2 hj]
    exact sMvd_no hm j hj
theorem sTill_M (n : Nat) (lg : Nat → Int32) : ∀ (r k : Nat) (y : zLn), sTill n lg r k y = sTillM n lg r k y
  | 0, _, _ => rfl
  | r + 1, k, y => by
    by_cases hd : sLine y.2.1 n = n
    · unfold sTill sTillM
      rw [if_pos hd, if_pos hd]
    · cases hm : sMoved n lg (-1) y with
      | true =>
        unfold sTill sTillM
        rw [if_neg hd, if_neg hd, hm, if_pos rfl, sTill_M n lg r (k + 1)]
      | false =>
        rw [sTillM_stuck hm hd (r + 1) k y rfl (fun _ _ => rfl) rfl rfl rfl]
        unfold sTill
        rw [if_neg hd, hm]
        rfl
theorem sTillM_nat (n : Nat) (lg : Nat → Int32) : ∀ (r k : Nat) (y : zLn), sTillM n lg r k y = -1009 ∨ ∃ j, k ≤ j ∧ j < k + r ∧ sTillM n lg r k y = nI j
  | 0, k, y => Or.inl rfl
  | r + 1, k, y => by
    unfold sTillM
    split
    · exact Or.inr ⟨k, by omega, by omega, rfl⟩
    · rcases sTillM_nat n lg r (k + 1) (sStep n lg (-1) y) with h | ⟨j, h0, h1, h2⟩
      · exact Or.inl h
      · exact Or.inr ⟨j, by omega, by omega, h2⟩
theorem sTillM_cut (n : Nat) (lg : Nat → Int32) (d : Nat) : ∀ (r k : Nat) (y : zLn), sTillM n lg r k y = sTillM n lg (r + d) k y ∨ (sTillM n lg r k y = -1009 ∧ ∃ j, k + r ≤ j ∧ j < k + r + d ∧ sTillM n lg (r + d) k y = nI j)
  | 0, k, y => by
    rw [Nat.zero_add]
    rcases sTillM_nat n lg d k y with h | ⟨j, h0, h1, h2⟩
    · exact Or.inl h.symm
    · exact Or.inr ⟨rfl, j, by omega, by omega, h2⟩
  | r + 1, k, y => by
    rw [show r + 1 + d = (r + d) + 1 by omega]
    unfold sTillM
    by_cases hd : sLine y.2.1 n = n
    · rw [if_pos hd, if_pos hd]
      exact Or.inl rfl
    · rw [if_neg hd, if_neg hd]
      rcases sTillM_cut n lg d r (k + 1) (sStep n lg (-1) y) with h | ⟨h, j, h0, h1, h2⟩
      · exact Or.inl h
      · exact Or.inr ⟨h, j, by omega, by omega, h2⟩
def sMf (n : Nat) (lg : Nat → Int32) (x : zLn) : Nat → Nat → Int32 × Nat → Int32 × Nat
  | 0, _, s => s
  | d + 1, c, s => sMf n lg x d (c + 1) (sMs n lg x s (c / 11) (c % 11))
theorem sMf_i (n : Nat) (lg : Nat → Int32) (x : zLn) (e m : Nat) : ∀ (d l : Nat) (s : Int32 × Nat), l + d ≤ 11 → sMf n lg x (d + m) (11 * e + l) s = sMf n lg x m (11 * e + l + d) (sMi n lg x e d l s)
  | 0, l, s, _ => by rw [Nat.zero_add]; rfl
  | d + 1, l, s, h => by
    rw [show d + 1 + m = (d + m) + 1 by omega]
    show sMf n lg x (d + m) (11 * e + (l + 1)) (sMs n lg x s ((11 * e + l) / 11) ((11 * e + l) % 11)) = _
    rw [sMf_i n lg x e m d (l + 1) _ (by omega), show (11 * e + l) / 11 = e by omega, show (11 * e + l) % 11 = l by omega, show 11 * e + (l + 1) + d = 11 * e + l + (d + 1) by omega]
    rfl
theorem sMf_o (n : Nat) (lg : Nat → Int32) (x : zLn) : ∀ (d e : Nat) (s : Int32 × Nat), sMf n lg x (11 * d) (11 * e) s = sMo n lg x d e s
  | 0, _, _ => rfl
  | d + 1, e, s => by
    rw [show 11 * (d + 1) = 11 + 11 * d by omega]
    have := sMf_i n lg x e (11 * d) 11 0 s (by omega)
    rw [Nat.add_zero] at this
    rw [this, show 11 * e + 11 = 11 * (e + 1) by omega, sMf_o n lg x d (e + 1)]
    rfl
theorem nI_n9 {k : Nat} (h : k < 2 ^ 31) : ¬ nI k = -1009 := fun w => by
  have := congrArg Int32.toInt w
  rw [nI_toInt h] at this
  have e9 : (-1009 : Int32).toInt = -1009 := by decide
  rw [e9] at this
  omega
/-! behind -/
theorem clamp_in (v : Int32) : -999 ≤ zclamp v ∧ zclamp v ≤ 999 := by
  by_cases c : 999 < v
  · rw [clamp_hi c]; decide
  · by_cases c2 : v < -999
    · rw [clamp_lo c2]; decide
    · rw [clamp_mid (Int32.not_lt.mp c2) (Int32.not_lt.mp c)]
      exact ⟨Int32.not_lt.mp c2, Int32.not_lt.mp c⟩
theorem sGo_in {n : Nat} {lg : Nat → Int32} {q : Int32} {x : zLn} (h : ∀ k, k < n → -999 ≤ x.2.1 k ∧ x.2.1 k ≤ 999) : ∀ (t k : Nat), k < n → -999 ≤ (sGo n lg q t x).2.1 k ∧ (sGo n lg q t x).2.1 k ≤ 999
  | 0, k, hk => h k hk
  | t + 1, k, hk => by
    rw [sGo_1]
    show -999 ≤ sFill _ _ n k ∧ sFill _ _ n k ≤ 999
    rw [sFill_lt hk]
    exact clamp_in _
theorem sGo_p (n : Nat) (lg : Nat → Int32) (q : Int32) : ∀ (k : Nat) (y : zLn), (sGo n lg q k y).2.2.2.1 = y.2.2.2.1
  | 0, y => rfl
  | k + 1, y => sGo_p n lg q k (sStep n lg q y)
theorem sWant_nat {a n p : Nat} (ha : a ≤ 60) (hn : n ≤ 7) (hp : p < n) : ∃ w, w ≤ 60 ∧ sWant (nI a) n p = nI w := by
  unfold sWant
  by_cases c : nI n < 2
  · rw [if_pos c]
    exact ⟨0, by omega, rfl⟩
  · rw [if_neg c]
    have hn2 : 2 ≤ n := by
      rcases Nat.lt_or_ge n 2 with d | d
      · exact absurd (by rw [← n2]; exact nI_lt d (by omega)) c
      · exact d
    obtain ⟨m, rfl⟩ : ∃ m, n = m + 1 := ⟨n - 1, by omega⟩
    have hap : a * p ≤ 60 * 7 := Nat.mul_le_mul ha (by omega)
    rw [nI_pred, pk_mul, pk_div (by omega) (by omega) (by omega)]
    refine ⟨a * p / m, ?_, rfl⟩
    have : a * p / m ≤ a := Nat.div_le_of_le_mul (by rw [Nat.mul_comm m a]; exact Nat.mul_le_mul_left a (by omega))
    omega
theorem i999 {i : Int32} (h : -999 ≤ i ∧ i ≤ 999) : -999 ≤ i.toInt ∧ i.toInt ≤ 999 := by
  have h1 := Int32.le_iff_toInt_le.mp h.1
  have h2 := Int32.le_iff_toInt_le.mp h.2
  have e1 : (-999 : Int32).toInt = -999 := by decide
  have e2 : (999 : Int32).toInt = 999 := by decide
  omega
theorem sub_toInt {v : Nat} {i : Int32} (hv : v < 100000) (h : -999 ≤ i ∧ i ≤ 999) : (nI v - i).toInt = (v : Int) - i.toInt := by
  have := i999 h
  rw [Int32.toInt_sub, nI_toInt (by omega), Int.bmod_eq_of_le (by omega) (by omega)]
theorem add_toInt {v : Nat} {i : Int32} (hv : v < 100000) (h : -999 ≤ i ∧ i ≤ 999) : (nI v + i).toInt = (v : Int) + i.toInt := by
  have := i999 h
  rw [Int32.toInt_add, nI_toInt (by omega), Int.bmod_eq_of_le (by omega) (by omega)]
theorem zmax_nI {a b : Nat} (ha : a < 2 ^ 31) (hb : b < 2 ^ 31) : zmax (nI a) (nI b) = nI (max a b) := by
  unfold zmax
  by_cases c : a < b
  · rw [if_pos (nI_lt c hb), Nat.max_eq_right (by omega)]
  · rw [if_neg (nI_nlt (by omega) ha), Nat.max_eq_left (by omega)]
theorem sBeh_next {i : Nat → Int32} {pc : Int32} {n v p C w : Nat} (hw : sWant pc n p = nI w) (hw2 : w ≤ 60) (hi : -999 ≤ i p ∧ i p ≤ 999) (hv : v ≤ 99) (hC : sBeh i pc n (nI v) p = nI C) (hC2 : C ≤ 1100) : ∃ C', C' ≤ 1100 ∧ sBeh i pc n (nI v) (p + 1) = nI C' ∧ C ≤ C' ∧ ∀ L, L ≤ 60 → C ≤ L → ((¬ nI w ≤ 0 ∧ ¬ nI v < nI L * nI w + i p) ↔ L < C') := by
  have hi2 := i999 hi
  have hs := sub_toInt (v := v) (i := i p) (by omega) hi
  have test : ∀ L, L ≤ 60 → ((¬ nI v < nI L * nI w + i p) ↔ ((L * w : Nat) : Int) + (i p).toInt ≤ v) := by
    intro L hL
    have hLw : L * w ≤ 60 * 60 := Nat.mul_le_mul hL hw2
    rw [Int32.lt_iff_toInt_lt, pk_mul, add_toInt (by omega) hi, nI_toInt (by omega)]
    omega
  have pos : ¬ nI w ≤ 0 ↔ 0 < w := by
    rw [← nI_0, nI_leI (by omega) (by omega)]
    omega
  have pos2 : 0 < nI w ↔ 0 < w := by
    rw [← nI_0, nI_ltI (by omega) (by omega)]
  unfold sBeh
  rw [hw, hC]
  by_cases c : 0 < w ∧ (i p).toInt ≤ v
  · have c0 : 0 ≤ nI v - i p := by
      rw [Int32.le_iff_toInt_le, hs]
      have : (0 : Int32).toInt = 0 := by decide
      omega
    rw [if_pos ⟨pos2.mpr c.1, c0⟩]
    obtain ⟨m, hm, em⟩ := nI_of2 (M := 2000) (n := 2000) (by decide) (Int32.not_lt.mpr c0) (by
      rw [Int32.le_iff_toInt_le, hs]
      have : (2000 : Int32).toInt = 2000 := by decide
      omega)
    have em2 : (m : Int) = v - (i p).toInt := by
      rw [em, nI_toInt (by omega)] at hs
      exact hs
    have hq : m / w ≤ m := Nat.div_le_self m w
    rw [em, pk_div (by omega) c.1 (by omega), nI_1, zmax_nI (by omega) (by omega)]
    refine ⟨max C (m / w + 1), by omega, rfl, by omega, fun L hL hCL => ?_⟩
    rw [pos, test L hL]
    have key : L ≤ m / w ↔ L * w ≤ m := Nat.le_div_iff_mul_le c.1
    constructor
    · intro h
      have : L ≤ m / w := key.mpr (by omega)
      omega
    · intro h
      have : L * w ≤ m := key.mp (by omega)
      exact ⟨c.1, by omega⟩
  · rw [if_neg (fun h => c ⟨pos2.mp h.1, by
      have := Int32.le_iff_toInt_le.mp h.2
      rw [hs] at this
      have e : (0 : Int32).toInt = 0 := by decide
      omega⟩)]
    refine ⟨C, hC2, rfl, Nat.le_refl _, fun L hL hCL => ?_⟩
    rw [pos, test L hL]
    constructor
    · intro h
      exact absurd ⟨h.1, by have := h.2; omega⟩ c
    · intro h
      omega
section MD
variable {tr : Int64} {tx : Nat → Int32} {ty n : Nat} {m1 : Int32} {lg ht la : Nat → Int32} {at_ st_ so_ va_ fa_ to_ : Int32} {nw ik td th : Nat → Int32} {ba bp br : Int32} {sa sb sc : Nat → Int32} {z : Nat}
variable {K : zP} {post : zP}

set_option maxRecDepth 100000 in
theorem m_mix {x : zLn} (hx : mIs nw x) (hn : n ≤ 7) (hw : ∀ k, k < n → vp_in (x.1 k) 7) (hlg : ∀ k, k < n → 0 ≤ lg (x.1 k).toNatClampNeg) (a : Int32) (h : ∀ td' th', post (some (.int (sMix (sMo n lg x 11 0 (-1009, 301)) a))) (wD tr tx ty n m1 lg ht la at_ st_ so_ va_ fa_ to_ nw ik td' th' ba bp br sa sb sc z)) : zGoes mX8_mix 1 6 [.ref 0, .int a] (wD tr tx ty n m1 lg ht la at_ st_ so_ va_ fa_ to_ nw ik td th ba bp br sa sb sc z) post := by
  intro Z hZ
  refine hZ.1 [24] 60 _ _ _ _ (u_in a 0 1 (fun q => ?_) (fun q => ?_))
  · have loop : ∀ (d c : Nat) (s : Int32 × Nat) (f g : Int32) (o5 : Option Value) (td th : Nat → Int32), c + d = 121 → s.2 ≤ 301 → (s.1 = -1009 → s.2 = 301) → f = s.1 → g = (if s.1 = -1009 then -1009 else nI s.2) → (∀ td' th', post (some (.int (sMix (sMf n lg x d c s) a))) (wD tr tx ty n m1 lg ht la at_ st_ so_ va_ fa_ to_ nw ik td' th' ba bp br sa sb sc z)) → Z 24 [some (.ref 0), some (.int a), some (.int f), some (.int g), some (.int (nI c)), o5] [] (wD tr tx ty n m1 lg ht la at_ st_ so_ va_ fa_ to_ nw ik td th ba bp br sa sb sc z) := by
      intro d
      induction d with
      | zero =>
        intro c s f g o5 td th hc hs hs2 hf hg h
        have e2 : c = 121 := by omega
        subst e2
        have h : post (some (.int (sMix s a))) (wD tr tx ty n m1 lg ht la at_ st_ so_ va_ fa_ to_ nw ik td th ba bp br sa sb sc z) := h td th
        unfold sMix at h
        rw [if_pos q] at h
        refine hZ.1 [24] 60 _ _ _ _ (And.intro (fun c => And.intro (fun g2 => ?_) (fun g2 => ?_)) (fun c => absurd (by decide) c))
        · rw [if_pos (Or.inl g2), ← hf] at h
          exact h
        · by_cases g3 : s.1 = -1009
          · rw [if_pos g3] at hg
            rw [if_pos (Or.inr g3), g3, ← hg] at h
            exact h
          · rw [if_neg g3] at hg
            rw [if_neg (fun w => w.elim g2 g3), ← hg] at h
            exact h
      | succ d ih =>
        intro c s f g o5 td th hc hs hs2 hf hg h
        have h : ∀ td' th', post (some (.int (sMix (sMf n lg x d (c + 1) (sMs n lg x s (c / 11) (c % 11))) a))) (wD tr tx ty n m1 lg ht la at_ st_ so_ va_ fa_ to_ nw ik td' th' ba bp br sa sb sc z) := h
        have e1 : (nI c / 11 : Int32) = nI (c / 11) := by rw [show (11 : Int32) = nI 11 by decide, pk_div (by omega) (by omega) (by omega)]
        have e2 : (nI c - nI c / 11 * 11 : Int32) = nI (c % 11) := by rw [show (11 : Int32) = nI 11 by decide, pk_rem (by omega) (by omega) (by omega)]
        have eN : sTillM n lg 301 0 (sMind (nI c / 11) (nI c - nI c / 11 * 11) x) = sTillM n lg 301 0 (sMind (nI (c / 11)) (nI (c % 11)) x) := by rw [e2, e1]
        have ec : (11 * nI (c / 11) + nI (c % 11) : Int32) = nI c := by
          rw [show (11 : Int32) = nI 11 by decide, pk_mul, nI_add]
          congr 1
          omega
        refine hZ.1 [24, 68, 74] 60 _ _ _ _ (And.intro (fun c2 => ?_) (fun c2 => And.intro (by decide) (And.intro (by decide) (u_dressedBy hx hn hw hlg _ _ (fun td2 th2 => ?_)))))
        · rw [show (121 : Int32) = nI 121 by decide] at c2
          exact absurd c2 (nle_of (by omega) (by omega))
        · have same : sMs n lg x s (c / 11) (c % 11) = s → ∀ o5, Z 74 [some (.ref 0), some (.int a), some (.int f), some (.int g), some (.int (nI c)), o5] [] (wD tr tx ty n m1 lg ht la at_ st_ so_ va_ fa_ to_ nw ik td2 th2 ba bp br sa sb sc z) := by
            intro es o5
            rw [es] at h
            have := ih (c + 1) s f g o5 td2 th2 (by omega) hs hs2 hf hg h
            rw [← nI_1] at this
            exact hZ.1 [24] 60 _ _ _ _ this
          have took : ∀ (j : Nat) (N : Int32), j < s.2 → sMs n lg x s (c / 11) (c % 11) = (nI c, j) → N = nI j → Z 68 [some (.ref 0), some (.int a), some (.int f), some (.int g), some (.int (nI c)), some (.int N)] [] (wD tr tx ty n m1 lg ht la at_ st_ so_ va_ fa_ to_ nw ik td2 th2 ba bp br sa sb sc z) := by
            intro j N hj es hN
            rw [es] at h
            have := ih (c + 1) (nI c, j) (nI c) N (some (.int N)) td2 th2 (by omega) (by show j ≤ 301; omega) (fun w => absurd w (nI_n9 (by omega))) rfl (by show N = if nI c = -1009 then -1009 else nI j; rw [if_neg (nI_n9 (by omega)), hN]) h
            rw [← nI_1] at this
            exact hZ.1 [24] 60 _ _ _ _ this
          have hT := sTill_M n lg s.2 0 (sMind (nI (c / 11)) (nI (c % 11)) x)
          have hcut := sTillM_cut n lg (301 - s.2) s.2 0 (sMind (nI (c / 11)) (nI (c % 11)) x)
          rw [show s.2 + (301 - s.2) = 301 by omega, ← eN] at hcut
          refine (And.intro (fun c3 => ?_) (fun c3 => And.intro (fun c4 => ?_) (fun c4 => And.intro (fun c5 => ?_) (fun c5 => ?_))))
          · have c3 : sTillM n lg 301 0 (sMind (nI c / 11) (nI c - nI c / 11 * 11) x) = -1009 := c3
            refine same ?_ _
            unfold sMs
            rw [hT]
            rcases hcut with w | ⟨w, _⟩
            · rw [w, if_pos c3]
            · rw [if_pos w]
          · have c3 : ¬ sTillM n lg 301 0 (sMind (nI c / 11) (nI c - nI c / 11 * 11) x) = -1009 := c3
            have c4 : f = -1009 := c4
            rw [hf] at c4
            rcases hcut with w | ⟨w, j, h0, h1, h2⟩
            · rcases sTillM_nat n lg s.2 0 (sMind (nI (c / 11)) (nI (c % 11)) x) with v | ⟨j, h0, h1, h2⟩
              · exact absurd (w.symm.trans v) c3
              · refine took j _ (by omega) ?_ (w.symm.trans h2)
                unfold sMs
                rw [hT, if_neg (fun v => c3 (w.symm.trans v)), h2, nI_c0 (by omega), ec]
            · rw [hs2 c4] at h0
              omega
          · have c3 : ¬ sTillM n lg 301 0 (sMind (nI c / 11) (nI c - nI c / 11 * 11) x) = -1009 := c3
            have c4 : ¬ f = -1009 := c4
            have c5 : g ≤ sTillM n lg 301 0 (sMind (nI c / 11) (nI c - nI c / 11 * 11) x) := c5
            rw [hf] at c4
            rw [if_neg c4] at hg
            refine same ?_ _
            unfold sMs
            rw [hT]
            rcases hcut with w | ⟨w, _⟩
            · rcases sTillM_nat n lg s.2 0 (sMind (nI (c / 11)) (nI (c % 11)) x) with v | ⟨j, h0, h1, h2⟩
              · rw [if_pos v]
              · rw [← w, h2, hg, nI_leI (by omega) (by omega)] at c5
                omega
            · rw [if_pos w]
          · have c3 : ¬ sTillM n lg 301 0 (sMind (nI c / 11) (nI c - nI c / 11 * 11) x) = -1009 := c3
            have c4 : ¬ f = -1009 := c4
            have c5 : ¬ g ≤ sTillM n lg 301 0 (sMind (nI c / 11) (nI c - nI c / 11 * 11) x) := c5
            rw [hf] at c4
            rw [if_neg c4] at hg
            rcases hcut with w | ⟨w, j, h0, h1, h2⟩
            · rcases sTillM_nat n lg s.2 0 (sMind (nI (c / 11)) (nI (c % 11)) x) with v | ⟨j, h0, h1, h2⟩
              · exact absurd (w.symm.trans v) c3
              · refine took j _ (by omega) ?_ (w.symm.trans h2)
                unfold sMs
                rw [hT, if_neg (fun v => c3 (w.symm.trans v)), h2, nI_c0 (by omega), ec]
            · rw [h2, hg, nI_leI (by omega) (by omega)] at c5
              omega
    refine And.intro (fun e => absurd e (by decide)) (fun _ => loop 121 0 (-1009, 301) _ _ none td th (by omega) (Nat.le_refl _) (fun _ => rfl) rfl rfl (fun td' th' => ?_))
    have := sMf_o n lg x 11 0 (-1009, 301)
    rw [show 11 * 11 = 121 from rfl, Nat.mul_zero] at this
    rw [this]
    exact h td' th'
  · have h := h td th
    unfold sMix at h
    rw [if_neg q] at h
    exact And.intro (fun _ => h) (fun e => absurd rfl e)
set_option maxRecDepth 100000 in
theorem m_behind {x : zLn} (hx : mIs nw x) (hn : n ≤ 7) (hw : ∀ k, k < n → vp_in (x.1 k) 7) (hlg : ∀ k, k < n → 0 ≤ lg (x.1 k).toNatClampNeg) (hi : ∀ k, k < n → -999 ≤ x.2.1 k ∧ x.2.1 k ≤ 999) {a : Nat} (hpa : x.2.2.2.1 = nI a) (hpa2 : a ≤ 60) (u : Int32) (h : ∀ td' th', post (some (.int (sBehind n lg u x))) (wD tr tx ty n m1 lg ht la at_ st_ so_ va_ fa_ to_ nw ik td' th' ba bp br sa sb sc z)) : zGoes mX8_behind 1 6 [.ref 0, .int u] (wD tr tx ty n m1 lg ht la at_ st_ so_ va_ fa_ to_ nw ik td th ba bp br sa sb sc z) post := by
  intro Z hZ
  refine hZ.1 [22] 60 _ _ _ _ (u_in u 0 99 (fun q => ?_) (fun q => ?_))
  · obtain ⟨v, hv, rfl⟩ := in60 (m := 99) rfl q
    have outer : ∀ (d t B : Nat) (o4 o5 : Option Value) (td th : Nat → Int32), t + d = 61 → B ≤ 1100 → ((t = 0 ∧ B = 0) ∨ ∃ s, t = s + 1 ∧ sBehA n lg (nI v) x s = nI B) → mIs td (sTk t (sGo n lg (-1) t x)) → Z 22 [some (.ref 0), some (.int (nI v)), some (.int (nI (min 61 B))), some (.int (nI t)), o4, o5] [] (wD tr tx ty n m1 lg ht la at_ st_ so_ va_ fa_ to_ nw ik td th ba bp br sa sb sc z) := by
      intro d
      induction d with
      | zero =>
        intro t B o4 o5 td th hte hB hB2 hy
        have e : t = 61 := by omega
        subst e
        rcases hB2 with ⟨w, _⟩ | ⟨s, w, hs⟩
        · omega
        · have w2 : s = 60 := by omega
          subst w2
          have h := h td th
          unfold sBehind at h
          rw [if_pos q, hs] at h
          refine hZ.1 [22] 60 _ _ _ _ (And.intro (fun c => And.intro (fun c2 => ?_) (fun c2 => ?_)) (fun c => absurd (by decide) c))
          · rw [show (60 : Int32) = nI 60 by decide, nI_leI (by omega) (by omega)] at c2
            rw [if_pos (by rw [show (60 : Int32) = nI 60 by decide]; exact nI_le (by omega) (by omega))] at h
            rw [show min 61 B = B by omega]
            exact h
          · rw [show (60 : Int32) = nI 60 by decide, nI_leI (by omega) (by omega)] at c2
            rw [if_neg (by rw [show (60 : Int32) = nI 60 by decide, nI_leI (by omega) (by omega)]; omega)] at h
            exact h
      | succ d ih =>
        intro t B o4 o5 td th hte hB hB2 hy
        have hpt : (sGo n lg (-1) t x).2.2.2.1 = nI a := by rw [sGo_p, hpa]
        have inner : ∀ (d2 p C : Nat) (o5 : Option Value), p + d2 = n → C ≤ 1100 → sBeh (sGo n lg (-1) t x).2.1 (nI a) n (nI v) p = nI C → Z 31 [some (.ref 0), some (.int (nI v)), some (.int (nI (min 61 (max B C)))), some (.int (nI t)), some (.int (nI p)), o5] [] (wD tr tx ty n m1 lg ht la at_ st_ so_ va_ fa_ to_ nw ik td th ba bp br sa sb sc z) := by
          intro d2
          induction d2 with
          | zero =>
            intro p C o5 hp hC hC2
            have e : p = n := by omega
            subst e
            refine hZ.1 [22, 31] 60 _ _ _ _ (And.intro (vpd (by decide)) (And.intro (fun c => ?_) (fun c => absurd (le_of (Nat.le_refl p) (by omega)) c)))
            refine u_paceT hn hy (by show ∀ j, j < p → vp_in ((sGo p lg (-1) t x).1 j) 7; rw [sGo_w]; exact hw) (by show ∀ j, j < p → 0 ≤ lg ((sGo p lg (-1) t x).1 j).toNatClampNeg; rw [sGo_w]; exact hlg) (-1009) (fun F' th' h1 h2 => ?_)
            rw [sTick_step, sStep_nopost p hn, ← sGo_1] at h1
            have := ih (t + 1) (max B C) (some (.int (nI p))) o5 F' th' (by omega) (by omega) (Or.inr ⟨t, rfl, by
              rcases hB2 with ⟨w1, w2⟩ | ⟨s, w, hs⟩
              · subst w1; subst w2
                show sBeh x.2.1 x.2.2.2.1 p (nI v) p = _
                rw [hpa, Nat.zero_max]
                exact hC2
              · subst w
                show zmax (sBehA p lg (nI v) x s) (sBeh (sGo p lg (-1) (s + 1) x).2.1 (sGo p lg (-1) (s + 1) x).2.2.2.1 p (nI v) p) = _
                rw [hs, hpt, hC2, zmax_nI (by omega) (by omega)]⟩) h1
            rw [← nI_1] at this
            exact this
          | succ d2 ih2 =>
            intro p C o5 hp hC hC2
            obtain ⟨w, hw60, hww⟩ := sWant_nat (a := a) (n := n) (p := p) hpa2 hn (by omega)
            obtain ⟨C', hC', hS, hCC, hL⟩ := sBeh_next (i := (sGo n lg (-1) t x).2.1) (v := v) hww hw60 (sGo_in hi t p (by omega)) (by omega) hC2 hC
            have e21 : sWant (td 21) n p = nI w := by rw [(mIs_21 hy :)]; show sWant (sGo n lg (-1) t x).2.2.2.1 n p = _; rw [hpt, hww]
            have ei : td (7 + nI p).toNatClampNeg = (sGo n lg (-1) t x).2.1 p := by rw [cA a7 (by omega)]; exact mIs_i hy (by omega)
            have fin : Z 95 [some (.ref 0), some (.int (nI v)), some (.int (nI (min 61 (max B C')))), some (.int (nI t)), some (.int (nI p)), some (.int (nI w))] [] (wD tr tx ty n m1 lg ht la at_ st_ so_ va_ fa_ to_ nw ik td th ba bp br sa sb sc z) := by
              have := ih2 (p + 1) C' (some (.int (nI w))) (by omega) hC' hS
              rw [← nI_1] at this
              exact hZ.1 [31] 60 _ _ _ _ this
            have wh : ∀ (e L : Nat), L + e = min 61 (max B C') → min 61 (max B C) ≤ L → Z 59 [some (.ref 0), some (.int (nI v)), some (.int (nI L)), some (.int (nI t)), some (.int (nI p)), some (.int (nI w))] [] (wD tr tx ty n m1 lg ht la at_ st_ so_ va_ fa_ to_ nw ik td th ba bp br sa sb sc z) := by
              intro e
              induction e with
              | zero =>
                intro L hLe hLo
                rw [Nat.add_zero] at hLe
                rw [← hLe] at fin
                refine hZ.1 [59, 95] 60 _ _ _ _ (And.intro (fun c => fin) (fun c => And.intro (fun c2 => fin) (fun c2 => And.intro (vA a7 (by omega) (by omega)) (And.intro (fun c3 => fin) (fun c3 => ?_)))))
                rw [show (60 : Int32) = nI 60 by decide, nI_ltI (by omega) (by omega)] at c2
                rw [ei] at c3
                have := (hL L (by omega) (by omega)).mp ⟨c, c3⟩
                omega
              | succ e ihe =>
                intro L hLe hLo
                have hc := (hL L (by omega) (by omega)).mpr (by omega)
                refine hZ.1 [59, 95] 60 _ _ _ _ (And.intro (fun c => absurd c hc.1) (fun c => And.intro (fun c2 => ?_) (fun c2 => And.intro (vA a7 (by omega) (by omega)) (And.intro (fun c3 => ?_) (fun c3 => ?_)))))
                · rw [show (60 : Int32) = nI 60 by decide, nI_ltI (by omega) (by omega)] at c2
                  omega
                · rw [ei] at c3
                  exact absurd c3 hc.2
                · have := ihe (L + 1) (by omega) (by omega)
                  rw [← nI_1 L] at this
                  exact this
            refine hZ.1 [31, 59] 60 _ _ _ _ (And.intro (vpd (by decide)) (And.intro (fun c => ?_) (fun c => And.intro (vpd (by decide)) (u_mwantsT hn p ?_))))
            · exact absurd (show nI n ≤ nI p from c) (nle_of (by omega) (by omega))
            · rw [e21]
              exact wh (min 61 (max B C') - min 61 (max B C)) (min 61 (max B C)) (by omega) (Nat.le_refl _)
        have := inner n 0 0 o5 (by omega) (by omega) rfl
        rw [Nat.max_zero] at this
        refine hZ.1 [22, 31] 60 _ _ _ _ (And.intro (fun c => ?_) (fun c => this))
        rw [show (60 : Int32) = nI 60 by decide] at c
        exact absurd c (nI_nlt (by omega) (by omega))
    exact And.intro (fun e => absurd e (by decide)) (fun _ => u_take (fun td' htd => outer 61 0 0 none none td' th (by omega) (by omega) (Or.inl ⟨rfl, rfl⟩) (by rw [sTk_0]; exact mIs_td hx htd)))
  · have h := h td th
    unfold sBehind at h
    rw [if_neg q] at h
    exact And.intro (fun _ => h) (fun e => absurd rfl e)

end MD
