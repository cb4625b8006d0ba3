
/-! ===== what the two sides know of the legs is alike where it is read ===== -/
def sAg (n : Nat) (lg lg' w : Nat → Int32) : Prop := ∀ p, p < n → lg (w p).toNatClampNeg = lg' (w p).toNatClampNeg
theorem sMv_lg {w i : Nat → Int32} {pc ey el : Int32} {n : Nat} {lg lg' : Nat → Int32} {q : Int32} {p : Nat} (h : sAg n lg lg' w) (hp : p < n) : sMv w i pc ey el n lg q p = sMv w i pc ey el n lg' q p := by
  unfold sMv sTakes
  rw [h p hp]
theorem sStep_lg {n : Nat} {lg lg' : Nat → Int32} {q : Int32} {x : zLn} (h : sAg n lg lg' x.1) : sStep n lg q x = sStep n lg' q x := by
  unfold sStep
  congr 2
  funext k
  unfold sFill
  by_cases c : k < n
  · rw [if_pos c, if_pos c, sMv_lg h c]
  · rw [if_neg c, if_neg c]
theorem sGo_lg {n : Nat} {lg lg' : Nat → Int32} {q : Int32} : ∀ (k : Nat) (x : zLn), sAg n lg lg' x.1 → sGo n lg q k x = sGo n lg' q k x
  | 0, _, _ => rfl
  | k + 1, x, h => by
    show sGo n lg q k (sStep n lg q x) = sGo n lg' q k (sStep n lg' q x)
    rw [sStep_lg h]
    exact sGo_lg k (sStep n lg' q x) h
theorem sTillM_lg {n : Nat} {lg lg' : Nat → Int32} : ∀ (r k : Nat) (x : zLn), sAg n lg lg' x.1 → sTillM n lg r k x = sTillM n lg' r k x
  | 0, _, _, _ => rfl
  | r + 1, k, x, h => by
    show (if _ then _ else sTillM n lg r (k + 1) (sStep n lg (-1) x)) = (if _ then _ else sTillM n lg' r (k + 1) (sStep n lg' (-1) x))
    rw [sStep_lg h, sTillM_lg r (k + 1) (sStep n lg' (-1) x) h]
theorem sTill_lg {n : Nat} {lg lg' : Nat → Int32} (r k : Nat) (x : zLn) (h : sAg n lg lg' x.1) : sTill n lg r k x = sTill n lg' r k x := by
  rw [sTill_M, sTill_M, sTillM_lg r k x h]
theorem sLooks_lg {n : Nat} {lg lg' : Nat → Int32} {x : zLn} (h : sAg n lg lg' x.1) (a p : Int32) : sLooks n lg x a p = sLooks n lg' x a p := by
  unfold sLooks
  rw [sGo_lg _ x h]
theorem sPost_lg {n : Nat} {lg lg' : Nat → Int32} {x : zLn} (h : sAg n lg lg' x.1) (a p : Int32) : sPost n lg x a p = sPost n lg' x a p := by
  unfold sPost
  rw [sGo_lg _ x h]
theorem sBehA_lg {n : Nat} {lg lg' : Nat → Int32} {x : zLn} (h : sAg n lg lg' x.1) (u : Int32) : ∀ k, sBehA n lg u x k = sBehA n lg' u x k
  | 0 => rfl
  | k + 1 => by
    show zmax (sBehA n lg u x k) (sBeh (sGo n lg (-1) (k + 1) x).2.1 (sGo n lg (-1) (k + 1) x).2.2.2.1 n u n) = zmax (sBehA n lg' u x k) (sBeh (sGo n lg' (-1) (k + 1) x).2.1 (sGo n lg' (-1) (k + 1) x).2.2.2.1 n u n)
    rw [sBehA_lg h u k, sGo_lg _ x h]
theorem sBehind_lg {n : Nat} {lg lg' : Nat → Int32} {x : zLn} (h : sAg n lg lg' x.1) (u : Int32) : sBehind n lg u x = sBehind n lg' u x := by
  unfold sBehind
  rw [sBehA_lg h u]
theorem all_congr' {n : Nat} {P Q : Nat → Bool} (h : ∀ p, p < n → P p = Q p) : (List.range n).all P = (List.range n).all Q := by
  cases c : (List.range n).all Q with
  | true =>
    rw [List.all_eq_true] at c ⊢
    intro p hp
    rw [h p (List.mem_range.mp hp)]
    exact c p hp
  | false =>
    rw [List.all_eq_false] at c ⊢
    obtain ⟨p, hp, hq⟩ := c
    exact ⟨p, hp, by rw [h p (List.mem_range.mp hp)]; exact hq⟩
theorem sFast_lg {n : Nat} {lg lg' w : Nat → Int32} (h : sAg n lg lg' w) : ∀ k, sFast n lg w k = sFast n lg' w k
  | 0 => rfl
  | 1 => rfl
  | k + 2 => by
    show (if sStride n lg w (nI (k + 2)) then nI (k + 2) else sFast n lg w (k + 1)) = (if sStride n lg' w (nI (k + 2)) then nI (k + 2) else sFast n lg' w (k + 1))
    have e : sStride n lg w (nI (k + 2)) = sStride n lg' w (nI (k + 2)) := by
      unfold sStride
      exact all_congr' (fun p hp => by rw [h p hp])
    rw [e, sFast_lg h (k + 1)]
theorem sIn_nat {n : Nat} {p : Int32} (hn : n ≤ 7) (h : sIn n p) : ∃ k, k < n ∧ p = nI k := by
  have h1 := Int32.le_iff_toInt_le.mp h.1
  have h2 := Int32.le_iff_toInt_le.mp h.2
  have e0 : (0 : Int32).toInt = 0 := by decide
  have e1 : (nI n - 1 : Int32).toInt = (n : Int) - 1 := by
    have g1 : (nI n).toInt = (n : Int) := nI_toInt (by omega)
    have g2 : (1 : Int32).toInt = 1 := by decide
    rw [Int32.toInt_sub, g1, g2]
    exact Int.bmod_eq_of_le (by omega) (by omega)
  refine ⟨p.toInt.toNat, by omega, ?_⟩
  apply Int32.toInt_inj.mp
  rw [nI_toInt (by omega)]
  omega
theorem sRate_lg {n : Nat} {lg lg' : Nat → Int32} {x : zLn} (hn : n ≤ 7) (h : sAg n lg lg' x.1) (kd p : Int32) : sRate n lg x kd p = sRate n lg' x kd p := by
  unfold sRate
  by_cases c : sIn n p
  · obtain ⟨k, hk, rfl⟩ := sIn_nat hn c
    have e := h k hk
    have ek : (nI k).toNatClampNeg = k := nI_c0 (by omega)
    rw [ek, e]
  · rw [if_neg c, if_neg c]
theorem sTells_lg {n : Nat} {lg lg' : Nat → Int32} {sa sb sc : Nat → Int32} {z : Nat} : ∀ (r k : Nat) (x : zLn), sAg n lg lg' x.1 → sTells n lg sa sb sc z r k x = sTells n lg' sa sb sc z r k x
  | 0, _, _, _ => rfl
  | r + 1, k, x, h => by
    show (_ && sTells n lg sa sb sc z r (k + 1) (sStep n lg (-1) x)) = (_ && sTells n lg' sa sb sc z r (k + 1) (sStep n lg' (-1) x))
    rw [sStep_lg h, sTells_lg r (k + 1) (sStep n lg' (-1) x) h]
theorem sWho_lg {n : Nat} {lg lg' : Nat → Int32} {x : zLn} (h : sAg n lg lg' x.1) (sa sb sc : Nat → Int32) (z r : Nat) : sWho n lg x sa sb sc z r = sWho n lg' x sa sb sc z r := by
  unfold sWho
  congr 1
  funext p u
  exact sTells_lg r 0 (sLose p (nI u) x) h
theorem sMs_lg {n : Nat} {lg lg' : Nat → Int32} {x : zLn} (h : sAg n lg lg' x.1) (s : Int32 × Nat) (e l : Nat) : sMs n lg x s e l = sMs n lg' x s e l := by
  unfold sMs
  rw [sTill_lg s.2 0 (sMind (nI e) (nI l) x) h]
theorem sMi_lg {n : Nat} {lg lg' : Nat → Int32} {x : zLn} (h : sAg n lg lg' x.1) (e : Nat) : ∀ (d l : Nat) (s : Int32 × Nat), sMi n lg x e d l s = sMi n lg' x e d l s
  | 0, _, _ => rfl
  | d + 1, l, s => by
    show sMi n lg x e d (l + 1) (sMs n lg x s e l) = sMi n lg' x e d (l + 1) (sMs n lg' x s e l)
    rw [sMs_lg h, sMi_lg h e d]
theorem sMo_lg {n : Nat} {lg lg' : Nat → Int32} {x : zLn} (h : sAg n lg lg' x.1) : ∀ (d e : Nat) (s : Int32 × Nat), sMo n lg x d e s = sMo n lg' x d e s
  | 0, _, _ => rfl
  | d + 1, e, s => by
    show sMo n lg x d (e + 1) (sMi n lg x e 11 0 s) = sMo n lg' x d (e + 1) (sMi n lg' x e 11 0 s)
    rw [sMi_lg h, sMo_lg h d]
theorem sMan_lg {n : Nat} {lg lg' ht ht' w : Nat → Int32} (hn : n ≤ 7) (h : ∀ m, m < n → lg m = lg' m ∧ ht m = ht' m) (m u : Int32) : sMan n lg ht w m u = sMan n lg' ht' w m u := by
  unfold sMan
  by_cases c : sInB n m = true
  · have c2 : sIn n m := of_decide_eq_true c
    obtain ⟨k, hk, rfl⟩ := sIn_nat hn c2
    have ek : (nI k).toNatClampNeg = k := nI_c0 (by omega)
    rw [ek, (h k hk).1, (h k hk).2]
  · rw [if_neg c, if_neg c]
/-! ===== the two worlds beside each other ===== -/
def fT (b : Nat) (t tx : Nat → Int32) : Prop := b ≤ 120 ∧ ∃ tb : Nat → Nat, ∀ j, j < b → (t j = nI (tb j) ∧ tx j = (nI (tb j)).toInt8.toInt32) ∧ tb j < 256
def fM (n : Nat) (lg lg' ht ht' : Nat → Int32) : Prop := n ≤ 7 ∧ ∃ L H : Nat → Nat, ∀ m, m < n → (lg m = nI (L m) ∧ lg' m = nI (L m) ∧ L m ≤ 60) ∧ (ht m = nI (H m) ∧ ht' m = nI (H m) ∧ H m ≤ 99)
def fL (n : Nat) (x : zLn) : Prop := (∀ k, k < n → ∃ m, m < n ∧ x.1 k = nI m) ∧ sStands n x.1 ∧ (∀ k, k < n → -999 ≤ x.2.1 k ∧ x.2.1 k ≤ 999) ∧ (∃ a, x.2.2.2.1 = nI a ∧ a ≤ 60) ∧ x.2.2.2.2.2.2 ≤ 9999
def fP (n s : Nat) (P : Nat → zLn) (F : Nat → Int32) (o : Nat) : Prop := s ≤ 10 ∧ F (o + 25) = nI s ∧ ∀ j, j < s → fL n (P j) ∧ ∀ k, k < 25 → F (o + (26 + 25 * j + k)) = mT (P j) k
def fI (n : Nat) (kk ki : Int32) (X : zLn) (s : Nat) (P : Nat → zLn) (F : Nat → Int32) (o : Nat) : Prop := s ≤ 10 ∧ kk = ki ∧ (¬ ki = 0 → fL n X ∧ (∀ k, k < 25 → F (o + k) = mT X k) ∧ fP n s P F o)
def fS (z : Nat) (sa sb : Nat → Int32) : Prop := z ≤ 6 ∧ (∀ j, j < z → vp_in (sa j) 7) ∧ ∀ j, j < z → ∃ k, k ≤ 60 ∧ sb j = nI k
theorem fL_w {n : Nat} {x : zLn} (hn : n ≤ 7) (h : fL n x) : ∀ k, k < n → vp_in (x.1 k) 7 := by
  intro k hk
  obtain ⟨m, hm, e⟩ := h.1 k hk
  rw [e]
  exact vi0 (by omega) (by omega)
theorem fAg {n : Nat} {lg lg' ht ht' : Nat → Int32} {x : zLn} (hM : fM n lg lg' ht ht') (hx : fL n x) : sAg n lg lg' x.1 := by
  intro p hp
  obtain ⟨m, hm, e⟩ := hx.1 p hp
  obtain ⟨hn, L, H, h⟩ := hM
  rw [e, nI_c0 (by omega), (h m hm).1.1, (h m hm).1.2.1]
theorem fLg {n : Nat} {lg lg' ht ht' : Nat → Int32} {x : zLn} (hM : fM n lg lg' ht ht') (hx : fL n x) : ∀ k, k < n → 0 ≤ lg' (x.1 k).toNatClampNeg := by
  intro p hp
  obtain ⟨m, hm, e⟩ := hx.1 p hp
  obtain ⟨hn, L, H, h⟩ := hM
  rw [e, nI_c0 (by omega), (h m hm).1.2.1]
  exact nI_pos' (by have := (h m hm).1.2.2; omega)
theorem fL_of {n : Nat} {x y : zLn} (h : fL n x) (h1 : y.1 = x.1) (h2 : ∀ k, k < n → -999 ≤ y.2.1 k ∧ y.2.1 k ≤ 999) (h3 : y.2.2.2.1 = x.2.2.2.1) (h4 : y.2.2.2.2.2.2 ≤ 9999) : fL n y := by
  obtain ⟨g1, g2, g3, g4, g5⟩ := h
  exact ⟨by rw [h1]; exact g1, by rw [h1]; exact g2, h2, by rw [h3]; exact g4, h4⟩
theorem fL_step {n : Nat} {lg : Nat → Int32} {q : Int32} {x : zLn} (h : fL n x) : fL n (sStep n lg q x) := by
  refine fL_of h rfl (fun k hk => ?_) rfl h.2.2.2.2
  exact sGo_in h.2.2.1 1 k hk
theorem le_99 {a : Int32} (h : a < 9999) : a + 1 ≤ 9999 := by
  have h1 := Int32.lt_iff_toInt_lt.mp h
  have e : (9999 : Int32).toInt = 9999 := by decide
  have e1 : (1 : Int32).toInt = 1 := by decide
  have h2 := Int32.le_toInt a
  rw [Int32.le_iff_toInt_le, Int32.toInt_add, e1, e, Int.bmod_eq_of_le (by omega) (by omega)]
  omega
theorem fL_tick {n : Nat} {x : zLn} (h : fL n x) (h1 : x.2.2.2.2.2.2 < 9999) : fL n (sTick x) := fL_of h rfl h.2.2.1 rfl (le_99 h1)
theorem zmax_ge {a b : Int32} : a ≤ zmax a b := by
  unfold zmax
  split
  · rename_i c; exact Int32.le_of_lt c
  · exact Int32.le_refl _
theorem fL_lose {n k : Nat} {u : Int32} {x : zLn} (h : fL n x) (hk : k < n) (hu : 1 ≤ u ∧ u ≤ 99) : fL n (sLose k u x) := by
  refine fL_of h rfl (fun j hj => ?_) rfl h.2.2.2.2
  show -999 ≤ upd x.2.1 k (zmax (-999) (x.2.1 k - u)) j ∧ upd x.2.1 k (zmax (-999) (x.2.1 k - u)) j ≤ 999
  by_cases c : j = k
  · subst c
    rw [pk_us]
    refine ⟨zmax_ge, ?_⟩
    have hx := h.2.2.1 j hj
    refine zmax_le (by decide) ?_
    have h1 := Int32.le_iff_toInt_le.mp hx.1
    have h2 := Int32.le_iff_toInt_le.mp hx.2
    have h3 := Int32.le_iff_toInt_le.mp hu.1
    have h4 := Int32.le_iff_toInt_le.mp hu.2
    have e1 : (-999 : Int32).toInt = -999 := by decide
    have e2 : (999 : Int32).toInt = 999 := by decide
    have e3 : (1 : Int32).toInt = 1 := by decide
    have e4 : (99 : Int32).toInt = 99 := by decide
    rw [Int32.le_iff_toInt_le, Int32.toInt_sub, Int.bmod_eq_of_le (by omega) (by omega)]
    omega
  · rw [pk_un c]
    exact h.2.2.1 j hj
theorem fL_hop {n k : Nat} {x : zLn} (h : fL n x) : fL n (sHop k x) := fL_of h rfl h.2.2.1 rfl h.2.2.2.2
theorem fL_mind {n : Nat} {e l : Int32} {x : zLn} (h : fL n x) : fL n (sMind e l x) := fL_of h rfl h.2.2.1 rfl h.2.2.2.2
theorem fL_speed {n : Nat} {u : Int32} {x : zLn} (h : fL n x) (hu : 1 ≤ u ∧ u ≤ 60) : fL n (sSpeed u x) := by
  obtain ⟨g1, g2, g3, g4, g5⟩ := h
  have h3 := Int32.le_iff_toInt_le.mp hu.1
  have h4 := Int32.le_iff_toInt_le.mp hu.2
  have e3 : (1 : Int32).toInt = 1 := by decide
  have e4 : (60 : Int32).toInt = 60 := by decide
  refine ⟨g1, g2, g3, ⟨u.toInt.toNat, ?_, by omega⟩, g5⟩
  show u = nI u.toInt.toNat
  apply Int32.toInt_inj.mp
  rw [nI_toInt (by omega)]
  omega
theorem fL_swap {n k j : Nat} {x : zLn} (h : fL n x) (hk : k < n) (hj : j < n) (hkj : k ≠ j) : fL n (sSwap k j x) := by
  obtain ⟨g1, g2, g3, g4, g5⟩ := h
  have at_ : ∀ q, (sSwap k j x).1 q = if q = j then x.1 k else if q = k then x.1 j else x.1 q := by
    intro q
    show upd (upd x.1 k (x.1 j)) j (x.1 k) q = _
    by_cases c : q = j
    · rw [if_pos c, c, pk_us]
    · rw [if_neg c, pk_un c]
      by_cases c2 : q = k
      · rw [if_pos c2, c2, pk_us]
      · rw [if_neg c2, pk_un c2]
  refine ⟨fun q hq => ?_, fun m hm => ?_, g3, g4, g5⟩
  · rw [at_]
    split
    · exact g1 k hk
    · split
      · exact g1 j hj
      · exact g1 q hq
  · obtain ⟨p, hp, e⟩ := g2 m hm
    by_cases c : p = k
    · refine ⟨j, hj, ?_⟩
      rw [at_, if_pos rfl, ← c]
      exact e
    · by_cases c2 : p = j
      · refine ⟨k, hk, ?_⟩
        rw [at_, if_neg hkj, if_pos rfl, ← c2]
        exact e
      · refine ⟨p, hp, ?_⟩
        rw [at_, if_neg c2, if_neg c]
        exact e
theorem fL_form {n a e w : Nat} (hn : n ≤ 7) (ha : a ≤ 60) : fL n (xForm (nI a) (nI e) (nI w)) := ⟨fun k hk => ⟨k, hk, rfl⟩, fun m hm => ⟨m, hm, rfl⟩, fun k hk => ⟨by show (-999 : Int32) ≤ 0; decide, by show (0 : Int32) ≤ 999; decide⟩, ⟨a, rfl, ha⟩, by show (0 : Int32) ≤ 9999; decide⟩
/-- what was known, when the line is remembered -/
def sPn (s : Nat) (P : Nat → zLn) (x : zLn) : Nat → zLn := if s < 10 then va_up P s x else fun j => va_up P 0 x ((j + 1) % 10)
def sSn (s : Nat) : Nat := if s < 10 then s + 1 else 10
theorem fP_know {n s : Nat} {P : Nat → zLn} {x : zLn} {nw nw' : Nat → Int32} (h : fP n s P nw 0) (hx : mIs nw x) (hl : fL n x) (hw : ∀ k, 25 ≤ k → nw' k = mKnow s nw k) : fP n (sSn s) (sPn s P x) nw' 0 := by
  obtain ⟨h1, h2, h3⟩ := h
  by_cases c : s < 10
  · rw [show sSn s = s + 1 from if_pos c, show sPn s P x = va_up P s x from if_pos c]
    refine ⟨by omega, ?_, fun j hj => ?_⟩
    · rw [hw _ (by omega)]
      show (if 25 = 25 then (if s < 10 then nI s + 1 else nI 10) else _) = _
      rw [if_pos rfl, if_pos c, nI_1]
    · by_cases q : j = s
      · subst q
        rw [show va_up P j x j = x from if_pos rfl]
        refine ⟨hl, fun k hk => ?_⟩
        rw [hw _ (by omega)]
        unfold mKnow
        rw [if_neg (by omega), if_pos c, if_pos (by omega), show 0 + (26 + 25 * j + k) - (26 + 25 * j) = k by omega]
        exact hx k hk
      · rw [show va_up P s x j = P j from if_neg q]
        obtain ⟨g1, g2⟩ := h3 j (by omega)
        refine ⟨g1, fun k hk => ?_⟩
        rw [hw _ (by omega)]
        unfold mKnow
        rw [if_neg (by omega), if_pos c, if_neg (by omega)]
        exact g2 k hk
  · have hs : s = 10 := by omega
    subst hs
    rw [show sSn 10 = 10 from rfl, show sPn 10 P x = (fun j => va_up P 0 x ((j + 1) % 10)) from rfl]
    refine ⟨by omega, ?_, fun j hj => ?_⟩
    · rw [hw _ (by omega)]
      show (if 25 = 25 then (if 10 < 10 then nI 10 + 1 else nI 10) else _) = _
      rw [if_pos rfl, if_neg (by omega)]
    · show fL n (va_up P 0 x ((j + 1) % 10)) ∧ ∀ k, k < 25 → nw' (0 + (26 + 25 * j + k)) = mT (va_up P 0 x ((j + 1) % 10)) k
      by_cases q : j = 9
      · subst q
        rw [show va_up P 0 x ((9 + 1) % 10) = x from rfl]
        refine ⟨hl, fun k hk => ?_⟩
        rw [hw _ (by omega)]
        unfold mKnow
        rw [if_neg (by omega), if_neg (by omega), if_neg (by omega), if_pos (by omega), show 0 + (26 + 25 * 9 + k) - 251 = k by omega]
        exact hx k hk
      · rw [show (j + 1) % 10 = j + 1 by omega, show va_up P 0 x (j + 1) = P (j + 1) from if_neg (by omega)]
        obtain ⟨g1, g2⟩ := h3 (j + 1) (by omega)
        refine ⟨g1, fun k hk => ?_⟩
        rw [hw _ (by omega)]
        unfold mKnow
        rw [if_neg (by omega), if_neg (by omega), if_pos (by omega), ← g2 k hk]
        congr 1
        omega
theorem fP_to {n s : Nat} {P : Nat → zLn} {F G : Nat → Int32} {o : Nat} (h : fP n s P F o) (hw : ∀ k, o + 25 ≤ k → k < o + 276 → G k = F k) : fP n s P G o := by
  obtain ⟨h1, h2, h3⟩ := h
  refine ⟨h1, by rw [hw _ (by omega) (by omega)]; exact h2, fun j hj => ⟨(h3 j hj).1, fun k hk => ?_⟩⟩
  rw [hw _ (by omega) (by omega)]
  exact (h3 j hj).2 k hk
theorem fI_to {n : Nat} {kk ki : Int32} {X : zLn} {s : Nat} {P : Nat → zLn} {F G : Nat → Int32} {o : Nat} (h : fI n kk ki X s P F o) (hw : ∀ k, o ≤ k → k < o + 276 → G k = F k) : fI n kk ki X s P G o := by
  obtain ⟨h1, h2, h3⟩ := h
  refine ⟨h1, h2, fun c => ?_⟩
  obtain ⟨g1, g2, g3⟩ := h3 c
  exact ⟨g1, fun k hk => by rw [hw _ (by omega) (by omega)]; exact g2 k hk, fP_to g3 (fun k q1 q2 => hw k (by omega) q2)⟩
theorem mKnow_hi {s : Nat} {F : Nat → Int32} {k : Nat} (hs : s ≤ 10) (hk : 276 ≤ k) : mKnow s F k = F k := by
  unfold mKnow
  rw [if_neg (by omega)]
  by_cases c : s < 10
  · rw [if_pos c, if_neg (by omega)]
  · rw [if_neg c, if_neg (by omega), if_neg (by omega)]
