
/-! order: the class -/
def wO (pc : Int32) (sd be : Nat → Int32) (la lp : Int32) (n : Nat) (lg ht : Nat → Int32) : zW := [.inr (.inr (3, [.ref 3, .ref 1, .int pc, .ref 2, .int la, .int lp])), .inl (0, 7, sd), .inl (0, 7, be), .inr (.inr (2, [.int (nI n), .ref 4, .ref 5])), .inl (0, 7, lg), .inl (0, 7, ht)]
def yLo (s : ySt) : Int32 × Int32 := match s with
  | none => (1000000, 1000000)
  | some (A, B, _) => (nI A, nI B)
def yBs (n : Nat) (s : ySt) (g : Nat → Int32) : Prop := match s with
  | none => True
  | some (_, _, c) => ∀ q, q < n → g q = nI (c / 7 ^ (n - 1 - q) % 7)
def yS (s : ySt) : Prop := match s with
  | none => True
  | some (A, B, _) => A < 10000 ∧ B < 10000
section OR
variable {pc : Int32} {sd be : Nat → Int32} {n : Nat} {lg ht : Nat → Int32} {post : zP}
set_option maxRecDepth 100000 in
theorem t_better (s : ySt) (hs : yS s) (a b : Nat) (ha : a < 10000) (hb : b < 10000) (h : post (some (.int (zb (yBet a b s)))) (wO pc sd be (yLo s).1 (yLo s).2 n lg ht)) : zGoes mX3_isBetter 3 3 [.ref 0, .int (nI a), .int (nI b)] (wO pc sd be (yLo s).1 (yLo s).2 n lg ht) post := by
  intro Z hZ
  cases s with
  | none =>
    have hlt : nI a < 1000000 := by
      rw [show (1000000 : Int32) = nI 1000000 by decide]
      exact nI_lt (by omega) (by decide)
    exact hZ.1 [] 60 _ _ _ _ (And.intro (fun _ => And.intro (Or.inr rfl) h) (fun c => absurd hlt c))
  | some q =>
    obtain ⟨A, B, c⟩ := q
    have hs : A < 10000 ∧ B < 10000 := hs
    refine hZ.1 [] 60 _ _ _ _ (And.intro (fun c1 => ?_) (fun c1 => And.intro (fun c2 => And.intro (fun c3 => ?_) (fun c3 => ?_)) (fun c2 => ?_)))
    · have c1 : nI a < nI A := c1
      rw [nI_ltI (by omega) (by omega)] at c1
      rw [show yBet a b (some (A, B, c)) = true from decide_eq_true (by omega)] at h
      exact And.intro (Or.inr rfl) h
    · have c1 : ¬ nI a < nI A := c1
      have c2 : nI a = nI A := c2
      have c3 : nI B ≤ nI b := c3
      rw [nI_ltI (by omega) (by omega)] at c1
      rw [nI_leI (by omega) (by omega)] at c3
      rw [show yBet a b (some (A, B, c)) = false from decide_eq_false (by omega)] at h
      exact And.intro (Or.inl rfl) h
    · have c2 : nI a = nI A := c2
      have c3 : ¬ nI B ≤ nI b := c3
      rw [nI_eq (by omega) (by omega)] at c2
      rw [nI_leI (by omega) (by omega)] at c3
      rw [show yBet a b (some (A, B, c)) = true from decide_eq_true (by omega)] at h
      exact And.intro (Or.inr rfl) h
    · have c1 : ¬ nI a < nI A := c1
      have c2 : ¬ nI a = nI A := c2
      rw [nI_ltI (by omega) (by omega)] at c1
      rw [nI_eq (by omega) (by omega)] at c2
      rw [show yBet a b (some (A, B, c)) = false from decide_eq_false (by omega)] at h
      exact And.intro (Or.inl rfl) h
set_option maxRecDepth 100000 in
theorem t_become {la lp : Int32} (a b : Int32) (h : ∀ be', (∀ q, q < 7 → be' q = sd q) → post none (wO pc sd be' a b n lg ht)) : zGoes mX3_becomeBest 0 3 [.ref 0, .int a, .int b] (wO pc sd be la lp n lg ht) post := by
  intro Z hZ
  exact hZ.1 [] 60 _ _ _ _ (And.intro ⟨by decide, by decide, by decide, by decide, by decide⟩ (h _ (fun q hq => cpy7 sd be q hq)))
set_option maxRecDepth 100000 in
theorem t_above {la lp : Int32} (hn : n ≤ 7) (p m w l : Nat) (hp : p < 7) (hm : m < 7) (hsd : sd p = nI m) (hw : sWant pc n p = nI w) (hw2 : w ≤ 60) (hl : lg m = nI l) (hl2 : l ≤ 60) (h : post (some (.int (nI (w - l)))) (wO pc sd be la lp n lg ht)) : zGoes mX3_aboveLegAt 1 2 [.ref 0, .int (nI p)] (wO pc sd be la lp n lg ht) post := by
  intro Z hZ
  have e1 : sd (nI p).toNatClampNeg = nI m := by rw [nI_c0 (by omega), hsd]
  have e2 : lg (sd (nI p).toNatClampNeg).toNatClampNeg = nI l := by rw [e1, nI_c0 (by omega), hl]
  refine hZ.1 [] 60 _ _ _ _ (Or.inl ⟨rfl, rfl, t_wanted pc p n hn (And.intro (vi0 hp (by omega)) (And.intro (by rw [e1]; exact vi0 hm (by omega)) ?_))⟩)
  rw [← zmax_sub (by omega) (by omega), ← hw, ← e2] at h
  exact h
set_option maxRecDepth 100000 in
theorem t_apartIn0 {la lp : Int32} (h : post (some (.int 0)) (wO pc sd be la lp n lg ht)) : zGoes mX3_apartInwardOf 1 2 [.ref 0, .int (nI 0)] (wO pc sd be la lp n lg ht) post := fun Z hZ => hZ.1 [] 60 _ _ _ _ (And.intro (fun _ => h) (fun c => absurd rfl c))
set_option maxRecDepth 100000 in
theorem t_apartIn {la lp : Int32} (p m m' k k' : Nat) (hp : p + 1 < 7) (hm : m < 7) (hm' : m' < 7) (hsd : sd (p + 1) = nI m) (hsd' : sd p = nI m') (hk : ht m = nI k) (hk2 : k ≤ 99) (hk' : ht m' = nI k') (hk2' : k' ≤ 99) (h : post (some (.int (nI (yad k k')))) (wO pc sd be la lp n lg ht)) : zGoes mX3_apartInwardOf 1 2 [.ref 0, .int (nI (p + 1))] (wO pc sd be la lp n lg ht) post := by
  intro Z hZ
  have ep : (nI (p + 1) - 1 : Int32) = nI p := nI_pred p
  have e1 : sd (nI (p + 1)).toNatClampNeg = nI m := by rw [nI_c0 (by omega), hsd]
  have e2 : ht (sd (nI (p + 1)).toNatClampNeg).toNatClampNeg = nI k := by rw [e1, nI_c0 (by omega), hk]
  have e3 : sd (nI (p + 1) - 1).toNatClampNeg = nI m' := by rw [ep, nI_c0 (by omega), hsd']
  have e4 : ht (sd (nI (p + 1) - 1).toNatClampNeg).toNatClampNeg = nI k' := by rw [e3, nI_c0 (by omega), hk']
  refine hZ.1 [] 60 _ _ _ _ (And.intro (fun c => absurd c (nI_ne0 (by omega) (by omega))) (fun _ => And.intro (vi0 hp (by omega)) (And.intro (by rw [e1]; exact vi0 hm (by omega)) (And.intro (by rw [ep]; exact vi0 (by omega) (by omega)) (And.intro (by rw [e3]; exact vi0 hm' (by omega)) ?_)))))
  rw [← zabs_sub (by omega) (by omega), ← e2, ← e4] at h
  exact h
theorem yDf_S {wn L H : Nat → Nat} (hn : n ≤ 7) (hw : ∀ p, p < n → wn p ≤ 60) (hH : ∀ m, m < n → H m ≤ 99) : ∀ (d p c : Nat) (s : ySt), p + d = n → yOk n (rd p c) = true → yS s → yS (yDf n wn L H d p c s)
  | 0, p, c, s, hp, hok, hs => by
    unfold yDf
    split
    · have h1 := yA_le (L := L) hw (r := rd p c) (by rw [rd_len]; omega)
      have h2 := yB_le hH hok
      rw [rd_len] at h1 h2
      exact ⟨by omega, by omega⟩
    · exact hs
  | d + 1, p, c, s, hp, hok, hs => by
    unfold yDf
    split
    · have go : ∀ (k m : Nat) (s : ySt), m + k = n → yS s → yS (yFo (fun m s => if (rd p c).contains m then s else yDf n wn L H d (p + 1) (c * 7 + m) s) k m s) := by
        intro k
        induction k with
        | zero => intro m s _ hs; exact hs
        | succ k ih =>
          intro m s hm hs
          unfold yFo
          refine ih (m + 1) _ (by omega) ?_
          cases hc : (rd p c).contains m with
          | true => rw [if_pos rfl]; exact hs
          | false =>
            rw [if_neg (by decide)]
            exact yDf_S hn hw hH d (p + 1) (c * 7 + m) s (by omega) (by
              rw [rd_next p c m (by omega)]
              unfold yOk
              rw [hok, hc, decide_eq_true (show m < n by omega)]
              rfl) hs
      exact go n 0 s (by omega) hs
    · exact hs
set_option maxRecDepth 100000 in
set_option maxHeartbeats 4000000 in
theorem t_fill {wn L H : Nat → Nat} (hn : n ≤ 7) (hwn : ∀ p, p < n → sWant pc n p = nI (wn p) ∧ wn p ≤ 60) (hL : ∀ m, m < n → lg m = nI (L m) ∧ L m ≤ 60) (hH : ∀ m, m < n → ht m = nI (H m) ∧ H m ≤ 99) : ∀ (d e p c : Nat) (s : ySt) (sd be : Nat → Int32) (post : zP), p + d = n → yOk n (rd p c) = true → (∀ q, q < p → sd q = nI (c / 7 ^ (p - 1 - q) % 7)) → yS s → yBs n s be → (∀ sd' be', (∀ q, q < p → sd' q = sd q) → yBs n (yDf n wn L H d p c s) be' → post none (wO pc sd' be' (yLo (yDf n wn L H d p c s)).1 (yLo (yDf n wn L H d p c s)).2 n lg ht)) → zGoes (mX3_fillFrom (e + d + 1)) 0 6 [.ref 0, .int (nI p), .int (nI (yMk (rd p c))), .int (nI (yA wn L (rd p c))), .int (nI (yB H (rd p c)))] (wO pc sd be (yLo s).1 (yLo s).2 n lg ht) post := by
  have hw60 : ∀ p, p < n → wn p ≤ 60 := fun p hp => (hwn p hp).2
  have hH99 : ∀ m, m < n → H m ≤ 99 := fun m hm => (hH m hm).2
  intro d
  induction d with
  | zero =>
    intro e p c s sd be post hp hok hsd hs hbe h Z hZ
    have ep : p = n := by omega
    subst ep
    have h1 := yA_le (L := L) hw60 (r := rd p c) (by rw [rd_len]; omega)
    have h2 := yB_le hH99 hok
    rw [rd_len] at h1 h2
    refine hZ.1 [] 60 _ _ _ _ (And.intro rfl (Or.inl ⟨rfl, rfl, t_better s hs _ _ (by omega) (by omega) ?_⟩))
    refine And.intro (fun c1 => ?_) (fun c1 => And.intro (fun c2 => absurd c2 (nI_nlt (Nat.le_refl p) (by omega))) (fun _ => And.intro rfl (Or.inl ⟨rfl, rfl, t_become _ _ (fun be' hbe' => ?_)⟩)))
    · have c1 := zb0 c1
      have := h sd be (fun _ _ => rfl)
      unfold yDf at this
      rw [c1] at this
      exact this hbe
    · have c1 := zb1 c1
      have := h sd be' (fun _ _ => rfl)
      unfold yDf at this
      rw [c1] at this
      exact this (fun q hq => by rw [hbe' q (by omega), hsd q hq])
  | succ d ih =>
    intro e p c s sd be post hp hok hsd hs hbe h Z hZ
    have h1 := yA_le (L := L) hw60 (r := rd p c) (by rw [rd_len]; omega)
    have h2 := yB_le hH99 hok
    rw [rd_len] at h1 h2
    have hmem : ∀ m ∈ rd p c, m < 7 := fun m hm => Nat.lt_of_lt_of_le (yOk_mem hok m hm) hn
    have loop : ∀ (k m : Nat) (s : ySt) (sd be : Nat → Int32), m + k = n → (∀ q, q < p → sd q = nI (c / 7 ^ (p - 1 - q) % 7)) → yS s → yBs n s be → (∀ sd' be', (∀ q, q < p → sd' q = sd q) → yBs n (yFo (fun m s => if (rd p c).contains m then s else yDf n wn L H d (p + 1) (c * 7 + m) s) k m s) be' → post none (wO pc sd' be' (yLo (yFo (fun m s => if (rd p c).contains m then s else yDf n wn L H d (p + 1) (c * 7 + m) s) k m s)).1 (yLo (yFo (fun m s => if (rd p c).contains m then s else yDf n wn L H d (p + 1) (c * 7 + m) s) k m s)).2 n lg ht)) → Z 33 [some (.ref 0), some (.int (nI p)), some (.int (nI (yMk (rd p c)))), some (.int (nI (yA wn L (rd p c)))), some (.int (nI (yB H (rd p c)))), some (.int (nI m))] [] (wO pc sd be (yLo s).1 (yLo s).2 n lg ht) := by
      intro k
      induction k with
      | zero =>
        intro m s sd be hm hsd hs hbe h
        have em : m = n := by omega
        subst em
        exact hZ.1 [33] 60 _ _ _ _ (And.intro (fun _ => h sd be (fun _ _ => rfl) hbe) (fun c => absurd (le_of (Nat.le_refl m) (by omega)) c))
      | succ k ihk =>
        intro m s sd be hm hsd hs hbe h
        have hb := bit_at (U := yMk (rd p c)) (m := m) (yMk_lt hmem) (by omega)
        unfold yFo at h
        refine hZ.1 [33] 60 _ _ _ _ (And.intro (fun c1 => absurd (show nI n ≤ nI m from c1) (nle_of (by omega) (by omega))) (fun _ => And.intro (fun c1 => ?_) (fun c1 => ?_)))
        · have hc : (rd p c).contains m = false := by rw [← yMk_bit]; exact hb.1.mp c1
          rw [hc] at h
          have hok2 : yOk n (rd (p + 1) (c * 7 + m)) = true := by
            rw [rd_next p c m (by omega)]
            unfold yOk
            rw [hok, hc, decide_eq_true (show m < n by omega)]
            rfl
          have hsd2 : ∀ q, q < p + 1 → upd sd (nI p).toNatClampNeg (nI m) q = nI ((c * 7 + m) / 7 ^ (p + 1 - 1 - q) % 7) := by
            intro q hq
            rw [nI_c0 (by omega)]
            by_cases e : q = p
            · subst e
              rw [pk_us, Nat.add_sub_cancel, Nat.sub_self, Nat.pow_zero, Nat.div_one]
              congr 1
              omega
            · rw [pk_un e, hsd q (by omega), show p + 1 - 1 - q = (p - 1 - q) + 1 by omega, Nat.pow_succ, Nat.mul_comm (7 ^ (p - 1 - q)) 7, ← Nat.div_div_eq_div_mul, show (c * 7 + m) / 7 = c by omega]
          refine And.intro (vi0 (by omega) (by omega)) (And.intro rfl (Or.inl ⟨rfl, rfl, t_above hn p m (wn p) (L m) (by omega) (by omega) (by rw [nI_c0 (by omega), pk_us]) (hwn p (by omega)).1 (hwn p (by omega)).2 (hL m (by omega)).1 (hL m (by omega)).2 ?_⟩))
          have hap : ∀ post' : zP, post' (some (.int (nI (yLk H m (rd p c))))) (wO pc (upd sd (nI p).toNatClampNeg (nI m)) be (yLo s).1 (yLo s).2 n lg ht) → zGoes mX3_apartInwardOf 1 2 [.ref 0, .int (nI p)] (wO pc (upd sd (nI p).toNatClampNeg (nI m)) be (yLo s).1 (yLo s).2 n lg ht) post' := by
            intro post' hq
            cases p with
            | zero => exact t_apartIn0 hq
            | succ p' =>
              have hc7 : c % 7 < n := yOk_mem hok (c % 7) (by unfold rd; exact List.mem_cons_self)
              exact t_apartIn p' m (c % 7) (H m) (H (c % 7)) (by omega) (by omega) (by omega) (by rw [nI_c0 (by omega), pk_us]) (by rw [nI_c0 (by omega), pk_un (by omega), hsd p' (by omega), Nat.add_sub_cancel, Nat.sub_self, Nat.pow_zero, Nat.div_one]) (hH m (by omega)).1 (hH m (by omega)).2 (hH (c % 7) hc7).1 (hH (c % 7) hc7).2 hq
          have key : ∀ post' : zP, (∀ sd' be', (∀ q, q < p + 1 → sd' q = upd sd (nI p).toNatClampNeg (nI m) q) → yBs n (yDf n wn L H d (p + 1) (c * 7 + m) s) be' → post' none (wO pc sd' be' (yLo (yDf n wn L H d (p + 1) (c * 7 + m) s)).1 (yLo (yDf n wn L H d (p + 1) (c * 7 + m) s)).2 n lg ht)) → zGoes (mX3_fillFrom (e + d + 1)) 0 6 [.ref 0, .int (nI p + 1), .int (nI (yMk (rd p c)) ||| (1 : Int32) <<< (nI m &&& 31)), .int (nI (yA wn L (rd p c)) + nI (wn p - L m)), .int (nI (yB H (rd p c)) + nI (yLk H m (rd p c)))] (wO pc (upd sd (nI p).toNatClampNeg (nI m)) be (yLo s).1 (yLo s).2 n lg ht) post' := by
            intro post' hq
            have e1 : (nI (yMk (rd p c)) ||| (1 : Int32) <<< (nI m &&& 31)) = nI (yMk (rd (p + 1) (c * 7 + m))) := by
              rw [hb.2.1, rd_next p c m (by omega)]
              rfl
            have e2 : nI (yA wn L (rd p c)) + nI (wn p - L m) = nI (yA wn L (rd (p + 1) (c * 7 + m))) := by
              rw [nI_add, rd_next p c m (by omega)]
              show _ = nI (yA wn L (rd p c) + (wn (rd p c).length - L m))
              rw [rd_len]
            have e3 : nI (yB H (rd p c)) + nI (yLk H m (rd p c)) = nI (yB H (rd (p + 1) (c * 7 + m))) := by
              rw [nI_add, rd_next p c m (by omega)]
              rfl
            rw [nI_1, e1, e2, e3]
            exact ih e (p + 1) (c * 7 + m) s _ be _ (by omega) hok2 hsd2 hs hbe hq
          refine And.intro rfl (Or.inl ⟨rfl, rfl, hap _ ?_⟩)
          refine Or.inl ⟨rfl, rfl, key _ (fun sd' be' hsd' hbe' => ?_)⟩
          have := ihk (m + 1) (yDf n wn L H d (p + 1) (c * 7 + m) s) sd' be' (by omega) (fun q hq => by rw [hsd' q (by omega), nI_c0 (by omega), pk_un (by omega), hsd q hq]) (yDf_S hn hw60 hH99 d (p + 1) (c * 7 + m) s (by omega) hok2 hs) hbe' (fun sd2 be2 hsd2 hbe2 => h sd2 be2 (fun q hq => by rw [hsd2 q hq, hsd' q (by omega), nI_c0 (by omega), pk_un (by omega)]) hbe2)
          rw [← nI_1] at this
          exact this
        · have hc : (rd p c).contains m = true := by
            rw [← yMk_bit]
            cases hx : (yMk (rd p c)).testBit m with
            | true => rfl
            | false => exact absurd (hb.1.mpr hx) c1
          rw [hc] at h
          have := ihk (m + 1) s sd be (by omega) hsd hs hbe h
          rw [← nI_1] at this
          exact this
    refine hZ.1 [33] 60 _ _ _ _ (And.intro rfl (Or.inl ⟨rfl, rfl, t_better s hs _ _ (by omega) (by omega) ?_⟩))
    refine And.intro (fun c1 => ?_) (fun c1 => And.intro (fun c2 => ?_) (fun c2 => absurd (nI_lt (show p < n by omega) (by omega)) c2))
    · have c1 := zb0 c1
      have := h sd be (fun _ _ => rfl)
      unfold yDf at this
      rw [c1] at this
      exact this hbe
    · have c1 := zb1 c1
      refine loop n 0 s sd be (by omega) hsd hs hbe (fun sd' be' h3 h4 => ?_)
      have := h sd' be' h3
      unfold yDf at this
      rw [c1] at this
      exact this h4
set_option maxRecDepth 100000 in
theorem t_arrange {la lp po : Int32} {wn L H : Nat → Nat} (hn : n ≤ 7) (hwn : ∀ p, p < n → sWant pc n p = nI (wn p) ∧ wn p ≤ 60) (hL : ∀ m, m < n → lg m = nI (L m) ∧ L m ≤ 60) (hH : ∀ m, m < n → ht m = nI (H m) ∧ H m ≤ 99) (h : ∀ sd' be', yBs n (yFin n wn L H) be' → post none (wO pc sd' be' (yLo (yFin n wn L H)).1 (yLo (yFin n wn L H)).2 n lg ht)) : zGoes mX3_arrange 0 2 [.ref 0, .int pc] (wO po sd be la lp n lg ht) post := by
  intro Z hZ
  have key := t_fill (pc := pc) (lg := lg) (ht := ht) hn hwn hL hH n (8 - n) 0 0 none sd be
  rw [show 8 - n + n + 1 = 9 by omega, yDf_Ex hn n 0 0 none rfl] at key
  exact hZ.1 [] 60 _ _ _ _ (Or.inl ⟨rfl, rfl, key _ (by omega) rfl (fun q hq => absurd hq (Nat.not_lt_zero _)) trivial trivial (fun sd' be' _ h2 => h sd' be' h2)⟩)
end OR
def yAns (n : Nat) (s : ySt) (p : Int32) : Int32 := match s with
  | none => 0
  | some (A, B, c) => if p = -1 then nI A else if p = -2 then nI B else nI (c / 7 ^ (n - 1 - p.toNatClampNeg) % 7)
theorem yAns_some (n A B c : Nat) (p : Int32) : yAns n (some (A, B, c)) p = if p = -1 then nI A else if p = -2 then nI B else nI (c / 7 ^ (n - 1 - p.toNatClampNeg) % 7) := rfl
def sOrder (n : Nat) (wn L H : Nat → Nat) (p : Int32) : Int32 := if p = -1 ∨ p = -2 ∨ sIn n p then yAns n (yFin n wn L H) p else -1001
section RWS
variable {t : Nat → Int32} {b : Nat} {c2 c3 c4 c5 c6 : zCell} {n : Nat} {lg ht : Nat → Int32} {x y : zLn} {sz : Int32} {kn : List (Option Nat)} {k0 k1 : Int32} {z : Nat} {sa sb sc : Nat → Int32} {c7 c8 c9 : zCell} {tr : Int64} {tl : zW}
variable {K : zP} {post : zP}

set_option maxRecDepth 100000 in
theorem c_order {po la lp : Int32} {sd be : Nat → Int32} {wn L H : Nat → Nat} (hn : n ≤ 7) (hwn : ∀ p, p < n → sWant x.2.2.2.1 n p = nI (wn p) ∧ wn p ≤ 60) (hL : ∀ m, m < n → lg m = nI (L m) ∧ L m ≤ 60) (hH : ∀ m, m < n → ht m = nI (H m) ∧ H m ≤ 99) (p : Int32) (h : ∀ po' la' lp' sd' be', post (some (.int (sOrder n wn L H p))) (wC t b c2 c3 c4 c5 c6 n lg ht x y sz kn k0 k1 z sa sb sc (.inr (.inr (3, [.ref 7, .ref 28, .int po', .ref 29, .int la', .int lp']))) (.inl (0, 7, sd')) (.inl (0, 7, be')) tr tl)) : zGoes mX7_order 1 2 [.ref 0, .int p] (wC t b c2 c3 c4 c5 c6 n lg ht x y sz kn k0 k1 z sa sb sc (.inr (.inr (3, [.ref 7, .ref 28, .int po, .ref 29, .int la, .int lp]))) (.inl (0, 7, sd)) (.inl (0, 7, be)) tr tl) post := by
  intro Z hZ
  have good : (p = -1 ∨ p = -2 ∨ sIn n p) → Z 23 [some (.ref 0), some (.int p)] [] (wC t b c2 c3 c4 c5 c6 n lg ht x y sz kn k0 k1 z sa sb sc (.inr (.inr (3, [.ref 7, .ref 28, .int po, .ref 29, .int la, .int lp]))) (.inl (0, 7, sd)) (.inl (0, 7, be)) tr tl) := by
    intro hp
    obtain ⟨A, B, c, hf⟩ := yFin_some (n := n) (wn := wn) (L := L) (H := H) hn
    unfold sOrder at h
    rw [if_pos hp, hf, yAns_some] at h
    refine hZ.1 [] 60 _ _ _ _ (And.intro rfl (Or.inr ⟨[27, 28, 29, 7, 8, 9], [.ref 0, .int x.2.2.2.1], wO po sd be la lp n lg ht, ⟨rfl, rfl, rfl⟩, ⟨Nat.le_of_ble_eq_true rfl, rfl⟩, rfl, t_arrange hn hwn hL hH (fun sd' be' hbe => ?_)⟩))
    rw [hf] at hbe ⊢
    refine And.intro (fun e => ?_) (fun e => And.intro (fun e2 => ?_) (fun e2 => u_isPlace p (fun q => ?_) (fun q => ?_)))
    · have := h x.2.2.2.1 (nI A) (nI B) sd' be'
      rw [if_pos e] at this
      exact this
    · have := h x.2.2.2.1 (nI A) (nI B) sd' be'
      rw [if_neg e, if_pos e2] at this
      exact this
    · have := h x.2.2.2.1 (nI A) (nI B) sd' be'
      rw [if_neg e, if_neg e2] at this
      obtain ⟨k, hk, rfl⟩ := (sIn_iff hn p).mp q
      rw [nI_c0 (by omega)] at this
      have hb : be' (nI k).toNatClampNeg = nI (c / 7 ^ (n - 1 - k) % 7) := by rw [nI_c0 (by omega)]; exact hbe k hk
      rw [← hb] at this
      exact And.intro (fun e => absurd e (by decide)) (fun _ => And.intro (vi0 (by omega) (by omega)) this)
    · rcases hp with w | w | w
      · exact absurd w e
      · exact absurd w e2
      · exact absurd w q
  refine hZ.1 [23] 60 _ _ _ _ (And.intro (fun e => good (Or.inl e)) (fun e => And.intro (fun e2 => good (Or.inr (Or.inl e2))) (fun e2 => u_isPlace p (fun q => ?_) (fun q => ?_))))
  · exact And.intro (fun w => absurd w (by decide)) (fun _ => good (Or.inr (Or.inr q)))
  · have := h po la lp sd be
    unfold sOrder at this
    rw [if_neg (fun w => w.elim e (fun w => w.elim e2 q))] at this
    exact And.intro (fun _ => this) (fun w => absurd rfl w)
end RWS
