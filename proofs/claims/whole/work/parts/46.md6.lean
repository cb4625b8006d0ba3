
theorem a276 : (276 : Int32) = nI 276 := by decide
theorem sFit_cong {a b c i i' : Nat → Int32} {k : Int32} {z : Nat} (h : ∀ j, j < z → i (a j).toNatClampNeg = i' (a j).toNatClampNeg) : sFit a b c i k z = sFit a b c i' k z := by
  cases e : sFit a b c i' k z with
  | true =>
    refine sFit_go (fun j hj hb => ?_)
    unfold sFit at e
    rw [List.all_eq_true] at e
    have := e j (List.mem_range.mpr hj)
    rw [decide_eq_true_eq] at this
    rw [h j hj]
    exact this hb
  | false =>
    cases e2 : sFit a b c i k z with
    | false => rfl
    | true =>
      exfalso
      unfold sFit at e2
      rw [List.all_eq_true] at e2
      have : sFit a b c i' k z = true := sFit_go (fun j hj hb => by
        have := e2 j (List.mem_range.mpr hj)
        rw [decide_eq_true_eq] at this
        rw [← h j hj]
        exact this hb)
      rw [this] at e
      cases e
def sInStepM (n : Nat) : Nat → Nat → (Nat → Int32) → Int32
  | 0, _, _ => -1009
  | r + 1, k, f => if sAlike f n then nI k else sInStepM n r (k + 1) (sFill (sFt f n) f n)
theorem sInStep_M (n : Nat) (lg : Nat → Int32) : ∀ (r k : Nat) (y : zLn), sInStep n lg r k y = sInStepM n r k y.2.2.1
  | 0, _, _ => rfl
  | r + 1, k, y => by
    unfold sInStep sInStepM
    rw [sInStep_M n lg r (k + 1)]
    rfl
theorem sAlike_iff {f : Nat → Int32} {n : Nat} : sAlike f n = true ↔ ∀ p, 1 ≤ p → p < n → f p = f 0 := by
  constructor
  · intro h p
    induction p with
    | zero => intro h1; omega
    | succ p ih =>
      intro _ hp
      unfold sAlike at h
      rw [List.all_eq_true] at h
      have := h p (List.mem_range.mpr (by omega))
      rw [decide_eq_true_eq] at this
      rw [← this]
      rcases Nat.eq_zero_or_pos p with q | q
      · rw [q]
      · exact ih q (by omega)
  · intro h
    refine sAlike_go (fun p hp => ?_)
    rw [h (p + 1) (by omega) hp]
    rcases Nat.eq_zero_or_pos p with q | q
    · rw [q]
    · exact h p q (by omega)
theorem sAlike_cong {f g : Nat → Int32} {n : Nat} (h : ∀ k, k < n → f k = g k) : sAlike f n = sAlike g n := by
  cases e : sAlike g n with
  | true =>
    rw [sAlike_iff] at e ⊢
    intro p h1 h2
    rw [h p h2, h 0 (by omega)]
    exact e p h1 h2
  | false =>
    cases e2 : sAlike f n with
    | false => rfl
    | true =>
      exfalso
      rw [sAlike_iff] at e2
      have : sAlike g n = true := sAlike_iff.mpr (fun p h1 h2 => by rw [← h p h2, ← h 0 (by omega)]; exact e2 p h1 h2)
      rw [this] at e
      cases e
theorem sInStepM_cong {n : Nat} (hn : n ≤ 7) : ∀ (r k : Nat) (f g : Nat → Int32), (∀ j, j < 7 → f j = g j) → sInStepM n r k f = sInStepM n r k g
  | 0, _, _, _, _ => rfl
  | r + 1, k, f, g, h => by
    unfold sInStepM
    rw [sAlike_cong (fun j hj => h j (by omega)), sInStepM_cong hn r (k + 1) (sFill (sFt f n) f n) (sFill (sFt g n) g n) (fun j hj => by
      unfold sFill
      by_cases c : j < n
      · rw [if_pos c, if_pos c]; exact sFt_cong hn c h
      · rw [if_neg c, if_neg c]; exact h j hj)]
section MD
variable {tr : Int64} {tx : Nat → Int32} {ty n : Nat} {m1 : Int32} {lg ht la : Nat → Int32} {at_ st_ so_ va_ fa_ to_ : Int32} {nw ik td th : Nat → Int32} {ba bp br : Int32} {sa sb sc : Nat → Int32} {z : Nat}
variable {K : zP} {post : zP}

set_option maxRecDepth 100000 in
theorem m_undo0 (h25 : nw 25 = 0) (h : post (some (.int (-1002))) (wD tr tx ty n m1 lg ht la at_ st_ so_ va_ fa_ to_ nw ik td th ba bp br sa sb sc z)) : zGoes mX8_undo 1 2 [.ref 0] (wD tr tx ty n m1 lg ht la at_ st_ so_ va_ fa_ to_ nw ik td th ba bp br sa sb sc z) post := fun Z hZ => hZ.1 [] 60 _ _ _ _ (And.intro (vpd (by decide)) (And.intro (fun _ => h) (fun e => absurd h25 e)))
set_option maxRecDepth 100000 in
theorem m_undo {s : Nat} {y : zLn} (hs : s < 10) (h25 : nw 25 = nI (s + 1)) (hy : ∀ k, k < 25 → nw (26 + 25 * s + k) = mT y k) (h : ∀ nw', mIs nw' y → nw' 25 = nI s → (∀ k, 25 < k → nw' k = nw k) → post (some (.int (nI s))) (wD tr tx ty n m1 lg ht la at_ st_ so_ va_ fa_ to_ nw' ik td th ba bp br sa sb sc z)) : zGoes mX8_undo 1 2 [.ref 0] (wD tr tx ty n m1 lg ht la at_ st_ so_ va_ fa_ to_ nw ik td th ba bp br sa sb sc z) post := by
  intro Z hZ
  obtain ⟨G, hG⟩ : ∃ G, G = upd nw 25 (nI s) := ⟨_, rfl⟩
  have g25 : G 25 = nI s := by rw [hG]; exact pk_us
  have loop : ∀ (d p : Nat), p + d = 25 → Z 27 [some (.ref 0), some (.int (nI p))] [] (wD tr tx ty n m1 lg ht la at_ st_ so_ va_ fa_ to_ (sFill (fun k => G (26 + 25 * s + k)) G p) ik td th ba bp br sa sb sc z) := by
    intro d
    induction d with
    | zero =>
      intro p hp
      have e : p = 25 := by omega
      subst e
      refine hZ.1 [27] 60 _ _ _ _ (And.intro (fun c => And.intro (vpd (by decide)) ?_) (fun c => absurd (by decide) c))
      have e2 : (sFill (fun k => G (26 + 25 * s + k)) G 25) 25 = nI s := by rw [sFill_ge (by omega), g25]
      have := h (sFill (fun k => G (26 + 25 * s + k)) G 25) (fun k hk => by
        rw [sFill_lt hk, ← hy k hk, hG]
        exact pk_un (by omega)) e2 (fun k hk => by rw [sFill_ge (by omega), hG]; exact pk_un (by omega))
      rw [← e2] at this
      exact this
    | succ d ih =>
      intro p hp
      have eG : sFill (fun k => G (26 + 25 * s + k)) G p (25 : Int32).toNatClampNeg = nI s := by
        show sFill _ G p 25 = _
        rw [sFill_ge (by omega), g25]
      have ei : (26 + 25 * sFill (fun k => G (26 + 25 * s + k)) G p (25 : Int32).toNatClampNeg + nI p : Int32) = nI (26 + 25 * s + p) := by rw [eG, a26, a25, pk_mul, nI_add, nI_add]
      refine hZ.1 [27] 60 _ _ _ _ (And.intro (fun c => ?_) (fun c => And.intro (vpd (by decide)) (And.intro (by rw [ei]; exact vi0 (by omega) (by omega)) (And.intro (vi0 (by omega) (by omega)) ?_))))
      · rw [a25] at c
        exact absurd c (nle_of (by omega) (by omega))
      · have := ih (p + 1) (by omega)
        have e : upd (sFill (fun k => G (26 + 25 * s + k)) G p) (nI p).toNatClampNeg (sFill (fun k => G (26 + 25 * s + k)) G p (26 + 25 * sFill (fun k => G (26 + 25 * s + k)) G p (25 : Int32).toNatClampNeg + nI p : Int32).toNatClampNeg) = sFill (fun k => G (26 + 25 * s + k)) G (p + 1) := by
          rw [ei, nI_c0 (by omega), nI_c0 (by omega), sFill_ge (by omega)]
          exact sFill_upd (fun k => G (26 + 25 * s + k)) G p
        rw [← nI_1, ← e] at this
        exact this
  have := loop 25 0 (by omega)
  rw [sFill_0, hG] at this
  have e1 : nw (25 : Int32).toNatClampNeg = nI (s + 1) := h25
  have e2 : upd nw (25 : Int32).toNatClampNeg (nw (25 : Int32).toNatClampNeg - 1) = upd nw 25 (nI s) := by rw [e1, nI_pred]; rfl
  rw [← e2] at this
  exact hZ.1 [27] 60 _ _ _ _ (And.intro (vpd (by decide)) (And.intro (fun e => absurd (h25.symm.trans e) (nI_ne0 (by omega) (by omega))) (fun _ => And.intro (vpd (by decide)) (And.intro (vpd (by decide)) this))))
set_option maxRecDepth 100000 in
theorem m_keep (a : Int32) (h1 : ∀ i, i < 2 → a = nI i → post (some (.int (nw 24))) (wD tr tx ty n m1 lg ht la at_ st_ so_ va_ fa_ to_ (sFo (276 * (1 + i)) nw nw 276) (upd ik i 1) td th ba bp br sa sb sc z)) (hb : ¬ (0 ≤ a ∧ a ≤ 1) → post (some (.int (-1001))) (wD tr tx ty n m1 lg ht la at_ st_ so_ va_ fa_ to_ nw ik td th ba bp br sa sb sc z)) : zGoes mX8_keep 1 3 [.ref 0, .int a] (wD tr tx ty n m1 lg ht la at_ st_ so_ va_ fa_ to_ nw ik td th ba bp br sa sb sc z) post := by
  intro Z hZ
  refine hZ.1 [15] 60 _ _ _ _ (u_in a 0 1 (fun q => ?_) (fun q => ?_))
  · obtain ⟨i, hi, rfl⟩ := in60 (m := 1) rfl q
    have ee : (276 * (1 + nI i) : Int32) = nI (276 * (1 + i)) := by rw [← n1, a276, nI_add, pk_mul]
    have loop : ∀ (d p : Nat), p + d = 276 → Z 15 [some (.ref 0), some (.int (nI i)), some (.int (nI p))] [] (wD tr tx ty n m1 lg ht la at_ st_ so_ va_ fa_ to_ (sFo (276 * (1 + i)) nw nw p) ik td th ba bp br sa sb sc z) := by
      intro d
      induction d with
      | zero =>
        intro p hp
        have e : p = 276 := by omega
        subst e
        refine hZ.1 [15] 60 _ _ _ _ (And.intro (fun c => And.intro (vi0 (by omega) (by omega)) (And.intro (vpd (by decide)) ?_)) (fun c => absurd (by decide) c))
        have := h1 i (by omega) rfl
        have e1 : upd ik (nI i).toNatClampNeg (vp_nar .boolean 1) = upd ik i 1 := by rw [nI_c0 (by omega)]; rfl
        have e2 : sFo (276 * (1 + i)) nw nw 276 24 = nw 24 := sFo_out (by omega)
        rw [← e1, ← e2] at this
        exact this
      | succ d ih =>
        intro p hp
        refine hZ.1 [15] 60 _ _ _ _ (And.intro (fun c => ?_) (fun c => And.intro (vi0 (by omega) (by omega)) (And.intro (by rw [ee, nI_add]; exact vi0 (by omega) (by omega)) ?_)))
        · rw [a276] at c
          exact absurd c (nle_of (by omega) (by omega))
        · have := ih (p + 1) (by omega)
          have e : upd (sFo (276 * (1 + i)) nw nw p) (276 * (1 + nI i) + nI p : Int32).toNatClampNeg (sFo (276 * (1 + i)) nw nw p (nI p).toNatClampNeg) = sFo (276 * (1 + i)) nw nw (p + 1) := by
            rw [ee, nI_add, nI_c0 (by omega), nI_c0 (by omega), sFo_out (by omega), sFo_upd]
          rw [← nI_1, ← e] at this
          exact this
    have := loop 276 0 (by omega)
    rw [sFo_0] at this
    exact And.intro (fun e => absurd e (by decide)) (fun _ => this)
  · exact And.intro (fun _ => hb q) (fun e => absurd rfl e)
set_option maxRecDepth 100000 in
theorem m_back (a : Int32) (h1 : ∀ i, i < 2 → a = nI i → ¬ ik i = 0 → post (some (.int (nw (276 * (1 + i) + 24)))) (wD tr tx ty n m1 lg ht la at_ st_ so_ va_ fa_ to_ (sFill (fun k => nw (276 * (1 + i) + k)) nw 276) ik td th ba bp br sa sb sc z)) (h0 : ∀ i, i < 2 → a = nI i → ik i = 0 → post (some (.int (-1002))) (wD tr tx ty n m1 lg ht la at_ st_ so_ va_ fa_ to_ nw ik td th ba bp br sa sb sc z)) (hb : ¬ (0 ≤ a ∧ a ≤ 1) → post (some (.int (-1001))) (wD tr tx ty n m1 lg ht la at_ st_ so_ va_ fa_ to_ nw ik td th ba bp br sa sb sc z)) : zGoes mX8_back 1 3 [.ref 0, .int a] (wD tr tx ty n m1 lg ht la at_ st_ so_ va_ fa_ to_ nw ik td th ba bp br sa sb sc z) post := by
  intro Z hZ
  refine hZ.1 [28] 60 _ _ _ _ (u_in a 0 1 (fun q => ?_) (fun q => ?_))
  · obtain ⟨i, hi, rfl⟩ := in60 (m := 1) rfl q
    have ee : (276 * (1 + nI i) : Int32) = nI (276 * (1 + i)) := by rw [← n1, a276, nI_add, pk_mul]
    refine And.intro (fun e => absurd e (by decide)) (fun _ => And.intro (vi0 (by omega) (by omega)) (And.intro (fun c => ?_) (fun c => ?_)))
    · rw [nI_c0 (by omega)] at c
      exact h0 i (by omega) rfl c
    · rw [nI_c0 (by omega)] at c
      have h1 := h1 i (by omega) rfl c
      have loop : ∀ (d p : Nat), p + d = 276 → Z 28 [some (.ref 0), some (.int (nI i)), some (.int (nI p))] [] (wD tr tx ty n m1 lg ht la at_ st_ so_ va_ fa_ to_ (sFill (fun k => nw (276 * (1 + i) + k)) nw p) ik td th ba bp br sa sb sc z) := by
        intro d
        induction d with
        | zero =>
          intro p hp
          have e : p = 276 := by omega
          subst e
          refine hZ.1 [28] 60 _ _ _ _ (And.intro (fun c => And.intro (vpd (by decide)) ?_) (fun c => absurd (by decide) c))
          have e2 : sFill (fun k => nw (276 * (1 + i) + k)) nw 276 24 = nw (276 * (1 + i) + 24) := sFill_lt (by omega)
          rw [← e2] at h1
          exact h1
        | succ d ih =>
          intro p hp
          refine hZ.1 [28] 60 _ _ _ _ (And.intro (fun c => ?_) (fun c => And.intro (by rw [ee, nI_add]; exact vi0 (by omega) (by omega)) (And.intro (vi0 (by omega) (by omega)) ?_)))
          · rw [a276] at c
            exact absurd c (nle_of (by omega) (by omega))
          · have := ih (p + 1) (by omega)
            have e : upd (sFill (fun k => nw (276 * (1 + i) + k)) nw p) (nI p).toNatClampNeg (sFill (fun k => nw (276 * (1 + i) + k)) nw p (276 * (1 + nI i) + nI p : Int32).toNatClampNeg) = sFill (fun k => nw (276 * (1 + i) + k)) nw (p + 1) := by
              rw [ee, nI_add, nI_c0 (by omega), nI_c0 (by omega), sFill_ge (by omega)]
              exact sFill_upd (fun k => nw (276 * (1 + i) + k)) nw p
            rw [← nI_1, ← e] at this
            exact this
      have := loop 276 0 (by omega)
      rw [sFill_0] at this
      exact this
  · exact And.intro (fun _ => hb q) (fun e => absurd rfl e)
set_option maxRecDepth 100000 in
theorem m_rate {x : zLn} (hx : mIs nw x) (hn : n ≤ 7) (hw : ∀ k, k < n → vp_in (x.1 k) 7) (kd p : Int32) (h : post (some (.int (sRate n lg x kd p))) (wD (sRateT n kd p tr) tx ty n m1 lg ht la at_ st_ so_ va_ fa_ to_ nw ik td th ba bp br sa sb sc z)) : zGoes mX8_rate 1 6 [.ref 0, .int kd, .int p] (wD tr tx ty n m1 lg ht la at_ st_ so_ va_ fa_ to_ nw ik td th ba bp br sa sb sc z) post := by
  intro Z hZ
  have bad : ¬ ((0 ≤ kd ∧ kd ≤ 5) ∧ sIn n p) → Z 17 [some (.ref 0), some (.int kd), some (.int p), none, none, none] [] (wD tr tx ty n m1 lg ht la at_ st_ so_ va_ fa_ to_ nw ik td th ba bp br sa sb sc z) := by
    intro hb
    refine hZ.1 [] 20 _ _ _ _ ?_
    unfold sRate sRateT at h
    by_cases q : sIn n p
    · have nb : ∀ v : Int32, 0 ≤ v → v ≤ 5 → ¬ kd = v := fun v h1 h2 e => hb ⟨by rw [e]; exact ⟨h1, h2⟩, q⟩
      rw [if_pos q, if_pos q] at h
      simp only [nb 0 (by decide) (by decide), nb 1 (by decide) (by decide), nb 2 (by decide) (by decide), nb 3 (by decide) (by decide), nb 4 (by decide) (by decide), nb 5 (by decide) (by decide), if_false] at h
      exact h
    · rw [if_neg q, if_neg q] at h
      exact h
  refine hZ.1 [17] 60 _ _ _ _ (u_in kd 0 5 (fun q2 => ?_) (fun q2 => ?_))
  · refine And.intro (fun e => absurd e (by decide)) (fun _ => u_misPlace p (fun q => ?_) (fun q => ?_))
    · obtain ⟨k, hk, rfl⟩ := (sIn_iff hn p).mp q
      unfold sRate sRateT at h
      rw [if_pos q, if_pos q, nI_c0 (by omega)] at h
      have ew : nw (0 + nI k).toNatClampNeg = x.1 k := by rw [cA a0 (by omega), Nat.zero_add]; exact mIs_w hx (by omega)
      have ei : nw (7 + nI k).toNatClampNeg = x.2.1 k := by rw [cA a7 (by omega)]; exact mIs_i hx (by omega)
      have ef : nw (14 + nI k).toNatClampNeg = x.2.2.1 k := by rw [cA a14 (by omega)]; exact mIs_f hx (by omega)
      have el : lg (nw (0 + nI k).toNatClampNeg).toNatClampNeg = lg (x.1 k).toNatClampNeg := by rw [ew]
      rw [← sWant_F hx, ← el] at h
      refine And.intro (fun e => absurd e (by decide)) (fun _ => And.intro (vpd (by decide)) (u_mwantsN hn k (And.intro (vA a0 (by omega) (by omega)) (And.intro (by rw [ew]; exact vp_wide (hw k hk) (by omega)) (And.intro (vA a7 (by omega) (by omega)) (And.intro (fun e => ?_) (And.intro (fun e => ?_) (And.intro (fun e => ?_) (And.intro (fun e => ?_) (And.intro (fun e => ?_) (And.intro (fun e => ?_) trivial)))))))))))
      · have e5 : kd = 5 := by
          obtain ⟨a, ha, rfl⟩ := in60 (m := 5) rfl q2
          rw [nI_toInt (by omega)] at e
          have : a = 5 := by omega
          subst this
          decide
        subst e5
        have h : post (some (.int (sWant (nw 21) n k + x.2.2.1 k * 9))) (wD (tr + 100001) tx ty n m1 lg ht la at_ st_ so_ va_ fa_ to_ nw ik td th ba bp br sa sb sc z) := h
        rw [Int32.mul_comm, ← ef] at h
        exact And.intro (vA a14 (by omega) (by omega)) h
      · have e : kd = 0 := tI e rfl
        subst e; exact h
      · have e : kd = 1 := tI e rfl
        subst e; exact h
      · have e : kd = 2 := tI e rfl
        subst e
        have h : post (some (.int (sWant (nw 21) n k - x.2.1 k))) (wD (tr + 101) tx ty n m1 lg ht la at_ st_ so_ va_ fa_ to_ nw ik td th ba bp br sa sb sc z) := h
        rw [← ei] at h
        exact h
      · have e : kd = 3 := tI e rfl
        subst e
        have h : post (some (.int ((sWant (nw 21) n k + lg (nw (0 + nI k).toNatClampNeg).toNatClampNeg) * 2))) (wD (tr + 1011) tx ty n m1 lg ht la at_ st_ so_ va_ fa_ to_ nw ik td th ba bp br sa sb sc z) := h
        rw [Int32.mul_comm] at h
        exact h
      · have e : kd = 4 := tI e rfl
        subst e
        have h : post (some (.int (sWant (nw 21) n k - x.2.1 k + sBulge x.2.1 (n - 1)))) (wD (tr + 10101) tx ty n m1 lg ht la at_ st_ so_ va_ fa_ to_ nw ik td th ba bp br sa sb sc z) := h
        rw [← ei, ← mBulge hn hx] at h
        exact u_mbulgeN hn h
    · exact And.intro (fun _ => bad (fun w => q w.2)) (fun e => absurd rfl e)
  · exact And.intro (fun _ => bad (fun w => q2 w.1)) (fun e => absurd rfl e)
set_option maxRecDepth 100000 in
theorem m_inStep {x : zLn} (hx : mIs nw x) (hn : n ≤ 7) (h : ∀ td' th', post (some (.int (sInStepM n 21 0 x.2.2.1))) (wD tr tx ty n m1 lg ht la at_ st_ so_ va_ fa_ to_ nw ik td' th' ba bp br sa sb sc z)) : zGoes mX8_inStep 1 4 [.ref 0] (wD tr tx ty n m1 lg ht la at_ st_ so_ va_ fa_ to_ nw ik td th ba bp br sa sb sc z) post := by
  intro Z hZ
  have loop : ∀ (d k : Nat) (o2 o3 : Option Value) (td th : Nat → Int32), k + d = 21 → (∀ td' th', post (some (.int (sInStepM n d k (fun j => td (14 + j))))) (wD tr tx ty n m1 lg ht la at_ st_ so_ va_ fa_ to_ nw ik td' th' ba bp br sa sb sc z)) → Z 6 [some (.ref 0), some (.int (nI k)), o2, o3] [] (wD tr tx ty n m1 lg ht la at_ st_ so_ va_ fa_ to_ nw ik td th ba bp br sa sb sc z) := by
    intro d
    induction d with
    | zero =>
      intro k o2 o3 td th hk h
      have e : k = 21 := by omega
      subst e
      exact hZ.1 [6] 60 _ _ _ _ (And.intro (fun c => h _ _) (fun c => absurd (by decide) c))
    | succ d ih =>
      intro k o2 o3 td th hk h
      unfold sInStepM at h
      have inner : ∀ (d2 p : Nat) (bo : Bool), p + d2 = (if n = 0 then 1 else n) → 1 ≤ p → (bo = true ↔ ∀ j, 1 ≤ j → j < p → td (14 + j) = td 14) → Z 16 [some (.ref 0), some (.int (nI k)), some (.int (zb bo)), some (.int (nI p))] [] (wD tr tx ty n m1 lg ht la at_ st_ so_ va_ fa_ to_ nw ik td th ba bp br sa sb sc z) := by
        intro d2
        induction d2 with
        | zero =>
          intro p bo hp h1 hbo
          have hpn : n ≤ p := by split at hp <;> omega
          have hpn2 : p ≤ n + 1 := by split at hp <;> omega
          have e : bo = sAlike (fun j => td (14 + j)) n := by
            cases bo with
            | true => exact (sAlike_iff.mpr (fun j h2 h3 => hbo.mp rfl j h2 (by omega))).symm
            | false =>
              cases e2 : sAlike (fun j => td (14 + j)) n with
              | false => rfl
              | true =>
                have := hbo.mpr (fun j h2 h3 => sAlike_iff.mp e2 j h2 (by split at hp <;> omega))
                cases this
          refine hZ.1 [6, 16] 60 _ _ _ _ (And.intro (vpd (by decide)) (And.intro (fun c => And.intro (fun c2 => ?_) (fun c2 => ?_)) (fun c => absurd (le_of (n := n) (p := p) hpn (by omega)) c)))
          · rw [← e, zb0 c2] at h
            refine u_hopAllT hn (fun th' => ?_)
            have := ih (k + 1) (some (.int (zb bo))) (some (.int (nI p))) (sFo 14 (sFt (fun k => td (14 + k)) n) td n) th' (by omega) (fun td2 th2 => by
              have := h td2 th2
              rw [sInStepM_cong hn d (k + 1) (fun j => sFo 14 (sFt (fun k => td (14 + k)) n) td n (14 + j)) (sFill (sFt (fun j => td (14 + j)) n) (fun j => td (14 + j)) n) (fun j hj => by
                rcases Nat.lt_or_ge j n with c3 | c3
                · rw [sFo_in c3, sFill_lt c3]
                · rw [sFo_out (by omega), sFill_ge c3])]
              exact this)
            rw [← nI_1] at this
            exact this
          · rw [← e, zb1 c2] at h
            exact h _ _
        | succ d2 ih2 =>
          intro p bo hp h1 hbo
          have hpn : p < n := by split at hp <;> omega
          have ef : td (14 + nI p).toNatClampNeg = td (14 + p) := by rw [cA a14 (by omega)]
          have next : ∀ (b2 : Bool), (b2 = true ↔ (bo = true ∧ td (14 + p) = td 14)) → Z 54 [some (.ref 0), some (.int (nI k)), some (.int (zb bo)), some (.int (nI p))] [.int (zb b2)] (wD tr tx ty n m1 lg ht la at_ st_ so_ va_ fa_ to_ nw ik td th ba bp br sa sb sc z) := by
            intro b2 hb2
            have := ih2 (p + 1) b2 (by omega) (by omega) ⟨fun w j h2 h3 => by
              obtain ⟨w1, w2⟩ := hb2.mp w
              rcases Nat.lt_or_ge j p with q | q
              · exact hbo.mp w1 j h2 q
              · have : j = p := by omega
                subst this; exact w2, fun w => hb2.mpr ⟨hbo.mpr (fun j h2 h3 => w j h2 (by omega)), w p h1 (by omega)⟩⟩
            rw [← nI_1] at this
            exact hZ.1 [16] 60 _ _ _ _ this
          refine hZ.1 [16, 54] 60 _ _ _ _ (And.intro (vpd (by decide)) (And.intro (fun c => ?_) (fun c => And.intro (fun c2 => ?_) (fun c2 => And.intro (vA a14 (by omega) (by omega)) (And.intro (vpd (by decide)) (And.intro (fun c3 => ?_) (fun c3 => ?_)))))))
          · exact absurd (show nI n ≤ nI p from c) (nle_of (by omega) (by omega))
          · exact next false ⟨fun w => (by cases w), fun w => by rw [zb0 c2] at w; exact w.1⟩
          · rw [ef] at c3
            exact next true ⟨fun _ => ⟨zb1 c2, c3⟩, fun _ => rfl⟩
          · rw [ef] at c3
            exact next false ⟨fun w => (by cases w), fun w => absurd w.2 c3⟩
      refine hZ.1 [6, 16] 60 _ _ _ _ (And.intro (fun c => ?_) (fun c => inner ((if n = 0 then 1 else n) - 1) 1 true (by split <;> omega) (by omega) ⟨fun _ j h2 h3 => by omega, fun _ => rfl⟩))
      rw [show (20 : Int32) = nI 20 by decide] at c
      exact absurd c (nI_nlt (by omega) (by omega))
  refine hZ.1 [6] 60 _ _ _ _ (u_take (fun td' htd => loop 21 0 none none td' _ (by omega) (fun td2 th2 => ?_)))
  rw [sInStepM_cong hn 21 0 (fun j => td' (14 + j)) x.2.2.1 (fun j hj => by
    show td' (14 + j) = _
    rw [htd _ (by omega)]
    exact mIs_f hx hj)]
  exact h td2 th2

end MD
