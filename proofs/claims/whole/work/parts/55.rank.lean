
/-! the text: all of it; rank -/
/-- what holds of a state that is told so far -/
def pOK (due : Nat) (s : pS) : Prop := due ≤ 6 ∧ s.1 ≤ 7 ∧ (due = 1 ∨ due = 2 → s.1 < 7) ∧ (∀ v, s.2.2.2.1 = some v → 1 ≤ v ∧ v ≤ 60) ∧ (∀ v, s.2.2.2.2.1 = some v → v ≤ 10) ∧ (∀ v, s.2.2.2.2.2.1 = some v → v ≤ 10) ∧ ∀ j, j < s.1 → (1 ≤ s.2.1 j ∧ s.2.1 j ≤ 60) ∧ (1 ≤ s.2.2.1 j ∧ s.2.2.1 j ≤ 99)
def pLG (due l : Nat) : Prop := due = 2 → 1 ≤ l ∧ l ≤ 60
theorem pGet_some {o : Option Nat} {f : Nat → Nat × Nat × pS} {q : Nat × Nat × pS} (h : pGet o f = some q) : ∃ v, o = some v ∧ q = f v := by
  cases o with
  | none => cases h
  | some v => exact ⟨v, rfl, (Option.some.inj h).symm⟩
theorem pDo_OK {T : Nat} {V : Option Nat} {due l : Nat} {s : pS} {q : Nat × Nat × pS} (h : pDo T V due l s = some q) (ho : pOK due s) (hl : pLG due l) : pOK q.1 q.2.2 ∧ pLG q.1 q.2.1 := by
  obtain ⟨o1, o2, o3, o4, o5, o6, o7⟩ := ho
  unfold pDo at h
  by_cases d0 : due = 0
  · rw [if_pos d0] at h
    split at h
    · split at h
      · split at h
        · cases h; exact ⟨⟨Nat.le_of_ble_eq_true rfl, o2, fun w => by omega, o4, o5, o6, o7⟩, fun w => by cases w⟩
        · cases h
      · split at h
        · split at h
          · rename_i h7
            cases h; exact ⟨⟨Nat.le_of_ble_eq_true rfl, o2, fun _ => h7, o4, o5, o6, o7⟩, fun w => by cases w⟩
          · cases h
        · split at h
          · split at h
            · cases h; exact ⟨⟨Nat.le_of_ble_eq_true rfl, o2, fun w => by omega, o4, o5, o6, o7⟩, fun w => by cases w⟩
            · cases h
          · split at h
            · split at h
              · cases h; exact ⟨⟨Nat.le_of_ble_eq_true rfl, o2, fun w => by omega, o4, o5, o6, o7⟩, fun w => by cases w⟩
              · cases h
            · cases h
    · cases h
  · rw [if_neg d0] at h
    by_cases d1 : due = 1
    · rw [if_pos d1] at h
      obtain ⟨v, hv, rfl⟩ := pGet_some h
      have := pNum_lt hv
      exact ⟨⟨Nat.le_of_ble_eq_true rfl, o2, fun _ => o3 (Or.inl d1), o4, o5, o6, o7⟩, fun _ => this⟩
    · rw [if_neg d1] at h
      by_cases d2 : due = 2
      · rw [if_pos d2] at h
        obtain ⟨v, hv, rfl⟩ := pGet_some h
        have hv2 := pNum_lt hv
        have hk := o3 (Or.inr d2)
        have hl2 := hl d2
        refine ⟨⟨by show 6 ≤ 6; omega, by show s.1 + 1 ≤ 7; omega, fun w => by have w : 6 = 1 ∨ 6 = 2 := w; omega, o4, o5, o6, fun j hj => ?_⟩, fun w => by cases w⟩
        show (1 ≤ pUp s.2.1 s.1 l j ∧ pUp s.2.1 s.1 l j ≤ 60) ∧ (1 ≤ pUp s.2.2.1 s.1 v j ∧ pUp s.2.2.1 s.1 v j ≤ 99)
        unfold pUp
        by_cases c : j = s.1
        · rw [if_pos c, if_pos c]; exact ⟨hl2, hv2⟩
        · rw [if_neg c, if_neg c]
          exact o7 j (by have hj : j < s.1 + 1 := hj; omega)
      · rw [if_neg d2] at h
        by_cases d3 : due = 3
        · rw [if_pos d3] at h
          obtain ⟨v, hv, rfl⟩ := pGet_some h
          have hv2 := pNum_lt hv
          exact ⟨⟨Nat.le_of_ble_eq_true rfl, o2, fun w => by omega, fun u hu => by cases hu; exact hv2, o5, o6, o7⟩, fun w => by cases w⟩
        · rw [if_neg d3] at h
          by_cases d4 : due = 4
          · rw [if_pos d4] at h
            obtain ⟨v, hv, rfl⟩ := pGet_some h
            have hv2 := pNum_lt hv
            exact ⟨⟨Nat.le_of_ble_eq_true rfl, o2, fun w => by omega, o4, fun u hu => by cases hu; exact hv2.2, o6, o7⟩, fun w => by cases w⟩
          · rw [if_neg d4] at h
            by_cases d5 : due = 5
            · rw [if_pos d5] at h
              obtain ⟨v, hv, rfl⟩ := pGet_some h
              have hv2 := pNum_lt hv
              exact ⟨⟨Nat.le_of_ble_eq_true rfl, o2, fun w => by omega, o4, o5, fun u hu => by cases hu; exact hv2.2, o7⟩, fun w => by cases w⟩
            · rw [if_neg d5] at h
              split at h
              · cases h; exact ⟨⟨Nat.le_of_ble_eq_true rfl, o2, fun w => by omega, o4, o5, o6, o7⟩, fun w => by cases w⟩
              · cases h
theorem pOK_0 : pOK 0 pS0 := ⟨by decide, by decide, fun w => (by omega), fun v h => (by cases h), fun v h => (by cases h), fun v h => (by cases h), fun j h => absurd h (Nat.not_lt_zero _)⟩
section TL
variable {pp ee ww it st : Int32} {r : Nat} {ln at_ tk va du lv : Int32} {k : Nat} {la ha tx : Nat → Int32} {post : zP} {K : zP} {tb : Nat → Nat} {N : Nat}
set_option maxRecDepth 100000 in
set_option maxHeartbeats 4000000 in
theorem t_under (hN : N ≤ 120) (htx : ∀ j, j < N → tx j = nI (tb j) ∧ tb j < 256) (h1 : ∀ s, pR tb N (N + 1) 0 0 0 pS0 = .inr s → pOK 0 s → ∀ st ln at_ tk va du lv la ha, (∀ j, j < s.1 → la j = nI (s.2.1 j) ∧ ha j = nI (s.2.2.1 j)) → post (some (.int 1)) (wT (oI s.2.2.2.1) (oI s.2.2.2.2.1) (oI s.2.2.2.2.2.1) (nI s.2.2.2.2.2.2) st 4 ln at_ tk va du lv (s.1) la ha tx)) (h0 : ∀ f, pR tb N (N + 1) 0 0 0 pS0 = .inl f → f ≤ N → ∀ pp ee ww it ln at_ tk va du lv k la ha, post (some (.int 0)) (wT pp ee ww it (nI f) 4 ln at_ tk va du lv k la ha tx)) : zGoes mX6_understands 3 4 [.ref 0, .ref 4, .int (nI N)] (wT pp ee ww it st r ln at_ tk va du lv k la ha tx) post := by
  intro Z hZ
  have hb : ∀ j, j < N → tb j < 256 := fun j hj => (htx j hj).2
  have loop : ∀ (f c i due l : Nat) (s : pS) (st tk va lv : Int32) (la ha : Nat → Int32), c + f = N + 1 → c ≤ i → i ≤ N → pOK due s → pLG due l → (∀ j, j < s.1 → la j = nI (s.2.1 j) ∧ ha j = nI (s.2.2.1 j)) → (due = 2 → lv = nI l) → pR tb N f i due l s = pR tb N (N + 1) 0 0 0 pS0 → Z 8 [some (.ref 0), some (.ref 4), some (.int (nI N)), some (.int (nI c))] [] (wT (oI s.2.2.2.1) (oI s.2.2.2.2.1) (oI s.2.2.2.2.2.1) (nI s.2.2.2.2.2.2) st 4 (nI N) (nI i) tk va (nI due) lv (s.1) la ha tx) := by
    intro f
    induction f with
    | zero => intro c i due l s st tk va lv la ha hc hci hi; omega
    | succ f ih =>
      intro c i due l s st tk va lv la ha hc hci hi hok hlg hla hlv hR
      have hsk := pSk_in (tb := tb) hi
      have hQ : (if pT tb N (pSk tb N i) = 0 then (if due = 0 then .inr s else .inl (pSk tb N i)) else (match pDo (pT tb N (pSk tb N i)) (pV tb N (pSk tb N i)) due l s with
    | none => .inl (pSk tb N i)
    | some q => pR tb N f (pEn tb N (pSk tb N i)) q.1 q.2.1 q.2.2) : pRs) = pR tb N (N + 1) 0 0 0 pS0 := hR
      obtain ⟨o1, o2, o3, o4, o5, o6, o7⟩ := hok
      have hok : pOK due s := ⟨o1, o2, o3, o4, o5, o6, o7⟩
      have hT4 := pT_le (tb := tb) (N := N) (s := pSk tb N i)
      refine hZ.1 [8] 60 _ _ _ _ (And.intro (fun g => ?_) (fun _ => And.intro rfl (Or.inl ⟨rfl, rfl, t_readToken hN htx i hi (And.intro (fun g => And.intro (fun g2 => ?_) (fun g2 => ?_)) (fun g => ?_))⟩)))
      · have g : nI N < nI c := g
        rw [nI_ltI (by omega) (by omega)] at g
        omega
      · have g : nI (pT tb N (pSk tb N i)) = 0 := g
        have g2 : nI due = 0 := g2
        rw [← nI_0, nI_eq (by omega) (by omega)] at g g2
        rw [if_pos g, if_pos g2] at hQ
        subst g2
        exact And.intro (Or.inr rfl) (h1 s hQ.symm hok _ _ _ _ _ _ _ _ _ hla)
      · have g : nI (pT tb N (pSk tb N i)) = 0 := g
        have g2 : ¬ nI due = 0 := g2
        rw [← nI_0, nI_eq (by omega) (by omega)] at g g2
        rw [if_pos g, if_neg g2] at hQ
        exact And.intro (Or.inl rfl) (h0 _ hQ.symm hsk.2 _ _ _ _ _ _ _ _ _ _ _ _ _)
      · have g : ¬ nI (pT tb N (pSk tb N i)) = 0 := g
        rw [← nI_0, nI_eq (by omega) (by omega)] at g
        rw [if_neg g] at hQ
        have hs : pSk tb N i < N := by
          rcases Nat.lt_or_ge (pSk tb N i) N with w | w
          · exact w
          · exact absurd (pT_0.mpr w) g
        have hen := pEn_in (tb := tb) hs
        refine u_stands (pT tb N (pSk tb N i)) hT4 (pV tb N (pSk tb N i)) (fun v hv => pV_lt hb hv) due l o1 s (fun w => o3 (Or.inr w)) o2 (fun v hv => by have := o4 v hv; omega) (fun v hv => by have := o5 v hv; omega) (fun v hv => by have := o6 v hv; omega) hla hlv (fun d' l' s' hd la' ha' lv' hla' hlv' => ?_) (fun hd pp ee ww it du lv k la ha => ?_)
        · rw [hd] at hQ
          obtain ⟨w1, w2⟩ := pDo_OK hd hok hlg
          have := ih (c + 1) (pEn tb N (pSk tb N i)) d' l' s' (nI (pSk tb N i)) (nI (pT tb N (pSk tb N i))) (oI (pV tb N (pSk tb N i))) lv' la' ha' (by omega) (by omega) hen.2 w1 w2 hla' hlv' hQ
          rw [← nI_1 c] at this
          exact And.intro (fun e => absurd e (by decide)) (fun _ => this)
        · rw [hd] at hQ
          exact And.intro (fun _ => And.intro (Or.inl rfl) (h0 _ hQ.symm hsk.2 _ _ _ _ _ _ _ _ _ _ _ _ _)) (fun e => absurd rfl e)
  exact hZ.1 [8] 60 _ _ _ _ (And.intro rfl (Or.inl ⟨rfl, rfl, t_beginWith hN (loop (N + 1) 0 0 0 0 pS0 st tk va lv la ha (by omega) (Nat.le_refl _) (Nat.zero_le _) pOK_0 (fun w => by cases w) (fun j hj => absurd hj (Nat.not_lt_zero _)) (fun w => by cases w) rfl)⟩))
end TL
def pOr (o : Option Nat) (d : Nat) : Nat := match o with
  | none => d
  | some v => v
set_option maxRecDepth 100000 in
theorem t_toldOr {ws : zW} {post : zP} {R : Value} (o : Option Nat) (ho : ∀ v, o = some v → v < 3000) (d : Nat) (D : Int32) (hD : D = nI d) (h : post (some (.int (nI (pOr o d)))) ws) : zGoes mX6_toldOr 1 3 [R, .int (oI o), .int D] ws post := by
  subst hD
  intro Z hZ
  refine hZ.1 [] 20 _ _ _ _ (And.intro (fun c => ?_) (fun c => ?_))
  · have c := (oI_n1 ho).mp c
    subst c
    exact h
  · cases o with
    | none => exact absurd rfl c
    | some v => exact h
def tC2 (pp ee ww it st : Int32) (r : Nat) (ln at_ tk va du lv : Int32) : zCell := .inr (.inr (6, [.ref 3, .int pp, .int ee, .int ww, .int it, .int st, .ref (zr [2, 3, 4, 5, 1, 6] r), .int ln, .int at_, .int tk, .int va, .int du, .int lv]))
def tC3 (k : Nat) : zCell := .inr (.inr (2, [.int (nI k), .ref 4, .ref 5]))
def xForm (a b c : Int32) : zLn := (nI, fun _ => 0, fun _ => 0, a, b, c, 0)
section RWS
variable {t : Nat → Int32} {b : Nat} {c2 c3 c4 c5 c6 : zCell} {n : Nat} {lg ht : Nat → Int32} {x y : zLn} {sz : Int32} {kn : List (Option Nat)} {k0 k1 : Int32} {z : Nat} {sa sb sc : Nat → Int32} {c7 c8 c9 : zCell} {tr : Int64} {tl : zW}
variable {K : zP} {post : zP}

set_option maxRecDepth 100000 in
set_option maxHeartbeats 4000000 in
theorem c_rank {pp ee ww it st : Int32} {r : Nat} {ln at_ tk va du lv : Int32} {k : Nat} {la ha : Nat → Int32} {tb : Nat → Nat} (hb : b ≤ 120) (htx : ∀ j, j < b → t j = nI (tb j) ∧ tb j < 256) (h1 : ∀ s, pR tb b (b + 1) 0 0 0 pS0 = .inr s → pOK 0 s → ∀ pp ee ww it st ln at_ tk va du lv k la ha, (∀ j, j < s.1 → la j = nI (s.2.1 j) ∧ ha j = nI (s.2.2.1 j)) → post (some (.int (nI s.2.2.2.2.2.2))) (wC t 0 (tC2 pp ee ww it st 4 ln at_ tk va du lv) (tC3 k) (.inl (0, 7, la)) (.inl (0, 7, ha)) c6 (s.1) la ha (xForm (nI (pOr s.2.2.2.1 30)) (nI (pOr s.2.2.2.2.1 5)) (nI (pOr s.2.2.2.2.2.1 2))) y 0 kn 0 0 0 sa sb sc c7 c8 c9 tr tl)) (h0 : ∀ f, pR tb b (b + 1) 0 0 0 pS0 = .inl f → f ≤ b → ∀ pp ee ww it st ln at_ tk va du lv k la ha, post (some (.int (-2000 - nI f))) (wC t b (tC2 pp ee ww it st 4 ln at_ tk va du lv) (tC3 k) (.inl (0, 7, la)) (.inl (0, 7, ha)) c6 n lg ht x y sz kn k0 k1 z sa sb sc c7 c8 c9 tr tl)) : zGoes mX7_rank 1 2 [.ref 0] (wC t b (tC2 pp ee ww it st r ln at_ tk va du lv) (tC3 k) (.inl (0, 7, la)) (.inl (0, 7, ha)) c6 n lg ht x y sz kn k0 k1 z sa sb sc c7 c8 c9 tr tl) post := by
  intro Z hZ
  refine hZ.1 [30] 60 _ _ _ _ (And.intro rfl (Or.inr ⟨[2, 3, 4, 5, 1, 6], [.ref 0, .ref 4, .int (nI b)], wT pp ee ww it st r ln at_ tk va du lv k la ha t, ⟨rfl, rfl, rfl⟩, ⟨Nat.le_of_ble_eq_true rfl, rfl⟩, rfl, t_under hb htx (fun s hs hok st ln at_ tk va du lv la ha hla => ?_) (fun f hf hfb pp ee ww it ln at_ tk va du lv k la ha => ?_)⟩))
  · have h1 := h1 s hs hok (oI s.2.2.2.1) (oI s.2.2.2.2.1) (oI s.2.2.2.2.2.1) (nI s.2.2.2.2.2.2) st ln at_ tk va du lv s.1 la ha hla
    obtain ⟨o1, o2, o3, o4, o5, o6, o7⟩ := hok
    have img : Z 115 [some (.ref 0), some (.int 0)] [] (wC t b (tC2 (oI s.2.2.2.1) (oI s.2.2.2.2.1) (oI s.2.2.2.2.2.1) (nI s.2.2.2.2.2.2) st 4 ln at_ tk va du lv) (tC3 s.1) (.inl (0, 7, la)) (.inl (0, 7, ha)) c6 (s.1) la ha (xForm (nI (pOr s.2.2.2.1 30)) (nI (pOr s.2.2.2.2.1 5)) (nI (pOr s.2.2.2.2.2.1 2))) y 0 kn k0 k1 0 sa sb sc c7 c8 c9 tr tl) := by
      refine hZ.1 [] 100 _ _ _ _ (And.intro (fun c => absurd c (by decide)) (fun _ => And.intro (vpd (by decide)) ⟨21, rfl, And.intro (Or.inl rfl) (And.intro (fun c => absurd c (by decide)) (fun _ => And.intro (vpd (by decide)) ⟨22, rfl, And.intro (Or.inl rfl) (And.intro (fun c => h1) (fun c => absurd (by decide) c))⟩))⟩))
    have j97 : Z 97 [some (.ref 0), none] [] (wC t b (tC2 (oI s.2.2.2.1) (oI s.2.2.2.2.1) (oI s.2.2.2.2.2.1) (nI s.2.2.2.2.2.2) st 4 ln at_ tk va du lv) (tC3 s.1) (.inl (0, 7, la)) (.inl (0, 7, ha)) c6 (s.1) la ha (xForm (nI (pOr s.2.2.2.1 30)) (nI (pOr s.2.2.2.2.1 5)) (nI (pOr s.2.2.2.2.2.1 2))) y sz kn k0 k1 z sa sb sc c7 c8 c9 tr tl) := hZ.1 [115] 40 _ _ _ _ img
    have j44 : Z 44 [some (.ref 0), none] [] (wC t b (tC2 (oI s.2.2.2.1) (oI s.2.2.2.2.1) (oI s.2.2.2.2.2.1) (nI s.2.2.2.2.2.2) st 4 ln at_ tk va du lv) (tC3 s.1) (.inl (0, 7, la)) (.inl (0, 7, ha)) c6 (s.1) la ha x y sz kn k0 k1 z sa sb sc c7 c8 c9 tr tl) := by
      refine hZ.1 [97] 60 _ _ _ _ ?_
      refine And.intro rfl (Or.inl ⟨rfl, rfl, t_toldOr s.2.2.2.1 (fun v hv => by have := o4 v hv; omega) 30 _ (by decide) ?_⟩)
      refine And.intro rfl (Or.inl ⟨rfl, rfl, t_toldOr s.2.2.2.2.1 (fun v hv => by have := o5 v hv; omega) 5 _ (by decide) ?_⟩)
      refine And.intro rfl (Or.inl ⟨rfl, rfl, t_toldOr s.2.2.2.2.2.1 (fun v hv => by have := o6 v hv; omega) 2 _ (by decide) ?_⟩)
      exact And.intro rfl (Or.inr ⟨[10, 11, 12, 13, 7, 8, 9], [.ref 0, .int (nI (pOr s.2.2.2.1 30)), .int (nI (pOr s.2.2.2.2.1 5)), .int (nI (pOr s.2.2.2.2.2.1 2))], wLn x.1 x.2.1 x.2.2.1 x.2.2.2.1 x.2.2.2.2.1 x.2.2.2.2.2.1 x.2.2.2.2.2.2 s.1 la, ⟨rfl, rfl, rfl⟩, ⟨Nat.le_of_ble_eq_true rfl, rfl⟩, rfl, t_formUp _ _ _ j97⟩)
    have j30 : Z 30 [some (.ref 0), none] [] (wC t b (tC2 (oI s.2.2.2.1) (oI s.2.2.2.2.1) (oI s.2.2.2.2.2.1) (nI s.2.2.2.2.2.2) st 4 ln at_ tk va du lv) (tC3 s.1) (.inl (0, 7, la)) (.inl (0, 7, ha)) c6 n lg ht x y sz kn k0 k1 z sa sb sc c7 c8 c9 tr tl) := hZ.1 [44] 60 _ _ _ _ (And.intro rfl (Or.inr ⟨[7, 8, 9, 3, 4, 5], [.ref 0, .ref 3], wM2 (nI n) lg ht (nI s.1) la ha, ⟨rfl, rfl, rfl⟩, ⟨Nat.le_of_ble_eq_true rfl, rfl⟩, rfl, t_menCopy j44⟩))
    exact And.intro (fun e => absurd e (by decide)) (fun _ => j30)
  · have h0 := h0 f hf hfb pp ee ww it (nI f) ln at_ tk va du lv k la ha
    exact And.intro (fun _ => h0) (fun e => absurd rfl e)
end RWS
