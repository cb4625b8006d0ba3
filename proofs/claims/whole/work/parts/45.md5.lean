
/-- what the reference keeps of the past: place 25 says how many, 25 ints each from place 26 on -/
def mKnow (s : Nat) (F : Nat → Int32) : Nat → Int32 := fun k =>
  if k = 25 then (if s < 10 then nI s + 1 else nI 10)
  else if s < 10 then (if 26 + 25 * s ≤ k ∧ k < 26 + 25 * s + 25 then F (k - (26 + 25 * s)) else F k)
  else (if 26 ≤ k ∧ k < 26 + 225 then F (k + 25) else if 26 + 225 ≤ k ∧ k < 26 + 250 then F (k - 251) else F k)
theorem a225 : (225 : Int32) = nI 225 := by decide
theorem i10 : (10 : Int32) = nI 10 := by decide
section MD
variable {tr : Int64} {tx : Nat → Int32} {ty n : Nat} {m1 : Int32} {lg ht la : Nat → Int32} {at_ st_ so_ va_ fa_ to_ : Int32} {nw ik td th : Nat → Int32} {ba bp br : Int32} {sa sb sc : Nat → Int32} {z : Nat}
variable {K : zP} {post : zP}

set_option maxRecDepth 100000 in
set_option maxHeartbeats 2000000 in
theorem u_know (s : Nat) (hs : s ≤ 10) (h25 : nw 25 = nI s) (h : K none (wD tr tx ty n m1 lg ht la at_ st_ so_ va_ fa_ to_ (mKnow s nw) ik td th ba bp br sa sb sc z)) : zFV 8 1 (zGoes mX8_know 0 2) [.ref 0] (wD tr tx ty n m1 lg ht la at_ st_ so_ va_ fa_ to_ nw ik td th ba bp br sa sb sc z) K := by
  refine And.intro rfl (Or.inl ⟨rfl, rfl, ?_⟩)
  intro Z hZ
  have e25 : nw (25 : Int32).toNatClampNeg = nI s := h25
  have copy : ∀ (G : Nat → Int32) (t : Nat), t < 10 → G 25 = nI t → (∀ k, (if k = 25 then nI t + 1 else if 26 + 25 * t ≤ k ∧ k < 26 + 25 * t + 25 then G (k - (26 + 25 * t)) else G k) = mKnow s nw k) → ∀ (d p : Nat), p + d = 25 → Z 58 [some (.ref 0), some (.int (nI p))] [] (wD tr tx ty n m1 lg ht la at_ st_ so_ va_ fa_ to_ (sFo (26 + 25 * t) G G p) ik td th ba bp br sa sb sc z) := by
    intro G t ht hG hfin d
    induction d with
    | zero =>
      intro p hp
      have e : p = 25 := by omega
      subst e
      refine hZ.1 [58] 60 _ _ _ _ (And.intro (fun c => And.intro (vpd (by decide)) (And.intro (vpd (by decide)) ?_)) (fun c => absurd (by decide) c))
      have eF : upd (sFo (26 + 25 * t) G G 25) (25 : Int32).toNatClampNeg (sFo (26 + 25 * t) G G 25 (25 : Int32).toNatClampNeg + 1) = mKnow s nw := by
        funext k
        rw [← hfin k]
        show upd _ 25 _ k = _
        by_cases c : k = 25
        · subst c
          rw [pk_us, if_pos rfl]
          show sFo (26 + 25 * t) G G 25 25 + 1 = _
          rw [sFo_out (by omega), hG]
        · rw [pk_un c, if_neg c]
          rfl
      rw [← eF] at h
      exact h
    | succ d ih =>
      intro p hp
      have eG : sFo (26 + 25 * t) G G p (25 : Int32).toNatClampNeg = nI t := by
        show sFo (26 + 25 * t) G G p 25 = _
        rw [sFo_out (by omega), hG]
      have ei : (26 + 25 * sFo (26 + 25 * t) G G p (25 : Int32).toNatClampNeg + nI p : Int32) = nI (26 + 25 * t + p) := by rw [eG, a26, a25, pk_mul, nI_add, nI_add]
      refine hZ.1 [58] 60 _ _ _ _ (And.intro (fun c => ?_) (fun c => And.intro (vpd (by decide)) (And.intro (vi0 (by omega) (by omega)) (And.intro (by rw [ei]; exact vi0 (by omega) (by omega)) ?_))))
      · rw [a25] at c
        exact absurd c (nle_of (by omega) (by omega))
      · have := ih (p + 1) (by omega)
        have e : upd (sFo (26 + 25 * t) G G p) (26 + 25 * sFo (26 + 25 * t) G G p (25 : Int32).toNatClampNeg + nI p : Int32).toNatClampNeg (sFo (26 + 25 * t) G G p (nI p).toNatClampNeg) = sFo (26 + 25 * t) G G (p + 1) := by
          rw [ei, nI_c0 (by omega), nI_c0 (by omega), sFo_out (by omega), sFo_upd]
        rw [← nI_1, ← e] at this
        exact this
  refine hZ.1 [14, 58] 60 _ _ _ _ (And.intro (vpd (by decide)) (And.intro (fun c => ?_) (fun c => ?_)))
  · rw [e25, i10, nI_eq (by omega) (by omega)] at c
    subst c
    have shift : ∀ (d p : Nat), p + d = 225 → Z 14 [some (.ref 0), some (.int (nI p))] [] (wD tr tx ty n m1 lg ht la at_ st_ so_ va_ fa_ to_ (sFo 26 (fun k => nw (51 + k)) nw p) ik td th ba bp br sa sb sc z) := by
      intro d
      induction d with
      | zero =>
        intro p hp
        have e : p = 225 := by omega
        subst e
        refine hZ.1 [14, 58] 60 _ _ _ _ (And.intro (fun c => And.intro (vpd (by decide)) (And.intro (vpd (by decide)) ?_)) (fun c => absurd (by decide) c))
        have := copy (upd (sFo 26 (fun k => nw (51 + k)) nw 225) (25 : Int32).toNatClampNeg (sFo 26 (fun k => nw (51 + k)) nw 225 (25 : Int32).toNatClampNeg - 1)) 9 (by omega) (by
          show upd _ 25 _ 25 = _
          rw [pk_us]
          show sFo 26 _ nw 225 25 - 1 = _
          rw [sFo_out (by omega), h25]
          decide) (fun k => by
          unfold mKnow
          by_cases c : k = 25
          · rw [if_pos c, if_pos c, if_neg (show ¬ 10 < 10 by omega)]; decide
          · rw [if_neg c, if_neg c, if_neg (show ¬ 10 < 10 by omega)]
            by_cases c2 : 26 + 25 * 9 ≤ k ∧ k < 26 + 25 * 9 + 25
            · rw [if_pos c2, if_neg (show ¬ (26 ≤ k ∧ k < 26 + 225) by omega), if_pos (show 26 + 225 ≤ k ∧ k < 26 + 250 by omega)]
              show upd _ 25 _ (k - 251) = _
              rw [pk_un (by omega), sFo_out (by omega)]
            · rw [if_neg c2]
              show upd _ 25 _ k = _
              rw [pk_un c]
              by_cases c3 : 26 ≤ k ∧ k < 26 + 225
              · rw [if_pos c3]
                unfold sFo
                rw [if_pos c3]
                show nw (51 + (k - 26)) = _
                congr 1
                omega
              · rw [if_neg c3, if_neg (show ¬ (26 + 225 ≤ k ∧ k < 26 + 250) by omega)]
                unfold sFo
                rw [if_neg c3]) 25 0 (by omega)
        rw [sFo_0] at this
        exact this
      | succ d ih =>
        intro p hp
        refine hZ.1 [14, 58] 60 _ _ _ _ (And.intro (fun c => ?_) (fun c => And.intro (vA a51 (by omega) (by omega)) (And.intro (vA a26 (by omega) (by omega)) ?_)))
        · rw [a225] at c
          exact absurd c (nle_of (by omega) (by omega))
        · have := ih (p + 1) (by omega)
          have e : upd (sFo 26 (fun k => nw (51 + k)) nw p) (26 + nI p : Int32).toNatClampNeg (sFo 26 (fun k => nw (51 + k)) nw p (51 + nI p : Int32).toNatClampNeg) = sFo 26 (fun k => nw (51 + k)) nw (p + 1) := by
            rw [cA a26 (by omega), cA a51 (by omega), sFo_out (by omega), sFo_upd]
          rw [← nI_1, ← e] at this
          exact this
    have := shift 225 0 (by omega)
    rw [sFo_0] at this
    exact this
  · rw [e25, i10, nI_eq (by omega) (by omega)] at c
    have := copy nw s (by omega) h25 (fun k => by
      unfold mKnow
      rw [if_pos (show s < 10 by omega), if_pos (show s < 10 by omega)]) 25 0 (by omega)
    rw [sFo_0] at this
    exact this

theorem mKnow_is {x : zLn} {s : Nat} (hs : s ≤ 10) (h : mIs nw x) : mIs (mKnow s nw) x := by
  intro k hk
  rw [← h k hk]
  unfold mKnow
  rw [if_neg (by omega)]
  split
  · rw [if_neg (by omega)]
  · rw [if_neg (by omega), if_neg (by omega)]
theorem mIs_updw {F : Nat → Int32} {x : zLn} (h : mIs F x) (k : Nat) (hk : k < 7) (v : Int32) : mIs (upd F k v) (upd x.1 k v, x.2.1, x.2.2.1, x.2.2.2.1, x.2.2.2.2.1, x.2.2.2.2.2.1, x.2.2.2.2.2.2) := by
  refine mIs_of (fun j hj => ?_) (fun j hj => ?_) (fun j hj => ?_) ?_ ?_ ?_ ?_
  · show upd F k v j = upd x.1 k v j
    unfold upd
    by_cases c : j = k
    · rw [if_pos c, if_pos c]
    · rw [if_neg c, if_neg c]; exact mIs_w h hj
  · rw [pk_un (by omega)]; exact (mIs_i h hj :)
  · rw [pk_un (by omega)]; exact (mIs_f h hj :)
  · rw [pk_un (by omega)]; exact (mIs_21 h :)
  · rw [pk_un (by omega)]; exact (mIs_22 h :)
  · rw [pk_un (by omega)]; exact (mIs_23 h :)
  · rw [pk_un (by omega)]; exact (mIs_24 h :)
theorem mIs_updi {F : Nat → Int32} {x : zLn} (h : mIs F x) (k : Nat) (hk : k < 7) (v : Int32) : mIs (upd F (7 + k) v) (x.1, upd x.2.1 k v, x.2.2.1, x.2.2.2.1, x.2.2.2.2.1, x.2.2.2.2.2.1, x.2.2.2.2.2.2) := by
  refine mIs_of (fun j hj => ?_) (fun j hj => ?_) (fun j hj => ?_) ?_ ?_ ?_ ?_
  · rw [pk_un (by omega)]; exact (mIs_w h hj :)
  · show upd F (7 + k) v (7 + j) = upd x.2.1 k v j
    unfold upd
    by_cases c : j = k
    · rw [if_pos c, if_pos (by omega)]
    · rw [if_neg c, if_neg (by omega)]; exact mIs_i h hj
  · rw [pk_un (by omega)]; exact (mIs_f h hj :)
  · rw [pk_un (by omega)]; exact (mIs_21 h :)
  · rw [pk_un (by omega)]; exact (mIs_22 h :)
  · rw [pk_un (by omega)]; exact (mIs_23 h :)
  · rw [pk_un (by omega)]; exact (mIs_24 h :)
theorem mIs_updf {F : Nat → Int32} {x : zLn} (h : mIs F x) (k : Nat) (hk : k < 7) (v : Int32) : mIs (upd F (14 + k) v) (x.1, x.2.1, upd x.2.2.1 k v, x.2.2.2.1, x.2.2.2.2.1, x.2.2.2.2.2.1, x.2.2.2.2.2.2) := by
  refine mIs_of (fun j hj => ?_) (fun j hj => ?_) (fun j hj => ?_) ?_ ?_ ?_ ?_
  · rw [pk_un (by omega)]; exact (mIs_w h hj :)
  · rw [pk_un (by omega)]; exact (mIs_i h hj :)
  · show upd F (14 + k) v (14 + j) = upd x.2.2.1 k v j
    unfold upd
    by_cases c : j = k
    · rw [if_pos c, if_pos (by omega)]
    · rw [if_neg c, if_neg (by omega)]; exact mIs_f h hj
  · rw [pk_un (by omega)]; exact (mIs_21 h :)
  · rw [pk_un (by omega)]; exact (mIs_22 h :)
  · rw [pk_un (by omega)]; exact (mIs_23 h :)
  · rw [pk_un (by omega)]; exact (mIs_24 h :)
theorem mIs_upds {F : Nat → Int32} {x : zLn} (h : mIs F x) (v : Int32) : mIs (upd F 21 v) (sSpeed v x) := by
  refine mIs_of (fun j hj => ?_) (fun j hj => ?_) (fun j hj => ?_) ?_ ?_ ?_ ?_
  · rw [pk_un (by omega)]; exact (mIs_w h hj :)
  · rw [pk_un (by omega)]; exact (mIs_i h hj :)
  · rw [pk_un (by omega)]; exact (mIs_f h hj :)
  · rw [pk_us]; rfl
  · rw [pk_un (by omega)]; exact (mIs_22 h :)
  · rw [pk_un (by omega)]; exact (mIs_23 h :)
  · rw [pk_un (by omega)]; exact (mIs_24 h :)
theorem clamp_down {a v : Int32} (h1 : a ≤ 999) (h2 : 1 ≤ v) (h3 : v ≤ 99) (h4 : -999 ≤ a) : zclamp (a - v) = zmax (-999) (a - v) := by
  have r1 := Int32.le_iff_toInt_le.mp h1
  have r2 := Int32.le_iff_toInt_le.mp h2
  have r3 := Int32.le_iff_toInt_le.mp h3
  have r4 := Int32.le_iff_toInt_le.mp h4
  have q1 : (999 : Int32).toInt = 999 := by decide
  have q2 : (1 : Int32).toInt = 1 := by decide
  have q3 : (99 : Int32).toInt = 99 := by decide
  have q4 : (-999 : Int32).toInt = -999 := by decide
  have e : (a - v).toInt = a.toInt - v.toInt := by
    rw [Int32.toInt_sub]
    apply Int.bmod_eq_of_le <;> omega
  unfold zclamp zmin
  rw [if_pos (Int32.lt_iff_toInt_lt.mpr (by omega))]
set_option maxRecDepth 100000 in
theorem m_wheels {x : zLn} {s : Nat} (hx : mIs nw x) (hs : s ≤ 10) (h25 : nw 25 = nI s) (hn : n ≤ 7) (hw : ∀ k, k < n → vp_in (x.1 k) 7) (hlg : ∀ k, k < n → 0 ≤ lg (x.1 k).toNatClampNeg) (hp : x.2.2.2.2.2.2 ≤ 9999) (h1 : x.2.2.2.2.2.2 < 9999 → ∀ nw' th', mIs nw' (sTick (sStep n lg (-1) x)) → (∀ k, 25 ≤ k → nw' k = mKnow s nw k) → post (some (.int (sBulge (sStep n lg (-1) x).2.1 (n - 1)))) (wD tr tx ty n m1 lg ht la at_ st_ so_ va_ fa_ to_ nw' ik td th' ba bp br sa sb sc z)) (h0 : ¬ x.2.2.2.2.2.2 < 9999 → post (some (.int (-1002))) (wD tr tx ty n m1 lg ht la at_ st_ so_ va_ fa_ to_ nw ik td th ba bp br sa sb sc z)) : zGoes mX8_wheels 1 1 [.ref 0] (wD tr tx ty n m1 lg ht la at_ st_ so_ va_ fa_ to_ nw ik td th ba bp br sa sb sc z) post := by
  intro Z hZ
  have e24 : nw (24 : Int32).toNatClampNeg = x.2.2.2.2.2.2 := mIs_24 hx
  refine hZ.1 [] 60 _ _ _ _ (And.intro (vpd (by decide)) (And.intro (fun c => ?_) (fun c => ?_)))
  · rw [e24] at c
    exact h0 (by rw [c]; decide)
  · rw [e24] at c
    have c2 : x.2.2.2.2.2.2 < 9999 := Int32.lt_of_le_of_ne hp c
    refine u_know s hs h25 (u_paceN hn (mKnow_is hs hx) hw hlg (-1009) (fun F' th' g1 g2 => u_mbulgeN hn ?_))
    rw [sStep_nopost n hn] at g1
    rw [mBulge hn g1]
    exact h1 c2 F' th' g1 g2
set_option maxRecDepth 100000 in
theorem m_slips {x : zLn} {s : Nat} (hx : mIs nw x) (hs : s ≤ 10) (h25 : nw 25 = nI s) (hn : n ≤ 7) (hi : ∀ k, k < n → -999 ≤ x.2.1 k ∧ x.2.1 k ≤ 999) (p u : Int32) (h1 : ∀ k, k < n → p = nI k → 1 ≤ u ∧ u ≤ 99 → ∀ nw', mIs nw' (sLose k u x) → (∀ k, 25 ≤ k → nw' k = mKnow s nw k) → post (some (.int ((sLose k u x).2.1 k))) (wD tr tx ty n m1 lg ht la at_ st_ so_ va_ fa_ to_ nw' ik td th ba bp br sa sb sc z)) (h0 : ¬ (sIn n p ∧ (1 ≤ u ∧ u ≤ 99)) → post (some (.int (-1001))) (wD tr tx ty n m1 lg ht la at_ st_ so_ va_ fa_ to_ nw ik td th ba bp br sa sb sc z)) : zGoes mX8_slips 1 3 [.ref 0, .int p, .int u] (wD tr tx ty n m1 lg ht la at_ st_ so_ va_ fa_ to_ nw ik td th ba bp br sa sb sc z) post := by
  intro Z hZ
  have bad : ¬ (sIn n p ∧ (1 ≤ u ∧ u ≤ 99)) → Z 18 [some (.ref 0), some (.int p), some (.int u)] [] (wD tr tx ty n m1 lg ht la at_ st_ so_ va_ fa_ to_ nw ik td th ba bp br sa sb sc z) := fun hb => hZ.1 [] 20 _ _ _ _ (h0 hb)
  refine hZ.1 [18] 60 _ _ _ _ (u_misPlace p (fun q => ?_) (fun q => ?_))
  · refine And.intro (fun e => absurd e (by decide)) (fun _ => u_in u 1 99 (fun q2 => ?_) (fun q2 => ?_))
    · obtain ⟨k, hk, rfl⟩ := (sIn_iff hn p).mp q
      have ec : (7 + nI k).toNatClampNeg = 7 + k := cA a7 (by omega)
      have ev : zclamp (mKnow s nw (7 + nI k).toNatClampNeg - u) = zmax (-999) (x.2.1 k - u) := by
        rw [ec, mIs_i (mKnow_is hs hx) (by omega)]
        exact clamp_down (hi k hk).2 q2.1 q2.2 (hi k hk).1
      refine And.intro (fun e => absurd e (by decide)) (fun _ => u_know s hs h25 (And.intro (vA a7 (by omega) (by omega)) (u_held _ (And.intro (vA a7 (by omega) (by omega)) (And.intro (vA a7 (by omega) (by omega)) ?_)))))
      show post (some (.int (upd (mKnow s nw) (7 + nI k).toNatClampNeg (zclamp (mKnow s nw (7 + nI k).toNatClampNeg - u)) (7 + nI k).toNatClampNeg))) (wD tr tx ty n m1 lg ht la at_ st_ so_ va_ fa_ to_ (upd (mKnow s nw) (7 + nI k).toNatClampNeg (zclamp (mKnow s nw (7 + nI k).toNatClampNeg - u))) ik td th ba bp br sa sb sc z)
      rw [ev, ec, pk_us]
      have := h1 k hk rfl q2 (upd (mKnow s nw) (7 + k) (zmax (-999) (x.2.1 k - u))) (mIs_updi (mKnow_is hs hx) k (by omega) _) (fun j hj => pk_un (by omega))
      rw [show (sLose k u x).2.1 k = zmax (-999) (x.2.1 k - u) from pk_us] at this
      exact this
    · exact And.intro (fun _ => bad (fun w => q2 w.2)) (fun e => absurd rfl e)
  · exact And.intro (fun _ => bad (fun w => q w.1)) (fun e => absurd rfl e)
set_option maxRecDepth 100000 in
theorem m_hops {x : zLn} {s : Nat} (hx : mIs nw x) (hs : s ≤ 10) (h25 : nw 25 = nI s) (hn : n ≤ 7) (p : Int32) (h1 : ∀ k, k < n → p = nI k → ∀ nw', mIs nw' (sHop k x) → (∀ k, 25 ≤ k → nw' k = mKnow s nw k) → post (some (.int (1 - x.2.2.1 k))) (wD tr tx ty n m1 lg ht la at_ st_ so_ va_ fa_ to_ nw' ik td th ba bp br sa sb sc z)) (h0 : ¬ sIn n p → post (some (.int (-1001))) (wD tr tx ty n m1 lg ht la at_ st_ so_ va_ fa_ to_ nw ik td th ba bp br sa sb sc z)) : zGoes mX8_hops 1 2 [.ref 0, .int p] (wD tr tx ty n m1 lg ht la at_ st_ so_ va_ fa_ to_ nw ik td th ba bp br sa sb sc z) post := by
  intro Z hZ
  refine hZ.1 [] 60 _ _ _ _ (u_misPlace p (fun q => ?_) (fun q => ?_))
  · obtain ⟨k, hk, rfl⟩ := (sIn_iff hn p).mp q
    have ec : (14 + nI k).toNatClampNeg = 14 + k := cA a14 (by omega)
    refine And.intro (fun e => absurd e (by decide)) (fun _ => u_know s hs h25 (And.intro (vA a14 (by omega) (by omega)) (And.intro (vA a14 (by omega) (by omega)) (And.intro (vA a14 (by omega) (by omega)) ?_))))
    show post (some (.int (upd (mKnow s nw) (14 + nI k).toNatClampNeg (1 - mKnow s nw (14 + nI k).toNatClampNeg) (14 + nI k).toNatClampNeg))) (wD tr tx ty n m1 lg ht la at_ st_ so_ va_ fa_ to_ (upd (mKnow s nw) (14 + nI k).toNatClampNeg (1 - mKnow s nw (14 + nI k).toNatClampNeg)) ik td th ba bp br sa sb sc z)
    rw [ec, pk_us, mIs_f (mKnow_is hs hx) (by omega)]
    exact h1 k hk rfl _ (mIs_updf (mKnow_is hs hx) k (by omega) _) (fun j hj => pk_un (by omega))
  · exact And.intro (fun _ => h0 q) (fun e => absurd rfl e)
set_option maxRecDepth 100000 in
theorem m_swaps {x : zLn} {s : Nat} (hx : mIs nw x) (hs : s ≤ 10) (h25 : nw 25 = nI s) (hn : n ≤ 7) (p u : Int32) (h1 : ∀ k j, k < n → j < n → k ≠ j → p = nI k → u = nI j → ∀ nw', mIs nw' (sSwap k j x) → (∀ k, 25 ≤ k → nw' k = mKnow s nw k) → post (some (.int (x.1 j))) (wD tr tx ty n m1 lg ht la at_ st_ so_ va_ fa_ to_ nw' ik td th ba bp br sa sb sc z)) (h0 : ¬ (sIn n p ∧ sIn n u ∧ ¬ p = u) → post (some (.int (-1001))) (wD tr tx ty n m1 lg ht la at_ st_ so_ va_ fa_ to_ nw ik td th ba bp br sa sb sc z)) : zGoes mX8_swaps 1 4 [.ref 0, .int p, .int u] (wD tr tx ty n m1 lg ht la at_ st_ so_ va_ fa_ to_ nw ik td th ba bp br sa sb sc z) post := by
  intro Z hZ
  have bad : ¬ (sIn n p ∧ sIn n u ∧ ¬ p = u) → Z 21 [some (.ref 0), some (.int p), some (.int u), none] [] (wD tr tx ty n m1 lg ht la at_ st_ so_ va_ fa_ to_ nw ik td th ba bp br sa sb sc z) := fun hb => hZ.1 [] 20 _ _ _ _ (h0 hb)
  refine hZ.1 [21] 60 _ _ _ _ (u_misPlace p (fun q => ?_) (fun q => ?_))
  · refine And.intro (fun e => absurd e (by decide)) (fun _ => u_misPlace u (fun q2 => ?_) (fun q2 => ?_))
    · refine And.intro (fun e => absurd e (by decide)) (fun _ => And.intro (fun e => ?_) (fun e => ?_))
      · exact bad (fun w => w.2.2 e)
      · obtain ⟨k, hk, rfl⟩ := (sIn_iff hn p).mp q
        obtain ⟨j, hj, rfl⟩ := (sIn_iff hn u).mp q2
        have hkj : k ≠ j := fun w => e (by rw [w])
        have ek : (0 + nI k).toNatClampNeg = k := by rw [cA a0 (by omega), Nat.zero_add]
        have ej : (0 + nI j).toNatClampNeg = j := by rw [cA a0 (by omega), Nat.zero_add]
        refine u_know s hs h25 (And.intro (vA a0 (by omega) (by omega)) (And.intro (vA a0 (by omega) (by omega)) (And.intro (vA a0 (by omega) (by omega)) (And.intro (vA a0 (by omega) (by omega)) (And.intro (vA a0 (by omega) (by omega)) ?_)))))
        show post (some (.int ((upd (upd (mKnow s nw) (0 + nI k).toNatClampNeg (mKnow s nw (0 + nI j).toNatClampNeg)) (0 + nI j).toNatClampNeg (mKnow s nw (0 + nI k).toNatClampNeg)) (0 + nI k).toNatClampNeg))) (wD tr tx ty n m1 lg ht la at_ st_ so_ va_ fa_ to_ (upd (upd (mKnow s nw) (0 + nI k).toNatClampNeg (mKnow s nw (0 + nI j).toNatClampNeg)) (0 + nI j).toNatClampNeg (mKnow s nw (0 + nI k).toNatClampNeg)) ik td th ba bp br sa sb sc z)
        rw [ek, ej, pk_un hkj, pk_us, mIs_w (mKnow_is hs hx) (k := j) (by omega), mIs_w (mKnow_is hs hx) (k := k) (by omega)]
        exact h1 k j hk hj hkj rfl rfl _ (mIs_updw (mIs_updw (mKnow_is hs hx) k (by omega) _) j (by omega) _) (fun i hi => by rw [pk_un (by omega), pk_un (by omega)])
    · exact And.intro (fun _ => bad (fun w => q2 w.2.1)) (fun e => absurd rfl e)
  · exact And.intro (fun _ => bad (fun w => q w.1)) (fun e => absurd rfl e)
set_option maxRecDepth 100000 in
theorem m_minds {x : zLn} {s : Nat} (hx : mIs nw x) (hs : s ≤ 10) (h25 : nw 25 = nI s) (p u : Int32) (h1 : (0 ≤ p ∧ p ≤ 10) ∧ (0 ≤ u ∧ u ≤ 10) → ∀ nw', mIs nw' (sMind p u x) → (∀ k, 25 ≤ k → nw' k = mKnow s nw k) → post (some (.int (11 * x.2.2.2.2.1 + x.2.2.2.2.2.1))) (wD tr tx ty n m1 lg ht la at_ st_ so_ va_ fa_ to_ nw' ik td th ba bp br sa sb sc z)) (h0 : ¬ ((0 ≤ p ∧ p ≤ 10) ∧ (0 ≤ u ∧ u ≤ 10)) → post (some (.int (-1001))) (wD tr tx ty n m1 lg ht la at_ st_ so_ va_ fa_ to_ nw ik td th ba bp br sa sb sc z)) : zGoes mX8_minds 1 4 [.ref 0, .int p, .int u] (wD tr tx ty n m1 lg ht la at_ st_ so_ va_ fa_ to_ nw ik td th ba bp br sa sb sc z) post := by
  intro Z hZ
  have bad : ¬ ((0 ≤ p ∧ p ≤ 10) ∧ (0 ≤ u ∧ u ≤ 10)) → Z 20 [some (.ref 0), some (.int p), some (.int u), none] [] (wD tr tx ty n m1 lg ht la at_ st_ so_ va_ fa_ to_ nw ik td th ba bp br sa sb sc z) := fun hb => hZ.1 [] 20 _ _ _ _ (h0 hb)
  refine hZ.1 [20] 60 _ _ _ _ (u_in p 0 10 (fun q => ?_) (fun q => ?_))
  · refine And.intro (fun e => absurd e (by decide)) (fun _ => u_in u 0 10 (fun q2 => ?_) (fun q2 => ?_))
    · refine And.intro (fun e => absurd e (by decide)) (fun _ => u_know s hs h25 (And.intro (vpd (by decide)) (And.intro (vpd (by decide)) (And.intro (vpd (by decide)) (And.intro (vpd (by decide)) ?_)))))
      have := h1 ⟨q, q2⟩ (upd (upd (mKnow s nw) 22 p) 23 u) (mIs_mind (mKnow_is hs hx) p u) (fun k hk => by rw [pk_un (by omega), pk_un (by omega)])
      rw [← mIs_22 (mKnow_is hs hx), ← mIs_23 (mKnow_is hs hx)] at this
      exact this
    · exact And.intro (fun _ => bad (fun w => q2 w.2)) (fun e => absurd rfl e)
  · exact And.intro (fun _ => bad (fun w => q w.1)) (fun e => absurd rfl e)
set_option maxRecDepth 100000 in
theorem m_speeds {x : zLn} {s : Nat} (hx : mIs nw x) (hs : s ≤ 10) (h25 : nw 25 = nI s) (u : Int32) (h1 : 1 ≤ u ∧ u ≤ 60 → ∀ nw', mIs nw' (sSpeed u x) → (∀ k, 25 ≤ k → nw' k = mKnow s nw k) → post (some (.int x.2.2.2.1)) (wD tr tx ty n m1 lg ht la at_ st_ so_ va_ fa_ to_ nw' ik td th ba bp br sa sb sc z)) (h0 : ¬ (1 ≤ u ∧ u ≤ 60) → post (some (.int (-1001))) (wD tr tx ty n m1 lg ht la at_ st_ so_ va_ fa_ to_ nw ik td th ba bp br sa sb sc z)) : zGoes mX8_speeds 1 3 [.ref 0, .int u] (wD tr tx ty n m1 lg ht la at_ st_ so_ va_ fa_ to_ nw ik td th ba bp br sa sb sc z) post := by
  intro Z hZ
  refine hZ.1 [] 60 _ _ _ _ (u_in u 1 60 (fun q => ?_) (fun q => ?_))
  · refine And.intro (fun e => absurd e (by decide)) (fun _ => u_know s hs h25 (And.intro (vpd (by decide)) (And.intro (vpd (by decide)) ?_)))
    have := h1 q (upd (mKnow s nw) 21 u) (mIs_upds (mKnow_is hs hx) u) (fun k hk => pk_un (by omega))
    rw [← mIs_21 (mKnow_is hs hx)] at this
    exact this
  · exact And.intro (fun _ => h0 q) (fun e => absurd rfl e)

end MD
