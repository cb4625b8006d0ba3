
theorem sLast_ge {sb : Nat → Int32} : ∀ {z j : Nat}, j < z → sb j ≤ sLast sb z
  | 0, j, h => absurd h (Nat.not_lt_zero _)
  | z + 1, j, h => by
    unfold sLast zmax
    rcases Nat.lt_or_ge j z with c | c
    · have := sLast_ge (sb := sb) c
      split
      · rename_i h2
        exact Int32.le_trans this (Int32.le_of_lt h2)
      · exact this
    · have e : j = z := by omega
      subst e
      split
      · exact Int32.le_refl _
      · rename_i h2
        exact Int32.not_lt.mp h2
theorem sTells_none (n : Nat) (lg sa sb sc : Nat → Int32) (z : Nat) : ∀ (d k : Nat) (y : zLn), (∀ j, j < z → ∀ i, k ≤ i → i < k + d → ¬ sb j = nI i) → sTells n lg sa sb sc z d k y = true
  | 0, _, _, _ => rfl
  | d + 1, k, y, h => by
    unfold sTells
    rw [sFit_go (fun j hj e => absurd e (h j hj k (by omega) (by omega))), sTells_none n lg sa sb sc z d (k + 1) (sStep n lg (-1) y) (fun j hj i h1 h2 => h j hj i (by omega) (by omega))]
    rfl
theorem sTells_more (n : Nat) (lg sa sb sc : Nat → Int32) (z d : Nat) : ∀ (r k : Nat) (y : zLn), (∀ j, j < z → ∀ i, k + r ≤ i → i < k + r + d → ¬ sb j = nI i) → sTells n lg sa sb sc z (r + d) k y = sTells n lg sa sb sc z r k y
  | 0, k, y, h => by
    rw [Nat.zero_add, sTells_none n lg sa sb sc z d k y (fun j hj i h1 h2 => h j hj i (by omega) (by omega))]
    rfl
  | r + 1, k, y, h => by
    rw [show r + 1 + d = (r + d) + 1 by omega]
    unfold sTells
    rw [sTells_more n lg sa sb sc z d r (k + 1) (sStep n lg (-1) y) (fun j hj i h1 h2 => h j hj i (by omega) (by omega))]
theorem sTells_61 {n : Nat} {lg sa sb sc : Nat → Int32} {z r : Nat} (hb : ∀ j, j < z → ∃ k, k ≤ 60 ∧ sb j = nI k) (hr : r ≤ 61) (hl : sLast sb z = nI r - 1) (y : zLn) : sTells n lg sa sb sc z 61 0 y = sTells n lg sa sb sc z r 0 y := by
  rw [show 61 = r + (61 - r) by omega]
  refine sTells_more n lg sa sb sc z (61 - r) r 0 y (fun j hj i h1 h2 e => ?_)
  obtain ⟨k, hk, ek⟩ := hb j hj
  have h3 := sLast_ge (sb := sb) hj
  rw [hl, ek] at h3
  rw [ek, nI_eq (by omega) (by omega)] at e
  exact absurd ((nI_m1 (k := k) (r := r) (by omega) (by omega)).mpr (by omega)) (Int32.not_lt.mpr h3)
section MD
variable {tr : Int64} {tx : Nat → Int32} {ty n : Nat} {m1 : Int32} {lg ht la : Nat → Int32} {at_ st_ so_ va_ fa_ to_ : Int32} {nw ik td th : Nat → Int32} {ba bp br : Int32} {sa sb sc : Nat → Int32} {z : Nat}
variable {K : zP} {post : zP}

set_option maxRecDepth 100000 in
theorem m_fastest {x : zLn} (hx : mIs nw x) (hn : n ≤ 7) (hw : ∀ k, k < n → vp_in (x.1 k) 7) (h : ∀ td', post (some (.int (sFast n lg x.1 60))) (wD tr tx ty n m1 lg ht la at_ st_ so_ va_ fa_ to_ nw ik td' th ba bp br sa sb sc z)) : zGoes mX8_fastest 1 4 [.ref 0] (wD tr tx ty n m1 lg ht la at_ st_ so_ va_ fa_ to_ nw ik td th ba bp br sa sb sc z) post := by
  intro Z hZ
  have loop : ∀ (k : Nat) (o2 o3 : Option Value) (td : Nat → Int32), k < 60 → (∀ td', post (some (.int (sFast n lg x.1 (k + 1)))) (wD tr tx ty n m1 lg ht la at_ st_ so_ va_ fa_ to_ nw ik td' th ba bp br sa sb sc z)) → Z 7 [some (.ref 0), some (.int (nI (k + 1))), o2, o3] [] (wD tr tx ty n m1 lg ht la at_ st_ so_ va_ fa_ to_ nw ik td th ba bp br sa sb sc z) := by
    intro k
    induction k with
    | zero =>
      intro o2 o3 td hk h
      exact hZ.1 [7] 60 _ _ _ _ (And.intro (fun c => h td) (fun c => absurd (by decide) c))
    | succ k ih =>
      intro o2 o3 td hk h
      unfold sFast at h
      have inner : ∀ (d p : Nat) (bo : Bool), p + d = n → (bo = true ↔ ∀ j, j < p → sWant (nI (k + 2)) n j ≤ lg (x.1 j).toNatClampNeg) → Z 24 [some (.ref 0), some (.int (nI (k + 2))), some (.int (zb bo)), some (.int (nI p))] [] (wD tr tx ty n m1 lg ht la at_ st_ so_ va_ fa_ to_ nw ik (upd td 21 (nI (k + 2))) th ba bp br sa sb sc z) := by
        intro d
        induction d with
        | zero =>
          intro p bo hp hbo
          have e : p = n := by omega
          subst e
          have e2 : bo = sStride p lg x.1 (nI (k + 2)) := by
            cases hs : sStride p lg x.1 (nI (k + 2)) with
            | true => exact hbo.mpr (fun j hj => of_decide_eq_true (List.all_eq_true.mp hs j (List.mem_range.mpr hj)))
            | false =>
              cases bo with
              | false => rfl
              | true =>
                have : sStride p lg x.1 (nI (k + 2)) = true := all_yes (fun j hj => decide_eq_true (hbo.mp rfl j hj))
                rw [this] at hs
                cases hs
          refine hZ.1 [7, 24] 60 _ _ _ _ (And.intro (vpd (by decide)) (And.intro (fun c => And.intro (fun c2 => ?_) (fun c2 => ?_)) (fun c => absurd (le_of (Nat.le_refl p) (by omega)) c)))
          · rw [← e2, zb0 c2] at h
            have := ih (some (.int (zb bo))) (some (.int (nI p))) (upd td 21 (nI (k + 2))) (by omega) h
            rw [← pk_m1] at this
            exact this
          · rw [← e2, zb1 c2] at h
            exact h _
        | succ d ih2 =>
          intro p bo hp hbo
          have ew : nw (0 + nI p).toNatClampNeg = x.1 p := by rw [cA a0 (by omega), Nat.zero_add]; exact mIs_w hx (by omega)
          have el : lg (nw (0 + nI p).toNatClampNeg).toNatClampNeg = lg (x.1 p).toNatClampNeg := by rw [ew]
          have next : ∀ (b2 : Bool), (b2 = true ↔ (bo = true ∧ sWant (nI (k + 2)) n p ≤ lg (x.1 p).toNatClampNeg)) → Z 73 [some (.ref 0), some (.int (nI (k + 2))), some (.int (zb bo)), some (.int (nI p))] [.int (zb b2)] (wD tr tx ty n m1 lg ht la at_ st_ so_ va_ fa_ to_ nw ik (upd td 21 (nI (k + 2))) th ba bp br sa sb sc z) := by
            intro b2 hb2
            have := ih2 (p + 1) b2 (by omega) ⟨fun w j h3 => by
              obtain ⟨w1, w2⟩ := hb2.mp w
              rcases Nat.lt_or_ge j p with q | q
              · exact hbo.mp w1 j q
              · have : j = p := by omega
                subst this; exact w2, fun w => hb2.mpr ⟨hbo.mpr (fun j h3 => w j (by omega)), w p (by omega)⟩⟩
            rw [← nI_1 p] at this
            exact hZ.1 [24] 60 _ _ _ _ this
          refine hZ.1 [24, 73] 60 _ _ _ _ (And.intro (vpd (by decide)) (And.intro (fun c => ?_) (fun c => And.intro (fun c2 => ?_) (fun c2 => And.intro (vpd (by decide)) (u_mwantsT hn p (And.intro (vA a0 (by omega) (by omega)) (And.intro (by rw [ew]; exact vp_wide (hw p (by omega)) (by omega)) (And.intro (fun c3 => ?_) (fun c3 => ?_)))))))))
          · exact absurd (show nI n ≤ nI p from c) (nle_of (by omega) (by omega))
          · exact next false ⟨fun w => (by cases w), fun w => by rw [zb0 c2] at w; exact w.1⟩
          · have c3 : lg (nw (0 + nI p).toNatClampNeg).toNatClampNeg < sWant (nI (k + 2)) n p := c3
            rw [el] at c3
            exact next false ⟨fun w => (by cases w), fun w => absurd w.2 (Int32.not_le.mpr c3)⟩
          · have c3 : ¬ lg (nw (0 + nI p).toNatClampNeg).toNatClampNeg < sWant (nI (k + 2)) n p := c3
            rw [el] at c3
            exact next true ⟨fun _ => ⟨zb1 c2, Int32.not_lt.mp c3⟩, fun _ => rfl⟩
      refine hZ.1 [7, 24] 60 _ _ _ _ (And.intro (fun c => ?_) (fun c => And.intro (vpd (by decide)) (inner n 0 true (by omega) ⟨fun _ j hj => absurd hj (Nat.not_lt_zero _), fun _ => rfl⟩)))
      rw [← n1, nI_leI (by omega) (by omega)] at c
      omega
  exact hZ.1 [7] 60 _ _ _ _ (u_take (fun td' htd => loop 59 none none td' (by omega) h))
set_option maxRecDepth 100000 in
theorem u_isSo {x : zLn} (hx : mIs nw x) (hn : n ≤ 7) (hw : ∀ k, k < n → vp_in (x.1 k) 7) (hlg : ∀ k, k < n → 0 ≤ lg (x.1 k).toNatClampNeg) (hi : ∀ k, k < n → -999 ≤ x.2.1 k ∧ x.2.1 k ≤ 999) (hz : z ≤ 6) (ha : ∀ j, j < z → vp_in (sa j) 7) (p : Nat) (hp : p < n) (u : Int32) (hu : 1 ≤ u ∧ u ≤ 99) (h : ∀ td' th', K (some (.int (zb (sTells n lg sa sb sc z 61 0 (sLose p u x))))) (wD tr tx ty n m1 lg ht la at_ st_ so_ va_ fa_ to_ nw ik td' th' ba bp br sa sb sc z)) : zFV 8 3 (zGoes mX8_isSo 3 6) [.ref 0, .int (nI p), .int u] (wD tr tx ty n m1 lg ht la at_ st_ so_ va_ fa_ to_ nw ik td th ba bp br sa sb sc z) K := by
  refine And.intro rfl (Or.inl ⟨rfl, rfl, ?_⟩)
  intro Z hZ
  have fin0 : ∀ (k : Nat) (o5 : Option Value) (td th : Nat → Int32), K (some (.int 0)) (wD tr tx ty n m1 lg ht la at_ st_ so_ va_ fa_ to_ nw ik td th ba bp br sa sb sc z) → Z 32 [some (.ref 0), some (.int (nI p)), some (.int u), some (.int 0), some (.int (nI k)), o5] [] (wD tr tx ty n m1 lg ht la at_ st_ so_ va_ fa_ to_ nw ik td th ba bp br sa sb sc z) := fun k o5 td th h => hZ.1 [] 60 _ _ _ _ (And.intro (fun _ => And.intro (Or.inl rfl) h) (fun _ => And.intro (fun _ => And.intro (Or.inl rfl) h) (fun e => absurd rfl e)))
  have loop : ∀ (d k : Nat) (y : zLn) (o5 : Option Value) (td th : Nat → Int32), k + d = 61 → y.1 = x.1 → mIs td (sTk k y) → (∀ td' th', K (some (.int (zb (sTells n lg sa sb sc z d k y)))) (wD tr tx ty n m1 lg ht la at_ st_ so_ va_ fa_ to_ nw ik td' th' ba bp br sa sb sc z)) → Z 32 [some (.ref 0), some (.int (nI p)), some (.int u), some (.int 1), some (.int (nI k)), o5] [] (wD tr tx ty n m1 lg ht la at_ st_ so_ va_ fa_ to_ nw ik td th ba bp br sa sb sc z) := by
    intro d
    induction d with
    | zero =>
      intro k y o5 td th hk hyx hy h
      have e2 : k = 61 := by omega
      subst e2
      exact hZ.1 [32] 60 _ _ _ _ (And.intro (fun c => And.intro (Or.inr rfl) (h _ _)) (fun c => absurd (by decide) c))
    | succ d ih =>
      intro k y o5 td th hk hyx hy h
      unfold sTells at h
      have inner : ∀ (d2 j : Nat) (bo : Bool), j + d2 = z → (bo = true ↔ ∀ i, i < j → sb i = nI k → y.2.1 (sa i).toNatClampNeg = sc i) → Z 46 [some (.ref 0), some (.int (nI p)), some (.int u), some (.int (zb bo)), some (.int (nI k)), some (.int (nI j))] [] (wD tr tx ty n m1 lg ht la at_ st_ so_ va_ fa_ to_ nw ik td th ba bp br sa sb sc z) := by
        intro d2
        induction d2 with
        | zero =>
          intro j bo hj hbo
          have e : j = z := by omega
          subst e
          have e2 : bo = sFit sa sb sc y.2.1 (nI k) j := by
            cases hs : sFit sa sb sc y.2.1 (nI k) j with
            | true => exact hbo.mpr (fun i hi2 => of_decide_eq_true (List.all_eq_true.mp hs i (List.mem_range.mpr hi2)))
            | false =>
              cases bo with
              | false => rfl
              | true =>
                rw [sFit_go (hbo.mp rfl)] at hs
                cases hs
          refine hZ.1 [32, 46] 60 _ _ _ _ (And.intro (fun c => ?_) (fun c => absurd (le_of (Nat.le_refl j) (by omega)) c))
          refine u_paceT hn hy (by show ∀ k, k < n → vp_in (y.1 k) 7; rw [hyx]; exact hw) (by show ∀ k, k < n → 0 ≤ lg (y.1 k).toNatClampNeg; rw [hyx]; exact hlg) (-1009) (fun F' th' h1 h2 => ?_)
          rw [sTick_step, sStep_nopost n hn] at h1
          rw [← e2] at h
          cases bo with
          | true =>
            have := ih (k + 1) (sStep n lg (-1) y) (some (.int (nI j))) F' th' (by omega) hyx h1 h
            rw [← nI_1] at this
            exact this
          | false =>
            have := fin0 (k + 1) (some (.int (nI j))) F' th' (h _ _)
            rw [← nI_1] at this
            exact this
        | succ d2 ih2 =>
          intro j bo hj hbo
          obtain ⟨a, ha1, ha2⟩ := vp_in_of (ha j (by omega)) (by decide)
          have et : td (7 + sa (nI j).toNatClampNeg).toNatClampNeg = y.2.1 (sa j).toNatClampNeg := by
            rw [nI_c0 (by omega), ha2, cA a7 (by omega), nI_c0 (by omega)]
            exact mIs_i hy (by omega)
          have eb : sb (nI j).toNatClampNeg = sb j := by rw [nI_c0 (by omega)]
          have ec : sc (nI j).toNatClampNeg = sc j := by rw [nI_c0 (by omega)]
          have next : ∀ (b2 : Bool), (b2 = true ↔ (bo = true ∧ (sb j = nI k → y.2.1 (sa j).toNatClampNeg = sc j))) → Z 101 [some (.ref 0), some (.int (nI p)), some (.int u), some (.int (zb bo)), some (.int (nI k)), some (.int (nI j))] [.int (zb b2)] (wD tr tx ty n m1 lg ht la at_ st_ so_ va_ fa_ to_ nw ik td th ba bp br sa sb sc z) := by
            intro b2 hb2
            have := ih2 (j + 1) b2 (by omega) ⟨fun w i h3 => by
              obtain ⟨w1, w2⟩ := hb2.mp w
              rcases Nat.lt_or_ge i j with q | q
              · exact hbo.mp w1 i q
              · have : i = j := by omega
                subst this; exact w2, fun w => hb2.mpr ⟨hbo.mpr (fun i h3 => w i (by omega)), w j (by omega)⟩⟩
            rw [← nI_1] at this
            exact hZ.1 [46] 60 _ _ _ _ this
          refine hZ.1 [46, 101] 60 _ _ _ _ (And.intro (fun c => ?_) (fun c => And.intro (fun c2 => ?_) (fun c2 => And.intro (vi0 (by omega) (by omega)) (And.intro (fun c3 => ?_) (fun c3 => ?_)))))
          · exact absurd (show nI z ≤ nI j from c) (nle_of (by omega) (by omega))
          · exact next false ⟨fun w => (by cases w), fun w => by rw [zb0 c2] at w; exact w.1⟩
          · rw [eb] at c3
            refine And.intro (vi0 (by omega) (by omega)) (And.intro (by rw [nI_c0 (by omega), ha2]; exact vA a7 (by omega) (by omega)) (And.intro (vi0 (by omega) (by omega)) (And.intro (fun c4 => ?_) (fun c4 => ?_))))
            · rw [et, ec] at c4
              exact next true ⟨fun _ => ⟨zb1 c2, fun _ => c4⟩, fun _ => rfl⟩
            · rw [et, ec] at c4
              exact next false ⟨fun w => (by cases w), fun w => absurd (w.2 c3) c4⟩
          · rw [eb] at c3
            exact next true ⟨fun _ => ⟨zb1 c2, fun w => absurd w c3⟩, fun _ => rfl⟩
      refine hZ.1 [32, 46] 60 _ _ _ _ (And.intro (fun c => ?_) (fun c => And.intro (fun c2 => absurd c2 (by decide)) (fun c2 => inner z 0 true (by omega) ⟨fun _ i hi2 => absurd hi2 (Nat.not_lt_zero _), fun _ => rfl⟩)))
      rw [show (60 : Int32) = nI 60 by decide] at c
      exact absurd c (nI_nlt (by omega) (by omega))
  refine hZ.1 [32] 60 _ _ _ _ (u_take (fun td' htd => ?_))
  have e1 : td' (7 + nI p).toNatClampNeg = x.2.1 p := by rw [cA a7 (by omega), htd _ (by omega)]; exact mIs_i hx (by omega)
  refine And.intro (vA a7 (by omega) (by omega)) (u_held _ (And.intro (vA a7 (by omega) (by omega)) ?_))
  refine loop 61 0 (sLose p u x) none _ _ (by omega) rfl ?_ h
  rw [sTk_0, e1, clamp_down (hi p hp).2 hu.1 hu.2 (hi p hp).1, cA a7 (by omega)]
  exact mIs_updi (mIs_td hx htd) p (by omega) _
set_option maxRecDepth 100000 in
theorem m_whose {x : zLn} (hx : mIs nw x) (hn : n ≤ 7) (hw : ∀ k, k < n → vp_in (x.1 k) 7) (hlg : ∀ k, k < n → 0 ≤ lg (x.1 k).toNatClampNeg) (hi : ∀ k, k < n → -999 ≤ x.2.1 k ∧ x.2.1 k ≤ 999) (hz : z ≤ 6) (ha : ∀ j, j < z → vp_in (sa j) 7) (hb : ∀ j, j < z → ∃ k, k ≤ 60 ∧ sb j = nI k) (r : Nat) (hr : r ≤ 61) (hl : sLast sb z = nI r - 1) (a : Int32) (h : ∀ td' th', post (some (.int (sWhose (sWho n lg x sa sb sc z r) a))) (wD tr tx ty n m1 lg ht la at_ st_ so_ va_ fa_ to_ nw ik td' th' ba bp br sa sb sc z)) : zGoes mX8_whose 1 7 [.ref 0, .int a] (wD tr tx ty n m1 lg ht la at_ st_ so_ va_ fa_ to_ nw ik td th ba bp br sa sb sc z) post := by
  intro Z hZ
  refine hZ.1 [25] 60 _ _ _ _ (u_in a 0 2 (fun q => ?_) (fun q => ?_))
  · have outer : ∀ (d p m : Nat) (s : zT3) (o6 : Option Value) (td th : Nat → Int32), p + d = n → m ≤ 40 * p → s.1 = nI m → (m = 0 ↔ s.2.1 = -1009) → (∀ td' th', post (some (.int (sWhose (sWo (fun p u => sTells n lg sa sb sc z r 0 (sLose p (nI u) x)) d p s) a))) (wD tr tx ty n m1 lg ht la at_ st_ so_ va_ fa_ to_ nw ik td' th' ba bp br sa sb sc z)) → Z 25 [some (.ref 0), some (.int a), some (.int s.1), some (.int s.2.1), some (.int s.2.2), some (.int (nI p)), o6] [] (wD tr tx ty n m1 lg ht la at_ st_ so_ va_ fa_ to_ nw ik td th ba bp br sa sb sc z) := by
      intro d
      induction d with
      | zero =>
        intro p m s o6 td th hp _ _ _ h
        have e : p = n := by omega
        subst e
        have h := h td th
        unfold sWhose at h
        rw [if_pos q] at h
        refine hZ.1 [25] 60 _ _ _ _ (And.intro (vpd (by decide)) (And.intro (fun c => And.intro (fun g2 => ?_) (fun g2 => And.intro (fun g3 => ?_) (fun g3 => ?_))) (fun c => ?_)))
        · rw [if_pos g2] at h
          exact h
        · rw [if_neg g2, if_pos g3] at h
          exact h
        · rw [if_neg g2, if_neg g3] at h
          exact h
        · exact absurd (le_of (Nat.le_refl p) (by omega)) c
      | succ d ih =>
        intro p m s o6 td th hp hm hs hs2 h
        have inner : ∀ (d2 u m : Nat) (s : zT3) (td th : Nat → Int32), u + d2 = 41 → 1 ≤ u → m < 40 * p + u → s.1 = nI m → (m = 0 ↔ s.2.1 = -1009) → (∀ td' th', post (some (.int (sWhose (sWo (fun p u => sTells n lg sa sb sc z r 0 (sLose p (nI u) x)) d (p + 1) (sWi (fun p u => sTells n lg sa sb sc z r 0 (sLose p (nI u) x)) p d2 u s)) a))) (wD tr tx ty n m1 lg ht la at_ st_ so_ va_ fa_ to_ nw ik td' th' ba bp br sa sb sc z)) → Z 39 [some (.ref 0), some (.int a), some (.int s.1), some (.int s.2.1), some (.int s.2.2), some (.int (nI p)), some (.int (nI u))] [] (wD tr tx ty n m1 lg ht la at_ st_ so_ va_ fa_ to_ nw ik td th ba bp br sa sb sc z) := by
          intro d2
          induction d2 with
          | zero =>
            intro u m s td th hu hu1 hm hs hs2 h
            have := ih (p + 1) m s (some (.int (nI u))) td th (by omega) (by omega) hs hs2 h
            rw [← nI_1] at this
            refine hZ.1 [25, 39] 60 _ _ _ _ (And.intro (fun c => this) (fun c => ?_))
            exact absurd (by rw [show (40 : Int32) = nI 40 by decide]; exact nI_lt (by omega) (by omega)) c
          | succ d2 ih2 =>
            intro u m s td th hu hu1 hm hs hs2 h
            have h : ∀ td' th', post (some (.int (sWhose (sWo (fun p u => sTells n lg sa sb sc z r 0 (sLose p (nI u) x)) d (p + 1) (sWi (fun p u => sTells n lg sa sb sc z r 0 (sLose p (nI u) x)) p d2 (u + 1) (sWs (fun p u => sTells n lg sa sb sc z r 0 (sLose p (nI u) x)) s p u))) a))) (wD tr tx ty n m1 lg ht la at_ st_ so_ va_ fa_ to_ nw ik td' th' ba bp br sa sb sc z) := h
            refine hZ.1 [25, 39, 73] 60 _ _ _ _ (And.intro (fun c => ?_) (fun c => u_isSo hx hn hw hlg hi hz ha p (by omega) (nI u) ⟨by rw [← n1]; exact nI_le hu1 (by omega), by rw [show (99 : Int32) = nI 99 by decide]; exact nI_le (by omega) (by omega)⟩ (fun td2 th2 => ?_)))
            · rw [show (40 : Int32) = nI 40 by decide] at c
              exact absurd c (nI_nlt (by omega) (by omega))
            · rw [sTells_61 hb hr hl]
              refine And.intro (fun g2 => ?_) (fun g2 => ?_)
              · have e := zb0 g2
                have := ih2 (u + 1) m s td2 th2 (by omega) (by omega) (by omega) hs hs2 (fun td' th' => by
                  have := h td' th'
                  rw [show sWs (fun p u => sTells n lg sa sb sc z r 0 (sLose p (nI u) x)) s p u = s from if_neg (by show ¬ sTells n lg sa sb sc z r 0 (sLose p (nI u) x) = true; rw [e]; decide)] at this
                  exact this)
                rw [← nI_1] at this
                exact this
              · have e := zb1 g2
                have hne : ¬ (100 * nI p + nI u : Int32) = -1009 := by
                  rw [show (100 : Int32) = nI 100 by decide, pk_mul, nI_add]
                  intro w
                  have := congrArg Int32.toInt w
                  rw [nI_toInt (by omega)] at this
                  have e9 : (-1009 : Int32).toInt = -1009 := by decide
                  rw [e9] at this
                  omega
                have := ih2 (u + 1) (m + 1) (s.1 + 1, (if s.2.1 = -1009 then 100 * nI p + nI u else s.2.1), s.2.2 ||| (1 : Int32) <<< (nI p &&& 31)) td2 th2 (by omega) (by omega) (by omega) (by show s.1 + 1 = _; rw [hs, nI_1]) ⟨fun w => by omega, fun w => by
                    exfalso
                    have w : (if s.2.1 = -1009 then 100 * nI p + nI u else s.2.1) = -1009 := w
                    by_cases c3 : s.2.1 = -1009
                    · rw [if_pos c3] at w
                      exact hne w
                    · rw [if_neg c3] at w
                      exact c3 w⟩ (fun td' th' => by
                  have := h td' th'
                  rw [show sWs (fun p u => sTells n lg sa sb sc z r 0 (sLose p (nI u) x)) s p u = (s.1 + 1, (if s.2.1 = -1009 then 100 * nI p + nI u else s.2.1), s.2.2 ||| (1 : Int32) <<< (nI p &&& 31)) from if_pos e] at this
                  exact this)
                rw [← nI_1] at this
                have j73 : Z 73 [some (.ref 0), some (.int a), some (.int s.1), some (.int s.2.1), some (.int s.2.2), some (.int (nI p)), some (.int (nI u))] [.int (if s.2.1 = -1009 then 100 * nI p + nI u else s.2.1)] (wD tr tx ty n m1 lg ht la at_ st_ so_ va_ fa_ to_ nw ik td2 th2 ba bp br sa sb sc z) := hZ.1 [39] 60 _ _ _ _ this
                refine And.intro (fun g3 => ?_) (fun g3 => ?_)
                · have : s.2.1 = -1009 := hs2.mp (by
                    rw [hs, ← nI_0, nI_eq (by omega) (by omega)] at g3
                    exact g3)
                  rw [if_pos this] at j73
                  exact j73
                · have : ¬ s.2.1 = -1009 := fun w => g3 (by rw [hs, hs2.mpr w]; rfl)
                  rw [if_neg this] at j73
                  exact j73
        refine hZ.1 [25, 39] 60 _ _ _ _ (And.intro (vpd (by decide)) (And.intro (fun c => ?_) (fun c => inner 40 1 m s td th (by omega) (by omega) (by omega) hs hs2 h)))
        exact absurd (show nI n ≤ nI p from c) (nle_of (by omega) (by omega))
    exact And.intro (fun e => absurd e (by decide)) (fun _ => outer n 0 0 (0, -1009, 0) none td th (by omega) (by omega) rfl ⟨fun _ => rfl, fun _ => rfl⟩ h)
  · have h := h td th
    unfold sWhose at h
    rw [if_neg q] at h
    exact And.intro (fun _ => h) (fun e => absurd rfl e)

end MD
