
theorem mtakes {m v : Int32} (hm : 0 ≤ m) : zmin m (zmax 0 v) = if v < 0 then 0 else if m < v then m else v := by
  unfold zmin zmax
  by_cases h0 : v < 0
  · rw [if_pos h0, if_neg (Int32.not_lt.mpr (Int32.le_of_lt h0))]
    by_cases c : (0 : Int32) < m
    · rw [if_pos c]
    · rw [if_neg c]
      exact (Int32.le_antisymm hm (Int32.not_lt.mp c)).symm
  · rw [if_neg h0]
    by_cases hz : 0 < v
    · rw [if_pos hz]
      by_cases c : v < m
      · rw [if_pos c, if_neg (Int32.not_lt.mpr (Int32.le_of_lt c))]
      · rw [if_neg c]
        by_cases c2 : m < v
        · rw [if_pos c2]
        · rw [if_neg c2]
          exact Int32.le_antisymm (Int32.not_lt.mp c) (Int32.not_lt.mp c2)
    · have e : v = 0 := Int32.le_antisymm (Int32.not_lt.mp hz) (Int32.not_lt.mp h0)
      subst e
      rw [if_neg hz]
      by_cases c : (0 : Int32) < m
      · rw [if_pos c, if_neg (Int32.not_lt.mpr hm)]
      · rw [if_neg c, if_neg (Int32.not_lt.mpr hm)]
        exact (Int32.le_antisymm hm (Int32.not_lt.mp c)).symm
theorem vp_wide {i : Int32} {a b : Nat} (h : vp_in i a) (hab : a ≤ b) : vp_in i b := fun q => h (q.elim Or.inl (fun z => Or.inr (by omega)))
theorem last_iff {n p : Nat} (hn : n ≤ 7) (hp : p < n) : nI p = nI n - 1 ↔ ¬ p + 1 < n := by
  obtain ⟨m, hm⟩ : ∃ m, n = m + 1 := ⟨n - 1, by omega⟩
  rw [hm, nI_pred, nI_eq (by omega) (by omega)]
  omega
section MD
variable {tr : Int64} {tx : Nat → Int32} {ty n : Nat} {m1 : Int32} {lg ht la : Nat → Int32} {at_ st_ so_ va_ fa_ to_ : Int32} {nw ik td th : Nat → Int32} {ba bp br : Int32} {sa sb sc : Nat → Int32} {z : Nat}
variable {K : zP} {post : zP}

set_option maxRecDepth 100000 in
set_option maxHeartbeats 4000000 in
theorem u_paceN {y : zLn} (hn : n ≤ 7) (hF : mIs nw y) (hw : ∀ k, k < n → vp_in (y.1 k) 7) (hlg : ∀ k, k < n → 0 ≤ lg (y.1 k).toNatClampNeg) (q : Int32) (h : ∀ F' th', mIs F' (sTick (sStep n lg q y)) → (∀ k, 25 ≤ k → F' k = nw k) → K none (wD tr tx ty n m1 lg ht la at_ st_ so_ va_ fa_ to_ F' ik td th' ba bp br sa sb sc z)) : zFV 8 3 (zGoes mX8_pace 0 10) [.ref 0, .ref 6, .int q] (wD tr tx ty n m1 lg ht la at_ st_ so_ va_ fa_ to_ nw ik td th ba bp br sa sb sc z) K := by
  refine And.intro rfl (Or.inl ⟨rfl, rfl, ?_⟩)
  intro Z hZ
  obtain ⟨g, hg⟩ : ∃ g, g = sMv y.1 y.2.1 y.2.2.2.1 y.2.2.2.2.1 y.2.2.2.2.2.1 n lg q := ⟨_, rfl⟩
  have second : ∀ (d p : Nat) (o5 o6 o7 o8 o9 : Option Value) (tt : Nat → Int32), (∀ k, k < n → tt k = g k) → p + d = n → Z 186 [some (.ref 0), some (.ref 6), some (.int q), some (.int (nI n)), some (.int (nI p)), o5, o6, o7, o8, o9] [] (wD tr tx ty n m1 lg ht la at_ st_ so_ va_ fa_ to_ (sFo 7 g nw p) ik td tt ba bp br sa sb sc z) := by
    intro d
    induction d with
    | zero =>
      intro p o5 o6 o7 o8 o9 tt ht hp
      have e : p = n := by omega
      subst e
      refine hZ.1 [186] 60 _ _ _ _ (And.intro (fun c => u_hopAllN hn (fun th' => And.intro (vpd (by decide)) (And.intro (vpd (by decide)) ?_))) (fun c => absurd (le_of (Nat.le_refl _) (by omega)) c))
      refine h _ th' ?_ ?_
      · refine mIs_of (fun k hk => ?_) (fun k hk => ?_) (fun k hk => ?_) ?_ ?_ ?_ ?_
        · show upd _ 24 _ k = _
          rw [pk_un (by omega), sFo_out (by omega), sFo_out (by omega)]
          exact mIs_w hF hk
        · show upd _ 24 _ (7 + k) = _
          rw [pk_un (by omega), sFo_out (by omega)]
          show _ = sFill _ y.2.1 p k
          rcases Nat.lt_or_ge k p with c | c
          · rw [sFo_in c, sFill_lt c, hg]
          · rw [sFo_out (by omega), sFill_ge c]
            exact mIs_i hF hk
        · show upd _ 24 _ (14 + k) = _
          rw [pk_un (by omega)]
          show _ = sFill _ y.2.2.1 p k
          rcases Nat.lt_or_ge k p with c | c
          · rw [sFo_in c, sFill_lt c]
            refine sFt_cong hn c (fun j hj => ?_)
            show sFo 7 g nw p (14 + j) = y.2.2.1 j
            rw [sFo_out (by omega)]
            exact mIs_f hF hj
          · rw [sFo_out (by omega), sFill_ge c, sFo_out (by omega)]
            exact mIs_f hF hk
        · show upd _ 24 _ 21 = _
          rw [pk_un (by omega), sFo_out (by omega), sFo_out (by omega)]
          exact (mIs_21 hF :)
        · show upd _ 24 _ 22 = _
          rw [pk_un (by omega), sFo_out (by omega), sFo_out (by omega)]
          exact (mIs_22 hF :)
        · show upd _ 24 _ 23 = _
          rw [pk_un (by omega), sFo_out (by omega), sFo_out (by omega)]
          exact (mIs_23 hF :)
        · show upd _ 24 (_ + 1) 24 = _
          rw [pk_us]
          show sFo 14 _ _ p 24 + 1 = y.2.2.2.2.2.2 + 1
          rw [sFo_out (by omega), sFo_out (by omega), mIs_24 hF]
      · intro k hk
        show upd _ 24 _ k = _
        rw [pk_un (by omega), sFo_out (by omega), sFo_out (by omega)]
    | succ d ih =>
      intro p o5 o6 o7 o8 o9 tt ht hp
      refine hZ.1 [186] 60 _ _ _ _ (And.intro (fun c => ?_) (fun c => And.intro (vi0 (by omega) (by omega)) (And.intro (vA a7 (by omega) (by omega)) ?_)))
      · exact absurd c (nle_of (by omega) (by omega))
      · have := ih (p + 1) o5 o6 o7 o8 o9 tt ht (by omega)
        have e : upd (sFo 7 g nw p) (7 + nI p).toNatClampNeg (tt (nI p).toNatClampNeg) = sFo 7 g nw (p + 1) := by rw [cA a7 (by omega), nI_c0 (by omega), ht p (by omega), sFo_upd]
        rw [← nI_1, ← e] at this
        exact this
  have first : ∀ (d p : Nat) (o5 o6 o7 o8 o9 : Option Value), p + d = n → Z 10 [some (.ref 0), some (.ref 6), some (.int q), some (.int (nI n)), some (.int (nI p)), o5, o6, o7, o8, o9] [] (wD tr tx ty n m1 lg ht la at_ st_ so_ va_ fa_ to_ nw ik td (sFill g th p) ba bp br sa sb sc z) := by
    intro d
    induction d with
    | zero =>
      intro p o5 o6 o7 o8 o9 hp
      have e : p = n := by omega
      subst e
      have := second p 0 o5 o6 o7 o8 o9 (sFill g th p) (fun k hk => sFill_lt hk) (by omega)
      rw [sFo_0] at this
      exact hZ.1 [10, 186] 60 _ _ _ _ (And.intro (fun c => this) (fun c => absurd (le_of (Nat.le_refl _) (by omega)) c))
    | succ d ih =>
      intro p o5 o6 o7 o8 o9 hp
      have ei : nw (7 + nI p).toNatClampNeg = y.2.1 p := by rw [cA a7 (by omega)]; exact mIs_i hF (by omega)
      have ew : nw (0 + nI p).toNatClampNeg = y.1 p := by rw [cA a0 (by omega), Nat.zero_add]; exact mIs_w hF (by omega)
      have e22 : nw (22 : Int32).toNatClampNeg = y.2.2.2.2.1 := mIs_22 hF
      have e23 : nw (23 : Int32).toNatClampNeg = y.2.2.2.2.2.1 := mIs_23 hF
      have j152 : ∀ (o5 o6 o8 o9 : Option Value) (wa v : Int32), wa = sWant y.2.2.2.1 n p → v = sTakes y.1 y.2.1 y.2.2.2.1 y.2.2.2.2.1 y.2.2.2.2.2.1 n lg q p → Z 152 [some (.ref 0), some (.ref 6), some (.int q), some (.int (nI n)), some (.int (nI p)), o5, o6, some (.int wa), o8, o9] [.int v] (wD tr tx ty n m1 lg ht la at_ st_ so_ va_ fa_ to_ nw ik td (sFill g th p) ba bp br sa sb sc z) := by
        intro o5 o6 o8 o9 wa v hwa hv
        have := ih (p + 1) o5 o6 (some (.int wa)) (some (.int v)) o9 (by omega)
        have e : upd (sFill g th p) (nI p).toNatClampNeg (zclamp (nw (7 + nI p).toNatClampNeg + v - wa)) = sFill g th (p + 1) := by
          rw [nI_c0 (by omega), ← sFill_upd, ei, hwa, hv, hg]
          rfl
        rw [← nI_1, ← e] at this
        exact hZ.1 [10] 60 _ _ _ _ (And.intro (vA a7 (by omega) (by omega)) (u_held _ (And.intro (vi0 (by omega) (by omega)) this)))
      have j73 : ∀ (o6 o7 o8 o9 : Option Value) (u v : Int32), u = sSees y.2.1 n p → v = sFeels y.2.1 p → Z 73 [some (.ref 0), some (.ref 6), some (.int q), some (.int (nI n)), some (.int (nI p)), some (.int u), o6, o7, o8, o9] [.int v] (wD tr tx ty n m1 lg ht la at_ st_ so_ va_ fa_ to_ nw ik td (sFill g th p) ba bp br sa sb sc z) := by
        intro o6 o7 o8 o9 u v hu hv
        have ewa : sWant (nw 21) n p = sWant y.2.2.2.1 n p := by rw [mIs_21 hF]
        have ewo : sWant (nw 21) n p + nw (22 : Int32).toNatClampNeg * u / 10 + nw (23 : Int32).toNatClampNeg * v / 10 = sWould y.2.1 y.2.2.2.1 y.2.2.2.2.1 y.2.2.2.2.2.1 n p := by rw [e22, e23, ewa, hu, hv]; rfl
        have emo : lg (nw (0 + nI p).toNatClampNeg).toNatClampNeg = lg (y.1 p).toNatClampNeg := by rw [ew]
        have etk : ¬ nI p = q → sTakes y.1 y.2.1 y.2.2.2.1 y.2.2.2.2.1 y.2.2.2.2.2.1 n lg q p = if sWould y.2.1 y.2.2.2.1 y.2.2.2.2.1 y.2.2.2.2.2.1 n p < 0 then 0 else if lg (y.1 p).toNatClampNeg < sWould y.2.1 y.2.2.2.1 y.2.2.2.2.1 y.2.2.2.2.2.1 n p then lg (y.1 p).toNatClampNeg else sWould y.2.1 y.2.2.2.1 y.2.2.2.2.1 y.2.2.2.2.2.1 n p := fun hq => by
          rw [← mtakes (hlg p (by omega))]
          exact if_neg hq
        refine hZ.1 [152] 90 _ _ _ _ (u_mwantsN hn p (And.intro (vpd (by decide)) (And.intro (by decide) (And.intro (vpd (by decide)) (And.intro (by decide) (And.intro (vA a0 (by omega) (by omega)) (And.intro (by rw [ew]; exact vp_wide (hw p (by omega)) (by omega)) (And.intro (fun c => ?_) (fun c => And.intro (fun c2 => ?_) (fun c2 => And.intro (fun c3 => ?_) (fun c3 => ?_)))))))))))
        · refine j152 _ _ _ _ _ _ ewa ?_
          by_cases hq : nI p = q
          · exact (if_pos hq).symm
          · rw [etk hq, if_pos (by rw [← ewo]; exact c)]
        · exact j152 _ _ _ _ _ _ ewa (if_pos c2).symm
        · refine j152 _ _ _ _ _ _ ewa ?_
          rw [etk c2, if_neg (by rw [← ewo]; exact c), if_neg (by rw [← ewo, ← emo]; exact Int32.not_lt.mpr c3)]
          exact ewo
        · refine j152 _ _ _ _ _ _ ewa ?_
          rw [etk c2, if_neg (by rw [← ewo]; exact c), if_pos (by rw [← ewo, ← emo]; exact Int32.not_le.mp c3)]
          exact emo
      have j45 : ∀ (o5 o6 o7 o8 o9 : Option Value) (u : Int32), u = sSees y.2.1 n p → Z 45 [some (.ref 0), some (.ref 6), some (.int q), some (.int (nI n)), some (.int (nI p)), o5, o6, o7, o8, o9] [.int u] (wD tr tx ty n m1 lg ht la at_ st_ so_ va_ fa_ to_ nw ik td (sFill g th p) ba bp br sa sb sc z) := by
        intro o5 o6 o7 o8 o9 u hu
        refine hZ.1 [73] 60 _ _ _ _ (And.intro (fun c => ?_) (fun c => ?_))
        · have c : p = 0 := by
            rcases Nat.eq_zero_or_pos p with z | z
            · exact z
            · exact absurd c (nI_ne0 z (by omega))
          exact j73 _ _ _ _ _ _ hu (if_neg (by omega)).symm
        · have c : 0 < p := by
            rcases Nat.eq_zero_or_pos p with z | z
            · subst z; exact absurd (by decide) c
            · exact z
          refine And.intro (vAm a7 (by omega) (by omega) (by omega)) (And.intro (vA a7 (by omega) (by omega)) (j73 _ _ _ _ _ _ hu ?_))
          rw [ei, cAm a7 (by omega) (by omega), show 7 + p - 1 = 7 + (p - 1) by omega, mIs_i hF (by omega)]
          exact (if_pos c).symm
      refine hZ.1 [45] 60 _ _ _ _ (And.intro (fun c => ?_) (fun c => And.intro (fun c2 => ?_) (fun c2 => ?_)))
      · exact absurd c (nle_of (by omega) (by omega))
      · exact j45 _ _ _ _ _ _ (if_neg ((last_iff hn (by omega)).mp c2)).symm
      · have c2 : p + 1 < n := by
          rcases Nat.lt_or_ge (p + 1) n with z | z
          · exact z
          · exact absurd ((last_iff hn (by omega)).mpr (by omega)) c2
        refine And.intro (vA1 a7 (by omega) (by omega)) (And.intro (vA a7 (by omega) (by omega)) (j45 _ _ _ _ _ _ ?_))
        rw [ei, cA1 a7 (by omega), show 7 + p + 1 = 7 + (p + 1) by omega, mIs_i hF (by omega)]
        exact (if_pos c2).symm
  have := first n 0 none none none none none (by omega)
  rw [sFill_0] at this
  exact hZ.1 [10] 60 _ _ _ _ (And.intro (vpd (by decide)) this)


set_option maxRecDepth 100000 in
set_option maxHeartbeats 4000000 in
theorem u_paceT {y : zLn} (hn : n ≤ 7) (hF : mIs td y) (hw : ∀ k, k < n → vp_in (y.1 k) 7) (hlg : ∀ k, k < n → 0 ≤ lg (y.1 k).toNatClampNeg) (q : Int32) (h : ∀ F' th', mIs F' (sTick (sStep n lg q y)) → (∀ k, 25 ≤ k → F' k = td k) → K none (wD tr tx ty n m1 lg ht la at_ st_ so_ va_ fa_ to_ nw ik F' th' ba bp br sa sb sc z)) : zFV 8 3 (zGoes mX8_pace 0 10) [.ref 0, .ref 8, .int q] (wD tr tx ty n m1 lg ht la at_ st_ so_ va_ fa_ to_ nw ik td th ba bp br sa sb sc z) K := by
  refine And.intro rfl (Or.inl ⟨rfl, rfl, ?_⟩)
  intro Z hZ
  obtain ⟨g, hg⟩ : ∃ g, g = sMv y.1 y.2.1 y.2.2.2.1 y.2.2.2.2.1 y.2.2.2.2.2.1 n lg q := ⟨_, rfl⟩
  have second : ∀ (d p : Nat) (o5 o6 o7 o8 o9 : Option Value) (tt : Nat → Int32), (∀ k, k < n → tt k = g k) → p + d = n → Z 186 [some (.ref 0), some (.ref 8), some (.int q), some (.int (nI n)), some (.int (nI p)), o5, o6, o7, o8, o9] [] (wD tr tx ty n m1 lg ht la at_ st_ so_ va_ fa_ to_ nw ik (sFo 7 g td p) tt ba bp br sa sb sc z) := by
    intro d
    induction d with
    | zero =>
      intro p o5 o6 o7 o8 o9 tt ht hp
      have e : p = n := by omega
      subst e
      refine hZ.1 [186] 60 _ _ _ _ (And.intro (fun c => u_hopAllT hn (fun th' => And.intro (vpd (by decide)) (And.intro (vpd (by decide)) ?_))) (fun c => absurd (le_of (Nat.le_refl _) (by omega)) c))
      refine h _ th' ?_ ?_
      · refine mIs_of (fun k hk => ?_) (fun k hk => ?_) (fun k hk => ?_) ?_ ?_ ?_ ?_
        · show upd _ 24 _ k = _
          rw [pk_un (by omega), sFo_out (by omega), sFo_out (by omega)]
          exact mIs_w hF hk
        · show upd _ 24 _ (7 + k) = _
          rw [pk_un (by omega), sFo_out (by omega)]
          show _ = sFill _ y.2.1 p k
          rcases Nat.lt_or_ge k p with c | c
          · rw [sFo_in c, sFill_lt c, hg]
          · rw [sFo_out (by omega), sFill_ge c]
            exact mIs_i hF hk
        · show upd _ 24 _ (14 + k) = _
          rw [pk_un (by omega)]
          show _ = sFill _ y.2.2.1 p k
          rcases Nat.lt_or_ge k p with c | c
          · rw [sFo_in c, sFill_lt c]
            refine sFt_cong hn c (fun j hj => ?_)
            show sFo 7 g td p (14 + j) = y.2.2.1 j
            rw [sFo_out (by omega)]
            exact mIs_f hF hj
          · rw [sFo_out (by omega), sFill_ge c, sFo_out (by omega)]
            exact mIs_f hF hk
        · show upd _ 24 _ 21 = _
          rw [pk_un (by omega), sFo_out (by omega), sFo_out (by omega)]
          exact (mIs_21 hF :)
        · show upd _ 24 _ 22 = _
          rw [pk_un (by omega), sFo_out (by omega), sFo_out (by omega)]
          exact (mIs_22 hF :)
        · show upd _ 24 _ 23 = _
          rw [pk_un (by omega), sFo_out (by omega), sFo_out (by omega)]
          exact (mIs_23 hF :)
        · show upd _ 24 (_ + 1) 24 = _
          rw [pk_us]
          show sFo 14 _ _ p 24 + 1 = y.2.2.2.2.2.2 + 1
          rw [sFo_out (by omega), sFo_out (by omega), mIs_24 hF]
      · intro k hk
        show upd _ 24 _ k = _
        rw [pk_un (by omega), sFo_out (by omega), sFo_out (by omega)]
    | succ d ih =>
      intro p o5 o6 o7 o8 o9 tt ht hp
      refine hZ.1 [186] 60 _ _ _ _ (And.intro (fun c => ?_) (fun c => And.intro (vi0 (by omega) (by omega)) (And.intro (vA a7 (by omega) (by omega)) ?_)))
      · exact absurd c (nle_of (by omega) (by omega))
      · have := ih (p + 1) o5 o6 o7 o8 o9 tt ht (by omega)
        have e : upd (sFo 7 g td p) (7 + nI p).toNatClampNeg (tt (nI p).toNatClampNeg) = sFo 7 g td (p + 1) := by rw [cA a7 (by omega), nI_c0 (by omega), ht p (by omega), sFo_upd]
        rw [← nI_1, ← e] at this
        exact this
  have first : ∀ (d p : Nat) (o5 o6 o7 o8 o9 : Option Value), p + d = n → Z 10 [some (.ref 0), some (.ref 8), some (.int q), some (.int (nI n)), some (.int (nI p)), o5, o6, o7, o8, o9] [] (wD tr tx ty n m1 lg ht la at_ st_ so_ va_ fa_ to_ nw ik td (sFill g th p) ba bp br sa sb sc z) := by
    intro d
    induction d with
    | zero =>
      intro p o5 o6 o7 o8 o9 hp
      have e : p = n := by omega
      subst e
      have := second p 0 o5 o6 o7 o8 o9 (sFill g th p) (fun k hk => sFill_lt hk) (by omega)
      rw [sFo_0] at this
      exact hZ.1 [10, 186] 60 _ _ _ _ (And.intro (fun c => this) (fun c => absurd (le_of (Nat.le_refl _) (by omega)) c))
    | succ d ih =>
      intro p o5 o6 o7 o8 o9 hp
      have ei : td (7 + nI p).toNatClampNeg = y.2.1 p := by rw [cA a7 (by omega)]; exact mIs_i hF (by omega)
      have ew : td (0 + nI p).toNatClampNeg = y.1 p := by rw [cA a0 (by omega), Nat.zero_add]; exact mIs_w hF (by omega)
      have e22 : td (22 : Int32).toNatClampNeg = y.2.2.2.2.1 := mIs_22 hF
      have e23 : td (23 : Int32).toNatClampNeg = y.2.2.2.2.2.1 := mIs_23 hF
      have j152 : ∀ (o5 o6 o8 o9 : Option Value) (wa v : Int32), wa = sWant y.2.2.2.1 n p → v = sTakes y.1 y.2.1 y.2.2.2.1 y.2.2.2.2.1 y.2.2.2.2.2.1 n lg q p → Z 152 [some (.ref 0), some (.ref 8), some (.int q), some (.int (nI n)), some (.int (nI p)), o5, o6, some (.int wa), o8, o9] [.int v] (wD tr tx ty n m1 lg ht la at_ st_ so_ va_ fa_ to_ nw ik td (sFill g th p) ba bp br sa sb sc z) := by
        intro o5 o6 o8 o9 wa v hwa hv
        have := ih (p + 1) o5 o6 (some (.int wa)) (some (.int v)) o9 (by omega)
        have e : upd (sFill g th p) (nI p).toNatClampNeg (zclamp (td (7 + nI p).toNatClampNeg + v - wa)) = sFill g th (p + 1) := by
          rw [nI_c0 (by omega), ← sFill_upd, ei, hwa, hv, hg]
          rfl
        rw [← nI_1, ← e] at this
        exact hZ.1 [10] 60 _ _ _ _ (And.intro (vA a7 (by omega) (by omega)) (u_held _ (And.intro (vi0 (by omega) (by omega)) this)))
      have j73 : ∀ (o6 o7 o8 o9 : Option Value) (u v : Int32), u = sSees y.2.1 n p → v = sFeels y.2.1 p → Z 73 [some (.ref 0), some (.ref 8), some (.int q), some (.int (nI n)), some (.int (nI p)), some (.int u), o6, o7, o8, o9] [.int v] (wD tr tx ty n m1 lg ht la at_ st_ so_ va_ fa_ to_ nw ik td (sFill g th p) ba bp br sa sb sc z) := by
        intro o6 o7 o8 o9 u v hu hv
        have ewa : sWant (td 21) n p = sWant y.2.2.2.1 n p := by rw [mIs_21 hF]
        have ewo : sWant (td 21) n p + td (22 : Int32).toNatClampNeg * u / 10 + td (23 : Int32).toNatClampNeg * v / 10 = sWould y.2.1 y.2.2.2.1 y.2.2.2.2.1 y.2.2.2.2.2.1 n p := by rw [e22, e23, ewa, hu, hv]; rfl
        have emo : lg (td (0 + nI p).toNatClampNeg).toNatClampNeg = lg (y.1 p).toNatClampNeg := by rw [ew]
        have etk : ¬ nI p = q → sTakes y.1 y.2.1 y.2.2.2.1 y.2.2.2.2.1 y.2.2.2.2.2.1 n lg q p = if sWould y.2.1 y.2.2.2.1 y.2.2.2.2.1 y.2.2.2.2.2.1 n p < 0 then 0 else if lg (y.1 p).toNatClampNeg < sWould y.2.1 y.2.2.2.1 y.2.2.2.2.1 y.2.2.2.2.2.1 n p then lg (y.1 p).toNatClampNeg else sWould y.2.1 y.2.2.2.1 y.2.2.2.2.1 y.2.2.2.2.2.1 n p := fun hq => by
          rw [← mtakes (hlg p (by omega))]
          exact if_neg hq
        refine hZ.1 [152] 90 _ _ _ _ (u_mwantsT hn p (And.intro (vpd (by decide)) (And.intro (by decide) (And.intro (vpd (by decide)) (And.intro (by decide) (And.intro (vA a0 (by omega) (by omega)) (And.intro (by rw [ew]; exact vp_wide (hw p (by omega)) (by omega)) (And.intro (fun c => ?_) (fun c => And.intro (fun c2 => ?_) (fun c2 => And.intro (fun c3 => ?_) (fun c3 => ?_)))))))))))
        · refine j152 _ _ _ _ _ _ ewa ?_
          by_cases hq : nI p = q
          · exact (if_pos hq).symm
          · rw [etk hq, if_pos (by rw [← ewo]; exact c)]
        · exact j152 _ _ _ _ _ _ ewa (if_pos c2).symm
        · refine j152 _ _ _ _ _ _ ewa ?_
          rw [etk c2, if_neg (by rw [← ewo]; exact c), if_neg (by rw [← ewo, ← emo]; exact Int32.not_lt.mpr c3)]
          exact ewo
        · refine j152 _ _ _ _ _ _ ewa ?_
          rw [etk c2, if_neg (by rw [← ewo]; exact c), if_pos (by rw [← ewo, ← emo]; exact Int32.not_le.mp c3)]
          exact emo
      have j45 : ∀ (o5 o6 o7 o8 o9 : Option Value) (u : Int32), u = sSees y.2.1 n p → Z 45 [some (.ref 0), some (.ref 8), some (.int q), some (.int (nI n)), some (.int (nI p)), o5, o6, o7, o8, o9] [.int u] (wD tr tx ty n m1 lg ht la at_ st_ so_ va_ fa_ to_ nw ik td (sFill g th p) ba bp br sa sb sc z) := by
        intro o5 o6 o7 o8 o9 u hu
        refine hZ.1 [73] 60 _ _ _ _ (And.intro (fun c => ?_) (fun c => ?_))
        · have c : p = 0 := by
            rcases Nat.eq_zero_or_pos p with z | z
            · exact z
            · exact absurd c (nI_ne0 z (by omega))
          exact j73 _ _ _ _ _ _ hu (if_neg (by omega)).symm
        · have c : 0 < p := by
            rcases Nat.eq_zero_or_pos p with z | z
            · subst z; exact absurd (by decide) c
            · exact z
          refine And.intro (vAm a7 (by omega) (by omega) (by omega)) (And.intro (vA a7 (by omega) (by omega)) (j73 _ _ _ _ _ _ hu ?_))
          rw [ei, cAm a7 (by omega) (by omega), show 7 + p - 1 = 7 + (p - 1) by omega, mIs_i hF (by omega)]
          exact (if_pos c).symm
      refine hZ.1 [45] 60 _ _ _ _ (And.intro (fun c => ?_) (fun c => And.intro (fun c2 => ?_) (fun c2 => ?_)))
      · exact absurd c (nle_of (by omega) (by omega))
      · exact j45 _ _ _ _ _ _ (if_neg ((last_iff hn (by omega)).mp c2)).symm
      · have c2 : p + 1 < n := by
          rcases Nat.lt_or_ge (p + 1) n with z | z
          · exact z
          · exact absurd ((last_iff hn (by omega)).mpr (by omega)) c2
        refine And.intro (vA1 a7 (by omega) (by omega)) (And.intro (vA a7 (by omega) (by omega)) (j45 _ _ _ _ _ _ ?_))
        rw [ei, cA1 a7 (by omega), show 7 + p + 1 = 7 + (p + 1) by omega, mIs_i hF (by omega)]
        exact (if_pos c2).symm
  have := first n 0 none none none none none (by omega)
  rw [sFill_0] at this
  exact hZ.1 [10] 60 _ _ _ _ (And.intro (vpd (by decide)) this)

end MD
