
def sFo (o : Nat) (g F : Nat → Int32) (p : Nat) : Nat → Int32 := fun k => if o ≤ k ∧ k < o + p then g (k - o) else F k
theorem sFo_0 (o : Nat) (g F : Nat → Int32) : sFo o g F 0 = F := by
  funext k
  exact if_neg (fun h => by omega)
theorem sFo_upd (o : Nat) (g F : Nat → Int32) (p : Nat) : upd (sFo o g F p) (o + p) (g p) = sFo o g F (p + 1) := by
  funext k
  unfold upd sFo
  by_cases h : k = o + p
  · subst h
    rw [if_pos rfl, if_pos (by omega), Nat.add_sub_cancel_left]
  · rw [if_neg h]
    by_cases h2 : o ≤ k ∧ k < o + p
    · rw [if_pos h2, if_pos (by omega)]
    · rw [if_neg h2, if_neg (by omega)]
theorem sFo_in {o : Nat} {g F : Nat → Int32} {p k : Nat} (h : k < p) : sFo o g F p (o + k) = g k := by
  unfold sFo
  rw [if_pos (by omega), Nat.add_sub_cancel_left]
theorem sFo_out {o : Nat} {g F : Nat → Int32} {p k : Nat} (h : k < o ∨ o + p ≤ k) : sFo o g F p k = F k := if_neg (by omega)
theorem sFt_cong {f g : Nat → Int32} {n p : Nat} (hn : n ≤ 7) (hp : p < n) (h : ∀ k, k < 7 → f k = g k) : sFt f n p = sFt g n p := by
  have e1 := h p (by omega)
  have e2 := h (p - 1) (by omega)
  unfold sFt
  by_cases c : p + 1 < n
  · rw [h (p + 1) (by omega), e1, e2]
  · rw [e1, e2]
    have c1 : n ≤ p + 1 := by omega
    simp [c1]
section MD
variable {tr : Int64} {tx : Nat → Int32} {ty n : Nat} {m1 : Int32} {lg ht la : Nat → Int32} {at_ st_ so_ va_ fa_ to_ : Int32} {nw ik td th : Nat → Int32} {ba bp br : Int32} {sa sb sc : Nat → Int32} {z : Nat}
variable {K : zP} {post : zP}

set_option maxRecDepth 100000 in
theorem u_take (h : ∀ td', (∀ k, k < 25 → td' k = nw k) → K none (wD tr tx ty n m1 lg ht la at_ st_ so_ va_ fa_ to_ nw ik td' th ba bp br sa sb sc z)) : zFV 8 1 (zGoes mX8_take 0 2) [.ref 0] (wD tr tx ty n m1 lg ht la at_ st_ so_ va_ fa_ to_ nw ik td th ba bp br sa sb sc z) K := by
  refine And.intro rfl (Or.inl ⟨rfl, rfl, ?_⟩)
  intro Z hZ
  have loop : ∀ d p : Nat, p + d = 25 → Z 2 [some (.ref 0), some (.int (nI p))] [] (wD tr tx ty n m1 lg ht la at_ st_ so_ va_ fa_ to_ nw ik (sFill nw td p) th ba bp br sa sb sc z) := by
    intro d
    induction d with
    | zero =>
      intro p hp
      have e : p = 25 := by omega
      subst e
      exact hZ.1 [2] 60 _ _ _ _ (And.intro (fun c => h _ (fun k hk => sFill_lt hk)) (fun c => absurd (by decide) c))
    | succ d ih =>
      intro p hp
      refine hZ.1 [2] 60 _ _ _ _ (And.intro (fun c => ?_) (fun c => And.intro (vi0 (by omega) (by omega)) (And.intro (vi0 (by omega) (by omega)) ?_)))
      · rw [a25] at c
        exact absurd c (nle_of (by omega) (by omega))
      · have := ih (p + 1) (by omega)
        have e : upd (sFill nw td p) (nI p).toNatClampNeg (nw (nI p).toNatClampNeg) = sFill nw td (p + 1) := by rw [nI_c0 (by omega), sFill_upd]
        rw [← nI_1, ← e] at this
        exact this
  have := loop 25 0 (by omega)
  rw [sFill_0] at this
  exact hZ.1 [2] 60 _ _ _ _ this
set_option maxRecDepth 100000 in
theorem u_bulgeAt (hn : n ≤ 7) (h : K (some (.int (sFirst (fun p => decide (zabs (nw (7 + (p + 1)) - nw (7 + p)) = sBulge (fun k => nw (7 + k)) (n - 1))) (-1009) (n - 1) 0))) (wD tr tx ty n m1 lg ht la at_ st_ so_ va_ fa_ to_ nw ik td th ba bp br sa sb sc z)) : zFV 8 2 (zGoes mX8_bulgeAt 1 3) [.ref 0, .ref 6] (wD tr tx ty n m1 lg ht la at_ st_ so_ va_ fa_ to_ nw ik td th ba bp br sa sb sc z) K := by
  refine And.intro rfl (Or.inl ⟨rfl, rfl, ?_⟩)
  intro Z hZ
  have loop : ∀ d p : Nat, p + d = n - 1 → K (some (.int (sFirst (fun p => decide (zabs (nw (7 + (p + 1)) - nw (7 + p)) = sBulge (fun k => nw (7 + k)) (n - 1))) (-1009) d p))) (wD tr tx ty n m1 lg ht la at_ st_ so_ va_ fa_ to_ nw ik td th ba bp br sa sb sc z) → Z 2 [some (.ref 0), some (.ref 6), some (.int (nI p))] [] (wD tr tx ty n m1 lg ht la at_ st_ so_ va_ fa_ to_ nw ik td th ba bp br sa sb sc z) := by
    intro d
    induction d with
    | zero =>
      intro p hp h
      refine hZ.1 [2] 60 _ _ _ _ (And.intro (vpd (by decide)) (And.intro (fun c => h) (fun c => ?_)))
      exact absurd (by rw [nI_1]; exact nI_le (a := n) (by omega) (by omega)) c
    | succ d ih =>
      intro p hp h
      unfold sFirst at h
      refine hZ.1 [2] 60 _ _ _ _ (And.intro (vpd (by decide)) (And.intro (fun c => ?_) (fun c => u_apartN p (by omega) (u_mbulgeN hn (And.intro (fun c2 => ?_) (fun c2 => ?_))))))
      · rw [nI_1] at c
        exact absurd (show nI n ≤ nI (p + 1) from c) (nI_ge (by omega) (by omega))
      · rw [if_pos (by simpa using c2)] at h
        exact h
      · rw [if_neg (by simpa using c2)] at h
        have := ih (p + 1) (by omega) h
        rw [← nI_1] at this
        exact this
  exact hZ.1 [2] 60 _ _ _ _ (loop (n - 1) 0 (by omega) h)

set_option maxRecDepth 100000 in
set_option maxHeartbeats 2000000 in
theorem u_hopAllN (hn : n ≤ 7) (h : ∀ th', K none (wD tr tx ty n m1 lg ht la at_ st_ so_ va_ fa_ to_ (sFo 14 (sFt (fun k => nw (14 + k)) n) nw n) ik td th' ba bp br sa sb sc z)) : zFV 8 2 (zGoes mX8_hopAll 0 6) [.ref 0, .ref 6] (wD tr tx ty n m1 lg ht la at_ st_ so_ va_ fa_ to_ nw ik td th ba bp br sa sb sc z) K := by
  refine And.intro rfl (Or.inl ⟨rfl, rfl, ?_⟩)
  intro Z hZ
  have second : ∀ (d p : Nat) (o4 o5 : Option Value), p + d = n → Z 119 [some (.ref 0), some (.ref 6), some (.int (nI n)), some (.int (nI p)), o4, o5] [] (wD tr tx ty n m1 lg ht la at_ st_ so_ va_ fa_ to_ (sFo 14 (sFt (fun k => nw (14 + k)) n) nw p) ik td (sFill (sFt (fun k => nw (14 + k)) n) th n) ba bp br sa sb sc z) := by
    intro d
    induction d with
    | zero =>
      intro p o4 o5 hp
      have e : p = n := by omega
      subst e
      exact hZ.1 [119] 60 _ _ _ _ (And.intro (fun c => h _) (fun c => absurd (le_of (Nat.le_refl _) (by omega)) c))
    | succ d ih =>
      intro p o4 o5 hp
      refine hZ.1 [119] 60 _ _ _ _ (And.intro (fun c => ?_) (fun c => And.intro (vi0 (by omega) (by omega)) (And.intro (vA a14 (by omega) (by omega)) ?_)))
      · exact absurd c (nle_of (by omega) (by omega))
      · have := ih (p + 1) o4 o5 (by omega)
        have e : upd (sFo 14 (sFt (fun k => nw (14 + k)) n) nw p) (14 + nI p).toNatClampNeg ((sFill (sFt (fun k => nw (14 + k)) n) th n) (nI p).toNatClampNeg) = sFo 14 (sFt (fun k => nw (14 + k)) n) nw (p + 1) := by rw [cA a14 (by omega), nI_c0 (by omega), sFill_lt (by omega), sFo_upd]
        rw [← nI_1, ← e] at this
        exact this
  have first : ∀ (d p : Nat) (o4 o5 : Option Value), p + d = n → Z 9 [some (.ref 0), some (.ref 6), some (.int (nI n)), some (.int (nI p)), o4, o5] [] (wD tr tx ty n m1 lg ht la at_ st_ so_ va_ fa_ to_ nw ik td (sFill (sFt (fun k => nw (14 + k)) n) th p) ba bp br sa sb sc z) := by
    intro d
    induction d with
    | zero =>
      intro p o4 o5 hp
      have e : p = n := by omega
      subst e
      have := second p 0 o4 o5 (by omega)
      rw [sFo_0] at this
      exact hZ.1 [9, 119] 60 _ _ _ _ (And.intro (fun c => this) (fun c => absurd (le_of (Nat.le_refl _) (by omega)) c))
    | succ d ih =>
      intro p o4 o5 hp
      have ef : nw (14 + nI p).toNatClampNeg = nw (14 + p) := by rw [cA a14 (by omega)]
      have j110 : ∀ (o4 o5 : Option Value) (v : Int32), v = sFt (fun k => nw (14 + k)) n p → Z 110 [some (.ref 0), some (.ref 6), some (.int (nI n)), some (.int (nI p)), o4, o5] [.int v, .int (nI p), .ref 9] (wD tr tx ty n m1 lg ht la at_ st_ so_ va_ fa_ to_ nw ik td (sFill (sFt (fun k => nw (14 + k)) n) th p) ba bp br sa sb sc z) := by
        intro o4 o5 v hv
        subst hv
        have := ih (p + 1) o4 o5 (by omega)
        have e : upd (sFill (sFt (fun k => nw (14 + k)) n) th p) (nI p).toNatClampNeg (sFt (fun k => nw (14 + k)) n p) = sFill (sFt (fun k => nw (14 + k)) n) th (p + 1) := by rw [nI_c0 (by omega), sFill_upd]
        rw [← nI_1, ← e] at this
        exact hZ.1 [9] 60 _ _ _ _ (And.intro (vi0 (by omega) (by omega)) this)
      have j71 : ∀ (o5 : Option Value) (u v : Int32), u = zb (decide (p = 0 ∨ ¬ nw (14 + (p - 1)) = nw (14 + p))) → v = zb (decide (n ≤ p + 1 ∨ ¬ nw (14 + (p + 1)) = nw (14 + p))) → Z 71 [some (.ref 0), some (.ref 6), some (.int (nI n)), some (.int (nI p)), some (.int u), o5] [.int v] (wD tr tx ty n m1 lg ht la at_ st_ so_ va_ fa_ to_ nw ik td (sFill (sFt (fun k => nw (14 + k)) n) th p) ba bp br sa sb sc z) := by
        intro o5 u v hu hv
        refine hZ.1 [110] 60 _ _ _ _ (And.intro (fun c => ?_) (fun c => ?_))
        · rw [← n1, nI_leI (by omega) (by omega)] at c
          exact And.intro (vA a14 (by omega) (by omega)) (j110 _ _ _ (by rw [ef]; exact (if_neg (fun z => by omega)).symm))
        · rw [← n1, nI_leI (by omega) (by omega)] at c
          refine And.intro (fun c2 => ?_) (fun c2 => ?_)
          · have c2 := of_decide_eq_false (zb0 (hu ▸ c2))
            exact And.intro (vA a14 (by omega) (by omega)) (j110 _ _ _ (by rw [ef]; exact (if_neg (fun z => c2 z.1.2)).symm))
          · have c2 := of_decide_eq_true (zb1 (hu ▸ c2))
            refine And.intro (fun c3 => ?_) (fun c3 => ?_)
            · have c3 := of_decide_eq_false (zb0 (hv ▸ c3))
              exact And.intro (vA a14 (by omega) (by omega)) (j110 _ _ _ (by rw [ef]; exact (if_neg (fun z => c3 z.2)).symm))
            · have c3 := of_decide_eq_true (zb1 (hv ▸ c3))
              exact And.intro (vA a14 (by omega) (by omega)) (j110 _ _ _ (by rw [ef]; exact (if_pos ⟨⟨by omega, c2⟩, c3⟩).symm))
      have j40 : ∀ (o4 o5 : Option Value) (u : Int32), u = zb (decide (p = 0 ∨ ¬ nw (14 + (p - 1)) = nw (14 + p))) → Z 40 [some (.ref 0), some (.ref 6), some (.int (nI n)), some (.int (nI p)), o4, o5] [.int u] (wD tr tx ty n m1 lg ht la at_ st_ so_ va_ fa_ to_ nw ik td (sFill (sFt (fun k => nw (14 + k)) n) th p) ba bp br sa sb sc z) := by
        intro o4 o5 u hu
        refine hZ.1 [71] 60 _ _ _ _ (And.intro (fun c => ?_) (fun c => ?_))
        · have c : n ≤ p + 1 := by
            obtain ⟨m, hm⟩ : ∃ m, n = m + 1 := ⟨n - 1, by omega⟩
            rw [hm, nI_pred, nI_eq (by omega) (by omega)] at c
            omega
          exact j71 _ _ _ hu (by rw [decide_eq_true (Or.inl c)]; rfl)
        · have c : ¬ n ≤ p + 1 := by
            obtain ⟨m, hm⟩ : ∃ m, n = m + 1 := ⟨n - 1, by omega⟩
            rw [hm, nI_pred, nI_eq (by omega) (by omega)] at c
            omega
          refine And.intro (vA1 a14 (by omega) (by omega)) (And.intro (vA a14 (by omega) (by omega)) (And.intro (fun c2 => ?_) (fun c2 => ?_)))
          · rw [ef, cA1 a14 (by omega), show 14 + p + 1 = 14 + (p + 1) by omega] at c2
            exact j71 _ _ _ hu (by rw [decide_eq_false (fun z => z.elim c (fun w => w c2))]; rfl)
          · rw [ef, cA1 a14 (by omega), show 14 + p + 1 = 14 + (p + 1) by omega] at c2
            exact j71 _ _ _ hu (by rw [decide_eq_true (Or.inr c2)]; rfl)
      refine hZ.1 [40] 60 _ _ _ _ (And.intro (fun c => ?_) (fun c => And.intro (fun c2 => ?_) (fun c2 => ?_)))
      · exact absurd c (nle_of (by omega) (by omega))
      · have c2 : p = 0 := by
          rcases Nat.eq_zero_or_pos p with z | z
          · exact z
          · exact absurd c2 (nI_ne0 z (by omega))
        exact j40 _ _ _ (by rw [decide_eq_true (Or.inl c2)]; rfl)
      · have c2 : 0 < p := by
          rcases Nat.eq_zero_or_pos p with z | z
          · subst z; exact absurd (by decide) c2
          · exact z
        refine And.intro (vAm a14 (by omega) (by omega) (by omega)) (And.intro (vA a14 (by omega) (by omega)) (And.intro (fun c3 => ?_) (fun c3 => ?_)))
        · rw [ef, cAm a14 (by omega) (by omega), show 14 + p - 1 = 14 + (p - 1) by omega] at c3
          exact j40 _ _ _ (by rw [decide_eq_false (fun z => z.elim (by omega) (fun w => w c3))]; rfl)
        · rw [ef, cAm a14 (by omega) (by omega), show 14 + p - 1 = 14 + (p - 1) by omega] at c3
          exact j40 _ _ _ (by rw [decide_eq_true (Or.inr c3)]; rfl)
  have := first n 0 none none (by omega)
  rw [sFill_0] at this
  exact hZ.1 [9] 60 _ _ _ _ (And.intro (vpd (by decide)) this)


set_option maxRecDepth 100000 in
set_option maxHeartbeats 2000000 in
theorem u_hopAllT (hn : n ≤ 7) (h : ∀ th', K none (wD tr tx ty n m1 lg ht la at_ st_ so_ va_ fa_ to_ nw ik (sFo 14 (sFt (fun k => td (14 + k)) n) td n) th' ba bp br sa sb sc z)) : zFV 8 2 (zGoes mX8_hopAll 0 6) [.ref 0, .ref 8] (wD tr tx ty n m1 lg ht la at_ st_ so_ va_ fa_ to_ nw ik td th ba bp br sa sb sc z) K := by
  refine And.intro rfl (Or.inl ⟨rfl, rfl, ?_⟩)
  intro Z hZ
  have second : ∀ (d p : Nat) (o4 o5 : Option Value), p + d = n → Z 119 [some (.ref 0), some (.ref 8), some (.int (nI n)), some (.int (nI p)), o4, o5] [] (wD tr tx ty n m1 lg ht la at_ st_ so_ va_ fa_ to_ nw ik (sFo 14 (sFt (fun k => td (14 + k)) n) td p) (sFill (sFt (fun k => td (14 + k)) n) th n) ba bp br sa sb sc z) := by
    intro d
    induction d with
    | zero =>
      intro p o4 o5 hp
      have e : p = n := by omega
      subst e
      exact hZ.1 [119] 60 _ _ _ _ (And.intro (fun c => h _) (fun c => absurd (le_of (Nat.le_refl _) (by omega)) c))
    | succ d ih =>
      intro p o4 o5 hp
      refine hZ.1 [119] 60 _ _ _ _ (And.intro (fun c => ?_) (fun c => And.intro (vi0 (by omega) (by omega)) (And.intro (vA a14 (by omega) (by omega)) ?_)))
      · exact absurd c (nle_of (by omega) (by omega))
      · have := ih (p + 1) o4 o5 (by omega)
        have e : upd (sFo 14 (sFt (fun k => td (14 + k)) n) td p) (14 + nI p).toNatClampNeg ((sFill (sFt (fun k => td (14 + k)) n) th n) (nI p).toNatClampNeg) = sFo 14 (sFt (fun k => td (14 + k)) n) td (p + 1) := by rw [cA a14 (by omega), nI_c0 (by omega), sFill_lt (by omega), sFo_upd]
        rw [← nI_1, ← e] at this
        exact this
  have first : ∀ (d p : Nat) (o4 o5 : Option Value), p + d = n → Z 9 [some (.ref 0), some (.ref 8), some (.int (nI n)), some (.int (nI p)), o4, o5] [] (wD tr tx ty n m1 lg ht la at_ st_ so_ va_ fa_ to_ nw ik td (sFill (sFt (fun k => td (14 + k)) n) th p) ba bp br sa sb sc z) := by
    intro d
    induction d with
    | zero =>
      intro p o4 o5 hp
      have e : p = n := by omega
      subst e
      have := second p 0 o4 o5 (by omega)
      rw [sFo_0] at this
      exact hZ.1 [9, 119] 60 _ _ _ _ (And.intro (fun c => this) (fun c => absurd (le_of (Nat.le_refl _) (by omega)) c))
    | succ d ih =>
      intro p o4 o5 hp
      have ef : td (14 + nI p).toNatClampNeg = td (14 + p) := by rw [cA a14 (by omega)]
      have j110 : ∀ (o4 o5 : Option Value) (v : Int32), v = sFt (fun k => td (14 + k)) n p → Z 110 [some (.ref 0), some (.ref 8), some (.int (nI n)), some (.int (nI p)), o4, o5] [.int v, .int (nI p), .ref 9] (wD tr tx ty n m1 lg ht la at_ st_ so_ va_ fa_ to_ nw ik td (sFill (sFt (fun k => td (14 + k)) n) th p) ba bp br sa sb sc z) := by
        intro o4 o5 v hv
        subst hv
        have := ih (p + 1) o4 o5 (by omega)
        have e : upd (sFill (sFt (fun k => td (14 + k)) n) th p) (nI p).toNatClampNeg (sFt (fun k => td (14 + k)) n p) = sFill (sFt (fun k => td (14 + k)) n) th (p + 1) := by rw [nI_c0 (by omega), sFill_upd]
        rw [← nI_1, ← e] at this
        exact hZ.1 [9] 60 _ _ _ _ (And.intro (vi0 (by omega) (by omega)) this)
      have j71 : ∀ (o5 : Option Value) (u v : Int32), u = zb (decide (p = 0 ∨ ¬ td (14 + (p - 1)) = td (14 + p))) → v = zb (decide (n ≤ p + 1 ∨ ¬ td (14 + (p + 1)) = td (14 + p))) → Z 71 [some (.ref 0), some (.ref 8), some (.int (nI n)), some (.int (nI p)), some (.int u), o5] [.int v] (wD tr tx ty n m1 lg ht la at_ st_ so_ va_ fa_ to_ nw ik td (sFill (sFt (fun k => td (14 + k)) n) th p) ba bp br sa sb sc z) := by
        intro o5 u v hu hv
        refine hZ.1 [110] 60 _ _ _ _ (And.intro (fun c => ?_) (fun c => ?_))
        · rw [← n1, nI_leI (by omega) (by omega)] at c
          exact And.intro (vA a14 (by omega) (by omega)) (j110 _ _ _ (by rw [ef]; exact (if_neg (fun z => by omega)).symm))
        · rw [← n1, nI_leI (by omega) (by omega)] at c
          refine And.intro (fun c2 => ?_) (fun c2 => ?_)
          · have c2 := of_decide_eq_false (zb0 (hu ▸ c2))
            exact And.intro (vA a14 (by omega) (by omega)) (j110 _ _ _ (by rw [ef]; exact (if_neg (fun z => c2 z.1.2)).symm))
          · have c2 := of_decide_eq_true (zb1 (hu ▸ c2))
            refine And.intro (fun c3 => ?_) (fun c3 => ?_)
            · have c3 := of_decide_eq_false (zb0 (hv ▸ c3))
              exact And.intro (vA a14 (by omega) (by omega)) (j110 _ _ _ (by rw [ef]; exact (if_neg (fun z => c3 z.2)).symm))
            · have c3 := of_decide_eq_true (zb1 (hv ▸ c3))
              exact And.intro (vA a14 (by omega) (by omega)) (j110 _ _ _ (by rw [ef]; exact (if_pos ⟨⟨by omega, c2⟩, c3⟩).symm))
      have j40 : ∀ (o4 o5 : Option Value) (u : Int32), u = zb (decide (p = 0 ∨ ¬ td (14 + (p - 1)) = td (14 + p))) → Z 40 [some (.ref 0), some (.ref 8), some (.int (nI n)), some (.int (nI p)), o4, o5] [.int u] (wD tr tx ty n m1 lg ht la at_ st_ so_ va_ fa_ to_ nw ik td (sFill (sFt (fun k => td (14 + k)) n) th p) ba bp br sa sb sc z) := by
        intro o4 o5 u hu
        refine hZ.1 [71] 60 _ _ _ _ (And.intro (fun c => ?_) (fun c => ?_))
        · have c : n ≤ p + 1 := by
            obtain ⟨m, hm⟩ : ∃ m, n = m + 1 := ⟨n - 1, by omega⟩
            rw [hm, nI_pred, nI_eq (by omega) (by omega)] at c
            omega
          exact j71 _ _ _ hu (by rw [decide_eq_true (Or.inl c)]; rfl)
        · have c : ¬ n ≤ p + 1 := by
            obtain ⟨m, hm⟩ : ∃ m, n = m + 1 := ⟨n - 1, by omega⟩
            rw [hm, nI_pred, nI_eq (by omega) (by omega)] at c
            omega
          refine And.intro (vA1 a14 (by omega) (by omega)) (And.intro (vA a14 (by omega) (by omega)) (And.intro (fun c2 => ?_) (fun c2 => ?_)))
          · rw [ef, cA1 a14 (by omega), show 14 + p + 1 = 14 + (p + 1) by omega] at c2
            exact j71 _ _ _ hu (by rw [decide_eq_false (fun z => z.elim c (fun w => w c2))]; rfl)
          · rw [ef, cA1 a14 (by omega), show 14 + p + 1 = 14 + (p + 1) by omega] at c2
            exact j71 _ _ _ hu (by rw [decide_eq_true (Or.inr c2)]; rfl)
      refine hZ.1 [40] 60 _ _ _ _ (And.intro (fun c => ?_) (fun c => And.intro (fun c2 => ?_) (fun c2 => ?_)))
      · exact absurd c (nle_of (by omega) (by omega))
      · have c2 : p = 0 := by
          rcases Nat.eq_zero_or_pos p with z | z
          · exact z
          · exact absurd c2 (nI_ne0 z (by omega))
        exact j40 _ _ _ (by rw [decide_eq_true (Or.inl c2)]; rfl)
      · have c2 : 0 < p := by
          rcases Nat.eq_zero_or_pos p with z | z
          · subst z; exact absurd (by decide) c2
          · exact z
        refine And.intro (vAm a14 (by omega) (by omega) (by omega)) (And.intro (vA a14 (by omega) (by omega)) (And.intro (fun c3 => ?_) (fun c3 => ?_)))
        · rw [ef, cAm a14 (by omega) (by omega), show 14 + p - 1 = 14 + (p - 1) by omega] at c3
          exact j40 _ _ _ (by rw [decide_eq_false (fun z => z.elim (by omega) (fun w => w c3))]; rfl)
        · rw [ef, cAm a14 (by omega) (by omega), show 14 + p - 1 = 14 + (p - 1) by omega] at c3
          exact j40 _ _ _ (by rw [decide_eq_true (Or.inr c3)]; rfl)
  have := first n 0 none none (by omega)
  rw [sFill_0] at this
  exact hZ.1 [9] 60 _ _ _ _ (And.intro (vpd (by decide)) this)

end MD
