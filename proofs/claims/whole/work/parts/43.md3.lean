
theorem sWant_F {F : Nat → Int32} {x : zLn} (h : mIs F x) (n p : Nat) : sWant (F 21) n p = sWant x.2.2.2.1 n p := by rw [mIs_21 h]
theorem sBulge_cong {i j : Nat → Int32} : ∀ {p : Nat}, (∀ k, k ≤ p → i k = j k) → sBulge i p = sBulge j p
  | 0, _ => rfl
  | p + 1, h => by
    unfold sBulge
    rw [sBulge_cong (p := p) (fun k hk => h k (by omega)), h (p + 1) (by omega), h p (by omega)]
theorem mBulge {F : Nat → Int32} {x : zLn} {n : Nat} (hn : n ≤ 7) (h : mIs F x) : sBulge (fun k => F (7 + k)) (n - 1) = sBulge x.2.1 (n - 1) := by
  rcases Nat.eq_zero_or_pos n with z | z
  · subst z; rfl
  · exact sBulge_cong (fun k hk => mIs_i h (by omega))
theorem sFirst_cong {P Q : Nat → Bool} {d : Int32} : ∀ {k p : Nat}, (∀ j, p ≤ j → j < p + k → P j = Q j) → sFirst P d k p = sFirst Q d k p
  | 0, _, _ => rfl
  | k + 1, p, h => by
    unfold sFirst
    rw [h p (by omega) (by omega), sFirst_cong (k := k) (p := p + 1) (fun j h1 h2 => h j (by omega) (by omega))]
theorem sFeet_cong {f g : Nat → Int32} : ∀ {p : Nat}, (∀ k, k < p → f k = g k) → sFeet f p = sFeet g p
  | 0, _ => rfl
  | p + 1, h => by
    unfold sFeet
    rw [sFeet_cong (p := p) (fun k hk => h k (by omega)), h p (by omega)]
theorem sLine_cong {f g : Nat → Int32} : ∀ {p : Nat}, (∀ k, k < p → f k = g k) → sLine f p = sLine g p
  | 0, _ => rfl
  | p + 1, h => by
    unfold sLine
    rw [sLine_cong (p := p) (fun k hk => h k (by omega)), h p (by omega)]
section MD
variable {tr : Int64} {tx : Nat → Int32} {ty n : Nat} {m1 : Int32} {lg ht la : Nat → Int32} {at_ st_ so_ va_ fa_ to_ : Int32} {nw ik td th : Nat → Int32} {ba bp br : Int32} {sa sb sc : Nat → Int32} {z : Nat}
variable {K : zP} {post : zP}

set_option maxRecDepth 100000 in
theorem m_clear (h : post (some (.int (nI ty))) (wD tr tx 0 n m1 lg ht la at_ st_ so_ va_ fa_ to_ nw ik td th ba bp br sa sb sc z)) : zGoes mX8_clear 1 2 [.ref 0] (wD tr tx ty n m1 lg ht la at_ st_ so_ va_ fa_ to_ nw ik td th ba bp br sa sb sc z) post := fun Z hZ => hZ.1 [] 60 _ _ _ _ h
set_option maxRecDepth 100000 in
theorem m_trace (h : post (some (.long tr)) (wD tr tx ty n m1 lg ht la at_ st_ so_ va_ fa_ to_ nw ik td th ba bp br sa sb sc z)) : zGoes mX8_trace 2 1 [.ref 0] (wD tr tx ty n m1 lg ht la at_ st_ so_ va_ fa_ to_ nw ik td th ba bp br sa sb sc z) post := fun Z hZ => hZ.1 [] 60 _ _ _ _ h
set_option maxRecDepth 100000 in
theorem m_forget (h : post (some (.int (nI z))) (wD tr tx ty n m1 lg ht la at_ st_ so_ va_ fa_ to_ nw ik td th ba bp br sa sb sc 0)) : zGoes mX8_forget 1 2 [.ref 0] (wD tr tx ty n m1 lg ht la at_ st_ so_ va_ fa_ to_ nw ik td th ba bp br sa sb sc z) post := fun Z hZ => hZ.1 [] 60 _ _ _ _ h
set_option maxRecDepth 100000 in
theorem m_type (hb : ty ≤ 120) (c : Int32) (h : post (some (.int (sType ty c))) (if 0 ≤ c ∧ c ≤ 255 ∧ ty < 120 then (wD tr (upd tx ty c.toInt8.toInt32) (ty + 1) n m1 lg ht la at_ st_ so_ va_ fa_ to_ nw ik td th ba bp br sa sb sc z) else (wD tr tx ty n m1 lg ht la at_ st_ so_ va_ fa_ to_ nw ik td th ba bp br sa sb sc z))) : zGoes mX8_type 1 2 [.ref 0, .int c] (wD tr tx ty n m1 lg ht la at_ st_ so_ va_ fa_ to_ nw ik td th ba bp br sa sb sc z) post := by
  intro Z hZ
  unfold sType at h
  refine hZ.1 [] 60 _ _ _ _ (u_in c 0 255 (fun q => ?_) (fun q => ?_))
  · rw [if_pos q] at h
    refine And.intro (fun e => absurd e (by decide)) (fun _ => And.intro (fun e => ?_) (fun e => ?_))
    · rw [show (120 : Int32) = nI 120 by decide, nI_eq (by omega) (by omega)] at e
      rw [if_neg (by omega), if_neg (fun w => by omega)] at h
      exact h
    · rw [show (120 : Int32) = nI 120 by decide, nI_eq (by omega) (by omega)] at e
      rw [if_pos (by omega), if_pos ⟨q.1, q.2, by omega⟩] at h
      refine And.intro (vi0 (by omega) (by omega)) ?_
      unfold wD at h
      rw [← nI_1] at h
      have hw : upd tx (nI ty).toNatClampNeg (vp_nar .byte c.toInt8.toInt32) = upd tx ty c.toInt8.toInt32 := by rw [nI_c0 (by omega), pk_vb]
      rw [← hw] at h
      exact h
  · rw [if_neg q, if_neg (fun w => q ⟨w.1, w.2.1⟩)] at h
    exact And.intro (fun _ => h) (fun e => absurd rfl e)
set_option maxRecDepth 100000 in
theorem m_place {x : zLn} (hx : mIs nw x) (hn : n ≤ 7) (p u : Int32) (h : post (some (.int (sPlace n x p u))) (wD tr tx ty n m1 lg ht la at_ st_ so_ va_ fa_ to_ nw ik td th ba bp br sa sb sc z)) : zGoes mX8_place 1 3 [.ref 0, .int p, .int u] (wD tr tx ty n m1 lg ht la at_ st_ so_ va_ fa_ to_ nw ik td th ba bp br sa sb sc z) post := by
  intro Z hZ
  unfold sPlace at h
  refine hZ.1 [] 60 _ _ _ _ (u_misPlace p (fun q => ?_) (fun q => ?_))
  · rw [if_pos (sInB_t q)] at h
    obtain ⟨k, hk, rfl⟩ := (sIn_iff hn p).mp q
    rw [nI_c0 (by omega)] at h
    refine And.intro (fun e => absurd e (by decide)) (fun _ => And.intro (fun e => ?_) (And.intro (fun e => ?_) (And.intro (fun e => ?_) (And.intro (fun e => ?_) (And.intro (fun e => ?_) trivial)))))
    · rw [if_neg (tO e (by decide) (by decide)), if_neg (tO e (by decide) (by decide)), if_neg (tO e (by decide) (by decide)), if_neg (tO e (by decide) (by decide))] at h
      exact h
    · have e : u = 0 := tI e rfl
      subst e
      have e2 : nw (0 + nI k).toNatClampNeg = x.1 k := by rw [cA a0 (by omega), Nat.zero_add]; exact mIs_w hx (by omega)
      refine And.intro (vA a0 (by omega) (by omega)) ?_
      rw [if_pos rfl, ← e2] at h
      exact h
    · have e : u = 1 := tI e rfl
      subst e
      have e2 : nw (7 + nI k).toNatClampNeg = x.2.1 k := by rw [cA a7 (by omega)]; exact mIs_i hx (by omega)
      refine And.intro (vA a7 (by omega) (by omega)) ?_
      rw [if_neg (by decide), if_pos rfl, ← e2] at h
      exact h
    · have e : u = 2 := tI e rfl
      subst e
      have e2 : nw (14 + nI k).toNatClampNeg = x.2.2.1 k := by rw [cA a14 (by omega)]; exact mIs_f hx (by omega)
      refine And.intro (vA a14 (by omega) (by omega)) ?_
      rw [if_neg (by decide), if_neg (by decide), if_pos rfl, ← e2] at h
      exact h
    · have e : u = 3 := tI e rfl
      subst e
      rw [if_neg (by decide), if_neg (by decide), if_neg (by decide), if_pos rfl, ← sWant_F hx] at h
      exact And.intro (vpd (by decide)) (u_mwantsN hn k h)
  · rw [if_neg (sInB_f q)] at h
    exact And.intro (fun _ => h) (fun e => absurd rfl e)
set_option maxRecDepth 100000 in
theorem m_count (u : Int32) (h : post (some (.int (sCount n z (nw 25) ty u))) (wD tr tx ty n m1 lg ht la at_ st_ so_ va_ fa_ to_ nw ik td th ba bp br sa sb sc z)) : zGoes mX8_count 1 2 [.ref 0, .int u] (wD tr tx ty n m1 lg ht la at_ st_ so_ va_ fa_ to_ nw ik td th ba bp br sa sb sc z) post := by
  intro Z hZ
  refine hZ.1 [] 60 _ _ _ _ (And.intro (fun e => ?_) (And.intro (fun e => ?_) (And.intro (fun e => ?_) (And.intro (fun e => ?_) (And.intro (fun e => ?_) trivial)))))
  · unfold sCount at h
    rw [if_neg (tO e (by decide) (by decide)), if_neg (tO e (by decide) (by decide)), if_neg (tO e (by decide) (by decide)), if_neg (tO e (by decide) (by decide))] at h
    exact h
  · have e : u = 0 := tI e rfl
    subst e; exact And.intro (vpd (by decide)) h
  · have e : u = 1 := tI e rfl
    subst e; exact h
  · have e : u = 2 := tI e rfl
    subst e; exact And.intro (vpd (by decide)) h
  · have e : u = 3 := tI e rfl
    subst e; exact h
/-- a man stands somewhere -/
def sStands (n : Nat) (w : Nat → Int32) : Prop := ∀ m, m < n → ∃ p, p < n ∧ w p = nI m
set_option maxRecDepth 100000 in
theorem m_man {x : zLn} (hx : mIs nw x) (hn : n ≤ 7) (hst : sStands n x.1) (m u : Int32) (h : post (some (.int (sMan n lg ht x.1 m u))) (wD tr tx ty n m1 lg ht la at_ st_ so_ va_ fa_ to_ nw ik td th ba bp br sa sb sc z)) : zGoes mX8_man 1 4 [.ref 0, .int m, .int u] (wD tr tx ty n m1 lg ht la at_ st_ so_ va_ fa_ to_ nw ik td th ba bp br sa sb sc z) post := by
  intro Z hZ
  unfold sMan at h
  have bad : ¬ (sIn n m ∧ (0 ≤ u ∧ u ≤ 2)) → Z 17 [some (.ref 0), some (.int m), some (.int u), none] [] (wD tr tx ty n m1 lg ht la at_ st_ so_ va_ fa_ to_ nw ik td th ba bp br sa sb sc z) := by
    intro hb
    refine hZ.1 [] 20 _ _ _ _ ?_
    by_cases q : sIn n m
    · rw [if_pos (sInB_t q), if_neg (fun e => hb ⟨q, by rw [e]; decide⟩), if_neg (fun e => hb ⟨q, by rw [e]; decide⟩), if_neg (fun e => hb ⟨q, by rw [e]; decide⟩)] at h
      exact h
    · rw [if_neg (sInB_f q)] at h
      exact h
  refine hZ.1 [17, 23] 60 _ _ _ _ (u_misPlace m (fun q => ?_) (fun q => ?_))
  · refine And.intro (fun e => absurd e (by decide)) (fun _ => u_in u 0 2 (fun q2 => ?_) (fun q2 => ?_))
    · rw [if_pos (sInB_t q)] at h
      obtain ⟨k, hk, rfl⟩ := (sIn_iff hn m).mp q
      rw [nI_c0 (by omega)] at h
      obtain ⟨j, hj, hwj⟩ := hst k hk
      have loop : ∀ (d p : Nat), p + d = n → p ≤ j → (u = 2 → sFirst (fun p => decide (x.1 p = nI k)) (-1001) d p = sFirst (fun p => decide (x.1 p = nI k)) (-1001) n 0) → Z 23 [some (.ref 0), some (.int (nI k)), some (.int u), some (.int (nI p))] [] (wD tr tx ty n m1 lg ht la at_ st_ so_ va_ fa_ to_ nw ik td th ba bp br sa sb sc z) := by
        intro d
        induction d with
        | zero => intro p hp hpj; omega
        | succ d ih =>
          intro p hp hpj hf
          have ew : nw (0 + nI p).toNatClampNeg = x.1 p := by rw [cA a0 (by omega), Nat.zero_add]; exact mIs_w hx (by omega)
          refine hZ.1 [23] 60 _ _ _ _ (And.intro (vA a0 (by omega) (by omega)) (And.intro (fun c => ?_) (fun c => ?_)))
          · rw [ew] at c
            refine And.intro (fun e => ?_) (fun e => And.intro (fun e2 => ?_) (fun e2 => ?_))
            · subst e
              refine And.intro (vi0 (by omega) (by omega)) ?_
              show post (some (.int (lg (nI k).toNatClampNeg))) _
              rw [nI_c0 (by omega)]
              exact h
            · subst e2
              refine And.intro (vi0 (by omega) (by omega)) ?_
              show post (some (.int (ht (nI k).toNatClampNeg))) _
              rw [nI_c0 (by omega)]
              exact h
            · have e3 : u = 2 := by
                obtain ⟨a, ha, rfl⟩ := in60 (m := 2) rfl q2
                rcases (show a = 0 ∨ a = 1 ∨ a = 2 by omega) with rfl | rfl | rfl
                · exact absurd (by decide) e
                · exact absurd (by decide) e2
                · decide
              rw [if_neg e, if_neg e2, if_pos e3, ← hf e3] at h
              unfold sFirst at h
              rw [if_pos (decide_eq_true c)] at h
              exact h
          · rw [ew] at c
            have hpj2 : p ≠ j := fun w => c (by rw [w]; exact hwj)
            have := ih (p + 1) (by omega) (by omega) (fun e3 => by
              rw [← hf e3]
              show _ = if decide (x.1 p = nI k) = true then nI p else sFirst (fun p => decide (x.1 p = nI k)) (-1001) d (p + 1)
              rw [if_neg (by rw [decide_eq_false c]; decide)])
            rw [← nI_1] at this
            exact this
      exact And.intro (fun e => absurd e (by decide)) (fun _ => loop n 0 (by omega) (by omega) (fun _ => rfl))
    · exact And.intro (fun _ => bad (fun w => q2 w.2)) (fun e => absurd rfl e)
  · exact And.intro (fun _ => bad (fun w => q w.1)) (fun e => absurd rfl e)
set_option maxRecDepth 100000 in
set_option maxHeartbeats 2000000 in
theorem m_now {x : zLn} (hx : mIs nw x) (hn : n ≤ 7) (u : Int32) (h : post (some (.int (sNow n x u))) (wD tr tx ty n m1 lg ht la at_ st_ so_ va_ fa_ to_ nw ik td th ba bp br sa sb sc z)) : zGoes mX8_now 1 5 [.ref 0, .int u] (wD tr tx ty n m1 lg ht la at_ st_ so_ va_ fa_ to_ nw ik td th ba bp br sa sb sc z) post := by
  intro Z hZ
  have fin : Z 61 [some (.ref 0), some (.int u), some (.int (sFeet x.2.2.1 n)), some (.int (nI (sLine x.2.1 n))), some (.int (nI n))] [] (wD tr tx ty n m1 lg ht la at_ st_ so_ va_ fa_ to_ nw ik td th ba bp br sa sb sc z) := by
    refine hZ.1 [] 60 _ _ _ _ (And.intro (fun e => ?_) (And.intro (fun e => ?_) (And.intro (fun e => ?_) (And.intro (fun e => ?_) (And.intro (fun e => ?_) (And.intro (fun e => ?_) (And.intro (fun e => ?_) (And.intro (fun e => ?_) (And.intro (fun e => ?_) trivial)))))))))
    · unfold sNow at h
      rw [if_neg (tO e (by decide) (by decide)), if_neg (tO e (by decide) (by decide)), if_neg (tO e (by decide) (by decide)), if_neg (tO e (by decide) (by decide)), if_neg (tO e (by decide) (by decide)), if_neg (tO e (by decide) (by decide)), if_neg (tO e (by decide) (by decide)), if_neg (tO e (by decide) (by decide))] at h
      exact h
    · have e : u = 0 := tI e rfl
      subst e
      have h : post (some (.int x.2.2.2.2.2.2)) (wD tr tx ty n m1 lg ht la at_ st_ so_ va_ fa_ to_ nw ik td th ba bp br sa sb sc z) := h
      rw [← mIs_24 hx] at h
      exact And.intro (vpd (by decide)) h
    · have e : u = 1 := tI e rfl
      subst e
      have h : post (some (.int x.2.2.2.1)) (wD tr tx ty n m1 lg ht la at_ st_ so_ va_ fa_ to_ nw ik td th ba bp br sa sb sc z) := h
      rw [← mIs_21 hx] at h
      exact And.intro (vpd (by decide)) h
    · have e : u = 2 := tI e rfl
      subst e
      have h : post (some (.int x.2.2.2.2.1)) (wD tr tx ty n m1 lg ht la at_ st_ so_ va_ fa_ to_ nw ik td th ba bp br sa sb sc z) := h
      rw [← mIs_22 hx] at h
      exact And.intro (vpd (by decide)) h
    · have e : u = 3 := tI e rfl
      subst e
      have h : post (some (.int x.2.2.2.2.2.1)) (wD tr tx ty n m1 lg ht la at_ st_ so_ va_ fa_ to_ nw ik td th ba bp br sa sb sc z) := h
      rw [← mIs_23 hx] at h
      exact And.intro (vpd (by decide)) h
    · have e : u = 4 := tI e rfl
      subst e
      have h : post (some (.int (sBulge x.2.1 (n - 1)))) (wD tr tx ty n m1 lg ht la at_ st_ so_ va_ fa_ to_ nw ik td th ba bp br sa sb sc z) := h
      rw [← mBulge hn hx] at h
      exact u_mbulgeN hn h
    · have e : u = 5 := tI e rfl
      subst e
      refine u_bulgeAt hn ?_
      have h : post (some (.int (sFirst (fun p => decide (zabs (x.2.1 (p + 1) - x.2.1 p) = sBulge x.2.1 (n - 1))) (-1009) (n - 1) 0))) (wD tr tx ty n m1 lg ht la at_ st_ so_ va_ fa_ to_ nw ik td th ba bp br sa sb sc z) := h
      rw [sFirst_cong (Q := fun p => decide (zabs (nw (7 + (p + 1)) - nw (7 + p)) = sBulge (fun k => nw (7 + k)) (n - 1))) (fun j h1 h2 => by
        show decide _ = decide _
        rw [mBulge hn hx, mIs_i hx (k := j + 1) (by omega), mIs_i hx (k := j) (by omega)])] at h
      exact h
    · have e : u = 6 := tI e rfl
      subst e; exact h
    · have e : u = 7 := tI e rfl
      subst e; exact h
  have loop : ∀ d p : Nat, p + d = n → Z 7 [some (.ref 0), some (.int u), some (.int (sFeet x.2.2.1 p)), some (.int (nI (sLine x.2.1 p))), some (.int (nI p))] [] (wD tr tx ty n m1 lg ht la at_ st_ so_ va_ fa_ to_ nw ik td th ba bp br sa sb sc z) := by
    intro d
    induction d with
    | zero =>
      intro p hp
      have e : p = n := by omega
      subst e
      exact hZ.1 [7, 61] 60 _ _ _ _ (And.intro (vpd (by decide)) (And.intro (fun c => fin) (fun c => absurd (le_of (n := p) (p := p) (Nat.le_refl _) (by omega)) c)))
    | succ d ih =>
      intro p hp
      have ef : nw (14 + nI p).toNatClampNeg = x.2.2.1 p := by rw [cA a14 (by omega)]; exact mIs_f hx (by omega)
      have ei : nw (7 + nI p).toNatClampNeg = x.2.1 p := by rw [cA a7 (by omega)]; exact mIs_i hx (by omega)
      have j53 : ∀ (b v : Int32), b = sFeet x.2.2.1 (p + 1) → v = (if x.2.1 p = 0 then 1 else 0) → Z 53 [some (.ref 0), some (.int u), some (.int b), some (.int (nI (sLine x.2.1 p))), some (.int (nI p))] [.int v, .int (nI (sLine x.2.1 p))] (wD tr tx ty n m1 lg ht la at_ st_ so_ va_ fa_ to_ nw ik td th ba bp br sa sb sc z) := by
        intro b v hb hv
        have := ih (p + 1) (by omega)
        rw [← nI_1, ← hb, sLine_1, show nI (sLine x.2.1 p + if x.2.1 p = 0 then 1 else 0) = nI (sLine x.2.1 p) + v by rw [hv]; split <;> first | exact (nI_1 _).symm | (rw [Nat.add_zero]; exact (Int32.add_zero _).symm)] at this
        exact hZ.1 [7] 60 _ _ _ _ this
      refine hZ.1 [7, 53] 60 _ _ _ _ (And.intro (vpd (by decide)) (And.intro (fun c => ?_) (fun c => And.intro (vA a14 (by omega) (by omega)) (And.intro (vA a7 (by omega) (by omega)) (And.intro (fun c2 => ?_) (fun c2 => ?_))))))
      · exact absurd (show nI n ≤ nI p from c) (nle_of (by omega) (by omega))
      · rw [ei] at c2
        exact j53 _ _ (by rw [ef]; rfl) (if_pos c2).symm
      · rw [ei] at c2
        exact j53 _ _ (by rw [ef]; rfl) (if_neg c2).symm
  exact hZ.1 [7] 60 _ _ _ _ (loop n 0 (by omega))
set_option maxRecDepth 100000 in
theorem m_saw (hn : n ≤ 7) (hz : z ≤ 6) (p a u : Int32) (h : post (some (.int (sSaw n z p a u))) (if (sIn n p ∧ (0 ≤ a ∧ a ≤ 60) ∧ (-999 ≤ u ∧ u ≤ 999)) ∧ z < 6 then (wD tr tx ty n m1 lg ht la at_ st_ so_ va_ fa_ to_ nw ik td th ba bp br (upd sa z p) (upd sb z a) (upd sc z u) (z + 1)) else (wD tr tx ty n m1 lg ht la at_ st_ so_ va_ fa_ to_ nw ik td th ba bp br sa sb sc z))) : zGoes mX8_saw 1 4 [.ref 0, .int p, .int a, .int u] (wD tr tx ty n m1 lg ht la at_ st_ so_ va_ fa_ to_ nw ik td th ba bp br sa sb sc z) post := by
  intro Z hZ
  unfold sSaw at h
  have bad : ¬ (sIn n p ∧ (0 ≤ a ∧ a ≤ 60) ∧ (-999 ≤ u ∧ u ≤ 999)) → Z 31 [some (.ref 0), some (.int p), some (.int a), some (.int u)] [] (wD tr tx ty n m1 lg ht la at_ st_ so_ va_ fa_ to_ nw ik td th ba bp br sa sb sc z) := by
    intro hb
    rw [if_neg hb, if_neg (fun q => hb q.1)] at h
    exact hZ.1 [] 20 _ _ _ _ h
  refine hZ.1 [31] 60 _ _ _ _ (u_misPlace p (fun q => ?_) (fun q => ?_))
  · refine And.intro (fun e => absurd e (by decide)) (fun _ => u_in a 0 60 (fun q2 => ?_) (fun q2 => ?_))
    · refine And.intro (fun e => absurd e (by decide)) (fun _ => u_in u (-999) 999 (fun q3 => ?_) (fun q3 => ?_))
      · rw [if_pos ⟨q, q2, q3⟩] at h
        refine And.intro (fun e => absurd e (by decide)) (fun _ => And.intro (fun e => ?_) (fun e => ?_))
        · rw [show (6 : Int32) = nI 6 by decide, nI_eq (by omega) (by omega)] at e
          rw [if_neg (by omega), if_neg (fun w => by omega)] at h
          exact h
        · rw [show (6 : Int32) = nI 6 by decide, nI_eq (by omega) (by omega)] at e
          rw [if_pos (by omega), if_pos ⟨⟨q, q2, q3⟩, by omega⟩] at h
          refine And.intro (vi0 (by omega) (by omega)) (And.intro (vi0 (by omega) (by omega)) (And.intro (vi0 (by omega) (by omega)) ?_))
          unfold wD at h
          have ec : (nI z).toNatClampNeg = z := nI_c0 (by omega)
          have h1 : upd sa (nI z).toNatClampNeg p = upd sa z p := by rw [ec]
          have h2 : upd sb (nI z).toNatClampNeg a = upd sb z a := by rw [ec]
          have h3 : upd sc (nI z).toNatClampNeg u = upd sc z u := by rw [ec]
          rw [← nI_1, ← h1, ← h2, ← h3] at h
          exact h
      · exact And.intro (fun _ => bad (fun w => q3 w.2.2)) (fun e => absurd rfl e)
    · exact And.intro (fun _ => bad (fun w => q2 w.2.1)) (fun e => absurd rfl e)
  · exact And.intro (fun _ => bad (fun w => q w.1)) (fun e => absurd rfl e)

end MD
