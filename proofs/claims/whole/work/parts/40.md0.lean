def mnf (n : Nat) (m1 : Int32) : Nat → Int32 := fun k => if k = 0 then nI n else m1
/-- the reference's cells -/
def wD (tr : Int64) (tx : Nat → Int32) (ty n : Nat) (m1 : Int32) (lg ht la : Nat → Int32) (at_ st_ so_ va_ fa_ to_ : Int32) (nw ik td th : Nat → Int32) (ba bp br : Int32) (sa sb sc : Nat → Int32) (z : Nat) : zW := [.inr (.inr (8, [.long tr, .ref 1, .int (nI ty), .ref 2, .ref 3, .ref 4, .ref 5, .int at_, .int st_, .int so_, .int va_, .int fa_, .int to_, .ref 6, .ref 7, .ref 8, .ref 9, .int ba, .int bp, .int br, .ref 10, .ref 11, .ref 12, .int (nI z)])), .inl (1, 120, tx), .inl (0, 2, mnf n m1), .inl (0, 14, lg), .inl (0, 14, ht), .inl (0, 6, la), .inl (0, 828, nw), .inl (2, 2, ik), .inl (0, 25, td), .inl (0, 7, th), .inl (0, 6, sa), .inl (0, 6, sb), .inl (0, 6, sc)]
/-- a line as the reference lays it down: 25 ints -/
def mT (y : zLn) : Nat → Int32 := fun k => if k < 7 then y.1 k else if k < 14 then y.2.1 (k - 7) else if k < 21 then y.2.2.1 (k - 14) else if k = 21 then y.2.2.2.1 else if k = 22 then y.2.2.2.2.1 else if k = 23 then y.2.2.2.2.2.1 else y.2.2.2.2.2.2
def mIs (F : Nat → Int32) (y : zLn) : Prop := ∀ k, k < 25 → F k = mT y k
theorem mIs_w {F : Nat → Int32} {y : zLn} (h : mIs F y) {k : Nat} (hk : k < 7) : F k = y.1 k := by
  rw [h k (by omega)]; unfold mT; rw [if_pos hk]
theorem mIs_i {F : Nat → Int32} {y : zLn} (h : mIs F y) {k : Nat} (hk : k < 7) : F (7 + k) = y.2.1 k := by
  rw [h (7 + k) (by omega)]; unfold mT; rw [if_neg (by omega), if_pos (by omega), Nat.add_sub_cancel_left]
theorem mIs_f {F : Nat → Int32} {y : zLn} (h : mIs F y) {k : Nat} (hk : k < 7) : F (14 + k) = y.2.2.1 k := by
  rw [h (14 + k) (by omega)]; unfold mT; rw [if_neg (by omega), if_neg (by omega), if_pos (by omega), Nat.add_sub_cancel_left]
theorem mIs_21 {F : Nat → Int32} {y : zLn} (h : mIs F y) : F 21 = y.2.2.2.1 := h 21 (by omega)
theorem mIs_22 {F : Nat → Int32} {y : zLn} (h : mIs F y) : F 22 = y.2.2.2.2.1 := h 22 (by omega)
theorem mIs_23 {F : Nat → Int32} {y : zLn} (h : mIs F y) : F 23 = y.2.2.2.2.2.1 := h 23 (by omega)
theorem mIs_24 {F : Nat → Int32} {y : zLn} (h : mIs F y) : F 24 = y.2.2.2.2.2.2 := h 24 (by omega)
theorem mIs_of {F : Nat → Int32} {y : zLn} (h1 : ∀ k, k < 7 → F k = y.1 k) (h2 : ∀ k, k < 7 → F (7 + k) = y.2.1 k) (h3 : ∀ k, k < 7 → F (14 + k) = y.2.2.1 k) (h4 : F 21 = y.2.2.2.1) (h5 : F 22 = y.2.2.2.2.1) (h6 : F 23 = y.2.2.2.2.2.1) (h7 : F 24 = y.2.2.2.2.2.2) : mIs F y := by
  intro k hk
  unfold mT
  by_cases c1 : k < 7
  · rw [if_pos c1]; exact h1 k c1
  · rw [if_neg c1]
    by_cases c2 : k < 14
    · rw [if_pos c2]; have := h2 (k - 7) (by omega); rw [show 7 + (k - 7) = k by omega] at this; exact this
    · rw [if_neg c2]
      by_cases c3 : k < 21
      · rw [if_pos c3]; have := h3 (k - 14) (by omega); rw [show 14 + (k - 14) = k by omega] at this; exact this
      · rw [if_neg c3]
        rcases (show k = 21 ∨ k = 22 ∨ k = 23 ∨ k = 24 by omega) with rfl | rfl | rfl | rfl
        · exact h4
        · exact h5
        · exact h6
        · exact h7
theorem vA {a p N : Nat} {A : Int32} (hA : A = nI a) (h : a + p < N) (hN : N < 1000) : vp_in (A + nI p) N := by rw [hA, nI_add]; exact vi0 h hN
theorem cA {a p : Nat} {A : Int32} (hA : A = nI a) (h : a + p < 1000) : (A + nI p).toNatClampNeg = a + p := by rw [hA, nI_add]; exact nI_c0 h
theorem vA1 {a p N : Nat} {A : Int32} (hA : A = nI a) (h : a + p + 1 < N) (hN : N < 1000) : vp_in (A + nI p + 1) N := by rw [hA, nI_add, nI_1]; exact vi0 h hN
theorem cA1 {a p : Nat} {A : Int32} (hA : A = nI a) (h : a + p + 1 < 1000) : (A + nI p + 1).toNatClampNeg = a + p + 1 := by rw [hA, nI_add, nI_1]; exact nI_c0 h
theorem eAm {a p : Nat} {A : Int32} (hA : A = nI a) (h0 : 0 < a + p) : A + nI p - 1 = nI (a + p - 1) := by
  rw [hA, nI_add]
  obtain ⟨m, hm⟩ : ∃ m, a + p = m + 1 := ⟨a + p - 1, by omega⟩
  rw [hm, nI_pred]
  rfl
theorem vAm {a p N : Nat} {A : Int32} (hA : A = nI a) (h0 : 0 < a + p) (h : a + p - 1 < N) (hN : N < 1000) : vp_in (A + nI p - 1) N := by rw [eAm hA h0]; exact vi0 h hN
theorem cAm {a p : Nat} {A : Int32} (hA : A = nI a) (h0 : 0 < a + p) (h : a + p < 1000) : (A + nI p - 1).toNatClampNeg = a + p - 1 := by rw [eAm hA h0]; exact nI_c0 (by omega)
theorem a0 : (0 : Int32) = nI 0 := by decide
theorem a7 : (7 : Int32) = nI 7 := by decide
theorem a14 : (14 : Int32) = nI 14 := by decide
theorem a25 : (25 : Int32) = nI 25 := by decide
theorem a26 : (26 : Int32) = nI 26 := by decide
theorem a51 : (51 : Int32) = nI 51 := by decide
set_option maxRecDepth 100000 in
theorem t_in {ws : zW} {post : zP} (a b c : Int32) (h1 : b ≤ a ∧ a ≤ c → post (some (.int 1)) ws) (h0 : ¬ (b ≤ a ∧ a ≤ c) → post (some (.int 0)) ws) : zGoes mX8_in 3 3 [.int a, .int b, .int c] ws post := by
  intro K hK
  refine hK.1 [] 20 _ _ _ _ (And.intro (fun h => And.intro (Or.inl rfl) (h0 (fun q => absurd q.1 (Int32.not_le.mpr h)))) (fun h => And.intro (fun h2 => And.intro (Or.inl rfl) (h0 (fun q => absurd q.2 (Int32.not_le.mpr h2)))) (fun h2 => And.intro (Or.inr rfl) (h1 ⟨Int32.not_lt.mp h, Int32.not_lt.mp h2⟩))))
theorem u_in {ws : zW} {K : zP} (a b c : Int32) (h1 : b ≤ a ∧ a ≤ c → K (some (.int 1)) ws) (h0 : ¬ (b ≤ a ∧ a ≤ c) → K (some (.int 0)) ws) : zFr 3 (zGoes mX8_in 3 3) [.int a, .int b, .int c] ws K := Or.inl ⟨rfl, rfl, t_in a b c h1 h0⟩
set_option maxRecDepth 100000 in
theorem t_mwants {N : Nat} {r : Nat → Int32} {post : zP} (p n : Nat) (hn : n ≤ 7) (hN : 25 ≤ N) (h : post (some (.int (sWant (r 21) n p))) [.inl (0, N, r)]) : zGoes mX8_wants 1 3 [.ref 0, .int (nI p), .int (nI n)] [.inl (0, N, r)] post := by
  intro K hK
  refine hK.1 [] 30 _ _ _ _ ?_
  unfold sWant at h
  refine And.intro (fun c => ?_) (fun c => ?_)
  · rw [if_neg (Int32.not_lt.mpr c)] at h
    exact And.intro (vpd (fun q => q.elim (by decide) (fun z => absurd (show N ≤ 21 from z) (by omega)))) (And.intro (want_ne hn (Int32.not_lt.mpr c)) h)
  · rw [if_pos (Int32.not_le.mp c)] at h
    exact h
def mabs (x : Int32) : Int32 := if 0 ≤ x then x else -x
theorem mabs_eq (x : Int32) : mabs x = zabs x := by
  unfold mabs zabs
  split
  · rfl
  · exact (Int32.zero_sub x).symm
set_option maxRecDepth 100000 in
theorem t_apart {N : Nat} {r : Nat → Int32} {post : zP} (p : Nat) (hp : p + 1 < 7) (hN : 25 ≤ N) (hN2 : N < 1000) (h : post (some (.int (zabs (r (7 + (p + 1)) - r (7 + p))))) [.inl (0, N, r)]) : zGoes mX8_apart 1 3 [.ref 0, .int (nI p)] [.inl (0, N, r)] post := by
  intro K hK
  rw [← mabs_eq] at h
  unfold mabs at h
  have e1 : r (7 + nI p + 1).toNatClampNeg = r (7 + (p + 1)) := by rw [cA1 a7 (by omega)]; rfl
  have e2 : r (7 + nI p).toNatClampNeg = r (7 + p) := by rw [cA a7 (by omega)]
  rw [← e1, ← e2] at h
  refine hK.1 [] 40 _ _ _ _ (And.intro (vA1 a7 (by omega) hN2) (And.intro (vA a7 (by omega) hN2) (And.intro (fun c => ?_) (fun c => ?_))))
  · rw [if_pos c] at h
    exact h
  · rw [if_neg c] at h
    exact h
theorem clamp_hi {v : Int32} (h : 999 < v) : zclamp v = 999 := by
  unfold zclamp zmin zmax
  rw [if_neg (Int32.not_lt.mpr (Int32.le_of_lt h)), if_pos (by decide)]
theorem clamp_lo {v : Int32} (h : v < -999) : zclamp v = -999 := by
  unfold zclamp zmin zmax
  have h2 : v < 999 := Int32.lt_trans h (by decide)
  rw [if_pos h2, if_neg (Int32.not_lt.mpr (Int32.le_of_lt h))]
theorem clamp_mid {v : Int32} (h1 : -999 ≤ v) (h2 : v ≤ 999) : zclamp v = v := by
  unfold zclamp zmin zmax
  by_cases c : v < 999
  · rw [if_pos c]
    by_cases c2 : -999 < v
    · rw [if_pos c2]
    · rw [if_neg c2]
      exact Int32.le_antisymm h1 (Int32.not_lt.mp c2)
  · have e : v = 999 := Int32.le_antisymm h2 (Int32.not_lt.mp c)
    rw [if_neg c, if_pos (by decide), e]
section MD
variable {tr : Int64} {tx : Nat → Int32} {ty n : Nat} {m1 : Int32} {lg ht la : Nat → Int32} {at_ st_ so_ va_ fa_ to_ : Int32} {nw ik td th : Nat → Int32} {ba bp br : Int32} {sa sb sc : Nat → Int32} {z : Nat}
variable {K : zP} {post : zP}

set_option maxRecDepth 100000 in
theorem u_misPlace (p : Int32) (h1 : sIn n p → K (some (.int 1)) (wD tr tx ty n m1 lg ht la at_ st_ so_ va_ fa_ to_ nw ik td th ba bp br sa sb sc z)) (h0 : ¬ sIn n p → K (some (.int 0)) (wD tr tx ty n m1 lg ht la at_ st_ so_ va_ fa_ to_ nw ik td th ba bp br sa sb sc z)) : zFV 8 2 (zGoes mX8_isPlace 3 2) [.ref 0, .int p] (wD tr tx ty n m1 lg ht la at_ st_ so_ va_ fa_ to_ nw ik td th ba bp br sa sb sc z) K := And.intro rfl (Or.inl ⟨rfl, rfl, fun Z hZ => hZ.1 [] 40 _ _ _ _ (And.intro (vpd (by decide)) (u_in p 0 (nI n - 1) (fun q => And.intro (Or.inr rfl) (h1 q)) (fun q => And.intro (Or.inl rfl) (h0 q))))⟩)
set_option maxRecDepth 100000 in
theorem u_held (v : Int32) (h : K (some (.int (zclamp v))) (wD tr tx ty n m1 lg ht la at_ st_ so_ va_ fa_ to_ nw ik td th ba bp br sa sb sc z)) : zFr 1 (zGoes mX8_held 1 1) [.int v] (wD tr tx ty n m1 lg ht la at_ st_ so_ va_ fa_ to_ nw ik td th ba bp br sa sb sc z) K := by
  refine Or.inl ⟨rfl, rfl, fun Z hZ => hZ.1 [] 40 _ _ _ _ (And.intro (fun c => And.intro (fun c2 => ?_) (fun c2 => ?_)) (fun c => ?_))⟩
  · rw [clamp_mid c2 c] at h
    exact h
  · rw [clamp_lo (Int32.not_le.mp c2)] at h
    exact h
  · rw [clamp_hi (Int32.not_le.mp c)] at h
    exact h

set_option maxRecDepth 100000 in
theorem u_mwantsN (hn : n ≤ 7) (p : Nat) (h : K (some (.int (sWant (nw 21) n p))) (wD tr tx ty n m1 lg ht la at_ st_ so_ va_ fa_ to_ nw ik td th ba bp br sa sb sc z)) : zFr 3 (zGoes mX8_wants 1 3) [.ref 6, .int (nI p), .int (nI n)] (wD tr tx ty n m1 lg ht la at_ st_ so_ va_ fa_ to_ nw ik td th ba bp br sa sb sc z) K := Or.inr ⟨[6], [.ref 0, .int (nI p), .int (nI n)], [.inl (0, 828, nw)], ⟨rfl, rfl, rfl⟩, ⟨Nat.le_of_ble_eq_true rfl, rfl⟩, rfl, t_mwants p n hn (by omega) h⟩
set_option maxRecDepth 100000 in
theorem u_apartN (p : Nat) (hp : p + 1 < 7) (h : K (some (.int (zabs (nw (7 + (p + 1)) - nw (7 + p))))) (wD tr tx ty n m1 lg ht la at_ st_ so_ va_ fa_ to_ nw ik td th ba bp br sa sb sc z)) : zFr 2 (zGoes mX8_apart 1 3) [.ref 6, .int (nI p)] (wD tr tx ty n m1 lg ht la at_ st_ so_ va_ fa_ to_ nw ik td th ba bp br sa sb sc z) K := Or.inr ⟨[6], [.ref 0, .int (nI p)], [.inl (0, 828, nw)], ⟨rfl, rfl, rfl⟩, ⟨Nat.le_of_ble_eq_true rfl, rfl⟩, rfl, t_apart p hp (by omega) (by omega) h⟩
set_option maxRecDepth 100000 in
theorem u_mbulgeN (hn : n ≤ 7) (h : K (some (.int (sBulge (fun k => nw (7 + k)) (n - 1)))) (wD tr tx ty n m1 lg ht la at_ st_ so_ va_ fa_ to_ nw ik td th ba bp br sa sb sc z)) : zFV 8 2 (zGoes mX8_bulge 1 4) [.ref 0, .ref 6] (wD tr tx ty n m1 lg ht la at_ st_ so_ va_ fa_ to_ nw ik td th ba bp br sa sb sc z) K := by
  refine And.intro rfl (Or.inl ⟨rfl, rfl, ?_⟩)
  intro Z hZ
  have loop : ∀ d p : Nat, p + d = n - 1 → Z 4 [some (.ref 0), some (.ref 6), some (.int (sBulge (fun k => nw (7 + k)) p)), some (.int (nI p))] [] (wD tr tx ty n m1 lg ht la at_ st_ so_ va_ fa_ to_ nw ik td th ba bp br sa sb sc z) := by
    intro d
    induction d with
    | zero =>
      intro p hp
      refine hZ.1 [4] 60 _ _ _ _ (And.intro (vpd (by decide)) (And.intro (fun c => ?_) (fun c => ?_)))
      · have e : p = n - 1 := by omega
        subst e
        exact h
      · exact absurd (by rw [nI_1]; exact nI_le (a := n) (by omega) (by omega)) c
    | succ d ih =>
      intro p hp
      have := ih (p + 1) (by omega)
      rw [← nI_1] at this
      have j34 : Z 34 [some (.ref 0), some (.ref 6), some (.int (sBulge (fun k => nw (7 + k)) p)), some (.int (nI p))] [.int (sBulge (fun k => nw (7 + k)) (p + 1))] (wD tr tx ty n m1 lg ht la at_ st_ so_ va_ fa_ to_ nw ik td th ba bp br sa sb sc z) := hZ.1 [4] 60 _ _ _ _ this
      rw [show sBulge (fun k => nw (7 + k)) (p + 1) = (if sBulge (fun k => nw (7 + k)) p < zabs (nw (7 + (p + 1)) - nw (7 + p)) then zabs (nw (7 + (p + 1)) - nw (7 + p)) else sBulge (fun k => nw (7 + k)) p) from rfl] at j34
      refine hZ.1 [4, 34] 60 _ _ _ _ (And.intro (vpd (by decide)) (And.intro (fun c => ?_) (fun c => u_apartN p (by omega) (And.intro (fun c2 => ?_) (fun c2 => ?_)))))
      · rw [nI_1] at c
        exact absurd (show nI n ≤ nI (p + 1) from c) (nI_ge (by omega) (by omega))
      · rw [if_neg (Int32.not_lt.mpr c2)] at j34
        exact j34
      · rw [if_pos (Int32.not_le.mp c2)] at j34
        exact u_apartN p (by omega) j34
  exact hZ.1 [4] 60 _ _ _ _ (loop (n - 1) 0 (by omega))


set_option maxRecDepth 100000 in
theorem u_mwantsT (hn : n ≤ 7) (p : Nat) (h : K (some (.int (sWant (td 21) n p))) (wD tr tx ty n m1 lg ht la at_ st_ so_ va_ fa_ to_ nw ik td th ba bp br sa sb sc z)) : zFr 3 (zGoes mX8_wants 1 3) [.ref 8, .int (nI p), .int (nI n)] (wD tr tx ty n m1 lg ht la at_ st_ so_ va_ fa_ to_ nw ik td th ba bp br sa sb sc z) K := Or.inr ⟨[8], [.ref 0, .int (nI p), .int (nI n)], [.inl (0, 25, td)], ⟨rfl, rfl, rfl⟩, ⟨Nat.le_of_ble_eq_true rfl, rfl⟩, rfl, t_mwants p n hn (by omega) h⟩
set_option maxRecDepth 100000 in
theorem u_apartT (p : Nat) (hp : p + 1 < 7) (h : K (some (.int (zabs (td (7 + (p + 1)) - td (7 + p))))) (wD tr tx ty n m1 lg ht la at_ st_ so_ va_ fa_ to_ nw ik td th ba bp br sa sb sc z)) : zFr 2 (zGoes mX8_apart 1 3) [.ref 8, .int (nI p)] (wD tr tx ty n m1 lg ht la at_ st_ so_ va_ fa_ to_ nw ik td th ba bp br sa sb sc z) K := Or.inr ⟨[8], [.ref 0, .int (nI p)], [.inl (0, 25, td)], ⟨rfl, rfl, rfl⟩, ⟨Nat.le_of_ble_eq_true rfl, rfl⟩, rfl, t_apart p hp (by omega) (by omega) h⟩
set_option maxRecDepth 100000 in
theorem u_mbulgeT (hn : n ≤ 7) (h : K (some (.int (sBulge (fun k => td (7 + k)) (n - 1)))) (wD tr tx ty n m1 lg ht la at_ st_ so_ va_ fa_ to_ nw ik td th ba bp br sa sb sc z)) : zFV 8 2 (zGoes mX8_bulge 1 4) [.ref 0, .ref 8] (wD tr tx ty n m1 lg ht la at_ st_ so_ va_ fa_ to_ nw ik td th ba bp br sa sb sc z) K := by
  refine And.intro rfl (Or.inl ⟨rfl, rfl, ?_⟩)
  intro Z hZ
  have loop : ∀ d p : Nat, p + d = n - 1 → Z 4 [some (.ref 0), some (.ref 8), some (.int (sBulge (fun k => td (7 + k)) p)), some (.int (nI p))] [] (wD tr tx ty n m1 lg ht la at_ st_ so_ va_ fa_ to_ nw ik td th ba bp br sa sb sc z) := by
    intro d
    induction d with
    | zero =>
      intro p hp
      refine hZ.1 [4] 60 _ _ _ _ (And.intro (vpd (by decide)) (And.intro (fun c => ?_) (fun c => ?_)))
      · have e : p = n - 1 := by omega
        subst e
        exact h
      · exact absurd (by rw [nI_1]; exact nI_le (a := n) (by omega) (by omega)) c
    | succ d ih =>
      intro p hp
      have := ih (p + 1) (by omega)
      rw [← nI_1] at this
      have j34 : Z 34 [some (.ref 0), some (.ref 8), some (.int (sBulge (fun k => td (7 + k)) p)), some (.int (nI p))] [.int (sBulge (fun k => td (7 + k)) (p + 1))] (wD tr tx ty n m1 lg ht la at_ st_ so_ va_ fa_ to_ nw ik td th ba bp br sa sb sc z) := hZ.1 [4] 60 _ _ _ _ this
      rw [show sBulge (fun k => td (7 + k)) (p + 1) = (if sBulge (fun k => td (7 + k)) p < zabs (td (7 + (p + 1)) - td (7 + p)) then zabs (td (7 + (p + 1)) - td (7 + p)) else sBulge (fun k => td (7 + k)) p) from rfl] at j34
      refine hZ.1 [4, 34] 60 _ _ _ _ (And.intro (vpd (by decide)) (And.intro (fun c => ?_) (fun c => u_apartT p (by omega) (And.intro (fun c2 => ?_) (fun c2 => ?_)))))
      · rw [nI_1] at c
        exact absurd (show nI n ≤ nI (p + 1) from c) (nI_ge (by omega) (by omega))
      · rw [if_neg (Int32.not_lt.mpr c2)] at j34
        exact j34
      · rw [if_pos (Int32.not_le.mp c2)] at j34
        exact u_apartT p (by omega) j34
  exact hZ.1 [4] 60 _ _ _ _ (loop (n - 1) 0 (by omega))

end MD
