
def sSaw (n z : Nat) (p a u : Int32) : Int32 := if sIn n p ∧ (0 ≤ a ∧ a ≤ 60) ∧ (-999 ≤ u ∧ u ≤ 999) then if z < 6 then nI (z + 1) else -1003 else -1001
section RWS
variable {t : Nat → Int32} {b : Nat} {c2 c3 c4 c5 c6 : zCell} {n : Nat} {lg ht : Nat → Int32} {x y : zLn} {sz : Int32} {kn : List (Option Nat)} {k0 k1 : Int32} {z : Nat} {sa sb sc : Nat → Int32} {c7 c8 c9 : zCell} {tr : Int64} {tl : zW}
variable {K : zP} {post : zP}

set_option maxRecDepth 100000 in
theorem c_saw (hn : n ≤ 7) (hz : z ≤ 6) (p a u : Int32) (h : post (some (.int (sSaw n z p a u))) (if (sIn n p ∧ (0 ≤ a ∧ a ≤ 60) ∧ (-999 ≤ u ∧ u ≤ 999)) ∧ z < 6 then (wC t b c2 c3 c4 c5 c6 n lg ht x y sz kn k0 k1 (z + 1) (upd sa z p) (upd sb z a) (upd sc z u) c7 c8 c9 tr tl) else (wC t b c2 c3 c4 c5 c6 n lg ht x y sz kn k0 k1 z sa sb sc c7 c8 c9 tr tl))) : zGoes mX7_saw 1 4 [.ref 0, .int p, .int a, .int u] (wC t b c2 c3 c4 c5 c6 n lg ht x y sz kn k0 k1 z sa sb sc c7 c8 c9 tr tl) post := by
  intro Z hZ
  unfold sSaw at h
  have bad : ¬ (sIn n p ∧ (0 ≤ a ∧ a ≤ 60) ∧ (-999 ≤ u ∧ u ≤ 999)) → Z 31 [some (.ref 0), some (.int p), some (.int a), some (.int u)] [] (wC t b c2 c3 c4 c5 c6 n lg ht x y sz kn k0 k1 z sa sb sc c7 c8 c9 tr tl) := by
    intro hb
    rw [if_neg hb, if_neg (fun q => hb q.1)] at h
    exact hZ.1 [] 20 _ _ _ _ h
  refine hZ.1 [31] 60 _ _ _ _ (u_isPlace p (fun q => ?_) (fun q => ?_))
  · refine And.intro (fun e => absurd e (by decide)) (fun _ => u_within a 0 60 (fun q2 => ?_) (fun q2 => ?_))
    · refine And.intro (fun e => absurd e (by decide)) (fun _ => u_within u (-999) 999 (fun q3 => ?_) (fun q3 => ?_))
      · rw [if_pos ⟨q, q2, q3⟩] at h
        refine And.intro (fun e => absurd e (by decide)) (fun _ => And.intro (fun e => ?_) (fun e => ?_))
        · rw [show (6 : Int32) = nI 6 by decide, nI_ltI (by omega) (by omega)] at e
          rw [if_pos e, if_pos ⟨⟨q, q2, q3⟩, e⟩] at h
          exact And.intro rfl (Or.inr ⟨[23, 24, 25, 26], [.ref 0, .int p, .int a, .int u], wSe z sa sb sc, ⟨rfl, rfl, rfl⟩, ⟨Nat.le_of_ble_eq_true rfl, rfl⟩, rfl, t_note e p a u h⟩)
        · rw [show (6 : Int32) = nI 6 by decide, nI_ltI (by omega) (by omega)] at e
          rw [if_neg e, if_neg (fun z => e z.2)] at h
          exact h
      · exact And.intro (fun _ => bad (fun z => q3 z.2.2)) (fun e => absurd rfl e)
    · exact And.intro (fun _ => bad (fun z => q2 z.2.1)) (fun e => absurd rfl e)
  · exact And.intro (fun _ => bad (fun z => q z.1)) (fun e => absurd rfl e)
/-! rate -/
set_option maxRecDepth 100000 in
theorem u_r0 (hn : n ≤ 7) (p : Nat) (h : K (some (.int (sWant x.2.2.2.1 n p))) (wC t b c2 c3 c4 c5 c6 n lg ht x y sz kn k0 k1 z sa sb sc c7 c8 c9 (tr + 1) tl)) : zFV 7 2 (zGoes mX7_rateOfStep 1 2) [.ref 0, .int (nI p)] (wC t b c2 c3 c4 c5 c6 n lg ht x y sz kn k0 k1 z sa sb sc c7 c8 c9 tr tl) K := And.intro rfl (Or.inl ⟨rfl, rfl, fun Z hZ => hZ.1 [] 40 _ _ _ _ (uL_wants hn p h)⟩)
set_option maxRecDepth 100000 in
theorem u_r1 (hn : n ≤ 7) (p : Nat) (hp : p < n) (hw : ∀ k, k < n → vp_in (x.1 k) 7) (h : K (some (.int (sWant x.2.2.2.1 n p + lg (x.1 p).toNatClampNeg))) (wC t b c2 c3 c4 c5 c6 n lg ht x y sz kn k0 k1 z sa sb sc c7 c8 c9 (tr + 10 + 1) tl)) : zFV 7 2 (zGoes mX7_rateOfShort 1 2) [.ref 0, .int (nI p)] (wC t b c2 c3 c4 c5 c6 n lg ht x y sz kn k0 k1 z sa sb sc c7 c8 c9 tr tl) K := And.intro rfl (Or.inl ⟨rfl, rfl, fun Z hZ => hZ.1 [] 40 _ _ _ _ (u_r0 hn p (uL_legAt p (by omega) (hw p hp) h))⟩)
set_option maxRecDepth 100000 in
theorem u_r2 (hn : n ≤ 7) (p : Nat) (hp : p < n) (h : K (some (.int (sWant x.2.2.2.1 n p - x.2.1 p))) (wC t b c2 c3 c4 c5 c6 n lg ht x y sz kn k0 k1 z sa sb sc c7 c8 c9 (tr + 100 + 1) tl)) : zFV 7 2 (zGoes mX7_rateOfSeen 1 2) [.ref 0, .int (nI p)] (wC t b c2 c3 c4 c5 c6 n lg ht x y sz kn k0 k1 z sa sb sc c7 c8 c9 tr tl) K := And.intro rfl (Or.inl ⟨rfl, rfl, fun Z hZ => hZ.1 [] 40 _ _ _ _ (u_r0 hn p (And.intro (vi0 (by omega) (by omega)) (by
  have e : x.2.1 p = x.2.1 (nI p).toNatClampNeg := by rw [nI_c0 (by omega)]
  rw [e] at h
  exact h)))⟩)
set_option maxRecDepth 100000 in
theorem u_r3 (hn : n ≤ 7) (p : Nat) (hp : p < n) (hw : ∀ k, k < n → vp_in (x.1 k) 7) (h : K (some (.int ((sWant x.2.2.2.1 n p + lg (x.1 p).toNatClampNeg) * 2))) (wC t b c2 c3 c4 c5 c6 n lg ht x y sz kn k0 k1 z sa sb sc c7 c8 c9 (tr + 1000 + 10 + 1) tl)) : zFV 7 2 (zGoes mX7_rateOfMarked 1 2) [.ref 0, .int (nI p)] (wC t b c2 c3 c4 c5 c6 n lg ht x y sz kn k0 k1 z sa sb sc c7 c8 c9 tr tl) K := And.intro rfl (Or.inl ⟨rfl, rfl, fun Z hZ => hZ.1 [] 40 _ _ _ _ (u_r1 hn p hp hw h)⟩)
set_option maxRecDepth 100000 in
theorem u_r4 (hn : n ≤ 7) (p : Nat) (hp : p < n) (h : K (some (.int (sWant x.2.2.2.1 n p - x.2.1 p + sBulge x.2.1 (n - 1)))) (wC t b c2 c3 c4 c5 c6 n lg ht x y sz kn k0 k1 z sa sb sc c7 c8 c9 (tr + 10000 + 100 + 1) tl)) : zFV 7 2 (zGoes mX7_rateOfBulging 1 2) [.ref 0, .int (nI p)] (wC t b c2 c3 c4 c5 c6 n lg ht x y sz kn k0 k1 z sa sb sc c7 c8 c9 tr tl) K := And.intro rfl (Or.inl ⟨rfl, rfl, fun Z hZ => hZ.1 [] 40 _ _ _ _ (u_r2 hn p hp (uL_bulge hn h))⟩)
set_option maxRecDepth 100000 in
theorem u_r5 (hn : n ≤ 7) (p : Nat) (hp : p < n) (h : K (some (.int (sWant x.2.2.2.1 n p + x.2.2.1 p * 9))) (wC t b c2 c3 c4 c5 c6 n lg ht x y sz kn k0 k1 z sa sb sc c7 c8 c9 (tr + 100000 + 1) tl)) : zFV 7 2 (zGoes mX7_rateOfHopped 1 2) [.ref 0, .int (nI p)] (wC t b c2 c3 c4 c5 c6 n lg ht x y sz kn k0 k1 z sa sb sc c7 c8 c9 tr tl) K := And.intro rfl (Or.inl ⟨rfl, rfl, fun Z hZ => hZ.1 [] 40 _ _ _ _ (u_r0 hn p (And.intro (vi0 (by omega) (by omega)) (by
  have e : x.2.2.1 p = x.2.2.1 (nI p).toNatClampNeg := by rw [nI_c0 (by omega)]
  rw [e] at h
  exact h)))⟩)
def sRate (n : Nat) (lg : Nat → Int32) (x : zLn) (kd p : Int32) : Int32 := if sIn n p then if kd = 0 then sWant x.2.2.2.1 n p.toNatClampNeg else if kd = 1 then sWant x.2.2.2.1 n p.toNatClampNeg + lg (x.1 p.toNatClampNeg).toNatClampNeg else if kd = 2 then sWant x.2.2.2.1 n p.toNatClampNeg - x.2.1 p.toNatClampNeg else if kd = 3 then (sWant x.2.2.2.1 n p.toNatClampNeg + lg (x.1 p.toNatClampNeg).toNatClampNeg) * 2 else if kd = 4 then sWant x.2.2.2.1 n p.toNatClampNeg - x.2.1 p.toNatClampNeg + sBulge x.2.1 (n - 1) else if kd = 5 then sWant x.2.2.2.1 n p.toNatClampNeg + x.2.2.1 p.toNatClampNeg * 9 else -1000000 else -1000000
def sRateT (n : Nat) (kd p : Int32) (tr : Int64) : Int64 := if sIn n p then if kd = 0 then tr + 1 else if kd = 1 then tr + 11 else if kd = 2 then tr + 101 else if kd = 3 then tr + 1011 else if kd = 4 then tr + 10101 else if kd = 5 then tr + 100001 else tr else tr
set_option maxRecDepth 100000 in
theorem c_rate (hn : n ≤ 7) (hw : ∀ k, k < n → vp_in (x.1 k) 7) (kd p : Int32) (h : post (some (.int (sRate n lg x kd p))) (wC t b c2 c3 c4 c5 c6 n lg ht x y sz kn k0 k1 z sa sb sc c7 c8 c9 (sRateT n kd p tr) tl)) : zGoes mX7_rate 1 3 [.ref 0, .int kd, .int p] (wC t b c2 c3 c4 c5 c6 n lg ht x y sz kn k0 k1 z sa sb sc c7 c8 c9 tr tl) post := by
  intro Z hZ
  refine hZ.1 [] 60 _ _ _ _ (u_isPlace p (fun q => ?_) (fun q => ?_))
  · unfold sRate sRateT at h
    rw [if_pos q, if_pos q] at h
    obtain ⟨k, hk, rfl⟩ := (sIn_iff hn p).mp q
    rw [nI_c0 (by omega)] at h
    refine And.intro (fun e => absurd e (by decide)) (fun _ => And.intro (fun e => ?_) (And.intro (fun e => ?_) (And.intro (fun e => ?_) (And.intro (fun e => ?_) (And.intro (fun e => ?_) (And.intro (fun e => ?_) (And.intro (fun e => ?_) trivial)))))))
    · simp only [tO e (y := 0) (by decide) (by decide), tO e (y := 1) (by decide) (by decide), tO e (y := 2) (by decide) (by decide), tO e (y := 3) (by decide) (by decide), tO e (y := 4) (by decide) (by decide), tO e (y := 5) (by decide) (by decide), if_false] at h
      exact h
    · have e : kd = 0 := tI e rfl
      subst e; exact u_r0 hn k h
    · have e : kd = 1 := tI e rfl
      subst e
      refine u_r1 hn k hk hw ?_
      rw [show tr + 10 + 1 = tr + 11 by rw [Int64.add_assoc]; rfl]
      exact h
    · have e : kd = 2 := tI e rfl
      subst e
      refine u_r2 hn k hk ?_
      rw [show tr + 100 + 1 = tr + 101 by rw [Int64.add_assoc]; rfl]
      exact h
    · have e : kd = 3 := tI e rfl
      subst e
      refine u_r3 hn k hk hw ?_
      rw [show tr + 1000 + 10 + 1 = tr + 1011 by rw [Int64.add_assoc, Int64.add_assoc]; rfl]
      exact h
    · have e : kd = 4 := tI e rfl
      subst e
      refine u_r4 hn k hk ?_
      rw [show tr + 10000 + 100 + 1 = tr + 10101 by rw [Int64.add_assoc, Int64.add_assoc]; rfl]
      exact h
    · have e : kd = 5 := tI e rfl
      subst e
      refine u_r5 hn k hk ?_
      rw [show tr + 100000 + 1 = tr + 100001 by rw [Int64.add_assoc]; rfl]
      exact h
  · unfold sRate sRateT at h
    rw [if_neg q, if_neg q] at h
    exact And.intro (fun _ => h) (fun e => absurd rfl e)
/-! whose -/
def sTells (n : Nat) (lg : Nat → Int32) (sa sb sc : Nat → Int32) (z : Nat) : Nat → Nat → zLn → Bool
  | 0, _, _ => true
  | r + 1, k, y => sFit sa sb sc y.2.1 (nI k) z && sTells n lg sa sb sc z r (k + 1) (sStep n lg (-1) y)
theorem zmax_le {a b M : Int32} (h1 : a ≤ M) (h2 : b ≤ M) : zmax a b ≤ M := by unfold zmax; split <;> assumption
theorem sLast_in {sb : Nat → Int32} : ∀ {z : Nat}, (∀ j, j < z → ∃ k, k ≤ 60 ∧ sb j = nI k) → ∃ r, r ≤ 61 ∧ sLast sb z = nI r - 1
  | 0, _ => ⟨0, by omega, (by show (-1 : Int32) = nI 0 - 1; decide)⟩
  | z + 1, h => by
    obtain ⟨r, h1, h2⟩ := sLast_in (z := z) (fun j hj => h j (by omega))
    obtain ⟨k, h3, h4⟩ := h z (by omega)
    unfold sLast
    rw [h2, h4]
    unfold zmax
    by_cases c : nI r - 1 < nI k
    · rw [if_pos c]
      exact ⟨k + 1, by omega, by rw [nI_pred]⟩
    · rw [if_neg c]
      exact ⟨r, h1, rfl⟩
set_option maxRecDepth 100000 in
theorem u_tells (hn : n ≤ 7) (hw : ∀ k, k < n → vp_in (x.1 k) 7) (hz : z ≤ 6) (ha : ∀ j, j < z → vp_in (sa j) 7) (p : Nat) (hp : p < 7) (u : Int32) (r : Nat) (hr : r ≤ 61) (hl : sLast sb z = nI r - 1) (h : ∀ y', K (some (.int (zb (sTells n lg sa sb sc z r 0 (sLose p u x))))) (wC t b c2 c3 c4 c5 c6 n lg ht x y' sz kn k0 k1 z sa sb sc c7 c8 c9 tr tl)) : zFV 7 3 (zGoes mX7_tellsAllSeen 3 5) [.ref 0, .int (nI p), .int u] (wC t b c2 c3 c4 c5 c6 n lg ht x y sz kn k0 k1 z sa sb sc c7 c8 c9 tr tl) K := by
  refine And.intro rfl (Or.inl ⟨rfl, rfl, ?_⟩)
  intro Z hZ
  have loop : ∀ (d k : Nat) (y : zLn), k + d = r → (∀ j, j < n → vp_in (y.1 j) 7) → (∀ y', K (some (.int (zb (sTells n lg sa sb sc z d k y)))) (wC t b c2 c3 c4 c5 c6 n lg ht x y' sz kn k0 k1 z sa sb sc c7 c8 c9 tr tl)) → Z 31 [some (.ref 0), some (.int (nI p)), some (.int u), some (.int (nI r - 1)), some (.int (nI k))] [] (wC t b c2 c3 c4 c5 c6 n lg ht x y sz kn k0 k1 z sa sb sc c7 c8 c9 tr tl) := by
    intro d
    induction d with
    | zero =>
      intro k y hk hwy h
      refine hZ.1 [31] 60 _ _ _ _ (And.intro (fun c => And.intro (Or.inr rfl) (h y)) (fun c => ?_))
      exact absurd ((nI_m1 (by omega) (by omega)).mpr (by omega)) c
    | succ d ih =>
      intro k y hk hwy h
      refine hZ.1 [31] 60 _ _ _ _ (And.intro (fun c => ?_) (fun c => And.intro rfl (Or.inr ⟨[23, 24, 25, 26, 14, 15, 16, 17, 7], [.ref 0, .ref 4, .int (nI k)], wSL z sa sb sc y.1 y.2.1 y.2.2.1 y.2.2.2.1 y.2.2.2.2.1 y.2.2.2.2.2.1 y.2.2.2.2.2.2, ⟨rfl, rfl, rfl⟩, ⟨Nat.le_of_ble_eq_true rfl, rfl⟩, rfl, t_fit hz ha (nI k) (And.intro (fun c2 => ?_) (fun c2 => ?_))⟩)))
      · exact absurd ((nI_m1 (by omega) (by omega)).mp c) (by omega)
      · unfold sTells at h
        rw [zb0 c2, Bool.false_and] at h
        exact And.intro (Or.inl rfl) (h y)
      · unfold sTells at h
        rw [zb1 c2, Bool.true_and] at h
        refine uA_step hn hwy (-1) ?_
        have := ih (k + 1) (sStep n lg (-1) y) (by omega) hwy h
        rw [← nI_1] at this
        exact this
  refine hZ.1 [31] 60 _ _ _ _ (uA_copy (uA_lose p hp u (And.intro rfl (Or.inr ⟨[23, 24, 25, 26], [.ref 0], wSe z sa sb sc, ⟨rfl, rfl, rfl⟩, ⟨Nat.le_of_ble_eq_true rfl, rfl⟩, rfl, t_lastPace hz ?_⟩))))
  rw [hl]
  exact loop r 0 (sLose p u x) (by omega) hw h

abbrev zT3 : Type := Int32 × Int32 × Int32
def sWs (T : Nat → Nat → Bool) (s : zT3) (p u : Nat) : zT3 := if T p u then (s.1 + 1, (if s.2.1 = -1009 then 100 * nI p + nI u else s.2.1), s.2.2 ||| (1 : Int32) <<< (nI p &&& 31)) else s
def sWi (T : Nat → Nat → Bool) (p : Nat) : Nat → Nat → zT3 → zT3
  | 0, _, s => s
  | d + 1, u, s => sWi T p d (u + 1) (sWs T s p u)
def sWo (T : Nat → Nat → Bool) : Nat → Nat → zT3 → zT3
  | 0, _, s => s
  | d + 1, p, s => sWo T d (p + 1) (sWi T p 40 1 s)
def sWho (n : Nat) (lg : Nat → Int32) (x : zLn) (sa sb sc : Nat → Int32) (z r : Nat) : zT3 := sWo (fun p u => sTells n lg sa sb sc z r 0 (sLose p (nI u) x)) n 0 (0, -1009, 0)
def sWhose (s : zT3) (a : Int32) : Int32 := if 0 ≤ a ∧ a ≤ 2 then if a = 0 then s.1 else if a = 1 then s.2.1 else s.2.2 else -1001
set_option maxRecDepth 100000 in
theorem c_whose (hn : n ≤ 7) (hw : ∀ k, k < n → vp_in (x.1 k) 7) (hz : z ≤ 6) (ha : ∀ j, j < z → vp_in (sa j) 7) (r : Nat) (hr : r ≤ 61) (hl : sLast sb z = nI r - 1) (a : Int32) (h : ∀ y', post (some (.int (sWhose (sWho n lg x sa sb sc z r) a))) (wC t b c2 c3 c4 c5 c6 n lg ht x y' sz kn k0 k1 z sa sb sc c7 c8 c9 tr tl)) : zGoes mX7_whose 1 7 [.ref 0, .int a] (wC t b c2 c3 c4 c5 c6 n lg ht x y sz kn k0 k1 z sa sb sc c7 c8 c9 tr tl) post := by
  intro Z hZ
  refine hZ.1 [25] 60 _ _ _ _ (u_within a 0 2 (fun q => ?_) (fun q => ?_))
  · have outer : ∀ (d p : Nat) (s : zT3) (o6 : Option Value) (y : zLn), p + d = n → (∀ y', post (some (.int (sWhose (sWo (fun p u => sTells n lg sa sb sc z r 0 (sLose p (nI u) x)) d p s) a))) (wC t b c2 c3 c4 c5 c6 n lg ht x y' sz kn k0 k1 z sa sb sc c7 c8 c9 tr tl)) → Z 25 [some (.ref 0), some (.int a), some (.int s.1), some (.int s.2.1), some (.int s.2.2), some (.int (nI p)), o6] [] (wC t b c2 c3 c4 c5 c6 n lg ht x y sz kn k0 k1 z sa sb sc c7 c8 c9 tr tl) := by
      intro d
      induction d with
      | zero =>
        intro p s o6 y hp h
        have e : p = n := by omega
        subst e
        have h := h y
        unfold sWhose at h
        rw [if_pos q] at h
        refine hZ.1 [25] 60 _ _ _ _ (And.intro (fun c => And.intro (fun g2 => ?_) (fun g2 => And.intro (fun g3 => ?_) (fun g3 => ?_))) (fun c => ?_))
        · rw [if_pos g2] at h
          exact h
        · rw [if_neg g2, if_pos g3] at h
          exact h
        · rw [if_neg g2, if_neg g3] at h
          exact h
        · exact absurd (le_of (Nat.le_refl _) (by omega)) c
      | succ d ih =>
        intro p s o6 y hp h
        have inner : ∀ (d2 u : Nat) (s : zT3) (y : zLn), u + d2 = 41 → (∀ y', post (some (.int (sWhose (sWo (fun p u => sTells n lg sa sb sc z r 0 (sLose p (nI u) x)) d (p + 1) (sWi (fun p u => sTells n lg sa sb sc z r 0 (sLose p (nI u) x)) p d2 u s)) a))) (wC t b c2 c3 c4 c5 c6 n lg ht x y' sz kn k0 k1 z sa sb sc c7 c8 c9 tr tl)) → Z 40 [some (.ref 0), some (.int a), some (.int s.1), some (.int s.2.1), some (.int s.2.2), some (.int (nI p)), some (.int (nI u))] [] (wC t b c2 c3 c4 c5 c6 n lg ht x y sz kn k0 k1 z sa sb sc c7 c8 c9 tr tl) := by
          intro d2
          induction d2 with
          | zero =>
            intro u s y hu h
            have := ih (p + 1) s (some (.int (nI u))) y (by omega) h
            rw [← nI_1] at this
            refine hZ.1 [25, 40] 60 _ _ _ _ (And.intro (fun c => this) (fun c => ?_))
            exact absurd (by rw [show (40 : Int32) = nI 40 by decide]; exact nI_lt (by omega) (by omega)) c
          | succ d2 ih2 =>
            intro u s y hu h
            have h : ∀ y', post (some (.int (sWhose (sWo (fun p u => sTells n lg sa sb sc z r 0 (sLose p (nI u) x)) d (p + 1) (sWi (fun p u => sTells n lg sa sb sc z r 0 (sLose p (nI u) x)) p d2 (u + 1) (sWs (fun p u => sTells n lg sa sb sc z r 0 (sLose p (nI u) x)) s p u))) a))) (wC t b c2 c3 c4 c5 c6 n lg ht x y' sz kn k0 k1 z sa sb sc c7 c8 c9 tr tl) := h
            refine hZ.1 [25, 40, 80] 60 _ _ _ _ (And.intro (fun c => ?_) (fun c => u_tells hn hw hz ha p (by omega) (nI u) r hr hl (fun y2 => ?_)))
            · rw [show (40 : Int32) = nI 40 by decide] at c
              exact absurd c (nI_nlt (by omega) (by omega))
            · refine And.intro (fun g2 => ?_) (fun g2 => ?_)
              · have e := zb0 g2
                have := ih2 (u + 1) s y2 (by omega) (fun y' => by
                  have := h y'
                  rw [show sWs (fun p u => sTells n lg sa sb sc z r 0 (sLose p (nI u) x)) s p u = s from if_neg (by show ¬ sTells n lg sa sb sc z r 0 (sLose p (nI u) x) = true; rw [e]; decide)] at this
                  exact this)
                rw [← nI_1] at this
                exact this
              · have e := zb1 g2
                have := ih2 (u + 1) (s.1 + 1, (if s.2.1 = -1009 then 100 * nI p + nI u else s.2.1), s.2.2 ||| (1 : Int32) <<< (nI p &&& 31)) y2 (by omega) (fun y' => by
                  have := h y'
                  rw [show sWs (fun p u => sTells n lg sa sb sc z r 0 (sLose p (nI u) x)) s p u = (s.1 + 1, (if s.2.1 = -1009 then 100 * nI p + nI u else s.2.1), s.2.2 ||| (1 : Int32) <<< (nI p &&& 31)) from if_pos e] at this
                  exact this)
                rw [← nI_1] at this
                have j80 : Z 80 [some (.ref 0), some (.int a), some (.int (s.1 + 1)), some (.int s.2.1), some (.int s.2.2), some (.int (nI p)), some (.int (nI u))] [.int (if s.2.1 = -1009 then 100 * nI p + nI u else s.2.1)] (wC t b c2 c3 c4 c5 c6 n lg ht x y2 sz kn k0 k1 z sa sb sc c7 c8 c9 tr tl) := hZ.1 [40] 60 _ _ _ _ this
                refine And.intro (fun g3 => ?_) (fun g3 => ?_)
                · rw [if_pos g3] at j80
                  exact j80
                · rw [if_neg g3] at j80
                  exact j80
        refine hZ.1 [25, 40] 60 _ _ _ _ (And.intro (fun c => ?_) (fun c => inner 40 1 s y (by omega) h))
        exact absurd c (nle_of (by omega) (by omega))
    exact And.intro (fun e => absurd e (by decide)) (fun _ => outer n 0 (0, -1009, 0) none y (by omega) h)
  · have h := h y
    unfold sWhose at h
    rw [if_neg q] at h
    exact And.intro (fun _ => h) (fun e => absurd rfl e)
/-! mix -/
def sMs (n : Nat) (lg : Nat → Int32) (x : zLn) (s : Int32 × Nat) (e l : Nat) : Int32 × Nat := if sTill n lg s.2 0 (sMind (nI e) (nI l) x) = -1009 then s else (11 * nI e + nI l, (sTill n lg s.2 0 (sMind (nI e) (nI l) x)).toNatClampNeg)
def sMi (n : Nat) (lg : Nat → Int32) (x : zLn) (e : Nat) : Nat → Nat → Int32 × Nat → Int32 × Nat
  | 0, _, s => s
  | d + 1, l, s => sMi n lg x e d (l + 1) (sMs n lg x s e l)
def sMo (n : Nat) (lg : Nat → Int32) (x : zLn) : Nat → Nat → Int32 × Nat → Int32 × Nat
  | 0, _, s => s
  | d + 1, e, s => sMo n lg x d (e + 1) (sMi n lg x e 11 0 s)
def sMix (s : Int32 × Nat) (a : Int32) : Int32 := if 0 ≤ a ∧ a ≤ 1 then if a = 0 ∨ s.1 = -1009 then s.1 else nI s.2 else -1001
theorem sTill_nat (n : Nat) (lg : Nat → Int32) : ∀ (r k : Nat) (y : zLn), sTill n lg r k y = -1009 ∨ ∃ j, j < k + r ∧ sTill n lg r k y = nI j
  | 0, k, y => Or.inl rfl
  | r + 1, k, y => by
    unfold sTill
    split
    · exact Or.inr ⟨k, by omega, rfl⟩
    · split
      · rcases sTill_nat n lg r (k + 1) (sStep n lg (-1) y) with h | ⟨j, h1, h2⟩
        · exact Or.inl h
        · exact Or.inr ⟨j, by omega, h2⟩
      · exact Or.inl rfl
theorem sMs_le (n : Nat) (lg : Nat → Int32) (x : zLn) (s : Int32 × Nat) (e l : Nat) (h : s.2 ≤ 301) : (sMs n lg x s e l).2 ≤ 301 := by
  unfold sMs
  split
  · exact h
  · rename_i hne
    rcases sTill_nat n lg s.2 0 (sMind (nI e) (nI l) x) with q | ⟨j, h1, h2⟩
    · exact absurd q hne
    · rw [h2, nI_c0 (by omega)]
      show j ≤ 301
      omega
set_option maxRecDepth 100000 in
theorem c_mix (hn : n ≤ 7) (hw : ∀ k, k < n → vp_in (x.1 k) 7) (a : Int32) (h : ∀ y', post (some (.int (sMix (sMo n lg x 11 0 (-1009, 301)) a))) (wC t b c2 c3 c4 c5 c6 n lg ht x y' sz kn k0 k1 z sa sb sc c7 c8 c9 tr tl)) : zGoes mX7_mix 1 7 [.ref 0, .int a] (wC t b c2 c3 c4 c5 c6 n lg ht x y sz kn k0 k1 z sa sb sc c7 c8 c9 tr tl) post := by
  intro Z hZ
  refine hZ.1 [24] 60 _ _ _ _ (u_within a 0 1 (fun q => ?_) (fun q => ?_))
  · have outer : ∀ (d e : Nat) (s : Int32 × Nat) (o5 o6 : Option Value) (y : zLn), e + d = 11 → s.2 ≤ 301 → (∀ y', post (some (.int (sMix (sMo n lg x d e s) a))) (wC t b c2 c3 c4 c5 c6 n lg ht x y' sz kn k0 k1 z sa sb sc c7 c8 c9 tr tl)) → Z 24 [some (.ref 0), some (.int a), some (.int s.1), some (.int (nI s.2)), some (.int (nI e)), o5, o6] [] (wC t b c2 c3 c4 c5 c6 n lg ht x y sz kn k0 k1 z sa sb sc c7 c8 c9 tr tl) := by
      intro d
      induction d with
      | zero =>
        intro e s o5 o6 y he hs h
        have e2 : e = 11 := by omega
        subst e2
        have h : post (some (.int (sMix s a))) (wC t b c2 c3 c4 c5 c6 n lg ht x y sz kn k0 k1 z sa sb sc c7 c8 c9 tr tl) := h y
        unfold sMix at h
        rw [if_pos q] at h
        refine hZ.1 [24] 60 _ _ _ _ (And.intro (fun c => And.intro (fun g2 => ?_) (fun g2 => And.intro (fun g3 => ?_) (fun g3 => ?_))) (fun c => absurd (by decide) c))
        · rw [if_pos (Or.inl g2)] at h
          exact h
        · rw [if_pos (Or.inr g3)] at h
          exact h
        · rw [if_neg (fun w => w.elim g2 g3)] at h
          exact h
      | succ d ih =>
        intro e s o5 o6 y he hs h
        have inner : ∀ (d2 l : Nat) (s : Int32 × Nat) (o6 : Option Value) (y : zLn), l + d2 = 11 → s.2 ≤ 301 → (∀ y', post (some (.int (sMix (sMo n lg x d (e + 1) (sMi n lg x e d2 l s)) a))) (wC t b c2 c3 c4 c5 c6 n lg ht x y' sz kn k0 k1 z sa sb sc c7 c8 c9 tr tl)) → Z 34 [some (.ref 0), some (.int a), some (.int s.1), some (.int (nI s.2)), some (.int (nI e)), some (.int (nI l)), o6] [] (wC t b c2 c3 c4 c5 c6 n lg ht x y sz kn k0 k1 z sa sb sc c7 c8 c9 tr tl) := by
          intro d2
          induction d2 with
          | zero =>
            intro l s o6 y hl hs h
            have e2 : l = 11 := by omega
            subst e2
            have := ih (e + 1) s (some (.int (nI 11))) o6 y (by omega) hs h
            rw [← nI_1] at this
            exact hZ.1 [24, 34] 60 _ _ _ _ (And.intro (fun c => this) (fun c => absurd (by decide) c))
          | succ d2 ih2 =>
            intro l s o6 y hl hs h
            have h : ∀ y', post (some (.int (sMix (sMo n lg x d (e + 1) (sMi n lg x e d2 (l + 1) (sMs n lg x s e l))) a))) (wC t b c2 c3 c4 c5 c6 n lg ht x y' sz kn k0 k1 z sa sb sc c7 c8 c9 tr tl) := h
            refine hZ.1 [24, 34, 73] 60 _ _ _ _ (And.intro (fun c => ?_) (fun c => u_till hn hw (nI e) (nI l) s.2 (by omega) _ rfl (fun y2 => ?_)))
            · rw [show (10 : Int32) = nI 10 by decide] at c
              exact absurd c (nI_nlt (by omega) (by omega))
            · refine And.intro (fun g2 => ?_) (fun g2 => ?_)
              · have := ih2 (l + 1) s (some (.int (sTill n lg s.2 0 (sMind (nI e) (nI l) x)))) y2 (by omega) hs (fun y' => by
                  have := h y'
                  rw [show sMs n lg x s e l = s from if_pos g2] at this
                  exact this)
                rw [← nI_1] at this
                exact hZ.1 [34] 60 _ _ _ _ this
              · rcases sTill_nat n lg s.2 0 (sMind (nI e) (nI l) x) with w | ⟨j, h1, h2⟩
                · exact absurd w g2
                · have := ih2 (l + 1) (11 * nI e + nI l, j) (some (.int (sTill n lg s.2 0 (sMind (nI e) (nI l) x)))) y2 (by omega) (by show j ≤ 301; omega) (fun y' => by
                    have := h y'
                    rw [show sMs n lg x s e l = (11 * nI e + nI l, j) by unfold sMs; rw [if_neg g2, h2, nI_c0 (by omega)]] at this
                    exact this)
                  rw [← nI_1] at this
                  have h3 : Z 73 [some (.ref 0), some (.int a), some (.int (11 * nI e + nI l)), some (.int (nI j)), some (.int (nI e)), some (.int (nI l)), some (.int (sTill n lg s.2 0 (sMind (nI e) (nI l) x)))] [] (wC t b c2 c3 c4 c5 c6 n lg ht x y2 sz kn k0 k1 z sa sb sc c7 c8 c9 tr tl) := hZ.1 [34] 60 _ _ _ _ this
                  rw [← h2] at h3
                  exact Or.inl ⟨rfl, rfl, fun Z2 hZ2 => hZ2.1 [] 20 _ _ _ _ h3⟩
        refine hZ.1 [24, 34] 60 _ _ _ _ (And.intro (fun c => ?_) (fun c => inner 11 0 s o6 y (by omega) hs h))
        rw [show (10 : Int32) = nI 10 by decide] at c
        exact absurd c (nI_nlt (by omega) (by omega))
    exact And.intro (fun e => absurd e (by decide)) (fun _ => outer 11 0 (-1009, 301) none none y (by omega) (by show 301 ≤ 301; omega) h)
  · have h := h y
    unfold sMix at h
    rw [if_neg q] at h
    exact And.intro (fun _ => h) (fun e => absurd rfl e)
end RWS
