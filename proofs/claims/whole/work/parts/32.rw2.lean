
def sGo (n : Nat) (lg : Nat → Int32) (q : Int32) : Nat → zLn → zLn
  | 0, y => y
  | k + 1, y => sGo n lg q k (sStep n lg q y)
theorem sGo_1 (n : Nat) (lg : Nat → Int32) (q : Int32) : ∀ (k : Nat) (y : zLn), sGo n lg q (k + 1) y = sStep n lg q (sGo n lg q k y)
  | 0, y => rfl
  | k + 1, y => by
    show sGo n lg q (k + 1) (sStep n lg q y) = _
    rw [sGo_1 n lg q k]
    rfl
theorem sGo_w (n : Nat) (lg : Nat → Int32) (q : Int32) : ∀ (k : Nat) (y : zLn), (sGo n lg q k y).1 = y.1
  | 0, y => rfl
  | k + 1, y => sGo_w n lg q k (sStep n lg q y)
def sTill (n : Nat) (lg : Nat → Int32) : Nat → Nat → zLn → Int32
  | 0, _, _ => -1009
  | r + 1, k, y => if sLine y.2.1 n = n then nI k else if sMoved n lg (-1) y then sTill n lg r (k + 1) (sStep n lg (-1) y) else -1009
def sMind (e l : Int32) (x : zLn) : zLn := (x.1, x.2.1, x.2.2.1, x.2.2.2.1, e, l, x.2.2.2.2.2.2)
theorem nI_m1 {k r : Nat} (hk : k < 1000) (hr : r < 1000) : nI r - 1 < nI k ↔ r ≤ k := by
  rcases Nat.eq_zero_or_pos r with z | z
  · subst z
    refine ⟨fun _ => Nat.zero_le _, fun _ => ?_⟩
    show (-1 : Int32) < nI k
    rw [Int32.lt_iff_toInt_lt, nI_toInt (by omega)]
    have : (-1 : Int32).toInt = -1 := by decide
    omega
  · obtain ⟨m, rfl⟩ : ∃ m, r = m + 1 := ⟨r - 1, by omega⟩
    rw [nI_pred, nI_ltI (by omega) (by omega)]
    omega
section RWS
variable {t : Nat → Int32} {b : Nat} {c2 c3 c4 c5 c6 : zCell} {n : Nat} {lg ht : Nat → Int32} {x y : zLn} {sz : Int32} {kn : List (Option Nat)} {k0 k1 : Int32} {z : Nat} {sa sb sc : Nat → Int32} {c7 c8 c9 : zCell} {tr : Int64} {tl : zW}
variable {K : zP} {post : zP}

set_option maxRecDepth 100000 in
theorem u_till (hn : n ≤ 7) (hw : ∀ k, k < n → vp_in (x.1 k) 7) (e l : Int32) (r : Nat) (hr : r < 400) (mo : Int32) (hmo : mo = nI r - 1) (h : ∀ y', K (some (.int (sTill n lg r 0 (sMind e l x)))) (wC t b c2 c3 c4 c5 c6 n lg ht x y' sz kn k0 k1 z sa sb sc c7 c8 c9 tr tl)) : zFV 7 4 (zGoes mX7_pacesTillDressed 1 5) [.ref 0, .int e, .int l, .int mo] (wC t b c2 c3 c4 c5 c6 n lg ht x y sz kn k0 k1 z sa sb sc c7 c8 c9 tr tl) K := by
  subst hmo
  refine And.intro rfl (Or.inl ⟨rfl, rfl, ?_⟩)
  intro Z hZ
  have loop : ∀ (d k : Nat) (y : zLn), k + d = r → (∀ j, j < n → vp_in (y.1 j) 7) → (∀ y', K (some (.int (sTill n lg d k y))) (wC t b c2 c3 c4 c5 c6 n lg ht x y' sz kn k0 k1 z sa sb sc c7 c8 c9 tr tl)) → Z 30 [some (.ref 0), some (.int e), some (.int l), some (.int (nI r - 1)), some (.int (nI k))] [] (wC t b c2 c3 c4 c5 c6 n lg ht x y sz kn k0 k1 z sa sb sc c7 c8 c9 tr tl) := by
    intro d
    induction d with
    | zero =>
      intro k y hk hwy h
      refine hZ.1 [30] 60 _ _ _ _ (And.intro (fun c => h y) (fun c => ?_))
      exact absurd ((nI_m1 (by omega) (by omega)).mpr (by omega)) c
    | succ d ih =>
      intro k y hk hwy h
      refine hZ.1 [30] 60 _ _ _ _ (And.intro (fun c => ?_) (fun c => ?_))
      · exact absurd ((nI_m1 (by omega) (by omega)).mp c) (by omega)
      · refine uA_inLine hn (And.intro (fun c2 => ?_) (fun c2 => ?_))
        · have c2 := (nI_eq (by have := sLine_le y.2.1 n; omega) (by omega)).mp c2
          unfold sTill at h
          rw [if_pos c2] at h
          exact h y
        · have c2 : ¬ sLine y.2.1 n = n := fun q => c2 (by rw [q])
          unfold sTill at h
          rw [if_neg c2] at h
          refine uA_step hn hwy (-1) (And.intro (fun c3 => ?_) (fun c3 => ?_))
          · rw [zb0 c3] at h
            exact h _
          · rw [zb1 c3] at h
            have := ih (k + 1) (sStep n lg (-1) y) (by omega) hwy h
            rw [← nI_1] at this
            exact this
  refine hZ.1 [30] 60 _ _ _ _ (uA_copy ?_)
  exact loop r 0 (sMind e l x) (by omega) hw h
set_option maxRecDepth 100000 in
theorem c_dressed (hn : n ≤ 7) (hw : ∀ k, k < n → vp_in (x.1 k) 7) (h : ∀ y', post (some (.int (sTill n lg 301 0 (sMind x.2.2.2.2.1 x.2.2.2.2.2.1 x)))) (wC t b c2 c3 c4 c5 c6 n lg ht x y' sz kn k0 k1 z sa sb sc c7 c8 c9 tr tl)) : zGoes mX7_dressed 1 1 [.ref 0] (wC t b c2 c3 c4 c5 c6 n lg ht x y sz kn k0 k1 z sa sb sc c7 c8 c9 tr tl) post := by
  intro Z hZ
  exact hZ.1 [] 60 _ _ _ _ (u_till hn hw _ _ 301 (by omega) 300 (by decide) h)
set_option maxRecDepth 100000 in
theorem u_lookAhead (hn : n ≤ 7) (hw : ∀ k, k < n → vp_in (x.1 k) 7) (r : Nat) (hr : r ≤ 60) (q : Int32) (h : K none (wC t b c2 c3 c4 c5 c6 n lg ht x (sGo n lg q r x) sz kn k0 k1 z sa sb sc c7 c8 c9 tr tl)) : zFV 7 3 (zGoes mX7_lookAhead 0 4) [.ref 0, .int (nI r), .int q] (wC t b c2 c3 c4 c5 c6 n lg ht x y sz kn k0 k1 z sa sb sc c7 c8 c9 tr tl) K := by
  refine And.intro rfl (Or.inl ⟨rfl, rfl, ?_⟩)
  intro Z hZ
  have loop : ∀ (d k : Nat), k + d = r → Z 13 [some (.ref 0), some (.int (nI r)), some (.int q), some (.int (nI k))] [] (wC t b c2 c3 c4 c5 c6 n lg ht x (sGo n lg q k x) sz kn k0 k1 z sa sb sc c7 c8 c9 tr tl) := by
    intro d
    induction d with
    | zero =>
      intro k hk
      have e : k = r := by omega
      subst e
      refine hZ.1 [13] 60 _ _ _ _ (And.intro (fun c => h) (fun c => ?_))
      exact absurd (le_of (Nat.le_refl _) (by omega)) c
    | succ d ih =>
      intro k hk
      refine hZ.1 [13] 60 _ _ _ _ (And.intro (fun c => ?_) (fun c => And.intro (fun c2 => ?_) (fun c2 => ?_)))
      · exact absurd c (nle_of (by omega) (by omega))
      · rw [show (60 : Int32) = nI 60 by decide] at c2
        exact absurd c2 (nle_of (by omega) (by omega))
      · refine uA_step hn (by rw [sGo_w]; exact hw) q ?_
        have := ih (k + 1) (by omega)
        rw [← nI_1, sGo_1] at this
        exact this
  exact hZ.1 [13] 60 _ _ _ _ (uA_copy (loop r 0 (by omega)))
def sLooks (n : Nat) (lg : Nat → Int32) (x : zLn) (a p : Int32) : Int32 := if (0 ≤ a ∧ a ≤ 60) ∧ (p = -1 ∨ sIn n p) then if p = -1 then sBulge (sGo n lg (-1) a.toNatClampNeg x).2.1 (n - 1) else (sGo n lg (-1) a.toNatClampNeg x).2.1 p.toNatClampNeg else -1001
theorem in60 {a : Int32} {m : Nat} {M : Int32} (hM : M.toInt = m) (h : 0 ≤ a ∧ a ≤ M) : ∃ k, k ≤ m ∧ a = nI k := nI_of2 hM (Int32.not_lt.mpr h.1) h.2
theorem sIn_m1 {n : Nat} (hn : n ≤ 7) : ¬ sIn n (-1) := fun h => absurd h.1 (by decide)
set_option maxRecDepth 100000 in
theorem c_looks (hn : n ≤ 7) (hw : ∀ k, k < n → vp_in (x.1 k) 7) (a p : Int32) (h : ∀ y', post (some (.int (sLooks n lg x a p))) (wC t b c2 c3 c4 c5 c6 n lg ht x y' sz kn k0 k1 z sa sb sc c7 c8 c9 tr tl)) : zGoes mX7_looks 1 4 [.ref 0, .int a, .int p] (wC t b c2 c3 c4 c5 c6 n lg ht x y sz kn k0 k1 z sa sb sc c7 c8 c9 tr tl) post := by
  intro Z hZ
  have bad : ∀ (o : Option Value), ¬ ((0 ≤ a ∧ a ≤ 60) ∧ (p = -1 ∨ sIn n p)) → Z 33 [some (.ref 0), some (.int a), some (.int p), o] [] (wC t b c2 c3 c4 c5 c6 n lg ht x y sz kn k0 k1 z sa sb sc c7 c8 c9 tr tl) := by
    intro o hb
    have h := h y
    unfold sLooks at h
    rw [if_neg hb] at h
    exact hZ.1 [] 20 _ _ _ _ h
  have good : ∀ (o : Option Value), (p = -1 ∨ sIn n p) → 0 ≤ a ∧ a ≤ 60 → Z 37 [some (.ref 0), some (.int a), some (.int p), o] [] (wC t b c2 c3 c4 c5 c6 n lg ht x y sz kn k0 k1 z sa sb sc c7 c8 c9 tr tl) := by
    intro o hp ha
    have h := h (sGo n lg (-1) a.toNatClampNeg x)
    unfold sLooks at h
    rw [if_pos ⟨ha, hp⟩] at h
    obtain ⟨k, hk, rfl⟩ := in60 (m := 60) rfl ha
    rw [nI_c0 (by omega)] at h
    refine hZ.1 [] 60 _ _ _ _ (u_lookAhead hn hw k hk (-1) (u_isPlace p (fun q => ?_) (fun q => ?_)))
    · obtain ⟨j, hj, rfl⟩ := (sIn_iff hn p).mp q
      rw [if_neg (fun e => by rw [e] at q; exact sIn_m1 hn q)] at h
      exact And.intro (fun e => absurd e (by decide)) (fun _ => And.intro (vi0 (by omega) (by omega)) h)
    · have e : p = -1 := hp.elim id (fun z => absurd z q)
      rw [if_pos e] at h
      exact And.intro (fun _ => uA_bulge hn h) (fun e => absurd rfl e)
  have j18 : ∀ (bo : Bool), (bo = true ↔ (p = -1 ∨ sIn n p)) → Z 18 [some (.ref 0), some (.int a), some (.int p), none] [.int (zb bo)] (wC t b c2 c3 c4 c5 c6 n lg ht x y sz kn k0 k1 z sa sb sc c7 c8 c9 tr tl) := by
    intro bo hbo
    refine hZ.1 [33, 37] 60 _ _ _ _ (And.intro (fun e => ?_) (fun e => ?_))
    · exact bad _ (fun q => by rw [hbo.mpr q.2] at e; exact absurd e (by decide))
    · have e2 := hbo.mp (zb1 e)
      refine u_within a 0 60 (fun q => ?_) (fun q => ?_)
      · exact And.intro (fun e => absurd e (by decide)) (fun _ => good _ e2 q)
      · exact And.intro (fun _ => bad _ (fun z => q z.1)) (fun e => absurd rfl e)
  refine hZ.1 [18] 60 _ _ _ _ (And.intro (fun e => ?_) (fun e => ?_))
  · exact j18 true ⟨fun _ => Or.inl e, fun _ => rfl⟩
  · refine u_isPlace p (fun q => ?_) (fun q => ?_)
    · exact And.intro (fun e => absurd e (by decide)) (fun _ => j18 true ⟨fun _ => Or.inr q, fun _ => rfl⟩)
    · exact And.intro (fun _ => j18 false ⟨fun z => (by cases z), fun z => z.elim (fun y => absurd y e) (fun y => absurd y q)⟩) (fun e => absurd rfl e)
def sPost (n : Nat) (lg : Nat → Int32) (x : zLn) (p a : Int32) : Int32 := if sIn n p ∧ (1 ≤ a ∧ a ≤ 20) then sBulge (sGo n lg p a.toNatClampNeg x).2.1 (n - 1) else -1001
set_option maxRecDepth 100000 in
theorem c_post (hn : n ≤ 7) (hw : ∀ k, k < n → vp_in (x.1 k) 7) (p a : Int32) (h : ∀ y', post (some (.int (sPost n lg x p a))) (wC t b c2 c3 c4 c5 c6 n lg ht x y' sz kn k0 k1 z sa sb sc c7 c8 c9 tr tl)) : zGoes mX7_post 1 3 [.ref 0, .int p, .int a] (wC t b c2 c3 c4 c5 c6 n lg ht x y sz kn k0 k1 z sa sb sc c7 c8 c9 tr tl) post := by
  intro Z hZ
  have bad : ¬ (sIn n p ∧ (1 ≤ a ∧ a ≤ 20)) → Z 18 [some (.ref 0), some (.int p), some (.int a)] [] (wC t b c2 c3 c4 c5 c6 n lg ht x y sz kn k0 k1 z sa sb sc c7 c8 c9 tr tl) := by
    intro hb
    have h := h y
    unfold sPost at h
    rw [if_neg hb] at h
    exact hZ.1 [] 20 _ _ _ _ h
  refine hZ.1 [18] 60 _ _ _ _ (u_isPlace p (fun q => ?_) (fun q => ?_))
  · refine And.intro (fun e => absurd e (by decide)) (fun _ => u_within a 1 20 (fun q2 => ?_) (fun q2 => ?_))
    · have h := h (sGo n lg p a.toNatClampNeg x)
      unfold sPost at h
      rw [if_pos ⟨q, q2⟩] at h
      obtain ⟨k, hk, rfl⟩ := in60 (m := 20) rfl ⟨Int32.le_trans (by decide) q2.1, q2.2⟩
      rw [nI_c0 (by omega)] at h
      exact And.intro (fun e => absurd e (by decide)) (fun _ => u_lookAhead hn hw k (by omega) p (uA_bulge hn h))
    · exact And.intro (fun _ => bad (fun z => q2 z.2)) (fun e => absurd rfl e)
  · exact And.intro (fun _ => bad (fun z => q z.1)) (fun e => absurd rfl e)
def sInStep (n : Nat) (lg : Nat → Int32) : Nat → Nat → zLn → Int32
  | 0, _, _ => -1009
  | r + 1, k, y => if sAlike y.2.2.1 n then nI k else sInStep n lg r (k + 1) (sStep n lg (-1) y)
set_option maxRecDepth 100000 in
theorem c_inStep (hn : n ≤ 7) (hw : ∀ k, k < n → vp_in (x.1 k) 7) (h : ∀ y', post (some (.int (sInStep n lg 21 0 x))) (wC t b c2 c3 c4 c5 c6 n lg ht x y' sz kn k0 k1 z sa sb sc c7 c8 c9 tr tl)) : zGoes mX7_inStep 1 2 [.ref 0] (wC t b c2 c3 c4 c5 c6 n lg ht x y sz kn k0 k1 z sa sb sc c7 c8 c9 tr tl) post := by
  intro Z hZ
  have loop : ∀ (d k : Nat) (y : zLn), k + d = 21 → (∀ j, j < n → vp_in (y.1 j) 7) → (∀ y', post (some (.int (sInStep n lg d k y))) (wC t b c2 c3 c4 c5 c6 n lg ht x y' sz kn k0 k1 z sa sb sc c7 c8 c9 tr tl)) → Z 13 [some (.ref 0), some (.int (nI k))] [] (wC t b c2 c3 c4 c5 c6 n lg ht x y sz kn k0 k1 z sa sb sc c7 c8 c9 tr tl) := by
    intro d
    induction d with
    | zero =>
      intro k y hk hwy h
      refine hZ.1 [13] 60 _ _ _ _ (And.intro (fun c => h y) (fun c => ?_))
      exact absurd (by rw [show (20 : Int32) = nI 20 by decide]; exact nI_lt (by omega) (by omega)) c
    | succ d ih =>
      intro k y hk hwy h
      refine hZ.1 [13] 60 _ _ _ _ (And.intro (fun c => ?_) (fun c => uA_alike hn (And.intro (fun c2 => ?_) (fun c2 => ?_))))
      · rw [show (20 : Int32) = nI 20 by decide] at c
        exact absurd c (nI_nlt (by omega) (by omega))
      · unfold sInStep at h
        rw [if_neg (by rw [zb0 c2]; decide)] at h
        refine uA_step hn hwy (-1) ?_
        have := ih (k + 1) (sStep n lg (-1) y) (by omega) hwy h
        rw [← nI_1] at this
        exact this
      · unfold sInStep at h
        rw [if_pos (zb1 c2)] at h
        exact h y
  exact hZ.1 [13] 60 _ _ _ _ (uA_copy (loop 21 0 x (by omega) hw h))
def sBehA (n : Nat) (lg : Nat → Int32) (u : Int32) (x : zLn) : Nat → Int32
  | 0 => sBeh x.2.1 x.2.2.2.1 n u n
  | k + 1 => zmax (sBehA n lg u x k) (sBeh (sGo n lg (-1) (k + 1) x).2.1 (sGo n lg (-1) (k + 1) x).2.2.2.1 n u n)
def sBehind (n : Nat) (lg : Nat → Int32) (u : Int32) (x : zLn) : Int32 := if 0 ≤ u ∧ u ≤ 99 then if sBehA n lg u x 60 ≤ 60 then sBehA n lg u x 60 else -1009 else -1001
set_option maxRecDepth 100000 in
theorem c_behind (hn : n ≤ 7) (hw : ∀ k, k < n → vp_in (x.1 k) 7) (u : Int32) (h : ∀ y', post (some (.int (sBehind n lg u x))) (wC t b c2 c3 c4 c5 c6 n lg ht x y' sz kn k0 k1 z sa sb sc c7 c8 c9 tr tl)) : zGoes mX7_behind 1 4 [.ref 0, .int u] (wC t b c2 c3 c4 c5 c6 n lg ht x y sz kn k0 k1 z sa sb sc c7 c8 c9 tr tl) post := by
  intro Z hZ
  refine hZ.1 [36] 60 _ _ _ _ (u_within u 0 99 (fun q => ?_) (fun q => ?_))
  · have loop : ∀ (d k : Nat), k + d = 60 → Z 36 [some (.ref 0), some (.int u), some (.int (sBehA n lg u x k)), some (.int (nI k))] [] (wC t b c2 c3 c4 c5 c6 n lg ht x (sGo n lg (-1) k x) sz kn k0 k1 z sa sb sc c7 c8 c9 tr tl) := by
      intro d
      induction d with
      | zero =>
        intro k hk
        have e : k = 60 := by omega
        subst e
        have h := h (sGo n lg (-1) 60 x)
        unfold sBehind at h
        rw [if_pos q] at h
        refine hZ.1 [36] 60 _ _ _ _ (And.intro (fun c => And.intro (fun c2 => ?_) (fun c2 => ?_)) (fun c => ?_))
        · rw [if_pos c2] at h
          exact h
        · rw [if_neg c2] at h
          exact h
        · exact absurd (by decide) c
      | succ d ih =>
        intro k hk
        refine hZ.1 [36] 60 _ _ _ _ (And.intro (fun c => ?_) (fun c => uA_step hn (by rw [sGo_w]; exact hw) (-1) (uA_behind hn u ?_)))
        · rw [show (60 : Int32) = nI 60 by decide] at c
          exact absurd c (nle_of (by omega) (by omega))
        · have := ih (k + 1) (by omega)
          unfold sBehA at this
          rw [← nI_1, sGo_1] at this
          exact this
    exact And.intro (fun e => absurd e (by decide)) (fun _ => uA_copy (uA_behind hn u (loop 60 0 (by omega))))
  · have h := h y
    unfold sBehind at h
    rw [if_neg q] at h
    exact And.intro (fun _ => h) (fun e => absurd rfl e)
def sStride (n : Nat) (lg : Nat → Int32) (w : Nat → Int32) (a : Int32) : Bool := (List.range n).all (fun p => decide (sWant a n p ≤ lg (w p).toNatClampNeg))
def sFast (n : Nat) (lg : Nat → Int32) (w : Nat → Int32) : Nat → Int32
  | 0 => 1
  | 1 => 1
  | k + 2 => if sStride n lg w (nI (k + 2)) then nI (k + 2) else sFast n lg w (k + 1)
theorem all_yes {n : Nat} {P : Nat → Bool} (h : ∀ p, p < n → P p = true) : (List.range n).all P = true := by
  rw [List.all_eq_true]
  intro p hp
  exact h p (List.mem_range.mp hp)
theorem all_no {n p : Nat} {P : Nat → Bool} (hp : p < n) (h : P p = false) : (List.range n).all P = false := by
  cases hs : (List.range n).all P with
  | false => rfl
  | true =>
    rw [List.all_eq_true] at hs
    rw [hs p (List.mem_range.mpr hp)] at h
    cases h
set_option maxRecDepth 100000 in
theorem u_stride (hn : n ≤ 7) (hw : ∀ k, k < n → vp_in (x.1 k) 7) (a : Int32) (h : K (some (.int (zb (sStride n lg x.1 a)))) (wC t b c2 c3 c4 c5 c6 n lg ht x y sz kn k0 k1 z sa sb sc c7 c8 c9 tr tl)) : zFV 7 2 (zGoes mX7_allCanStride 3 3) [.ref 0, .int a] (wC t b c2 c3 c4 c5 c6 n lg ht x y sz kn k0 k1 z sa sb sc c7 c8 c9 tr tl) K := by
  refine And.intro rfl (Or.inl ⟨rfl, rfl, ?_⟩)
  intro Z hZ
  have loop : ∀ (d p : Nat), p + d = n → (∀ q, q < p → decide (sWant a n q ≤ lg (x.1 q).toNatClampNeg) = true) → Z 2 [some (.ref 0), some (.int a), some (.int (nI p))] [] (wC t b c2 c3 c4 c5 c6 n lg ht x y sz kn k0 k1 z sa sb sc c7 c8 c9 tr tl) := by
    intro d
    induction d with
    | zero =>
      intro p hp hq
      have e : p = n := by omega
      subst e
      unfold sStride at h
      rw [all_yes hq] at h
      refine hZ.1 [2] 60 _ _ _ _ (And.intro (fun c => And.intro (Or.inr rfl) h) (fun c => ?_))
      exact absurd (le_of (Nat.le_refl _) (by omega)) c
    | succ d ih =>
      intro p hp hq
      refine hZ.1 [2] 60 _ _ _ _ (And.intro (fun c => ?_) (fun c => Or.inl ⟨rfl, rfl, t_wanted a p n hn (uL_legAt p (by omega) (hw p (by omega)) (And.intro (fun c2 => ?_) (fun c2 => ?_)))⟩))
      · exact absurd c (nle_of (by omega) (by omega))
      · have := ih (p + 1) (by omega) (fun q hq2 => by
          rcases Nat.lt_or_ge q p with h3 | h3
          · exact hq q h3
          · have : q = p := by omega
            subst this
            exact decide_eq_true c2)
        rw [← nI_1] at this
        exact this
      · unfold sStride at h
        rw [all_no (p := p) (by omega) (decide_eq_false c2)] at h
        exact And.intro (Or.inl rfl) h
  exact hZ.1 [2] 60 _ _ _ _ (loop n 0 (by omega) (fun q hq => by omega))
set_option maxRecDepth 100000 in
theorem c_fastest (hn : n ≤ 7) (hw : ∀ k, k < n → vp_in (x.1 k) 7) (h : post (some (.int (sFast n lg x.1 60))) (wC t b c2 c3 c4 c5 c6 n lg ht x y sz kn k0 k1 z sa sb sc c7 c8 c9 tr tl)) : zGoes mX7_fastest 1 2 [.ref 0] (wC t b c2 c3 c4 c5 c6 n lg ht x y sz kn k0 k1 z sa sb sc c7 c8 c9 tr tl) post := by
  intro Z hZ
  have loop : ∀ (k : Nat), k < 60 → post (some (.int (sFast n lg x.1 (k + 1)))) (wC t b c2 c3 c4 c5 c6 n lg ht x y sz kn k0 k1 z sa sb sc c7 c8 c9 tr tl) → Z 3 [some (.ref 0), some (.int (nI (k + 1)))] [] (wC t b c2 c3 c4 c5 c6 n lg ht x y sz kn k0 k1 z sa sb sc c7 c8 c9 tr tl) := by
    intro k
    induction k with
    | zero =>
      intro hk h
      refine hZ.1 [3] 60 _ _ _ _ (And.intro (fun c => h) (fun c => absurd (by decide) c))
    | succ k ih =>
      intro hk h
      refine hZ.1 [3] 60 _ _ _ _ (And.intro (fun c => ?_) (fun c => u_stride hn hw _ (And.intro (fun c2 => ?_) (fun c2 => ?_))))
      · rw [← n1, nI_leI (by omega) (by omega)] at c
        omega
      · unfold sFast at h
        rw [zb0 c2] at h
        have := ih (by omega) h
        rw [← pk_m1] at this
        exact this
      · unfold sFast at h
        rw [zb1 c2] at h
        exact h
  exact hZ.1 [3] 60 _ _ _ _ (loop 59 (by omega) h)
end RWS
