def sInB (n : Nat) (p : Int32) : Bool := decide (0 ≤ p ∧ p ≤ nI n - 1)
theorem sInB_t {n : Nat} {p : Int32} (h : 0 ≤ p ∧ p ≤ nI n - 1) : sInB n p = true := decide_eq_true h
theorem sInB_f {n : Nat} {p : Int32} (h : ¬ (0 ≤ p ∧ p ≤ nI n - 1)) : ¬ sInB n p = true := fun q => h (of_decide_eq_true q)

abbrev sIn (n : Nat) (p : Int32) : Prop := 0 ≤ p ∧ p ≤ nI n - 1
theorem sIn_iff {n : Nat} (hn : n ≤ 7) (p : Int32) : sIn n p ↔ ∃ k, k < n ∧ p = nI k := by
  unfold sIn
  constructor
  · rintro ⟨h1, h2⟩
    obtain ⟨j, hj, rfl⟩ := nI_of (Int32.not_lt.mpr h1)
    rcases Nat.eq_zero_or_pos n with z | z
    · subst z
      exfalso
      have h3 : nI j ≤ -1 := h2
      rw [Int32.le_iff_toInt_le, nI_toInt hj] at h3
      have : (-1 : Int32).toInt = -1 := by decide
      omega
    · obtain ⟨m, rfl⟩ : ∃ m, n = m + 1 := ⟨n - 1, by omega⟩
      rw [nI_pred, nI_leI hj (by omega)] at h2
      exact ⟨j, by omega, rfl⟩
  · rintro ⟨k, hk, rfl⟩
    obtain ⟨m, rfl⟩ : ∃ m, n = m + 1 := ⟨n - 1, by omega⟩
    rw [nI_pred]
    exact ⟨nI_pos' (by omega), nI_le (by omega) (by omega)⟩
theorem tI {x y : Int32} {a : Int} (h : x.toInt = a) (hy : y.toInt = a) : x = y := Int32.toInt_inj.mp (h.trans hy.symm)
theorem tO {x : Int32} {a b : Int} {y : Int32} (h : x.toInt < a ∨ b < x.toInt) (h1 : a ≤ y.toInt) (h2 : y.toInt ≤ b) : ¬ x = y := fun e => by rw [e] at h; omega
set_option maxRecDepth 100000 in
theorem u_within {ws : zW} {K : zP} (a b c : Int32) (h1 : b ≤ a ∧ a ≤ c → K (some (.int 1)) ws) (h0 : ¬ (b ≤ a ∧ a ≤ c) → K (some (.int 0)) ws) : zFr 3 (zGoes mX7_within 3 3) [.int a, .int b, .int c] ws K := Or.inl ⟨rfl, rfl, t_within a b c (fun x y => h1 ⟨x, y⟩) h0⟩
section RWS
variable {t : Nat → Int32} {b : Nat} {c2 c3 c4 c5 c6 : zCell} {n : Nat} {lg ht : Nat → Int32} {x y : zLn} {sz : Int32} {kn : List (Option Nat)} {k0 k1 : Int32} {z : Nat} {sa sb sc : Nat → Int32} {c7 c8 c9 : zCell} {tr : Int64} {tl : zW}
variable {K : zP} {post : zP}

set_option maxRecDepth 100000 in
theorem u_isPlace (p : Int32) (h1 : sIn n p → K (some (.int 1)) (wC t b c2 c3 c4 c5 c6 n lg ht x y sz kn k0 k1 z sa sb sc c7 c8 c9 tr tl)) (h0 : ¬ sIn n p → K (some (.int 0)) (wC t b c2 c3 c4 c5 c6 n lg ht x y sz kn k0 k1 z sa sb sc c7 c8 c9 tr tl)) : zFV 7 2 (zGoes mX7_isPlace 3 2) [.ref 0, .int p] (wC t b c2 c3 c4 c5 c6 n lg ht x y sz kn k0 k1 z sa sb sc c7 c8 c9 tr tl) K := And.intro rfl (Or.inl ⟨rfl, rfl, fun Z hZ => hZ.1 [] 40 _ _ _ _ (u_within p 0 (nI n - 1) (fun q => And.intro (Or.inr rfl) (h1 q)) (fun q => And.intro (Or.inl rfl) (h0 q)))⟩)
def sType (b : Nat) (c : Int32) : Int32 := if 0 ≤ c ∧ c ≤ 255 then if b < 120 then nI b + 1 else -1003 else -1001
set_option maxRecDepth 100000 in
theorem c_type (hb : b ≤ 120) (c : Int32) (h : post (some (.int (sType b c))) (if 0 ≤ c ∧ c ≤ 255 ∧ b < 120 then (wC (upd t b c) (b + 1) c2 c3 c4 c5 c6 n lg ht x y sz kn k0 k1 z sa sb sc c7 c8 c9 tr tl) else (wC t b c2 c3 c4 c5 c6 n lg ht x y sz kn k0 k1 z sa sb sc c7 c8 c9 tr tl))) : zGoes mX7_type 1 2 [.ref 0, .int c] (wC t b c2 c3 c4 c5 c6 n lg ht x y sz kn k0 k1 z sa sb sc c7 c8 c9 tr tl) post := by
  intro Z hZ
  unfold sType at h
  refine hZ.1 [] 60 _ _ _ _ (u_within c 0 255 (fun q => ?_) (fun q => ?_))
  · rw [if_pos q] at h
    refine And.intro (fun e => absurd e (by decide)) (fun _ => And.intro (fun e => ?_) (fun e => ?_))
    · rw [show (120 : Int32) = nI 120 by decide, nI_ltI (by omega) (by omega)] at e
      rw [if_pos e, if_pos ⟨q.1, q.2, e⟩] at h
      have ec : (nI b).toNatClampNeg = b := nI_c0 (by omega)
      refine And.intro (vi0 (by omega) (by omega)) ?_
      unfold wC at h
      rw [← nI_1] at h
      have h2 := h
      rw [← ec] at h2
      simp only [ec] at h2
      show post (some (.int (nI b + 1))) _
      have hw : upd t (nI b).toNatClampNeg c = upd t b c := by rw [ec]
      rw [← hw] at h
      exact h
    · rw [show (120 : Int32) = nI 120 by decide, nI_ltI (by omega) (by omega)] at e
      rw [if_neg e, if_neg (fun z => e z.2.2)] at h
      exact h
  · rw [if_neg q, if_neg (fun z => q ⟨z.1, z.2.1⟩)] at h
    exact And.intro (fun _ => h) (fun e => absurd rfl e)
set_option maxRecDepth 100000 in
theorem c_clear (h : post (some (.int (nI b))) (wC t 0 c2 c3 c4 c5 c6 n lg ht x y sz kn k0 k1 z sa sb sc c7 c8 c9 tr tl)) : zGoes mX7_clear 1 2 [.ref 0] (wC t b c2 c3 c4 c5 c6 n lg ht x y sz kn k0 k1 z sa sb sc c7 c8 c9 tr tl) post := fun Z hZ => hZ.1 [] 60 _ _ _ _ h
set_option maxRecDepth 100000 in
theorem c_trace (h : post (some (.long tr)) (wC t b c2 c3 c4 c5 c6 n lg ht x y sz kn k0 k1 z sa sb sc c7 c8 c9 tr tl)) : zGoes mX7_trace 2 1 [.ref 0] (wC t b c2 c3 c4 c5 c6 n lg ht x y sz kn k0 k1 z sa sb sc c7 c8 c9 tr tl) post := fun Z hZ => hZ.1 [] 60 _ _ _ _ h
set_option maxRecDepth 100000 in
theorem c_forget (h : post (some (.int (nI z))) (wC t b c2 c3 c4 c5 c6 n lg ht x y sz kn k0 k1 0 sa sb sc c7 c8 c9 tr tl)) : zGoes mX7_forget 1 2 [.ref 0] (wC t b c2 c3 c4 c5 c6 n lg ht x y sz kn k0 k1 z sa sb sc c7 c8 c9 tr tl) post := fun Z hZ => hZ.1 [] 60 _ _ _ _ h
def sMan (n : Nat) (lg ht w : Nat → Int32) (m u : Int32) : Int32 := if sInB n m then if u = 0 then lg m.toNatClampNeg else if u = 1 then ht m.toNatClampNeg else if u = 2 then sFirst (fun p => decide (w p = m)) (-1001) n 0 else -1001 else -1001
set_option maxRecDepth 100000 in
theorem c_man (hn : n ≤ 7) (m u : Int32) (h : post (some (.int (sMan n lg ht x.1 m u))) (wC t b c2 c3 c4 c5 c6 n lg ht x y sz kn k0 k1 z sa sb sc c7 c8 c9 tr tl)) : zGoes mX7_man 1 3 [.ref 0, .int m, .int u] (wC t b c2 c3 c4 c5 c6 n lg ht x y sz kn k0 k1 z sa sb sc c7 c8 c9 tr tl) post := by
  intro Z hZ
  unfold sMan at h
  refine hZ.1 [] 60 _ _ _ _ (u_within m 0 (nI n - 1) (fun q => ?_) (fun q => ?_))
  · rw [if_pos (sInB_t q)] at h
    obtain ⟨k, hk, rfl⟩ := (sIn_iff hn m).mp q
    refine And.intro (fun e => absurd e (by decide)) (fun _ => And.intro (fun e => ?_) (And.intro (fun e => ?_) (And.intro (fun e => ?_) (And.intro (fun e => ?_) trivial))))
    · rw [if_neg (tO e (by decide) (by decide)), if_neg (tO e (by decide) (by decide)), if_neg (tO e (by decide) (by decide))] at h
      exact h
    · have e : u = 0 := tI e rfl
      rw [if_pos e] at h
      exact And.intro (vi0 (by omega) (by omega)) h
    · have e : u = 1 := tI e rfl
      subst e
      exact And.intro (vi0 (by omega) (by omega)) h
    · have e : u = 2 := tI e rfl
      subst e
      exact uL_placeOf hn _ h
  · rw [if_neg (sInB_f q)] at h
    exact And.intro (fun _ => h) (fun e => absurd rfl e)
def sPlace (n : Nat) (x : zLn) (p u : Int32) : Int32 := if sInB n p then if u = 0 then x.1 p.toNatClampNeg else if u = 1 then x.2.1 p.toNatClampNeg else if u = 2 then x.2.2.1 p.toNatClampNeg else if u = 3 then sWant x.2.2.2.1 n p.toNatClampNeg else -1001 else -1001
set_option maxRecDepth 100000 in
theorem c_place (hn : n ≤ 7) (p u : Int32) (h : post (some (.int (sPlace n x p u))) (wC t b c2 c3 c4 c5 c6 n lg ht x y sz kn k0 k1 z sa sb sc c7 c8 c9 tr tl)) : zGoes mX7_place 1 3 [.ref 0, .int p, .int u] (wC t b c2 c3 c4 c5 c6 n lg ht x y sz kn k0 k1 z sa sb sc c7 c8 c9 tr tl) post := by
  intro Z hZ
  unfold sPlace at h
  refine hZ.1 [] 60 _ _ _ _ (u_isPlace p (fun q => ?_) (fun q => ?_))
  · rw [if_pos (sInB_t q)] at h
    obtain ⟨k, hk, rfl⟩ := (sIn_iff hn p).mp q
    refine And.intro (fun e => absurd e (by decide)) (fun _ => And.intro (fun e => ?_) (And.intro (fun e => ?_) (And.intro (fun e => ?_) (And.intro (fun e => ?_) (And.intro (fun e => ?_) trivial)))))
    · rw [if_neg (tO e (by decide) (by decide)), if_neg (tO e (by decide) (by decide)), if_neg (tO e (by decide) (by decide)), if_neg (tO e (by decide) (by decide))] at h
      exact h
    · have e : u = 0 := tI e rfl
      subst e
      exact And.intro (vi0 (by omega) (by omega)) h
    · have e : u = 1 := tI e rfl
      subst e
      exact And.intro (vi0 (by omega) (by omega)) h
    · have e : u = 2 := tI e rfl
      subst e
      exact And.intro (vi0 (by omega) (by omega)) h
    · have e : u = 3 := tI e rfl
      subst e
      rw [nI_c0 (by omega)] at h
      exact uL_wants hn k h
  · rw [if_neg (sInB_f q)] at h
    exact And.intro (fun _ => h) (fun e => absurd rfl e)
def sNow (n : Nat) (x : zLn) (u : Int32) : Int32 := if u = 0 then x.2.2.2.2.2.2 else if u = 1 then x.2.2.2.1 else if u = 2 then x.2.2.2.2.1 else if u = 3 then x.2.2.2.2.2.1 else if u = 4 then sBulge x.2.1 (n - 1) else if u = 5 then sFirst (fun p => decide (zabs (x.2.1 (p + 1) - x.2.1 p) = sBulge x.2.1 (n - 1))) (-1009) (n - 1) 0 else if u = 6 then sFeet x.2.2.1 n else if u = 7 then nI (sLine x.2.1 n) else -1001
set_option maxRecDepth 100000 in
theorem c_now (hn : n ≤ 7) (u : Int32) (h : post (some (.int (sNow n x u))) (wC t b c2 c3 c4 c5 c6 n lg ht x y sz kn k0 k1 z sa sb sc c7 c8 c9 tr tl)) : zGoes mX7_now 1 2 [.ref 0, .int u] (wC t b c2 c3 c4 c5 c6 n lg ht x y sz kn k0 k1 z sa sb sc c7 c8 c9 tr tl) post := by
  intro Z hZ
  refine hZ.1 [] 60 _ _ _ _ (And.intro (fun e => ?_) (And.intro (fun e => ?_) (And.intro (fun e => ?_) (And.intro (fun e => ?_) (And.intro (fun e => ?_) (And.intro (fun e => ?_) (And.intro (fun e => ?_) (And.intro (fun e => ?_) (And.intro (fun e => ?_) trivial)))))))))
  · unfold sNow at h
    rw [if_neg (tO e (by decide) (by decide)), if_neg (tO e (by decide) (by decide)), if_neg (tO e (by decide) (by decide)), if_neg (tO e (by decide) (by decide)), if_neg (tO e (by decide) (by decide)), if_neg (tO e (by decide) (by decide)), if_neg (tO e (by decide) (by decide)), if_neg (tO e (by decide) (by decide))] at h
    exact h
  · have e : u = 0 := tI e rfl
    subst e; exact h
  · have e : u = 1 := tI e rfl
    subst e; exact h
  · have e : u = 2 := tI e rfl
    subst e; exact h
  · have e : u = 3 := tI e rfl
    subst e; exact h
  · have e : u = 4 := tI e rfl
    subst e; exact uL_bulge hn h
  · have e : u = 5 := tI e rfl
    subst e; exact uL_bulgePlace hn h
  · have e : u = 6 := tI e rfl
    subst e; exact uL_feet hn h
  · have e : u = 7 := tI e rfl
    subst e; exact uL_inLine hn h
def sCount (n z : Nat) (sz : Int32) (b : Nat) (u : Int32) : Int32 := if u = 0 then nI n else if u = 1 then nI z else if u = 2 then sz else if u = 3 then nI b else -1001
set_option maxRecDepth 100000 in
theorem c_count (u : Int32) (h : post (some (.int (sCount n z sz b u))) (wC t b c2 c3 c4 c5 c6 n lg ht x y sz kn k0 k1 z sa sb sc c7 c8 c9 tr tl)) : zGoes mX7_count 1 2 [.ref 0, .int u] (wC t b c2 c3 c4 c5 c6 n lg ht x y sz kn k0 k1 z sa sb sc c7 c8 c9 tr tl) post := by
  intro Z hZ
  refine hZ.1 [] 60 _ _ _ _ (And.intro (fun e => ?_) (And.intro (fun e => ?_) (And.intro (fun e => ?_) (And.intro (fun e => ?_) (And.intro (fun e => ?_) trivial)))))
  · unfold sCount at h
    rw [if_neg (tO e (by decide) (by decide)), if_neg (tO e (by decide) (by decide)), if_neg (tO e (by decide) (by decide)), if_neg (tO e (by decide) (by decide))] at h
    exact h
  · have e : u = 0 := tI e rfl
    subst e; exact h
  · have e : u = 1 := tI e rfl
    subst e; exact h
  · have e : u = 2 := tI e rfl
    subst e; exact h
  · have e : u = 3 := tI e rfl
    subst e; exact h
end RWS
