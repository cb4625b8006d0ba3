/-! ===== the meaning, in words that the class and the reference share ===== -/
def zmax (x y : Int32) : Int32 := if x < y then y else x
def zmin (x y : Int32) : Int32 := if y < x then y else x
def zabs (x : Int32) : Int32 := if 0 ≤ x then x else 0 - x
def zb (b : Bool) : Int32 := if b then 1 else 0
def zclamp (v : Int32) : Int32 := zmax (-999) (zmin 999 v)
def sFill (g i : Nat → Int32) (p : Nat) : Nat → Int32 := fun k => if k < p then g k else i k
theorem sFill_0 (g i : Nat → Int32) : sFill g i 0 = i := by
  funext k
  simp [sFill]
theorem sFill_upd (g i : Nat → Int32) (p : Nat) : upd (sFill g i p) p (g p) = sFill g i (p + 1) := by
  funext k
  unfold upd sFill
  by_cases h : k = p
  · subst h
    rw [if_pos rfl, if_pos (Nat.lt_succ_self k)]
  · rw [if_neg h]
    by_cases h2 : k < p
    · rw [if_pos h2, if_pos (by omega)]
    · rw [if_neg h2, if_neg (by omega)]
theorem sFill_ge {g i : Nat → Int32} {p k : Nat} (h : p ≤ k) : sFill g i p k = i k := if_neg (by omega)
theorem sFill_lt {g i : Nat → Int32} {p k : Nat} (h : k < p) : sFill g i p k = g k := if_pos h
def sWant (pc : Int32) (n p : Nat) : Int32 := if nI n < 2 then 0 else pc * nI p / (nI n - 1)
def sSees (i : Nat → Int32) (n p : Nat) : Int32 := if p + 1 < n then i (p + 1) - i p else 0
def sFeels (i : Nat → Int32) (p : Nat) : Int32 := if 0 < p then i (p - 1) - i p else 0
def sWould (i : Nat → Int32) (pc ey el : Int32) (n p : Nat) : Int32 := sWant pc n p + ey * sSees i n p / 10 + el * sFeels i p / 10
def sTakes (w i : Nat → Int32) (pc ey el : Int32) (n : Nat) (lg : Nat → Int32) (q : Int32) (p : Nat) : Int32 := if nI p = q then 0 else zmin (lg (w p).toNatClampNeg) (zmax 0 (sWould i pc ey el n p))
def sMv (w i : Nat → Int32) (pc ey el : Int32) (n : Nat) (lg : Nat → Int32) (q : Int32) (p : Nat) : Int32 := zclamp (i p + sTakes w i pc ey el n lg q p - sWant pc n p)
def sMvd (w i : Nat → Int32) (pc ey el : Int32) (n : Nat) (lg : Nat → Int32) (q : Int32) : Nat → Bool
  | 0 => false
  | p + 1 => sMvd w i pc ey el n lg q p || decide (¬ sMv w i pc ey el n lg q p = i p)
def sFt (f : Nat → Int32) (n p : Nat) : Int32 := if (1 < n ∧ (p = 0 ∨ ¬ f (p - 1) = f p)) ∧ (n ≤ p + 1 ∨ ¬ f (p + 1) = f p) then 1 - f p else f p
def sBulge (i : Nat → Int32) : Nat → Int32
  | 0 => 0
  | p + 1 => zmax (sBulge i p) (zabs (i (p + 1) - i p))
def sFirst (P : Nat → Bool) (d : Int32) : Nat → Nat → Int32
  | 0, _ => d
  | k + 1, p => if P p then nI p else sFirst P d k (p + 1)
def sFeet (f : Nat → Int32) : Nat → Int32
  | 0 => 0
  | p + 1 => sFeet f p ||| f p <<< (nI p &&& 31)
def sAlike (f : Nat → Int32) (n : Nat) : Bool := (List.range (n - 1)).all (fun p => decide (f p = f (p + 1)))
def sLine (i : Nat → Int32) : Nat → Nat
  | 0 => 0
  | p + 1 => sLine i p + if i p = 0 then 1 else 0
def sBeh (i : Nat → Int32) (pc : Int32) (n : Nat) (x : Int32) : Nat → Int32
  | 0 => 0
  | p + 1 => if 0 < sWant pc n p ∧ 0 ≤ x - i p then zmax (sBeh i pc n x p) ((x - i p) / sWant pc n p + 1) else sBeh i pc n x p
/-! numbers -/
theorem nI_c1 {k : Nat} (h : k < 1000) : (nI k + 1).toNatClampNeg = k + 1 := by rw [nI_1, nI_clamp (by omega)]
theorem nI_c0 {k : Nat} (h : k < 1000) : (nI k).toNatClampNeg = k := nI_clamp (by omega)
theorem vi0 {k N : Nat} (h : k < N) (hN : N < 1000) : vp_in (nI k) N := vp_in_nI h (by omega)
theorem vi1 {k N : Nat} (h : k + 1 < N) (hN : N < 1000) : vp_in (nI k + 1) N := by rw [nI_1]; exact vp_in_nI h (by omega)
theorem zb_cases (b : Bool) : zb b = 0 ∨ zb b = 1 := by cases b <;> decide
theorem sLine_le (i : Nat → Int32) : ∀ n, sLine i n ≤ n
  | 0 => Nat.le_refl _
  | n + 1 => by
    have := sLine_le i n
    unfold sLine
    split <;> omega
