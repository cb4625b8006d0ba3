
/-! the reference reads the text: the rows -/
theorem zEqC_r (c : zCell) : zEqC c c := by
  rcases c with ⟨t, n, f⟩ | b
  · show zbool (Nat.beq t t && Nat.beq n n) _
    rw [show Nat.beq n n = true from Nat.beq_refl n, show Nat.beq t t = true from Nat.beq_refl t]
    exact fun _ _ => rfl
  · rfl
def mVa (tb : Nat → Nat) (N s : Nat) (va : Int32) : Prop := pT tb N s = 2 → ∀ v, pV tb N s = some v → va = nI v
def pLt (T : Nat) (V : Option Nat) : Prop := T ≤ 4 ∧ (T = 1 → ∀ c, V = some c → 97 ≤ c ∧ c ≤ 122) ∧ ∀ c, V = some c → c < 3000
theorem pLt_of {tb : Nat → Nat} {N s : Nat} (hb : ∀ j, j < N → tb j < 256) : pLt (pT tb N s) (pV tb N s) := by
  refine ⟨pT_le, fun h c hc => ?_, fun c hc => pV_lt hb hc⟩
  unfold pT at h
  unfold pV at hc
  by_cases h1 : N ≤ s
  · rw [if_pos h1] at hc; cases hc
  · rw [if_neg h1] at hc h
    by_cases h2 : pL (tb s) = true
    · rw [if_pos h2] at hc
      split at hc
      · cases hc; exact of_decide_eq_true h2
      · cases hc
    · rw [if_neg h2] at h
      split at h
      · omega
      · split at h <;> omega
theorem nI_ne {a : Nat} (h : a < 3000) (w : Nat) (hw : w < 3000) (hne : a ≠ w) (W : Int32) (hW : W = nI w) : ¬ nI a = W := by
  rw [hW, nI_eq (by omega) (by omega)]
  exact hne
theorem mSo_n {T : Nat} {V : Option Nat} (h : pLt T V) (w : Nat) (hw : w < 3000) (W : Int32) (hW : W = nI w) : mSo T V = W ↔ ((T = 0 ∧ w = 3) ∨ (T = 1 ∧ V = none ∧ w = 4) ∨ (T = 1 ∧ V = some w) ∨ (T = 2 ∧ V = none ∧ w = 4) ∨ (T = 2 ∧ V ≠ none ∧ w = 1) ∨ (T = 3 ∧ w = 2) ∨ (T = 4 ∧ w = 4)) := by
  subst hW
  obtain ⟨hT, hc, hv⟩ := h
  have e1 : (1 : Int32) = nI 1 := by decide
  have e2 : (2 : Int32) = nI 2 := by decide
  have e3 : (3 : Int32) = nI 3 := by decide
  have e4 : (4 : Int32) = nI 4 := by decide
  rcases (show T = 0 ∨ T = 1 ∨ T = 2 ∨ T = 3 ∨ T = 4 by omega) with rfl | rfl | rfl | rfl | rfl
  · rw [show mSo 0 V = 3 from rfl, e3, nI_eq (by omega) (by omega)]
    refine ⟨fun q => Or.inl ⟨rfl, q.symm⟩, fun q => ?_⟩
    rcases q with q | q | q | q | q | q | q <;> omega
  · cases V with
    | none =>
      rw [show mSo 1 none = 4 from rfl, e4, nI_eq (by omega) (by omega)]
      refine ⟨fun q => Or.inr (Or.inl ⟨rfl, rfl, q.symm⟩), fun q => ?_⟩
      rcases q with q | q | q | q | q | q | q
      · omega
      · omega
      · cases q.2
      · omega
      · omega
      · omega
      · omega
    | some c =>
      have := hv c rfl
      rw [show mSo 1 (some c) = nI c from rfl, nI_eq (by omega) (by omega)]
      refine ⟨fun q => Or.inr (Or.inr (Or.inl ⟨rfl, by rw [q]⟩)), fun q => ?_⟩
      rcases q with q | q | q | q | q | q | q
      · omega
      · cases q.2.1
      · cases q.2; rfl
      · omega
      · omega
      · omega
      · omega
  · cases V with
    | none =>
      rw [show mSo 2 none = 4 from rfl, e4, nI_eq (by omega) (by omega)]
      refine ⟨fun q => Or.inr (Or.inr (Or.inr (Or.inl ⟨rfl, rfl, q.symm⟩))), fun q => ?_⟩
      rcases q with q | q | q | q | q | q | q
      · omega
      · omega
      · omega
      · omega
      · exact absurd rfl q.2.1
      · omega
      · omega
    | some c =>
      rw [show mSo 2 (some c) = 1 from rfl, e1, nI_eq (by omega) (by omega)]
      refine ⟨fun q => Or.inr (Or.inr (Or.inr (Or.inr (Or.inl ⟨rfl, (fun w => by cases w), q.symm⟩)))), fun q => ?_⟩
      rcases q with q | q | q | q | q | q | q
      · omega
      · omega
      · omega
      · cases q.2.1
      · omega
      · omega
      · omega
  · rw [show mSo 3 V = 2 from rfl, e2, nI_eq (by omega) (by omega)]
    refine ⟨fun q => Or.inr (Or.inr (Or.inr (Or.inr (Or.inr (Or.inl ⟨rfl, q.symm⟩))))), fun q => ?_⟩
    rcases q with q | q | q | q | q | q | q <;> omega
  · rw [show mSo 4 V = 4 from rfl, e4, nI_eq (by omega) (by omega)]
    refine ⟨fun q => Or.inr (Or.inr (Or.inr (Or.inr (Or.inr (Or.inr ⟨rfl, q.symm⟩))))), fun q => ?_⟩
    rcases q with q | q | q | q | q | q | q <;> omega
theorem mSo_1 {T : Nat} {V : Option Nat} (h : pLt T V) : mSo T V = 1 ↔ T = 2 ∧ V ≠ none := by
  rw [mSo_n h 1 (by omega) _ (by decide)]
  refine ⟨fun q => ?_, fun q => Or.inr (Or.inr (Or.inr (Or.inr (Or.inl ⟨q.1, q.2, rfl⟩))))⟩
  rcases q with q | q | q | q | q | q | q
  · omega
  · omega
  · have := h.2.1 q.1 1 q.2; omega
  · omega
  · exact ⟨q.1, q.2.1⟩
  · omega
  · omega
theorem mSo_2 {T : Nat} {V : Option Nat} (h : pLt T V) : mSo T V = 2 ↔ T = 3 := by
  rw [mSo_n h 2 (by omega) _ (by decide)]
  refine ⟨fun q => ?_, fun q => Or.inr (Or.inr (Or.inr (Or.inr (Or.inr (Or.inl ⟨q, rfl⟩)))))⟩
  rcases q with q | q | q | q | q | q | q
  · omega
  · omega
  · have := h.2.1 q.1 2 q.2; omega
  · omega
  · omega
  · omega
  · omega
theorem mSo_3 {T : Nat} {V : Option Nat} (h : pLt T V) : mSo T V = 3 ↔ T = 0 := by
  rw [mSo_n h 3 (by omega) _ (by decide)]
  refine ⟨fun q => ?_, fun q => Or.inl ⟨q, rfl⟩⟩
  rcases q with q | q | q | q | q | q | q
  · omega
  · omega
  · have := h.2.1 q.1 3 q.2; omega
  · omega
  · omega
  · omega
  · omega
theorem mSo_c {T : Nat} {V : Option Nat} (h : pLt T V) (w : Nat) (h1 : 97 ≤ w) (h2 : w ≤ 122) (W : Int32) (hW : W = nI w) : mSo T V = W ↔ T = 1 ∧ V = some w := by
  rw [mSo_n h w (by omega) W hW]
  refine ⟨fun q => ?_, fun q => Or.inr (Or.inr (Or.inl q))⟩
  rcases q with q | q | q | q | q | q | q
  · omega
  · omega
  · exact q
  · omega
  · omega
  · omega
  · omega
def mTb (a b c : Bool) : Int32 := nI ((if a then 1 else 0) + (if b then 2 else 0) + (if c then 4 else 0))
theorem mTb_0 : ∀ a b c, (mTb a b c >>> ((0 : Int32) &&& 31)) &&& 1 = 0 ↔ a = false := by decide
theorem mTb_1 : ∀ a b c, (mTb a b c >>> ((1 : Int32) &&& 31)) &&& 1 = 0 ↔ b = false := by decide
theorem mTb_2 : ∀ a b c, (mTb a b c >>> ((2 : Int32) &&& 31)) &&& 1 = 0 ↔ c = false := by decide
theorem mTb_p : ∀ a b c, mTb a b c ||| ((1 : Int32) <<< ((0 : Int32) &&& 31)) = mTb true b c := by decide
theorem mTb_e : ∀ a b c, mTb a b c ||| ((1 : Int32) <<< ((1 : Int32) &&& 31)) = mTb a true c := by decide
theorem mTb_w : ∀ a b c, mTb a b c ||| ((1 : Int32) <<< ((2 : Int32) &&& 31)) = mTb a b true := by decide
def mTo (s : pS) : Int32 := mTb s.2.2.2.1.isSome s.2.2.2.2.1.isSome s.2.2.2.2.2.1.isSome
theorem isS_f {o : Option Nat} : o.isSome = false ↔ o = none := by cases o <;> simp
theorem pDo_0 {T : Nat} {V : Option Nat} {l : Nat} {s : pS} {q : Nat × Nat × pS} (h : pDo T V 0 l s = some q) : T = 1 ∧ ((V = some 109 ∧ s.1 < 7 ∧ q = (1, l, s)) ∨ (V = some 112 ∧ s.2.2.2.1 = none ∧ q = (3, l, s)) ∨ (V = some 101 ∧ s.2.2.2.2.1 = none ∧ q = (4, l, s)) ∨ (V = some 119 ∧ s.2.2.2.2.2.1 = none ∧ q = (5, l, s))) := by
  unfold pDo at h
  rw [if_pos rfl] at h
  split at h
  · refine ⟨by assumption, ?_⟩
    split at h
    · split at h
      · cases h; exact Or.inr (Or.inr (Or.inl ⟨by assumption, by assumption, rfl⟩))
      · cases h
    · split at h
      · split at h
        · cases h; exact Or.inl ⟨by assumption, by assumption, rfl⟩
        · cases h
      · split at h
        · split at h
          · cases h; exact Or.inr (Or.inl ⟨by assumption, by assumption, rfl⟩)
          · cases h
        · split at h
          · split at h
            · cases h; exact Or.inr (Or.inr (Or.inr ⟨by assumption, by assumption, rfl⟩))
            · cases h
          · cases h
  · cases h
theorem pR_some {tb : Nat → Nat} {N f i due l : Nat} {s : pS} {q : Nat × Nat × pS} (hi : i ≤ N) (hf : N + 1 ≤ i + f) (hT : pT tb N (pSk tb N i) ≠ 0) (h : pDo (pT tb N (pSk tb N i)) (pV tb N (pSk tb N i)) due l s = some q) : pR tb N f i due l s = pR tb N (f - 1) (pEn tb N (pSk tb N i)) q.1 q.2.1 q.2.2 := by
  obtain ⟨g, rfl⟩ : ∃ g, f = g + 1 := ⟨f - 1, by omega⟩
  show (if _ then _ else _) = _
  rw [if_neg hT, h]
  rfl
theorem pR_none {tb : Nat → Nat} {N f i due l : Nat} {s : pS} (hi : i ≤ N) (hf : N + 1 ≤ i + f) (hT : pT tb N (pSk tb N i) ≠ 0 ∨ due ≠ 0) (h : pDo (pT tb N (pSk tb N i)) (pV tb N (pSk tb N i)) due l s = none) : pR tb N f i due l s = .inl (pSk tb N i) := by
  obtain ⟨g, rfl⟩ : ∃ g, f = g + 1 := ⟨f - 1, by omega⟩
  show (if _ then _ else _) = _
  by_cases c : pT tb N (pSk tb N i) = 0
  · rw [if_pos c, if_neg (fun w => hT.elim (fun x => x c) (fun x => x w))]
  · rw [if_neg c, h]
theorem pR_end {tb : Nat → Nat} {N f i l : Nat} {s : pS} (hi : i ≤ N) (hf : N + 1 ≤ i + f) (hT : pT tb N (pSk tb N i) = 0) : pR tb N f i 0 l s = .inr s := by
  obtain ⟨g, rfl⟩ : ∃ g, f = g + 1 := ⟨f - 1, by omega⟩
  show (if _ then _ else _) = _
  rw [if_pos hT, if_pos rfl]
theorem pEn_le {tb : Nat → Nat} {N s : Nat} (h : s ≤ N) : pEn tb N s ≤ N := by
  rcases Nat.lt_or_ge s N with c | c
  · exact (pEn_in c).2
  · rw [(pt_E c).1]; exact h
theorem pD_T {T : Nat} {V : Option Nat} {due l : Nat} {s : pS} {q : Nat × Nat × pS} (h : pDo T V due l s = some q) : T ≠ 0 := by
  intro e
  subst e
  unfold pDo pNum pGet at h
  simp at h
theorem u_lawOf {ws : zW} {K : zP} (w : Int32) (h0 : w = 112 → K (some (.int 0)) ws) (h1 : w = 101 → K (some (.int 1)) ws) (h2 : w = 119 → K (some (.int 2)) ws) (h9 : ¬ w = 112 → ¬ w = 101 → ¬ w = 119 → K (some (.int (-1009))) ws) : zFr 1 (zGoes mX8_lawOf 1 1) [.int w] ws K := Or.inl ⟨rfl, rfl, fun Z hZ => hZ.1 [] 40 _ _ _ _ (And.intro (fun c => h0 c) (fun c1 => And.intro (fun c => h1 c) (fun c2 => And.intro (fun c => h2 c) (fun c3 => h9 c1 c2 c3))))⟩
section MD
variable {tr : Int64} {tx : Nat → Int32} {ty n : Nat} {m1 : Int32} {lg ht la : Nat → Int32} {at_ st_ so_ va_ fa_ to_ : Int32} {nw ik td th : Nat → Int32} {ba bp br : Int32} {sa sb sc : Nat → Int32} {z : Nat}
variable {K : zP} {post : zP}

variable {tb : Nat → Nat} {N : Nat}
set_option maxRecDepth 100000 in
theorem u_plain (h : ∀ la', la' 3 = 30 → la' 4 = 5 → la' 5 = 2 → K none (wD tr tx ty n 0 lg ht la' at_ st_ so_ va_ fa_ 0 nw ik td th ba bp br sa sb sc z)) : zFV 8 1 (zGoes mX8_plain 0 1) [.ref 0] (wD tr tx ty n m1 lg ht la at_ st_ so_ va_ fa_ to_ nw ik td th ba bp br sa sb sc z) K := by
  refine And.intro rfl (Or.inl ⟨rfl, rfl, ?_⟩)
  intro Z hZ
  have j7 : Z 7 [some (.ref 0)] [] (wD tr tx ty n 0 lg ht la at_ st_ so_ va_ fa_ to_ nw ik td th ba bp br sa sb sc z) := hZ.1 [] 40 _ _ _ _ (And.intro (vpd (by decide)) (And.intro (vpd (by decide)) (And.intro (vpd (by decide)) (h _ rfl rfl rfl))))
  refine hZ.1 [7] 40 _ _ _ _ (And.intro (vpd (by decide)) (hZ.2 _ _ _ _ (wD tr tx ty n 0 lg ht la at_ st_ so_ va_ fa_ to_ nw ik td th ba bp br sa sb sc z) ?_ j7))
  refine ⟨zEqC_r _, zEqC_r _, zEqC_i (fun j hj => ?_), zEqC_r _, zEqC_r _, zEqC_r _, zEqC_r _, zEqC_r _, zEqC_r _, zEqC_r _, zEqC_r _, zEqC_r _, zEqC_r _, trivial⟩
  rcases (show j = 0 ∨ j = 1 by omega) with rfl | rfl <;> rfl
set_option maxRecDepth 100000 in
set_option maxHeartbeats 4000000 in
theorem u_draft (k : Nat) (hk : k ≤ 7) (h : ∀ lg' ht' nw' ik', (∀ j, j < 7 → lg' j = lg (7 + j) ∧ ht' j = ht (7 + j)) → mIs nw' (xForm (la 3) (la 4) (la 5)) → nw' 25 = 0 → ik' 0 = 0 → ik' 1 = 0 → K none (wD tr tx ty k (nI k) lg' ht' la at_ st_ so_ va_ fa_ to_ nw' ik' td th ba bp br sa sb sc 0)) : zFV 8 1 (zGoes mX8_takeDraft 0 2) [.ref 0] (wD tr tx ty n (nI k) lg ht la at_ st_ so_ va_ fa_ to_ nw ik td th ba bp br sa sb sc z) K := by
  refine And.intro rfl (Or.inl ⟨rfl, rfl, ?_⟩)
  intro Z hZ
  have fin : ∀ F : Nat → Int32, (∀ j, j < 7 → F j = nI j ∧ F (7 + j) = 0 ∧ F (14 + j) = 0) → Z 85 [some (.ref 0), some (.int (nI 7))] [] (wD tr tx ty k (nI k) (sFill (fun m => lg (7 + m)) lg 7) (sFill (fun m => ht (7 + m)) ht 7) la at_ st_ so_ va_ fa_ to_ F ik td th ba bp br sa sb sc z) := by
    intro F hF
    refine hZ.1 [] 90 _ _ _ _ (And.intro (vpd (by decide)) (And.intro (vpd (by decide)) (And.intro (vpd (by decide)) (And.intro (vpd (by decide)) (And.intro (vpd (by decide)) (And.intro (vpd (by decide)) (And.intro (vpd (by decide)) (And.intro (vpd (by decide)) (And.intro (vpd (by decide)) (And.intro (vpd (by decide)) (h _ _ _ _ (fun j hj => ⟨sFill_lt hj, sFill_lt hj⟩) ?_ rfl rfl rfl)))))))))))
    refine mIs_of (fun j hj => ?_) (fun j hj => ?_) (fun j hj => ?_) rfl rfl rfl rfl
    · show upd (upd (upd (upd (upd F 21 (la 3)) 22 (la 4)) 23 (la 5)) 24 0) 25 0 (j) = _
      rw [pk_un (show j ≠ 25 by omega), pk_un (show j ≠ 24 by omega), pk_un (show j ≠ 23 by omega), pk_un (show j ≠ 22 by omega), pk_un (show j ≠ 21 by omega)]
      exact (hF j hj).1
    · show upd (upd (upd (upd (upd F 21 (la 3)) 22 (la 4)) 23 (la 5)) 24 0) 25 0 (7 + j) = _
      rw [pk_un (show 7 + j ≠ 25 by omega), pk_un (show 7 + j ≠ 24 by omega), pk_un (show 7 + j ≠ 23 by omega), pk_un (show 7 + j ≠ 22 by omega), pk_un (show 7 + j ≠ 21 by omega)]
      exact (hF j hj).2.1
    · show upd (upd (upd (upd (upd F 21 (la 3)) 22 (la 4)) 23 (la 5)) 24 0) 25 0 (14 + j) = _
      rw [pk_un (show 14 + j ≠ 25 by omega), pk_un (show 14 + j ≠ 24 by omega), pk_un (show 14 + j ≠ 23 by omega), pk_un (show 14 + j ≠ 22 by omega), pk_un (show 14 + j ≠ 21 by omega)]
      exact (hF j hj).2.2
  have loop : ∀ (d p : Nat) (F : Nat → Int32), p + d = 7 → (∀ j, j < p → F j = nI j ∧ F (7 + j) = 0 ∧ F (14 + j) = 0) → Z 14 [some (.ref 0), some (.int (nI p))] [] (wD tr tx ty k (nI k) (sFill (fun m => lg (7 + m)) lg p) (sFill (fun m => ht (7 + m)) ht p) la at_ st_ so_ va_ fa_ to_ F ik td th ba bp br sa sb sc z) := by
    intro d
    induction d with
    | zero =>
      intro p F hp hF
      have e : p = 7 := by omega
      subst e
      exact hZ.1 [85] 40 _ _ _ _ (And.intro (fun _ => fin F hF) (fun c => absurd (show (7 : Int32) ≤ nI 7 by decide) c))
    | succ d ih =>
      intro p F hp hF
      refine hZ.1 [14] 80 _ _ _ _ (And.intro (fun c => ?_) (fun c => And.intro (vA a7 (by omega) (by omega)) (And.intro (vi0 (by omega) (by omega)) (And.intro (vA a7 (by omega) (by omega)) (And.intro (vi0 (by omega) (by omega)) (And.intro (vA a0 (by omega) (by omega)) (And.intro (vA a7 (by omega) (by omega)) (And.intro (vA a14 (by omega) (by omega)) ?_))))))))
      · have c : (7 : Int32) ≤ nI p := c
        rw [a7, nI_leI (by omega) (by omega)] at c
        omega
      · have e1 : upd (sFill (fun m => lg (7 + m)) lg p) (nI p).toNatClampNeg ((sFill (fun m => lg (7 + m)) lg p) (7 + nI p).toNatClampNeg) = sFill (fun m => lg (7 + m)) lg (p + 1) := by
          rw [nI_c0 (by omega), cA a7 (by omega), sFill_ge (by omega), ← sFill_upd]
        have e2 : upd (sFill (fun m => ht (7 + m)) ht p) (nI p).toNatClampNeg ((sFill (fun m => ht (7 + m)) ht p) (7 + nI p).toNatClampNeg) = sFill (fun m => ht (7 + m)) ht (p + 1) := by
          rw [nI_c0 (by omega), cA a7 (by omega), sFill_ge (by omega), ← sFill_upd]
        have := ih (p + 1) (upd (upd (upd F (0 + nI p).toNatClampNeg (nI p)) (7 + nI p).toNatClampNeg 0) (14 + nI p).toNatClampNeg 0) (by omega) (fun j hj => ?_)
        · rw [← e1, ← e2, ← nI_1] at this
          exact this
        · rw [cA a0 (by omega), cA a7 (by omega), cA a14 (by omega)]
          by_cases q : j = p
          · subst q
            refine ⟨?_, ?_, ?_⟩
            · rw [pk_un (by omega), pk_un (by omega), show 0 + j = j by omega, pk_us]
            · rw [pk_un (by omega), pk_us]
            · rw [pk_us]
          · have := hF j (by omega)
            refine ⟨?_, ?_, ?_⟩
            · rw [pk_un (by omega), pk_un (by omega), pk_un (by omega)]; exact this.1
            · rw [pk_un (by omega), pk_un (by omega), pk_un (by omega)]; exact this.2.1
            · rw [pk_un (by omega), pk_un (by omega), pk_un (by omega)]; exact this.2.2
  have e0 : upd (mnf n (nI k)) (0 : Int32).toNatClampNeg (mnf n (nI k) (1 : Int32).toNatClampNeg) = mnf k (nI k) := by
    funext j
    cases j with
    | zero => rfl
    | succ j => rfl
  have := loop 7 0 nw (by omega) (fun j hj => absurd hj (Nat.not_lt_zero _))
  rw [sFill_0, sFill_0] at this
  unfold wD at this
  rw [← e0] at this
  exact hZ.1 [14] 40 _ _ _ _ (And.intro (vpd (by decide)) (And.intro (vpd (by decide)) this))
set_option maxRecDepth 100000 in
theorem u_dueY (hN : ty ≤ 120) (htx : ∀ j, j < ty → tx j = (nI (tb j)).toInt8.toInt32 ∧ tb j < 256) (i : Nat) (hi : i ≤ ty) (h : ∀ va', mVa tb ty (pSk tb ty i) va' → K (some (.int va_)) (wD tr tx ty n m1 lg ht la (nI (pEn tb ty (pSk tb ty i))) (nI (pSk tb ty i)) (mSo (pT tb ty (pSk tb ty i)) (pV tb ty (pSk tb ty i))) va' (-1009) to_ nw ik td th ba bp br sa sb sc z)) : zFV 8 2 (zGoes mX8_due 1 3) [.ref 0, .int 1] (wD tr tx ty n m1 lg ht la (nI i) st_ so_ va_ (-1009) to_ nw ik td th ba bp br sa sb sc z) K := by
  refine And.intro rfl (Or.inl ⟨rfl, rfl, ?_⟩)
  intro Z hZ
  exact hZ.1 [] 40 _ _ _ _ (And.intro (fun _ => And.intro (fun e => absurd e (by decide)) (fun _ => u_step hN htx i hi (fun va' hv => h va' hv))) (fun e => absurd rfl e))
set_option maxRecDepth 100000 in
theorem u_dueN (h : K (some (.int va_)) (wD tr tx ty n m1 lg ht la at_ st_ so_ va_ st_ to_ nw ik td th ba bp br sa sb sc z)) : zFV 8 2 (zGoes mX8_due 1 3) [.ref 0, .int 0] (wD tr tx ty n m1 lg ht la at_ st_ so_ va_ (-1009) to_ nw ik td th ba bp br sa sb sc z) K := by
  refine And.intro rfl (Or.inl ⟨rfl, rfl, ?_⟩)
  intro Z hZ
  exact hZ.1 [] 40 _ _ _ _ (And.intro (fun _ => And.intro (fun _ => h) (fun e => absurd rfl e)) (fun e => absurd rfl e))
theorem f_ne {f : Nat} (hf : f ≤ 120) : ¬ nI f = -1009 := fun e => by
  have := congrArg Int32.toInt e
  rw [nI_toInt (by omega)] at this
  have h2 : (-1009 : Int32).toInt = -1009 := by decide
  omega
set_option maxRecDepth 100000 in
theorem u_dueF {f : Nat} (hf : f ≤ 120) (b : Int32) (h : K (some (.int va_)) (wD tr tx ty n m1 lg ht la at_ st_ so_ va_ (nI f) to_ nw ik td th ba bp br sa sb sc z)) : zFV 8 2 (zGoes mX8_due 1 3) [.ref 0, .int b] (wD tr tx ty n m1 lg ht la at_ st_ so_ va_ (nI f) to_ nw ik td th ba bp br sa sb sc z) K := by
  refine And.intro rfl (Or.inl ⟨rfl, rfl, ?_⟩)
  intro Z hZ
  exact hZ.1 [] 40 _ _ _ _ (And.intro (fun e => absurd e (f_ne hf)) (fun _ => h))
set_option maxRecDepth 100000 in
theorem u_numF {f : Nat} (hf : f ≤ 120) (A B : Int32) (h : K (some (.int va_)) (wD tr tx ty n m1 lg ht la at_ st_ so_ va_ (nI f) to_ nw ik td th ba bp br sa sb sc z)) : zFV 8 3 (zGoes mX8_number 1 3) [.ref 0, .int A, .int B] (wD tr tx ty n m1 lg ht la at_ st_ so_ va_ (nI f) to_ nw ik td th ba bp br sa sb sc z) K := by
  refine And.intro rfl (Or.inl ⟨rfl, rfl, ?_⟩)
  intro Z hZ
  exact hZ.1 [] 40 _ _ _ _ (And.intro (fun _ => u_in va_ A B (fun _ => And.intro (fun e => absurd e (by decide)) (fun _ => u_dueF hf 1 h)) (fun _ => And.intro (fun _ => u_dueF hf 0 h) (fun e => absurd rfl e))) (fun _ => u_dueF hf 0 h))
set_option maxRecDepth 100000 in
set_option maxHeartbeats 4000000 in
theorem u_num (hN : ty ≤ 120) (htx : ∀ j, j < ty → tx j = (nI (tb j)).toInt8.toInt32 ∧ tb j < 256) (s : Nat) (hs : s ≤ ty) (va : Int32) (hva : mVa tb ty s va) (lo hi : Nat) (hlo : lo ≤ 1) (hhi : hi ≤ 99) (A B : Int32) (hA : A = nI lo) (hB : B = nI hi) (h1 : ∀ v, pNum (pT tb ty s) (pV tb ty s) lo hi = some v → ∀ va', mVa tb ty (pSk tb ty (pEn tb ty s)) va' → K (some (.int (nI v))) (wD tr tx ty n m1 lg ht la (nI (pEn tb ty (pSk tb ty (pEn tb ty s)))) (nI (pSk tb ty (pEn tb ty s))) (mSo (pT tb ty (pSk tb ty (pEn tb ty s))) (pV tb ty (pSk tb ty (pEn tb ty s)))) va' (-1009) to_ nw ik td th ba bp br sa sb sc z)) (h0 : pNum (pT tb ty s) (pV tb ty s) lo hi = none → K (some (.int va)) (wD tr tx ty n m1 lg ht la (nI (pEn tb ty (s))) (nI (s)) (mSo (pT tb ty (s)) (pV tb ty (s))) va (nI s) to_ nw ik td th ba bp br sa sb sc z)) : zFV 8 3 (zGoes mX8_number 1 3) [.ref 0, .int A, .int B] (wD tr tx ty n m1 lg ht la (nI (pEn tb ty (s))) (nI (s)) (mSo (pT tb ty (s)) (pV tb ty (s))) va (-1009) to_ nw ik td th ba bp br sa sb sc z) K := by
  subst hA; subst hB
  refine And.intro rfl (Or.inl ⟨rfl, rfl, ?_⟩)
  intro Z hZ
  have hL : pLt (pT tb ty s) (pV tb ty s) := pLt_of (fun j hj => (htx j hj).2)
  refine hZ.1 [] 40 _ _ _ _ (And.intro (fun c => u_in va (nI lo) (nI hi) (fun q => And.intro (fun e => absurd e (by decide)) (fun _ => ?_)) (fun q => And.intro (fun _ => ?_) (fun e => absurd rfl e))) (fun c => ?_))
  · have c := (mSo_1 hL).mp c
    obtain ⟨v, hv⟩ : ∃ v, pV tb ty s = some v := by
      cases h : pV tb ty s with
      | none => exact absurd h c.2
      | some v => exact ⟨v, rfl⟩
    have e := hva c.1 v hv
    subst e
    have hv3 := hL.2.2 v hv
    rw [nI_leI (by omega) (by omega), nI_leI (by omega) (by omega)] at q
    exact u_dueY hN htx _ (pEn_le hs) (fun va' hv' => h1 v (by unfold pNum; rw [c.1, hv]; exact if_pos q) va' hv')
  · have c := (mSo_1 hL).mp c
    obtain ⟨v, hv⟩ : ∃ v, pV tb ty s = some v := by
      cases h : pV tb ty s with
      | none => exact absurd h c.2
      | some v => exact ⟨v, rfl⟩
    have e := hva c.1 v hv
    subst e
    have hv3 := hL.2.2 v hv
    rw [nI_leI (by omega) (by omega), nI_leI (by omega) (by omega)] at q
    exact u_dueN (h0 (by unfold pNum; rw [c.1, hv]; exact if_neg q))
  · have c : ¬ (pT tb ty s = 2 ∧ pV tb ty s ≠ none) := fun w => c ((mSo_1 hL).mpr w)
    refine u_dueN (h0 ?_)
    unfold pNum
    by_cases w : pT tb ty s = 2
    · rw [if_pos w]
      cases h : pV tb ty s with
      | none => rfl
      | some v => exact absurd ⟨w, (by rw [h]; intro x; cases x)⟩ c
    · rw [if_neg w]
set_option maxRecDepth 100000 in
set_option maxHeartbeats 4000000 in
theorem u_mayBe (T : Nat) (V : Option Nat) (hL : pLt T V) (l : Nat) (s : pS) (hs : s.1 ≤ 7) (h1 : ∀ q, pDo T V 0 l s = some q → K (some (.int 1)) (wD tr tx ty n (nI s.1) lg ht la at_ st_ so_ va_ fa_ (mTo s) nw ik td th ba bp br sa sb sc z)) (h0 : pDo T V 0 l s = none → K (some (.int 0)) (wD tr tx ty n (nI s.1) lg ht la at_ st_ so_ va_ fa_ (mTo s) nw ik td th ba bp br sa sb sc z)) : zFV 8 2 (zGoes mX8_mayBe 3 3) [.ref 0, .int (mSo T V)] (wD tr tx ty n (nI s.1) lg ht la at_ st_ so_ va_ fa_ (mTo s) nw ik td th ba bp br sa sb sc z) K := by
  refine And.intro rfl (Or.inl ⟨rfl, rfl, ?_⟩)
  intro Z hZ
  refine hZ.1 [] 60 _ _ _ _ (u_lawOf _ (fun e => And.intro (fun c => absurd (c.symm.trans e) (by decide)) (fun _ => And.intro (fun c => absurd c (by decide)) (fun _ => And.intro (fun c => And.intro (Or.inr rfl) ?_) (fun c => And.intro (Or.inl rfl) ?_)))) (fun e => And.intro (fun c => absurd (c.symm.trans e) (by decide)) (fun _ => And.intro (fun c => absurd c (by decide)) (fun _ => And.intro (fun c => And.intro (Or.inr rfl) ?_) (fun c => And.intro (Or.inl rfl) ?_)))) (fun e => And.intro (fun c => absurd (c.symm.trans e) (by decide)) (fun _ => And.intro (fun c => absurd c (by decide)) (fun _ => And.intro (fun c => And.intro (Or.inr rfl) ?_) (fun c => And.intro (Or.inl rfl) ?_)))) (fun e1 e2 e3 => And.intro (fun c => And.intro (vpd (by decide)) (And.intro (fun c7 => And.intro (Or.inl rfl) ?_) (fun c7 => And.intro (Or.inr rfl) ?_))) (fun c => And.intro (fun _ => And.intro (Or.inl rfl) ?_) (fun w => absurd rfl w))))
  · have e := (mSo_c hL 112 (by omega) (by omega) _ (by decide)).mp e
    have c := isS_f.mp ((mTb_0 _ _ _).mp c)
    exact h1 (3, l, s) (by unfold pDo; rw [e.1, e.2, c]; rfl)
  · have e := (mSo_c hL 112 (by omega) (by omega) _ (by decide)).mp e
    have c : ¬ s.2.2.2.1 = none := fun w => c ((mTb_0 _ _ _).mpr (isS_f.mpr w))
    exact h0 (by unfold pDo; rw [e.1, e.2]; simp [c])
  · have e := (mSo_c hL 101 (by omega) (by omega) _ (by decide)).mp e
    have c := isS_f.mp ((mTb_1 _ _ _).mp c)
    exact h1 (4, l, s) (by unfold pDo; rw [e.1, e.2, c]; rfl)
  · have e := (mSo_c hL 101 (by omega) (by omega) _ (by decide)).mp e
    have c : ¬ s.2.2.2.2.1 = none := fun w => c ((mTb_1 _ _ _).mpr (isS_f.mpr w))
    exact h0 (by unfold pDo; rw [e.1, e.2]; simp [c])
  · have e := (mSo_c hL 119 (by omega) (by omega) _ (by decide)).mp e
    have c := isS_f.mp ((mTb_2 _ _ _).mp c)
    exact h1 (5, l, s) (by unfold pDo; rw [e.1, e.2, c]; rfl)
  · have e := (mSo_c hL 119 (by omega) (by omega) _ (by decide)).mp e
    have c : ¬ s.2.2.2.2.2.1 = none := fun w => c ((mTb_2 _ _ _).mpr (isS_f.mpr w))
    exact h0 (by unfold pDo; rw [e.1, e.2]; simp [c])
  · have e := (mSo_c hL 109 (by omega) (by omega) _ (by decide)).mp c
    have c7 : (7 : Int32) ≤ nI s.1 := c7
    rw [a7, nI_leI (by omega) (by omega)] at c7
    exact h0 (by unfold pDo; rw [e.1, e.2]; simp; omega)
  · have e := (mSo_c hL 109 (by omega) (by omega) _ (by decide)).mp c
    have c7 : ¬ (7 : Int32) ≤ nI s.1 := c7
    rw [a7, nI_leI (by omega) (by omega)] at c7
    exact h1 (1, l, s) (by unfold pDo; rw [e.1, e.2]; simp; omega)
  · refine h0 ?_
    cases hq : pDo T V 0 l s with
    | none => rfl
    | some q =>
      obtain ⟨hT, hq⟩ := pDo_0 hq
      rcases hq with w | w | w | w
      · exact absurd ((mSo_c hL 109 (by omega) (by omega) _ (by decide)).mpr ⟨hT, w.1⟩) c
      · exact absurd ((mSo_c hL 112 (by omega) (by omega) _ (by decide)).mpr ⟨hT, w.1⟩) e1
      · exact absurd ((mSo_c hL 101 (by omega) (by omega) _ (by decide)).mpr ⟨hT, w.1⟩) e2
      · exact absurd ((mSo_c hL 119 (by omega) (by omega) _ (by decide)).mpr ⟨hT, w.1⟩) e3

end MD
