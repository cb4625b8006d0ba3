
/-! the reference reads the text -/
def hNow (tb : Nat → Nat) (N i : Nat) : Int32 := if i < N then nI (tb i) else -1
def mSo (T : Nat) (V : Option Nat) : Int32 := if T = 0 then 3 else if T = 1 then (match V with
  | none => 4
  | some c => nI c) else if T = 2 then (match V with
  | none => 4
  | some _ => 1) else if T = 3 then 2 else 4
set_option maxRecDepth 100000 in
theorem byte_and : ∀ c, c < 256 → ((nI c).toInt8.toInt32 &&& 255) = nI c := by decide +kernel
theorem hNow_in {tb : Nat → Nat} {N i : Nat} (hb : ∀ j, j < N → tb j < 256) (lo hi : Nat) (hlo : lo < 256) (hhi : hi < 256) (LO HI : Int32) (hL : LO = nI lo) (hH : HI = nI hi) : (LO ≤ hNow tb N i ∧ hNow tb N i ≤ HI) ↔ (i < N ∧ lo ≤ tb i ∧ tb i ≤ hi) := by
  subst hL; subst hH
  unfold hNow
  by_cases c : i < N
  · rw [if_pos c]
    have := hb i c
    rw [nI_leI (by omega) (by omega), nI_leI (by omega) (by omega)]
    exact ⟨fun q => ⟨c, q⟩, fun q => q.2⟩
  · rw [if_neg c]
    refine ⟨fun q => ?_, fun q => absurd q.1 c⟩
    exact absurd (Int32.le_trans (nI_pos' (n := lo) (by omega)) q.1) (by decide)
theorem hNow_eq {tb : Nat → Nat} {N i : Nat} (hb : ∀ j, j < N → tb j < 256) (w : Nat) (hw : w < 256) (W : Int32) (hW : W = nI w) : hNow tb N i = W ↔ (i < N ∧ tb i = w) := by
  subst hW
  unfold hNow
  by_cases c : i < N
  · rw [if_pos c]
    have := hb i c
    rw [nI_eq (by omega) (by omega)]
    exact ⟨fun q => ⟨c, q⟩, fun q => q.2⟩
  · rw [if_neg c]
    refine ⟨fun q => ?_, fun q => absurd q.1 c⟩
    have := congrArg Int32.toInt q
    rw [nI_toInt (by omega)] at this
    have e9 : (-1 : Int32).toInt = -1 := by decide
    rw [e9] at this
    omega
theorem pDe_2 {tb : Nat → Nat} {N s : Nat} (hs : s < N) (hD : pD (tb s) = true) (hq : s + 1 < pDe tb N s) : tb (s + 1) - 48 ≤ 9 := by
  have : pD (tb (s + 1)) = true := by
    unfold pDe at hq
    obtain ⟨e, he⟩ : ∃ e, N - s = e + 1 := ⟨N - s - 1, by omega⟩
    rw [he] at hq
    unfold pRun at hq
    rw [if_pos hD] at hq
    cases e with
    | zero =>
      have hq : s + 1 < s + 1 := hq
      omega
    | succ e =>
      unfold pRun at hq
      by_cases w : pD (tb (s + 1)) = true
      · exact w
      · rw [if_neg w] at hq
        omega
  exact pDg_in this
def pQ (tb : Nat → Nat) (s m val : Nat) : Prop := val ≤ 999 ∧ (m = 0 → val = 0) ∧ (m = 1 → val = tb s - 48) ∧ (m = 2 → val = 10 * (tb s - 48) + (tb (s + 1) - 48)) ∧ (3 ≤ m → 48 < tb s → 100 ≤ val)
section MD
variable {tr : Int64} {tx : Nat → Int32} {ty n : Nat} {m1 : Int32} {lg ht la : Nat → Int32} {at_ st_ so_ va_ fa_ to_ : Int32} {nw ik td th : Nat → Int32} {ba bp br : Int32} {sa sb sc : Nat → Int32} {z : Nat}
variable {K : zP} {post : zP}

variable {tb : Nat → Nat} {N : Nat}
set_option maxRecDepth 100000 in
theorem u_here (hN : ty ≤ 120) (htx : ∀ j, j < ty → tx j = (nI (tb j)).toInt8.toInt32 ∧ tb j < 256) (i : Nat) (hi : i ≤ ty) (h : K (some (.int (hNow tb ty i))) (wD tr tx ty n m1 lg ht la (nI i) st_ so_ va_ fa_ to_ nw ik td th ba bp br sa sb sc z)) : zFV 8 1 (zGoes mX8_here 1 1) [.ref 0] (wD tr tx ty n m1 lg ht la (nI i) st_ so_ va_ fa_ to_ nw ik td th ba bp br sa sb sc z) K := by
  refine And.intro rfl (Or.inl ⟨rfl, rfl, ?_⟩)
  intro Z hZ
  unfold hNow at h
  refine hZ.1 [] 40 _ _ _ _ (And.intro (fun c => ?_) (fun c => And.intro (vi0 ?_ (by omega)) ?_))
  · have c : nI ty ≤ nI i := c
    rw [nI_leI (by omega) (by omega)] at c
    rw [if_neg (by omega)] at h
    exact h
  · have c : ¬ nI ty ≤ nI i := c
    rw [nI_leI (by omega) (by omega)] at c
    omega
  · have c : ¬ nI ty ≤ nI i := c
    rw [nI_leI (by omega) (by omega)] at c
    rw [if_pos (by omega)] at h
    have ht := htx i (by omega)
    have e : tx (nI i).toNatClampNeg &&& 255 = nI (tb i) := by rw [nI_c0 (by omega), ht.1, byte_and _ ht.2]
    rw [← e] at h
    exact h
set_option maxRecDepth 100000 in
set_option maxHeartbeats 4000000 in
theorem u_step (hN : ty ≤ 120) (htx : ∀ j, j < ty → tx j = (nI (tb j)).toInt8.toInt32 ∧ tb j < 256) (i : Nat) (hi : i ≤ ty) (h : ∀ va', (pT tb ty (pSk tb ty i) = 2 → ∀ v, pV tb ty (pSk tb ty i) = some v → va' = nI v) → K none (wD tr tx ty n m1 lg ht la (nI (pEn tb ty (pSk tb ty i))) (nI (pSk tb ty i)) (mSo (pT tb ty (pSk tb ty i)) (pV tb ty (pSk tb ty i))) va' fa_ to_ nw ik td th ba bp br sa sb sc z)) : zFV 8 1 (zGoes mX8_step 0 2) [.ref 0] (wD tr tx ty n m1 lg ht la (nI i) st_ so_ va_ fa_ to_ nw ik td th ba bp br sa sb sc z) K := by
  refine And.intro rfl (Or.inl ⟨rfl, rfl, ?_⟩)
  intro Z hZ
  have hb : ∀ j, j < ty → tb j < 256 := fun j hj => (htx j hj).2
  have fin : ∀ s, s = pSk tb ty i → s ≤ ty → Z 22 [some (.ref 0), none] [] (wD tr tx ty n m1 lg ht la (nI s) st_ so_ va_ fa_ to_ nw ik td th ba bp br sa sb sc z) := by
    intro s hs hsN
    rw [← hs] at h
    refine hZ.1 [63, 90, 126, 188] 60 _ _ _ _ (u_here hN htx s hsN (And.intro (fun c => ?_) (fun c => ?_)))
    · have c : 0 ≤ hNow tb ty s := c
      have hlt : s < ty := by
        unfold hNow at c
        by_cases w : s < ty
        · exact w
        · rw [if_neg w] at c
          exact absurd c (by decide)
      have hNs : ¬ ty ≤ s := by omega
      have h256 := hb s hlt
      refine u_in (hNow tb ty s) 97 122 (fun q => ?_) (fun q => ?_)
      · have q := (hNow_in hb 97 122 (by omega) (by omega) _ _ (by decide) (by decide)).mp q
        have hL : pL (tb s) = true := decide_eq_true q.2
        obtain ⟨g1, g2, g3⟩ := pt_L (tb := tb) hNs hL
        rw [g1, g2, g3] at h
        have hr := pRun_in (fun j => pL (tb j)) (ty - s) s
        have fin2 : Z 90 [some (.ref 0), some (.int (hNow tb ty s))] [] (wD tr tx ty n m1 lg ht la (nI (pLe tb ty s)) (nI s) so_ 0 fa_ to_ nw ik td th ba bp br sa sb sc z) := by
          have e1 : (nI (pLe tb ty s) - nI s : Int32) = nI (pLe tb ty s - s) := pk_sub hr.1
          have e2 : hNow tb ty s = nI (tb s) := if_pos hlt
          refine hZ.1 [] 40 _ _ _ _ (And.intro (fun c => ?_) (fun c => ?_))
          · have c : (nI (pLe tb ty s) - nI s : Int32) = 1 := c
            rw [e1, ← n1, nI_eq (by unfold pLe; omega) (by omega)] at c
            rw [if_pos c] at h
            rw [e2]
            exact h 0 (fun w => absurd w (by decide))
          · have c : ¬ (nI (pLe tb ty s) - nI s : Int32) = 1 := c
            rw [e1, ← n1, nI_eq (by unfold pLe; omega) (by omega)] at c
            rw [if_neg c] at h
            exact h 0 (fun w => absurd w (by decide))
        have loop : ∀ (d j : Nat), j + d = ty → pRun (fun j => pL (tb j)) d j = pLe tb ty s → Z 63 [some (.ref 0), some (.int (hNow tb ty s))] [] (wD tr tx ty n m1 lg ht la (nI j) (nI s) so_ 0 fa_ to_ nw ik td th ba bp br sa sb sc z) := by
          intro d
          induction d with
          | zero =>
            intro j hj hp
            have e : j = ty := by omega
            have hp : j = pLe tb ty s := hp
            rw [← hp] at fin2
            refine hZ.1 [63, 90] 40 _ _ _ _ (u_here hN htx j (by omega) (u_in (hNow tb ty j) 97 122 (fun q => ?_) (fun q => And.intro (fun _ => fin2) (fun e => absurd rfl e))))
            have q := (hNow_in hb 97 122 (by omega) (by omega) _ _ (by decide) (by decide)).mp q
            omega
          | succ d ih =>
            intro j hj hp
            unfold pRun at hp
            refine hZ.1 [63, 90] 40 _ _ _ _ (u_here hN htx j (by omega) (u_in (hNow tb ty j) 97 122 (fun q => And.intro (fun e => absurd e (by decide)) (fun _ => ?_)) (fun q => And.intro (fun _ => ?_) (fun e => absurd rfl e))))
            · have q := (hNow_in hb 97 122 (by omega) (by omega) _ _ (by decide) (by decide)).mp q
              rw [if_pos (show pL (tb j) = true from decide_eq_true q.2)] at hp
              have := ih (j + 1) (by omega) hp
              rw [← nI_1] at this
              exact this
            · rw [hNow_in hb 97 122 (by omega) (by omega) _ _ (by decide) (by decide)] at q
              rw [if_neg (show ¬ pL (tb j) = true by rw [show pL (tb j) = false from decide_eq_false (fun w => q ⟨by omega, w⟩)]; decide)] at hp
              rw [← hp] at fin2
              exact fin2
        exact And.intro (fun e => absurd e (by decide)) (fun _ => loop (ty - s) s (by omega) rfl)
      · rw [hNow_in hb 97 122 (by omega) (by omega) _ _ (by decide) (by decide)] at q
        have hL : pL (tb s) = false := decide_eq_false (fun w => q ⟨hlt, w⟩)
        refine And.intro (fun _ => u_in (hNow tb ty s) 48 57 (fun q2 => ?_) (fun q2 => ?_)) (fun e => absurd rfl e)
        · have q2 := (hNow_in hb 48 57 (by omega) (by omega) _ _ (by decide) (by decide)).mp q2
          have hD : pD (tb s) = true := decide_eq_true q2.2
          obtain ⟨g1, g2, g3⟩ := pt_D (tb := tb) hNs hL hD
          rw [g1, g2, g3] at h
          have hr := pRun_in (fun j => pD (tb j)) (ty - s) s
          have hg := pRun_gt (P := fun j => pD (tb j)) (d := ty - s) (i := s) (by omega) hD
          have e2 : hNow tb ty s = nI (tb s) := if_pos hlt
          have fin2 : ∀ val, pQ tb s (pDe tb ty s - s) val → Z 188 [some (.ref 0), some (.int (hNow tb ty s))] [] (wD tr tx ty n m1 lg ht la (nI (pDe tb ty s)) (nI s) so_ (nI val) fa_ to_ nw ik td th ba bp br sa sb sc z) := by
            intro val hQ
            obtain ⟨w0, w1, w2, w3, w4⟩ := hQ
            have e1 : (nI (pDe tb ty s) - nI s : Int32) = nI (pDe tb ty s - s) := pk_sub hr.1
            have hm : 1 ≤ pDe tb ty s - s ∧ pDe tb ty s - s ≤ 120 := by unfold pDe; omega
            have unfit : pNv tb ty s = none → Z 217 [some (.ref 0), some (.int (hNow tb ty s))] [.ref 0] (wD tr tx ty n m1 lg ht la (nI (pDe tb ty s)) (nI s) so_ (nI val) fa_ to_ nw ik td th ba bp br sa sb sc z) := by
              intro hn
              rw [hn] at h
              exact hZ.1 [] 20 _ _ _ _ (h (nI val) (fun _ v hv => by cases hv))
            have fit : ∀ v, pNv tb ty s = some v → val = v → Z 221 [some (.ref 0), some (.int (hNow tb ty s))] [.ref 0] (wD tr tx ty n m1 lg ht la (nI (pDe tb ty s)) (nI s) so_ (nI val) fa_ to_ nw ik td th ba bp br sa sb sc z) := by
              intro v hn hv
              rw [hn] at h
              exact hZ.1 [] 20 _ _ _ _ (h (nI val) (fun _ v' hv' => by cases hv'; rw [hv]))
            unfold pNv at unfit fit
            refine hZ.1 [217, 221] 40 _ _ _ _ (And.intro (fun c1 => ?_) (fun c1 => And.intro (fun c2 => And.intro (fun c3 => ?_) (fun c3 => ?_)) (fun c2 => ?_)))
            · have c1 : (99 : Int32) < nI val := c1
              rw [show (99 : Int32) = nI 99 by decide, nI_ltI (by omega) (by omega)] at c1
              refine unfit ?_
              have h9 := of_decide_eq_true hD
              rw [if_neg (fun w => by have := w2 w; omega), if_neg (fun w => by
                have := w3 w.1
                have := pDe_2 hlt hD (by omega)
                omega)]
            · have c3 : (nI (pDe tb ty s) - nI s : Int32) ≤ 1 := c3
              rw [e1, ← n1, nI_leI (by omega) (by omega)] at c3
              have hm1 : pDe tb ty s - s = 1 := by omega
              exact fit (tb s - 48) (by rw [if_pos hm1]) (w2 hm1)
            · have c3 : ¬ (nI (pDe tb ty s) - nI s : Int32) ≤ 1 := c3
              rw [e1, ← n1, nI_leI (by omega) (by omega)] at c3
              have c2 : hNow tb ty s = 48 := c2
              have c2 := ((hNow_eq hb 48 (by omega) _ (by decide)).mp c2).2
              exact unfit (by rw [if_neg (by omega), if_neg (by omega)])
            · have c1 : ¬ (99 : Int32) < nI val := c1
              rw [show (99 : Int32) = nI 99 by decide, nI_ltI (by omega) (by omega)] at c1
              have c2 : ¬ hNow tb ty s = 48 := c2
              have c2 : ¬ tb s = 48 := fun w => c2 ((hNow_eq hb 48 (by omega) _ (by decide)).mpr ⟨hlt, w⟩)
              have h9 := of_decide_eq_true hD
              by_cases m1' : pDe tb ty s - s = 1
              · exact fit (tb s - 48) (by rw [if_pos m1']) (w2 m1')
              · by_cases m2' : pDe tb ty s - s = 2
                · exact fit (10 * (tb s - 48) + (tb (s + 1) - 48)) (by rw [if_neg m1', if_pos ⟨m2', by omega⟩]) (w3 m2')
                · have := w4 (by omega) (by omega)
                  omega
          have loop : ∀ (d j val : Nat), j + d = ty → s ≤ j → pRun (fun j => pD (tb j)) d j = pDe tb ty s → pQ tb s (j - s) val → Z 126 [some (.ref 0), some (.int (hNow tb ty s))] [] (wD tr tx ty n m1 lg ht la (nI j) (nI s) so_ (nI val) fa_ to_ nw ik td th ba bp br sa sb sc z) := by
            intro d
            induction d with
            | zero =>
              intro j val hj hsj hp hQ
              have hp : j = pDe tb ty s := hp
              have f2 := fin2 val (by rw [← hp]; exact hQ)
              rw [← hp] at f2
              refine hZ.1 [126, 188] 40 _ _ _ _ (u_here hN htx j (by omega) (u_in (hNow tb ty j) 48 57 (fun q => ?_) (fun q => And.intro (fun _ => f2) (fun e => absurd rfl e))))
              have q := (hNow_in hb 48 57 (by omega) (by omega) _ _ (by decide) (by decide)).mp q
              omega
            | succ d ih =>
              intro j val hj hsj hp hQ
              unfold pRun at hp
              refine hZ.1 [126, 172, 188] 40 _ _ _ _ (u_here hN htx j (by omega) (u_in (hNow tb ty j) 48 57 (fun q => And.intro (fun e => absurd e (by decide)) (fun _ => ?_)) (fun q => And.intro (fun _ => ?_) (fun e => absurd rfl e))))
              · have q := (hNow_in hb 48 57 (by omega) (by omega) _ _ (by decide) (by decide)).mp q
                rw [if_pos (show pD (tb j) = true from decide_eq_true q.2)] at hp
                obtain ⟨w0, w1, w2, w3, w4⟩ := hQ
                have h9 := of_decide_eq_true hD
                have next : ∀ val', pQ tb s (j + 1 - s) val' → Z 172 [some (.ref 0), some (.int (hNow tb ty s))] [.int (nI val'), .ref 0] (wD tr tx ty n m1 lg ht la (nI j) (nI s) so_ (nI val) fa_ to_ nw ik td th ba bp br sa sb sc z) := by
                  intro val' hQ'
                  have := ih (j + 1) val' (by omega) (by omega) hp hQ'
                  rw [← nI_1] at this
                  exact hZ.1 [126] 20 _ _ _ _ this
                refine And.intro (fun c1 => u_here hN htx j (by omega) ?_) (fun c1 => ?_)
                · have c1 : nI val ≤ (99 : Int32) := c1
                  rw [show (99 : Int32) = nI 99 by decide, nI_leI (by omega) (by omega)] at c1
                  have e5 : (10 * nI val + hNow tb ty j - 48 : Int32) = nI (10 * val + (tb j - 48)) := by
                    rw [show hNow tb ty j = nI (tb j) from if_pos q.1, i10, pk_mul, nI_add, show (48 : Int32) = nI 48 by decide, pk_sub (by omega)]
                    congr 1
                    omega
                  have := next (10 * val + (tb j - 48)) ⟨by omega, fun w => by omega, fun w => by
                    have hj0 : j = s := by omega
                    have := w1 (by omega)
                    rw [hj0, this]; omega, fun w => by
                    have hj0 : j = s + 1 := by omega
                    have := w2 (by omega)
                    rw [hj0, this], fun w hw => by
                    by_cases g : j - s = 2
                    · have := w3 g
                      omega
                    · have := w4 (by omega) hw
                      omega⟩
                  rw [← e5] at this
                  exact this
                · have c1 : ¬ nI val ≤ (99 : Int32) := c1
                  rw [show (99 : Int32) = nI 99 by decide, nI_leI (by omega) (by omega)] at c1
                  exact next val ⟨w0, fun w => by omega, fun w => by have := w1 (by omega); omega, fun w => by have := w2 (by omega); omega, fun w hw => by omega⟩
              · rw [hNow_in hb 48 57 (by omega) (by omega) _ _ (by decide) (by decide)] at q
                rw [if_neg (show ¬ pD (tb j) = true by rw [show pD (tb j) = false from decide_eq_false (fun w => q ⟨by omega, w⟩)]; decide)] at hp
                have f2 := fin2 val (by rw [← hp]; exact hQ)
                rw [← hp] at f2
                exact f2
          exact And.intro (fun e => absurd e (by decide)) (fun _ => loop (ty - s) s 0 (by omega) (Nat.le_refl _) rfl ⟨by omega, fun _ => rfl, fun w => by omega, fun w => by omega, fun w => by omega⟩)
        · rw [hNow_in hb 48 57 (by omega) (by omega) _ _ (by decide) (by decide)] at q2
          have hD : pD (tb s) = false := decide_eq_false (fun w => q2 ⟨hlt, w⟩)
          obtain ⟨g1, g2, g3⟩ := pt_O (tb := tb) hNs hL hD
          rw [g1, g2, g3, ← nI_1] at h
          refine And.intro (fun _ => And.intro (fun c4 => ?_) (fun c4 => ?_)) (fun e => absurd rfl e)
          · have c4 : hNow tb ty s = 59 := c4
            have c4 := ((hNow_eq hb 59 (by omega) _ (by decide)).mp c4).2
            rw [if_pos c4] at h
            exact h 0 (fun w => absurd w (by decide))
          · have c4 : ¬ hNow tb ty s = 59 := c4
            have c4 : ¬ tb s = 59 := fun w => c4 ((hNow_eq hb 59 (by omega) _ (by decide)).mpr ⟨hlt, w⟩)
            rw [if_neg c4] at h
            exact h 0 (fun w => absurd w (by decide))
    · have c : ¬ 0 ≤ hNow tb ty s := c
      have hle : ty ≤ s := by
        unfold hNow at c
        by_cases w : s < ty
        · rw [if_pos w] at c
          exact absurd (nI_pos' (by have := hb s w; omega)) c
        · omega
      obtain ⟨g1, g2, g3⟩ := pt_E (tb := tb) hle
      rw [g1, g2, g3] at h
      exact h 0 (fun w => absurd w (by decide))
  have loop : ∀ (d j : Nat), j + d = ty → pRun (fun j => decide (tb j = 32)) d j = pSk tb ty i → Z 0 [some (.ref 0), none] [] (wD tr tx ty n m1 lg ht la (nI j) st_ so_ va_ fa_ to_ nw ik td th ba bp br sa sb sc z) := by
    intro d
    induction d with
    | zero =>
      intro j hj hp
      refine hZ.1 [0, 22] 40 _ _ _ _ (u_here hN htx j (by omega) (And.intro (fun c => ?_) (fun c => fin j hp (by omega))))
      have := (hNow_eq hb 32 (by omega) _ (by decide)).mp c
      omega
    | succ d ih =>
      intro j hj hp
      unfold pRun at hp
      refine hZ.1 [0, 22] 40 _ _ _ _ (u_here hN htx j (by omega) (And.intro (fun c => ?_) (fun c => ?_)))
      · have c := ((hNow_eq hb 32 (by omega) _ (by decide)).mp c).2
        rw [if_pos (decide_eq_true c)] at hp
        have := ih (j + 1) (by omega) hp
        rw [← nI_1] at this
        exact this
      · have c : ¬ tb j = 32 := fun w => c ((hNow_eq hb 32 (by omega) _ (by decide)).mpr ⟨by omega, w⟩)
        rw [if_neg (by rw [decide_eq_false c]; decide)] at hp
        exact fin j hp (by omega)
  exact loop (ty - i) i (by omega) rfl

end MD
