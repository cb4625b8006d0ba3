
/-! the text: what is told -/
abbrev pS : Type := Nat × (Nat → Nat) × (Nat → Nat) × Option Nat × Option Nat × Option Nat × Nat
def pUp (f : Nat → Nat) (k v : Nat) : Nat → Nat := fun j => if j = k then v else f j
def pNum (T : Nat) (V : Option Nat) (lo hi : Nat) : Option Nat := if T = 2 then (match V with
  | some v => if lo ≤ v ∧ v ≤ hi then some v else none
  | none => none) else none
def pGet (o : Option Nat) (f : Nat → Nat × Nat × pS) : Option (Nat × Nat × pS) := match o with
  | some v => some (f v)
  | none => none
def pDo (T : Nat) (V : Option Nat) (due l : Nat) (s : pS) : Option (Nat × Nat × pS) :=
  if due = 0 then (if T = 1 then (if V = some 101 then (if s.2.2.2.2.1 = none then some (4, l, s) else none) else if V = some 109 then (if s.1 < 7 then some (1, l, s) else none) else if V = some 112 then (if s.2.2.2.1 = none then some (3, l, s) else none) else if V = some 119 then (if s.2.2.2.2.2.1 = none then some (5, l, s) else none) else none) else none)
  else if due = 1 then pGet (pNum T V 1 60) (fun v => (2, v, s))
  else if due = 2 then pGet (pNum T V 1 99) (fun v => (6, l, (s.1 + 1, pUp s.2.1 s.1 l, pUp s.2.2.1 s.1 v, s.2.2.2)))
  else if due = 3 then pGet (pNum T V 1 60) (fun v => (6, l, (s.1, s.2.1, s.2.2.1, some v, s.2.2.2.2)))
  else if due = 4 then pGet (pNum T V 0 10) (fun v => (6, l, (s.1, s.2.1, s.2.2.1, s.2.2.2.1, some v, s.2.2.2.2.2)))
  else if due = 5 then pGet (pNum T V 0 10) (fun v => (6, l, (s.1, s.2.1, s.2.2.1, s.2.2.2.1, s.2.2.2.2.1, some v, s.2.2.2.2.2.2)))
  else if T = 3 then some (0, l, (s.1, s.2.1, s.2.2.1, s.2.2.2.1, s.2.2.2.2.1, s.2.2.2.2.2.1, s.2.2.2.2.2.2 + 1)) else none
abbrev pRs : Type := Nat ⊕ pS
def pR (tb : Nat → Nat) (N : Nat) : Nat → Nat → Nat → Nat → pS → pRs
  | 0, i, _, _, _ => .inl i
  | f + 1, i, due, l, s => if pT tb N (pSk tb N i) = 0 then (if due = 0 then .inr s else .inl (pSk tb N i)) else (match pDo (pT tb N (pSk tb N i)) (pV tb N (pSk tb N i)) due l s with
    | none => .inl (pSk tb N i)
    | some q => pR tb N f (pEn tb N (pSk tb N i)) q.1 q.2.1 q.2.2)
def pS0 : pS := (0, fun _ => 0, fun _ => 0, none, none, none, 0)
theorem pSk_in {tb : Nat → Nat} {N i : Nat} (h : i ≤ N) : i ≤ pSk tb N i ∧ pSk tb N i ≤ N := by
  have := pRun_in (fun j => decide (tb j = 32)) (N - i) i
  unfold pSk
  omega
theorem pT_0 {tb : Nat → Nat} {N s : Nat} : pT tb N s = 0 ↔ N ≤ s := by
  unfold pT
  by_cases h : N ≤ s
  · rw [if_pos h]; exact ⟨fun _ => h, fun _ => rfl⟩
  · rw [if_neg h]
    refine ⟨fun q => ?_, fun q => absurd q h⟩
    split at q
    · omega
    · split at q
      · omega
      · split at q <;> omega
theorem pT_le {tb : Nat → Nat} {N s : Nat} : pT tb N s ≤ 4 := by
  unfold pT
  repeat (first | split | omega)
theorem pRun_gt {P : Nat → Bool} {d i : Nat} (hd : 0 < d) (h : P i = true) : i + 1 ≤ pRun P d i := by
  obtain ⟨e, rfl⟩ : ∃ e, d = e + 1 := ⟨d - 1, by omega⟩
  unfold pRun
  rw [if_pos h]
  exact (pRun_in P e (i + 1)).1
theorem pEn_in {tb : Nat → Nat} {N s : Nat} (h : s < N) : s + 1 ≤ pEn tb N s ∧ pEn tb N s ≤ N := by
  have hN : ¬ N ≤ s := by omega
  cases h2 : pL (tb s) with
  | true =>
    rw [(pt_L hN h2).1]
    have h3 := pRun_in (fun j => pL (tb j)) (N - s) s
    have h4 := pRun_gt (P := fun j => pL (tb j)) (d := N - s) (i := s) (by omega) h2
    unfold pLe
    omega
  | false =>
    cases h3 : pD (tb s) with
    | true =>
      rw [(pt_D hN h2 h3).1]
      have h3' := pRun_in (fun j => pD (tb j)) (N - s) s
      have h4 := pRun_gt (P := fun j => pD (tb j)) (d := N - s) (i := s) (by omega) h3
      unfold pDe
      omega
    | false =>
      rw [(pt_O hN h2 h3).1]
      omega
theorem pDg_in {tb : Nat → Nat} {s : Nat} (h : pD (tb s) = true) : tb s - 48 ≤ 9 := by
  have := of_decide_eq_true h
  omega
theorem pV_lt {tb : Nat → Nat} {N s v : Nat} (hb : ∀ j, j < N → tb j < 256) (h : pV tb N s = some v) : v < 3000 := by
  unfold pV pNv at h
  by_cases hN : N ≤ s
  · rw [if_pos hN] at h; cases h
  · rw [if_neg hN] at h
    have h1 := hb s (by omega)
    split at h
    · split at h
      · cases h; omega
      · cases h
    · split at h
      · split at h
        · cases h; omega
        · split at h
          · rename_i hq
            have h3 := pRun_in (fun j => pD (tb j)) (N - s) s
            unfold pDe at hq
            have h2 := hb (s + 1) (by omega)
            cases h
            omega
          · cases h
      · cases h
theorem oI_n1 {o : Option Nat} (h : ∀ v, o = some v → v < 3000) : oI o = -1 ↔ o = none := by
  cases o with
  | none => exact ⟨fun _ => rfl, fun _ => rfl⟩
  | some v =>
    refine ⟨fun q => ?_, fun q => by cases q⟩
    have q : nI v = -1 := q
    have := congrArg Int32.toInt q
    rw [nI_toInt (by have := h v rfl; omega)] at this
    have e9 : (-1 : Int32).toInt = -1 := by decide
    rw [e9] at this
    omega
theorem oI_is {o : Option Nat} (h : ∀ v, o = some v → v < 3000) (w : Nat) (hw : w < 3000) : (oI o).toInt = (w : Int) ↔ o = some w := by
  cases o with
  | none =>
    refine ⟨fun q => ?_, fun q => by cases q⟩
    have e9 : (-1 : Int32).toInt = -1 := by decide
    have q : (-1 : Int32).toInt = (w : Int) := q
    omega
  | some v =>
    show (nI v).toInt = (w : Int) ↔ _
    rw [nI_toInt (by have := h v rfl; omega)]
    constructor
    · intro q
      congr 1
      omega
    · intro q
      cases q
      rfl
section TL
variable {pp ee ww it st : Int32} {r : Nat} {ln at_ tk va du lv : Int32} {k : Nat} {la ha tx : Nat → Int32} {post : zP} {K : zP} {tb : Nat → Nat} {N : Nat}
set_option maxRecDepth 100000 in
theorem u_numW (T : Nat) (hT : T ≤ 4) (V : Option Nat) (hV : ∀ v, V = some v → v < 3000) (lo hi : Nat) (hhi : hi < 3000) (hlo : lo ≤ 1) (A B : Int32) (hA : A = nI lo) (hB : B = nI hi) (h : K (some (.int (oI (pNum T V lo hi)))) (wT pp ee ww it st r ln at_ (nI T) (oI V) du lv k la ha tx)) : zFV 6 3 (zGoes mX6_numberWithin 1 3) [.ref 0, .int A, .int B] (wT pp ee ww it st r ln at_ (nI T) (oI V) du lv k la ha tx) K := by
  subst hA; subst hB
  refine And.intro rfl (Or.inl ⟨rfl, rfl, ?_⟩)
  intro Z hZ
  unfold pNum at h
  refine hZ.1 [] 40 _ _ _ _ (And.intro (fun c => u_within (oI V) (nI lo) (nI hi) (fun q => ?_) (fun q => ?_)) (fun c => ?_))
  · rw [← n2, nI_eq (by omega) (by omega)] at c
    rw [if_pos c] at h
    cases V with
    | none =>
      have q1 : nI lo ≤ -1 := q.1
      exact absurd (Int32.le_trans (nI_pos' (n := lo) (by omega)) q1) (by decide)
    | some v =>
      have hv := hV v rfl
      have q : nI lo ≤ nI v ∧ nI v ≤ nI hi := q
      rw [nI_leI (by omega) (by omega), nI_leI (by omega) (by omega)] at q
      have h : K (some (.int (oI (if lo ≤ v ∧ v ≤ hi then some v else none)))) (wT pp ee ww it st r ln at_ (nI T) (oI (some v)) du lv k la ha tx) := h
      rw [if_pos q] at h
      exact And.intro (fun e => absurd e (by decide)) (fun _ => h)
  · rw [← n2, nI_eq (by omega) (by omega)] at c
    rw [if_pos c] at h
    cases V with
    | none => exact And.intro (fun _ => h) (fun e => absurd rfl e)
    | some v =>
      have hv := hV v rfl
      have q : ¬ (nI lo ≤ nI v ∧ nI v ≤ nI hi) := q
      rw [nI_leI (by omega) (by omega), nI_leI (by omega) (by omega)] at q
      have h : K (some (.int (oI (if lo ≤ v ∧ v ≤ hi then some v else none)))) (wT pp ee ww it st r ln at_ (nI T) (oI (some v)) du lv k la ha tx) := h
      rw [if_neg q] at h
      exact And.intro (fun _ => h) (fun e => absurd rfl e)
  · rw [← n2, nI_eq (by omega) (by omega)] at c
    rw [if_neg c] at h
    exact h
theorem pNum_lt {T lo hi v : Nat} {V : Option Nat} (h : pNum T V lo hi = some v) : lo ≤ v ∧ v ≤ hi := by
  unfold pNum at h
  split at h
  · split at h
    · split at h
      · cases h; assumption
      · cases h
    · cases h
  · cases h
theorem pNum_1 {T lo hi : Nat} {V : Option Nat} (hhi : hi < 3000) : oI (pNum T V lo hi) = -1 ↔ pNum T V lo hi = none := oI_n1 (fun v hv => by have := pNum_lt hv; omega)
set_option maxRecDepth 100000 in
set_option maxHeartbeats 4000000 in
theorem u_stands (T : Nat) (hT : T ≤ 4) (V : Option Nat) (hV : ∀ v, V = some v → v < 3000) (due l : Nat) (hdue : due ≤ 6) (s : pS) (hk7 : due = 2 → s.1 < 7) (hs7 : s.1 ≤ 7) (hpp : ∀ v, s.2.2.2.1 = some v → v < 3000) (hee : ∀ v, s.2.2.2.2.1 = some v → v < 3000) (hww : ∀ v, s.2.2.2.2.2.1 = some v → v < 3000) (hla : ∀ j, j < s.1 → la j = nI (s.2.1 j) ∧ ha j = nI (s.2.2.1 j)) (hlv : due = 2 → lv = nI l)
    (h1 : ∀ due' l' s', pDo T V due l s = some (due', l', s') → ∀ la' ha' lv', (∀ j, j < s'.1 → la' j = nI (s'.2.1 j) ∧ ha' j = nI (s'.2.2.1 j)) → (due' = 2 → lv' = nI l') → K (some (.int 1)) (wT (oI s'.2.2.2.1) (oI s'.2.2.2.2.1) (oI s'.2.2.2.2.2.1) (nI s'.2.2.2.2.2.2) st r ln at_ (nI T) (oI V) (nI due') lv' (s'.1) la' ha' tx))
    (h0 : pDo T V due l s = none → ∀ pp ee ww it du lv k la ha, K (some (.int 0)) (wT pp ee ww it st r ln at_ (nI T) (oI V) du lv k la ha tx)) : zFV 6 1 (zGoes mX6_tokenStands 3 1) [.ref 0] (wT (oI s.2.2.2.1) (oI s.2.2.2.2.1) (oI s.2.2.2.2.2.1) (nI s.2.2.2.2.2.2) st r ln at_ (nI T) (oI V) (nI due) lv (s.1) la ha tx) K := by
  refine And.intro rfl (Or.inl ⟨rfl, rfl, ?_⟩)
  intro Z hZ
  have ed : (nI due).toInt = (due : Int) := nI_toInt (by omega)
  refine hZ.1 [] 60 _ _ _ _ (And.intro (fun e => ?_) (And.intro (fun e => ?_) (And.intro (fun e => ?_) (And.intro (fun e => ?_) (And.intro (fun e => ?_) (And.intro (fun e => ?_) (And.intro (fun e => ?_) trivial)))))))
  · rw [ed] at e
    have e6 : due = 6 := by omega
    subst e6
    refine And.intro rfl (Or.inl ⟨rfl, rfl, ?_⟩)
    intro Y hY
    refine hY.1 [] 40 _ _ _ _ (And.intro (fun c => And.intro (Or.inr rfl) (And.intro (Or.inr rfl) ?_)) (fun c => And.intro (Or.inl rfl) (And.intro (Or.inl rfl) ?_)))
    · rw [show (3 : Int32) = nI 3 by decide, nI_eq (by omega) (by omega)] at c
      have := h1 0 l (s.1, s.2.1, s.2.2.1, s.2.2.2.1, s.2.2.2.2.1, s.2.2.2.2.2.1, s.2.2.2.2.2.2 + 1) (by unfold pDo; subst c; rfl) la ha lv hla (fun q => absurd q (by decide))
      rw [← nI_1] at this
      exact this
    · rw [show (3 : Int32) = nI 3 by decide, nI_eq (by omega) (by omega)] at c
      exact h0 (by unfold pDo; simp [c]) _ _ _ _ _ _ _ _ _
  · rw [ed] at e
    have e6 : due = 0 := by omega
    subst e6
    refine And.intro rfl (Or.inl ⟨rfl, rfl, ?_⟩)
    intro Y hY
    have yes : ∀ d', pDo T V 0 l s = some (d', l, s) → d' ≠ 2 → K (some (.int 1)) (wT (oI s.2.2.2.1) (oI s.2.2.2.2.1) (oI s.2.2.2.2.2.1) (nI s.2.2.2.2.2.2) st r ln at_ (nI T) (oI V) (nI d') lv (s.1) la ha tx) := fun d' hd hd2 => h1 d' l s hd la ha lv hla (fun q => absurd q hd2)
    refine hY.1 [] 60 _ _ _ _ (And.intro (fun c => And.intro (fun v => ?_) (fun v1 => And.intro (fun v => ?_) (fun v2 => And.intro (fun v => ?_) (fun v3 => And.intro (fun v => ?_) (fun v4 => ?_))))) (fun c => And.intro (Or.inl rfl) (And.intro (Or.inl rfl) ?_)))
    · rw [← n1, nI_eq (by omega) (by omega)] at c
      have v := (oI_is hV 101 (by omega)).mp v
      subst c; subst v
      refine And.intro (fun g => And.intro (Or.inr rfl) (And.intro (Or.inr rfl) (yes 4 ?_ (by decide)))) (fun g => And.intro (Or.inl rfl) (And.intro (Or.inl rfl) (h0 ?_ _ _ _ _ _ _ _ _ _)))
      · have g := (oI_n1 hee).mp g
        unfold pDo
        simp [g]
      · have g : ¬ s.2.2.2.2.1 = none := fun q => g ((oI_n1 hee).mpr q)
        unfold pDo
        simp [g]
    · rw [← n1, nI_eq (by omega) (by omega)] at c
      have v := (oI_is hV 109 (by omega)).mp v
      subst c; subst v
      refine And.intro (fun g => And.intro (Or.inl rfl) (And.intro (Or.inl rfl) (h0 ?_ _ _ _ _ _ _ _ _ _))) (fun g => And.intro (Or.inr rfl) (And.intro (Or.inr rfl) (yes 1 ?_ (by decide))))
      · have g : (7 : Int32) ≤ nI s.1 := g
        rw [← n7, nI_leI (by omega) (by omega)] at g
        unfold pDo
        simp [show ¬ s.1 < 7 by omega]
      · have g : ¬ (7 : Int32) ≤ nI s.1 := g
        rw [← n7, nI_leI (by omega) (by omega)] at g
        unfold pDo
        simp [show s.1 < 7 by omega]
    · rw [← n1, nI_eq (by omega) (by omega)] at c
      have v := (oI_is hV 112 (by omega)).mp v
      subst c; subst v
      refine And.intro (fun g => And.intro (Or.inr rfl) (And.intro (Or.inr rfl) (yes 3 ?_ (by decide)))) (fun g => And.intro (Or.inl rfl) (And.intro (Or.inl rfl) (h0 ?_ _ _ _ _ _ _ _ _ _)))
      · have g := (oI_n1 hpp).mp g
        unfold pDo
        simp [g]
      · have g : ¬ s.2.2.2.1 = none := fun q => g ((oI_n1 hpp).mpr q)
        unfold pDo
        simp [g]
    · rw [← n1, nI_eq (by omega) (by omega)] at c
      have v := (oI_is hV 119 (by omega)).mp v
      subst c; subst v
      refine And.intro (fun g => And.intro (Or.inr rfl) (And.intro (Or.inr rfl) (yes 5 ?_ (by decide)))) (fun g => And.intro (Or.inl rfl) (And.intro (Or.inl rfl) (h0 ?_ _ _ _ _ _ _ _ _ _)))
      · have g := (oI_n1 hww).mp g
        unfold pDo
        simp [g]
      · have g : ¬ s.2.2.2.2.2.1 = none := fun q => g ((oI_n1 hww).mpr q)
        unfold pDo
        simp [g]
    · have w1 : ¬ V = some 101 := fun q => v1 ((oI_is hV 101 (by omega)).mpr q)
      have w2 : ¬ V = some 109 := fun q => v2 ((oI_is hV 109 (by omega)).mpr q)
      have w3 : ¬ V = some 112 := fun q => v3 ((oI_is hV 112 (by omega)).mpr q)
      have w4 : ¬ V = some 119 := fun q => v4 ((oI_is hV 119 (by omega)).mpr q)
      exact And.intro (Or.inl rfl) (And.intro (Or.inl rfl) (h0 (by unfold pDo; simp [w1, w2, w3, w4]) _ _ _ _ _ _ _ _ _))
    · rw [← n1, nI_eq (by omega) (by omega)] at c
      exact h0 (by unfold pDo; simp [c]) _ _ _ _ _ _ _ _ _
  · rw [ed] at e
    have e6 : due = 1 := by omega
    subst e6
    refine u_numW T hT V hV 1 60 (by omega) (by omega) _ _ (by decide) (by decide) (And.intro (fun g => And.intro (Or.inl rfl) ?_) (fun g => And.intro (Or.inr rfl) ?_))
    · have g := (pNum_1 (by omega)).mp g
      exact h0 (by unfold pDo; simp [g, pGet]) _ _ _ _ _ _ _ _ _
    · cases hq : pNum T V 1 60 with
      | none => exact absurd ((pNum_1 (by omega)).mpr hq) g
      | some v => exact h1 2 v s (by unfold pDo; simp [hq, pGet]) la ha (nI v) hla (fun _ => rfl)
  · rw [ed] at e
    have e6 : due = 2 := by omega
    subst e6
    refine u_numW T hT V hV 1 99 (by omega) (by omega) _ _ (by decide) (by decide) (And.intro rfl (Or.inl ⟨rfl, rfl, ?_⟩))
    intro Y hY
    refine hY.1 [] 40 _ _ _ _ (And.intro (fun g => And.intro (Or.inl rfl) (And.intro (Or.inl rfl) ?_)) (fun g => And.intro rfl (Or.inr ⟨[1, 2, 3], [.ref 0, .int lv, .int (oI (pNum T V 1 99))], wM1 s.1 la ha, ⟨rfl, rfl, rfl⟩, ⟨Nat.le_of_ble_eq_true rfl, rfl⟩, rfl, t_join (hk7 rfl) _ _ (And.intro (Or.inr rfl) (And.intro (Or.inr rfl) ?_))⟩)))
    · have g := (pNum_1 (by omega)).mp g
      exact h0 (by unfold pDo; simp [g, pGet]) _ _ _ _ _ _ _ _ _
    · cases hq : pNum T V 1 99 with
      | none => exact absurd ((pNum_1 (by omega)).mpr hq) g
      | some v =>
        refine h1 6 l (s.1 + 1, pUp s.2.1 s.1 l, pUp s.2.2.1 s.1 v, s.2.2.2) (by unfold pDo; simp [hq, pGet]) (upd la s.1 lv) (upd ha s.1 (nI v)) lv (fun j hj => ?_) (fun q => absurd q (by decide))
        show upd la s.1 lv j = nI (pUp s.2.1 s.1 l j) ∧ upd ha s.1 (nI v) j = nI (pUp s.2.2.1 s.1 v j)
        unfold pUp
        by_cases c : j = s.1
        · rw [c, pk_us, pk_us, if_pos rfl, if_pos rfl]
          exact ⟨hlv rfl, rfl⟩
        · rw [pk_un c, pk_un c, if_neg c, if_neg c]
          exact hla j (by have hj : j < s.1 + 1 := hj; omega)
  · rw [ed] at e
    have e6 : due = 3 := by omega
    subst e6
    refine u_numW T hT V hV 1 60 (by omega) (by omega) _ _ (by decide) (by decide) (And.intro (fun g => And.intro (Or.inl rfl) ?_) (fun g => And.intro (Or.inr rfl) ?_))
    · have g := (pNum_1 (by omega)).mp g
      exact h0 (by unfold pDo; simp [g, pGet]) _ _ _ _ _ _ _ _ _
    · cases hq : pNum T V 1 60 with
      | none => exact absurd ((pNum_1 (by omega)).mpr hq) g
      | some v => exact h1 6 l (s.1, s.2.1, s.2.2.1, some v, s.2.2.2.2) (by unfold pDo; simp [hq, pGet]) la ha lv hla (fun q => absurd q (by decide))
  · rw [ed] at e
    have e6 : due = 4 := by omega
    subst e6
    refine u_numW T hT V hV 0 10 (by omega) (by omega) _ _ (by decide) (by decide) (And.intro (fun g => And.intro (Or.inl rfl) ?_) (fun g => And.intro (Or.inr rfl) ?_))
    · have g := (pNum_1 (by omega)).mp g
      exact h0 (by unfold pDo; simp [g, pGet]) _ _ _ _ _ _ _ _ _
    · cases hq : pNum T V 0 10 with
      | none => exact absurd ((pNum_1 (by omega)).mpr hq) g
      | some v => exact h1 6 l (s.1, s.2.1, s.2.2.1, s.2.2.2.1, some v, s.2.2.2.2.2) (by unfold pDo; simp [hq, pGet]) la ha lv hla (fun q => absurd q (by decide))
  · rw [ed] at e
    have e6 : due = 5 := by omega
    subst e6
    refine u_numW T hT V hV 0 10 (by omega) (by omega) _ _ (by decide) (by decide) (And.intro (fun g => And.intro (Or.inl rfl) ?_) (fun g => And.intro (Or.inr rfl) ?_))
    · have g := (pNum_1 (by omega)).mp g
      exact h0 (by unfold pDo; simp [g, pGet]) _ _ _ _ _ _ _ _ _
    · cases hq : pNum T V 0 10 with
      | none => exact absurd ((pNum_1 (by omega)).mpr hq) g
      | some v => exact h1 6 l (s.1, s.2.1, s.2.2.1, s.2.2.2.1, s.2.2.2.2.1, some v, s.2.2.2.2.2.2) (by unfold pDo; simp [hq, pGet]) la ha lv hla (fun q => absurd q (by decide))
end TL
