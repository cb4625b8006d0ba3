
/-! ===== constructors: runs, contracts, calls ===== -/
noncomputable def zrunN (M : zM) (X : zX) (cap : Nat) (sc : Option (Nat × (Nat → Int32))) (Rt : zP) (K : zK) (cuts : List Nat) (k : Nat) : zK := Nat.rec (motive := fun _ => zK) K (fun _ ih pc ls st ws => match cuts.any (Nat.beq pc) with
  | true => K pc ls st ws
  | false => zstepN M X cap sc Rt ih pc ls st ws) k
theorem zrunN_ok {M : zM} {X : zX} {cap : Nat} {sc : Option (Nat × (Nat → Int32))} {Rt : zP} {OK : zK} (hs : ∀ K : zK, (∀ pc ls st ws, K pc ls st ws → OK pc ls st ws) → ∀ pc ls st ws, zstepN M X cap sc Rt K pc ls st ws → OK pc ls st ws) (cuts : List Nat) : ∀ (k pc : Nat) (ls : List (Option Value)) (st : List Value) (ws : zW), zrunN M X cap sc Rt OK cuts k pc ls st ws → OK pc ls st ws := by
  intro k
  induction k with
  | zero => intro pc ls st ws h; exact h
  | succ k ih =>
    intro pc ls st ws h
    have h : (match cuts.any (Nat.beq pc) with
      | true => OK pc ls st ws
      | false => zstepN M X cap sc Rt (zrunN M X cap sc Rt OK cuts k) pc ls st ws) := h
    split at h
    · exact h
    · exact hs _ ih pc ls st ws h
def zRtN (b N : Nat) (post : zP) : zP := fun rv u => match rv with
  | none => zbool (Nat.beq u.length (b + N) && u.all (zckC (b + N))) (post none u)
  | _ => False
def zClN (M : zM) (X : zX) (cap : Nat) (sc : Option (Nat × (Nat → Int32))) (Rt : zP) (K : zK) : Prop := (∀ (cuts : List Nat) (k pc : Nat) (ls : List (Option Value)) (st : List Value) (ws : zW), zstepN M X cap sc Rt (zrunN M X cap sc Rt K cuts k) pc ls st ws → K pc ls st ws) ∧ ∀ (pc : Nat) (ls : List (Option Value)) (st : List Value) (ws ws' : zW), zEqW ws ws' → K pc ls st ws' → K pc ls st ws
def zGoesN (M : zM) (X : zX) (N nL : Nat) : zG := fun as ws post => ∀ K : zK, zClN M X (ws.length + N) none (zRtN ws.length N post) K → K 0 (zEnt as nL) [] ws
def zPreN (D : va_G) (cy : Nat → ClassId) (ad : Nat → Nat) (sz : Nat) (as : List Value) (ws : zW) : Array Value → State → Prop := va_Pc (as.map (zv ad)) (fun U => U.heap.size = sz ∧ va_P D vwCl (zws cy ad ws) U.heap ∧ zKN D cy U ∧ va_D (fun _ => True) (zws cy ad ws))
def zQN (D : va_G) (cy : Nat → ClassId) (ad : Nat → Nat) (sz : Nat) (ws : zW) (N : Nat) (post : zP) : Array Value → State → Outcome → State → Prop := va_Qv (S := zW × (Nat → Nat)) (fun u => post none u.1 ∧ (u.1.length = ws.length + N ∧ u.1.all (zckC (ws.length + N)) = true) ∧ zag ws.length ad u.2) (fun u t => va_P D vwCl (zws cy u.2 u.1) t.heap ∧ va_D (va_A (zws cy ad ws) sz) (zws cy u.2 u.1)) (va_A (zws cy ad ws) sz)
def zMetN (l : Launch) (y : MethodName) (Tw : List Jvm.Cond) (rm : Room) (N : Nat) (as : List Value) (ws : zW) (post : zP) : Prop := ∀ (D : va_G) (cy : Nat → ClassId) (ad : Nat → Nat) (sz : Nat), Met l y Tw rm (zPreN D cy ad sz as ws) (zQN D cy ad sz ws N post) N (828 * N) (va_A (zws cy ad ws) sz)
theorem zPreN_blind {D : va_G} {cy : Nat → ClassId} {ad : Nat → Nat} {sz : Nat} {as : List Value} {ws : zW} : FrameBlind (zPreN D cy ad sz as ws) := by
  intro a U g mk h
  obtain ⟨h1, h2, h3, h4, h5⟩ := h
  exact ⟨h1, h2, h3, h4.calling, h5⟩
theorem zON_eq {p : Program} {l : Launch} {e : Env} {R : Room} {s : State} {m : MethodId} {args : Array Value} {below : List Frame} {meth : Method} {c : Code} {Q : State → Prop} {nL : Nat} {D : va_G} {cy : Nat → ClassId} {ad0 : Nat → Nat} {A : Nat → Prop} {b cap : Nat} {pc : Nat} {ls : List (Option Value)} {st : List Value} {ws ws' : zW} (he : zEqW ws ws') (h : zON p l e R s m args below meth c nL D cy ad0 A b cap Q pc ls st ws') : zON p l e R s m args below meth c nL D cy ad0 A b cap Q pc ls st ws := by
  obtain ⟨h1, h2⟩ := zEqW_get he
  intro ad H locs lsC hP hD hS hn ha hl
  have := h ad H locs lsC (fun k q hk => ?_) (zD_len hD h1.symm) hS (by rw [← h1]; exact hn) ha hl
  · rw [← h1] at this
    exact this
  obtain ⟨c', hc', rfl⟩ := zws_inv hk
  obtain ⟨d, hd, hdc⟩ := h2 k c' hc'
  exact zEqC_at hdc (hP k _ (zws_get hd))
def zCallsN (M : zM) (X : zX) (l : Launch) (cc : ByteArray) (own : String) (Ts : List Jvm.Cond) (rm : Room) (nL N : Nat) : Prop := ∀ (p : Program) (e : Env) (s : State) (m : MethodId) (args : Array Value) (below : List Frame) (meth : Method) (c : Code) (D : va_G) (cy : Nat → ClassId) (A : Nat → Prop) (b : Nat) (Q : State → Prop), CallFix p m c cc nL s args Ts own → zKN D cy s → (∀ q, s.heap.size ≤ q → A q) → b + N ≤ 900 →
  (∀ (ad : Nat → Nat) (n0 : Nat), n0 ≤ b + N → b ≤ n0 → ∀ (ix n : Nat) (G : zG), M.2.2.2.2.2.2.1.lookup ix = some (n, G) → zCO p l e rm s m args below meth c cc nL D cy ad A n0 (n0 - b) (828 * (n0 - b)) Q (.invokevirtual ix) n G) ∧ (∀ (ix n N' : Nat) (G : zG), X.2.2.2.2.lookup ix = some (n, N', G) → zCI p l e rm s m args below meth c cc nL D cy A b (b + N) Q ix n N' G)
set_option maxHeartbeats 4000000 in
theorem zGoesN_met {l : Launch} {y : MethodName} {M : zM} {X : zX} {cc : ByteArray} {nL N : Nat} {rm : Room} {as : List Value} {ws : zW} {post : zP} (hy : plainName y.cls = true) (hyn : y.name = "<init>") (hrm : 1 ≤ rm.frames ∧ 150 ≤ rm.locals) (hrc : rm.cells = N ∧ rm.slots = 828 * N) (hg : zGood M cc y.cls (zwd y cc nL none)) (hgX : zGoodX X y.cls (zwd y cc nL none)) (hob : X.2.2.2.1 ≠ 0) (hst : M.2.2.2.2.2.2.2 = []) (hcalls : zCallsN M X l cc y.cls (zwd y cc nL none) rm nL N) (hn : as.length ≤ nL) (hc : ∀ v ∈ as, v.category = 1) (hcap : ws.length + N ≤ 900) (h : zGoesN M X N nL as ws post) : zMetN l y (zwd y cc nL none) rm N as ws post := by
  intro D cy ad sz
  refine Met.ofW (cc := cc) (maxL := nL) (ret := none) hy rfl ?_
  intro p e s m args below meth c s₁ B hml hv
  obtain ⟨rfl, hsz, hP, hKN, hD0⟩ := hv
  have hx := B.exec
  have hb := B.bytes
  have hr := B.returns
  have hts := atoms_spec (ws := zwd y cc nL none) B.pre
  have hown : s.vm.findClass y.cls = some m.cls := findClass_of_methodNamed B.named
  have hin : meth.name = "<init>" := (name_of_methodNamed B.named B.method).1.trans hyn
  have hlocks := B.notSynchronized
  subst hsz
  have hD := hD0.self (sz := s.heap.size)
  generalize hAe : va_A (zws cy ad ws) s.heap.size = A at hD ⊢
  have hA : ∀ q : Nat, s.heap.size ≤ q → A q := fun q h => by rw [← hAe]; exact Or.inr h
  have hS : va_S A s.heap s.heap [] := va_S.rf
  rw [lg_entry_eq]
  have hcl := hcalls p e s m (as.map (zv ad)).toArray below meth c D cy A ws.length (MQ below (zQN D cy ad s.heap.size ws N post) (as.map (zv ad)).toArray s N (828 * N) A) ⟨hx, hb, hml, hown, hts⟩ hKN hA hcap
  have hRt : ∀ (ad1 : Nat → Nat) (n0 : Nat), n0 ≤ ws.length + N → ws.length ≤ n0 → zag ws.length ad ad1 → zRO p l e rm s m (as.map (zv ad)).toArray below meth c cc D cy ad1 A n0 (n0 - ws.length) (828 * (n0 - ws.length)) (MQ below (zQN D cy ad s.heap.size ws N post) (as.map (zv ad)).toArray s N (828 * N) A) (zRtN ws.length N post) := by
    intro ad1 n0 hn0 hn1 hag rv u pc H locs lsC hrv hd _ p1 d1 s1 n1
    match rv, hrv, hd with
    | none, hrv, hd =>
      obtain ⟨g1, g2⟩ := zbool_inv hrv
      rw [Bool.and_eq_true] at g1
      have g3 := Nat.eq_of_beq_eq_true g1.1
      refine W.widen (k := N) (n := 828 * N) (by omega) (by omega) (W.vret hx hb hr (fun t ht hW => ?_) s1.2.2 hd)
      exact ⟨⟨(u, ad1), rfl, ⟨g2, ⟨g3, g1.2⟩, hag⟩, ⟨show va_P D vwCl (zws cy ad1 u) t.heap by rw [ht]; exact p1, show va_D (va_A (zws cy ad ws) s.heap.size) (zws cy ad1 u) by rw [hAe]; exact d1⟩⟩, by rw [hAe]; exact s1.F ht⟩
    | some v, hrv, hd => exact hrv.elim
  have hs : ∀ K : zK, (∀ pc ls st ws', K pc ls st ws' → zON p l e rm s m (as.map (zv ad)).toArray below meth c nL D cy ad A ws.length (ws.length + N) (MQ below (zQN D cy ad s.heap.size ws N post) (as.map (zv ad)).toArray s N (828 * N) A) pc ls st ws') → ∀ pc ls st ws', zstepN M X (ws.length + N) none (zRtN ws.length N post) K pc ls st ws' → zON p l e rm s m (as.map (zv ad)).toArray below meth c nL D cy ad A ws.length (ws.length + N) (MQ below (zQN D cy ad s.heap.size ws N post) (as.map (zv ad)).toArray s N (828 * N) A) pc ls st ws' := by
    intro K hK pc ls st ws' h1
    exact zstepN_ok hx hb hml hown hts hKN hrm ⟨by omega, by omega, hcap⟩ hA hg hgX (Or.inr hin) (fun w => absurd w hob) (fun L xs w => by cases w) hcl.1 (fun ad n0 _ _ ix n G w => by rw [hst] at w; cases w) hcl.2 hRt hK pc ls st ws' h1
  have hgo := h _ ⟨fun cuts k pc ls st ws' h1 => hs _ (zrunN_ok hs cuts k) pc ls st ws' h1, fun pc ls st w1 w2 he h1 => zON_eq he h1⟩
  have := hgo ad s.heap [] _ hP hD hS ⟨Nat.le_refl _, Nat.le_add_right _ _⟩ (fun _ _ => rfl) (zLH_entry ad hc hn)
  rw [Nat.sub_self] at this
  exact this
def zrn (k L x : Nat) : Nat → Nat := fun i => match Nat.beq i 0 with
  | true => k
  | false => match Nat.blt i 1000 with
    | true => L + (i - 1)
    | false => x
theorem zrn_0 (k L x : Nat) : zrn k L x 0 = k := rfl
theorem zrn_n {k L x i : Nat} (h0 : 0 < i) (h1 : i < 1000) : zrn k L x i = L + (i - 1) := by
  unfold zrn
  rw [show Nat.beq i 0 = false from by
    cases h : Nat.beq i 0 with
    | false => rfl
    | true => have := Nat.eq_of_beq_eq_true h; omega, show Nat.blt i 1000 = true by simpa using h1]
theorem zrn_x {k L x i : Nat} (h1 : 1000 ≤ i) : zrn k L x i = x := by
  unfold zrn
  rw [show Nat.beq i 0 = false from by
    cases h : Nat.beq i 0 with
    | false => rfl
    | true => have := Nat.eq_of_beq_eq_true h; omega, show Nat.blt i 1000 = false from by
    cases h : Nat.blt i 1000 with
    | false => rfl
    | true => have : i < 1000 := by simpa using h
              omega]
def zFN (n ci : Nat) (G0 : zG) : zG := fun as ws K => ∃ (k x : Nat) (al : List Value), (as = al.map (zv (zrn k ws.length x)) ∧ al.length = n ∧ al.all (fun v => Nat.beq v.category 1) = true ∧ al.head? = some (.ref 0)) ∧ ((Nat.blt x ws.length || Nat.ble 1000 x) = true ∧ ws[k]? = some (.inr (.inr (ci, zZ ci)))) ∧ G0 al [.inr (.inr (ci, zZ ci))] (fun _ wl => K none (ws.set k (zrc (zrn k ws.length x) (wl.headD (.inr (.inr (ci, zZ ci))))) ++ wl.tail.map (zrc (zrn k ws.length x))))
section ZI
variable {p : Program} {l : Launch} {e : Env} {R : Room} {s : State} {m : MethodId} {args : Array Value} {below : List Frame} {meth : Method} {c : Code} {Q : State → Prop} {cc : ByteArray} {own : String} {Ts : List Jvm.Cond} {nL : Nat} {D : va_G} {cy : Nat → ClassId} {A : Nat → Prop} {b cap : Nat}
variable {y : MethodName} {bytes : ByteArray} {maxL n ix N : Nat} {rmc : Room}
set_option maxHeartbeats 4000000 in
theorem zci_go {H : Heap} {locs : List Loc} {ws : zW} {rest : List Value} {st0 : List Value} {a : Array Value} {pc k x ci : Nat} {ad : Nat → Nat} {lsC : Array Slot} {K : zP} (hP : va_P D vwCl (zws cy ad ws) H) (hD : va_D A (zws cy ad ws)) (hS : va_S A s.heap H locs) (hA : ∀ q, s.heap.size ≤ q → A q) (hbw : b ≤ ws.length) (hcw : ws.length + N ≤ 900) (hck : ws.all (zckC ws.length) = true) (hx : x < ws.length ∨ 1000 ≤ x) (hk : ws[k]? = some (.inr (.inr (ci, zZ ci))))
    (hrun : va_Run p l e R s m args below meth c H locs (ws.length - b) (828 * (ws.length - b)) N (828 * N) (F0 m pc lsC st0) rest (zQN D cy (fun i => ad (zrn k ws.length x i)) H.size [.inr (.inr (ci, zZ ci))] N (fun _ wl => K none (ws.set k (zrc (zrn k ws.length x) (wl.headD (.inr (.inr (ci, zZ ci))))) ++ wl.tail.map (zrc (zrn k ws.length x)))) a) (va_A (zws cy (fun i => ad (zrn k ws.length x i)) [.inr (.inr (ci, zZ ci))]) H.size))
    (kk : ∀ (ws' : zW) (ad' : Nat → Nat) (H1 : Heap) (locs1 : List Loc), K none ws' → va_P D vwCl (zws cy ad' ws') H1 → va_D A (zws cy ad' ws') → va_S A s.heap H1 locs1 → ws'.length = ws.length + N → zag ws.length ad ad' → W p l e R s m args below meth c H1 locs1 (ws'.length - b) (828 * (ws'.length - b)) Q (F0 m (pc + 3) lsC rest)) : W p l e R s m args below meth c H locs (ws.length - b) (828 * (ws.length - b)) Q (F0 m pc lsC st0) := by
  have hkl : k < ws.length := (List.getElem?_eq_some_iff.mp hk).1
  have hA1 : ∀ q, va_A (zws cy (fun i => ad (zrn k ws.length x i)) [.inr (.inr (ci, zZ ci))]) H.size q → q = ad k ∨ H.size ≤ q := by
    rintro q (⟨i, w, hi⟩ | hq)
    · obtain ⟨c1, hc1, e1⟩ := zws_inv hi
      have hi0 : i = 0 := by
        have := (List.getElem?_eq_some_iff.mp hc1).1
        simp at this
        exact this
      subst hi0
      exact Or.inl (congrArg Prod.fst e1)
    · exact Or.inr hq
  have hf : ∀ q, va_A (zws cy (fun i => ad (zrn k ws.length x i)) [.inr (.inr (ci, zZ ci))]) H.size q → A q := by
    intro q hq
    rcases hA1 q hq with rfl | h
    · exact hD.2 k _ (zws_get hk)
    · exact hA q (Nat.le_trans hS.1 h)
  refine va_callv (a := a) hrun hS (fun q _ h => hf q h) hf (fun u t H1 locs1 ht hvm hp hB hz hkk hS1 => ?_)
  obtain ⟨u, adu⟩ := u
  obtain ⟨hp1, ⟨hp2, hp2'⟩, hp3⟩ := hp
  obtain ⟨hB1, hB2⟩ := hB
  have hp1 : K none (ws.set k (zrc (zrn k ws.length x) (u.headD (.inr (.inr (ci, zZ ci))))) ++ u.tail.map (zrc (zrn k ws.length x))) := hp1
  have hp2 : u.length = 1 + N := hp2
  have hp2' : u.all (zckC (1 + N)) = true := hp2'
  have hp3 : zag 1 (fun i => ad (zrn k ws.length x i)) adu := hp3
  have hB1 : va_P D vwCl (zws cy adu u) t.heap := hB1
  have hB2 : va_D (va_A (zws cy (fun i => ad (zrn k ws.length x i)) [.inr (.inr (ci, zZ ci))]) H.size) (zws cy adu u) := hB2
  have hu0 : adu 0 = ad k := hp3 0 (Or.inl (by omega))
  -- the new addresses
  generalize had' : (fun q : Nat => if q < ws.length then ad q else if q < ws.length + N then adu (1 + (q - ws.length)) else ad q) = ad'
  have hag : zag ws.length ad ad' := by
    intro j hj
    rw [← had']
    show (if j < ws.length then ad j else if j < ws.length + N then adu (1 + (j - ws.length)) else ad j) = ad j
    by_cases h1 : j < ws.length
    · rw [if_pos h1]
    · rw [if_neg h1, if_neg (by omega)]
  have hnew : ∀ j, j < N → ad' (ws.length + j) = adu (1 + j) := by
    intro j hj
    rw [← had']
    show (if ws.length + j < ws.length then _ else if ws.length + j < ws.length + N then adu (1 + (ws.length + j - ws.length)) else _) = _
    rw [if_neg (by omega), if_pos (by omega), Nat.add_sub_cancel_left]
  have hren : zag (1 + N) adu (fun i => ad' (zrn k ws.length x i)) := by
    intro i hi
    show ad' (zrn k ws.length x i) = adu i
    rcases Nat.lt_or_ge i 1000 with h1 | h1
    · rcases Nat.eq_zero_or_pos i with rfl | h0
      · rw [zrn_0, hag k (Or.inl hkl)]
        exact hu0.symm
      · rw [zrn_n h0 h1, hnew (i - 1) (by omega)]
        congr 1
        omega
    · rw [zrn_x h1, hag x hx, hp3 i (Or.inr h1)]
      show _ = ad (zrn k ws.length x i)
      rw [zrn_x h1]
  have hcell : ∀ (i : Nat) (d : zCell), u[i]? = some d → zc cy ad' (zrc (zrn k ws.length x) d) = zc cy adu d := by
    intro i d hd
    rw [zc_ren]
    exact zc_ag cy hren (List.all_eq_true.mp hp2' d (List.mem_of_getElem? hd))
  have hlen : (ws.set k (zrc (zrn k ws.length x) (u.headD (.inr (.inr (ci, zZ ci))))) ++ u.tail.map (zrc (zrn k ws.length x))).length = ws.length + N := by
    rw [List.length_append, List.length_set, List.length_map, List.length_tail, hp2]
    omega
  -- each cell of the new world: an old one, or one of the callee's
  have hcase : ∀ (q : Nat) (d : zCell), (ws.set k (zrc (zrn k ws.length x) (u.headD (.inr (.inr (ci, zZ ci))))) ++ u.tail.map (zrc (zrn k ws.length x)))[q]? = some d → (q < ws.length ∧ q ≠ k ∧ ws[q]? = some d) ∨ ∃ (i : Nat) (d' : zCell), u[i]? = some d' ∧ d = zrc (zrn k ws.length x) d' ∧ ad' q = adu i ∧ (q = if i = 0 then k else ws.length + (i - 1)) := by
    intro q d hq
    rcases Nat.lt_or_ge q ws.length with h1 | h1
    · rw [List.getElem?_append_left (by rw [List.length_set]; exact h1), List.getElem?_set] at hq
      by_cases h2 : k = q
      · subst h2
        rw [if_pos rfl, if_pos h1] at hq
        have hu : ∃ d0, u[0]? = some d0 := ⟨_, List.getElem?_eq_getElem (by omega)⟩
        obtain ⟨d0, hd0⟩ := hu
        have e0 : u.headD (.inr (.inr (ci, zZ ci))) = d0 := by
          cases u with
          | nil => cases hd0
          | cons a b => cases hd0; rfl
        rw [e0] at hq
        exact Or.inr ⟨0, d0, hd0, (Option.some.inj hq).symm, by rw [hag k (Or.inl hkl)]; exact hu0.symm, by rw [if_pos rfl]⟩
      · rw [if_neg h2] at hq
        exact Or.inl ⟨h1, fun w => h2 w.symm, hq⟩
    · rw [List.getElem?_append_right (by rw [List.length_set]; exact h1), List.length_set, List.getElem?_map, List.getElem?_tail] at hq
      cases h2 : u[q - ws.length + 1]? with
      | none => rw [h2] at hq; cases hq
      | some d' =>
        rw [h2] at hq
        have hlt : q - ws.length + 1 < u.length := (List.getElem?_eq_some_iff.mp h2).1
        refine Or.inr ⟨q - ws.length + 1, d', h2, (Option.some.inj hq).symm, ?_, by rw [if_neg (by omega)]; omega⟩
        have := hnew (q - ws.length) (by omega)
        rw [show ws.length + (q - ws.length) = q by omega] at this
        rw [this, Nat.add_comm]
  have hold : ∀ (q : Nat) (d : zCell), ws[q]? = some d → zc cy ad' d = zc cy ad d := fun q d hq => zc_ag cy hag (List.all_eq_true.mp hck d (List.mem_of_getElem? hq))
  have hadr : ∀ (q : Nat) (d : zCell), ws[q]? = some d → ad q < H.size := fun q d hq => (hP q _ (zws_get hq)).lt
  have hW := kk _ ad' H1 locs1 hp1 (fun q w hq => ?_) ⟨fun i j w1 w2 hi hj hw => ?_, fun q w hq => ?_⟩ hS1 hlen hag
  · rw [hlen] at hW
    have e1 : ws.length - b + N = ws.length + N - b := by omega
    have e2 : 828 * (ws.length - b) + 828 * N = 828 * (ws.length + N - b) := by omega
    rw [e1, e2]
    exact hW
  · obtain ⟨d, hd, rfl⟩ := zws_inv hq
    rcases hcase q d hd with ⟨g1, g2, g3⟩ | ⟨i, d', g1, rfl, g3, g4⟩
    · rw [hold q d g3, hag q (Or.inl g1)]
      have hat := hP q _ (zws_get g3)
      have := hat.kept (hkk (ad q) (hadr q d g3) (fun w => by
        rcases hA1 _ w with w | w
        · exact g2 (hD.1 q k _ _ (zws_get g3) (zws_get hk) w)
        · have := hadr q d g3; omega))
      exact this
    · rw [hcell i d' g1, g3, ← ht]
      exact hB1 i _ (zws_get g1)
  · obtain ⟨d1, hd1, rfl⟩ := zws_inv hi
    obtain ⟨d2, hd2, rfl⟩ := zws_inv hj
    have hw : ad' i = ad' j := hw
    rcases hcase i d1 hd1 with ⟨g1, g2, g3⟩ | ⟨i1, d', g1, g2, g3, g4⟩
    · rcases hcase j d2 hd2 with ⟨f1, f2, f3⟩ | ⟨i2, d'', f1, f2, f3, f4⟩
      · rw [hag i (Or.inl g1), hag j (Or.inl f1)] at hw
        exact hD.1 i j _ _ (zws_get g3) (zws_get f3) hw
      · rw [hag i (Or.inl g1), f3] at hw
        rcases hA1 _ (hB2.2 i2 _ (zws_get f1)) with w | w
        · have w : adu i2 = ad k := w
          exact absurd (hD.1 i k _ _ (zws_get g3) (zws_get hk) (hw.trans w)) g2
        · have w : H.size ≤ adu i2 := w
          have := hadr i d1 g3
          omega
    · rcases hcase j d2 hd2 with ⟨f1, f2, f3⟩ | ⟨i2, d'', f1, f2, f3, f4⟩
      · rw [hag j (Or.inl f1), g3] at hw
        rcases hA1 _ (hB2.2 i1 _ (zws_get g1)) with w | w
        · have w : adu i1 = ad k := w
          exact absurd (hD.1 j k _ _ (zws_get f3) (zws_get hk) (hw.symm.trans w)) f2
        · have w : H.size ≤ adu i1 := w
          have := hadr j d2 f3
          omega
      · rw [g3, f3] at hw
        have e1 : i1 = i2 := hB2.1 i1 i2 _ _ (zws_get g1) (zws_get f1) hw
        subst e1
        rw [g4, f4]
  · obtain ⟨d, hd, rfl⟩ := zws_inv hq
    rcases hcase q d hd with ⟨g1, g2, g3⟩ | ⟨i, d', g1, rfl, g3, g4⟩
    · show A (ad' q)
      rw [hag q (Or.inl g1)]
      exact hD.2 q _ (zws_get g3)
    · show A (ad' q)
      rw [g3]
      exact hf _ (hB2.2 i _ (zws_get g1))
theorem zpreN_at {H : Heap} {al : List Value} {ws : zW} {ad : Nat → Nat} {k L x ci : Nat} (hKN : zKN D cy s) (hP : va_P D vwCl (zws cy ad ws) H) (hk : ws[k]? = some (.inr (.inr (ci, zZ ci)))) : ∀ U : State, U.heap = H → s.WarmedH U.vm → zPreN D cy (fun i => ad (zrn k L x i)) H.size al [.inr (.inr (ci, zZ ci))] ((al.map (zv (zrn k L x))).map (zv ad)).toArray U := by
  intro U hU hW
  refine ⟨?_, by rw [hU], ?_, hKN.warm hW, ?_, fun _ _ _ => trivial⟩
  · rw [List.map_map]
    congr 1
    apply List.map_congr_left
    intro v _
    exact zv_zv ad (zrn k L x) v
  · rw [hU]
    intro i q hi
    obtain ⟨d, hd, rfl⟩ := zws_inv hi
    have hi0 : i = 0 := by
      have := (List.getElem?_eq_some_iff.mp hd).1
      simp at this
      exact this
    subst hi0
    cases hd
    have := hP k _ (zws_get hk)
    have e1 : zc cy (fun i => ad (zrn k L x i)) (.inr (.inr (ci, zZ ci))) = zc cy ad (.inr (.inr (ci, zZ ci))) := by
      show Sum.inr (ci, (zZ ci).map _) = Sum.inr (ci, (zZ ci).map _)
      rw [zZ_map, zZ_map]
    rw [e1]
    exact this
  · intro i j w1 w2 hi hj _
    obtain ⟨d, hd, rfl⟩ := zws_inv hi
    obtain ⟨d2, hd2, rfl⟩ := zws_inv hj
    have h1 := (List.getElem?_eq_some_iff.mp hd).1
    have h2 := (List.getElem?_eq_some_iff.mp hd2).1
    simp at h1 h2
    omega
theorem zci_I {ci : Nat} {G0 : zG} (S : CallFix p m c cc nL s args Ts own) (hKN : zKN D cy s) (hA : ∀ q, s.heap.size ≤ q → A q) (hcap : cap ≤ b + R.cells ∧ 828 * (cap - b) ≤ R.slots ∧ cap ≤ 900) (cw : CallB R s args own ix y bytes maxL none (zwd y bytes maxL none) rmc N (828 * N) n ∧ y.name = "<init>" ∧ (Cond.instanceMethod y).before args s = true) (hG : ∀ al K, al.length = n + 1 → al.all (fun v => Nat.beq v.category 1) = true → G0 al [.inr (.inr (ci, zZ ci))] K → zMetN l y (zwd y bytes maxL none) rmc N al [.inr (.inr (ci, zZ ci))] K) :
    zCI p l e R s m args below meth c cc nL D cy A b cap Q ix (n + 1) N (zFN (n + 1) ci G0) := by
  intro as rest ws K hlen hcat hGG pc ad H locs lsC hd hP hD hS hbw hcw hsz hck hk
  obtain ⟨k, x, al, ⟨rfl, h2, h3, h4⟩, ⟨h5, h6⟩, h7⟩ := hGG
  have hx : x < ws.length ∨ 1000 ≤ x := by
    rw [Bool.or_eq_true] at h5
    exact h5.elim (fun w => Or.inl (by simpa using w)) (fun w => Or.inr (Nat.le_of_ble_eq_true w))
  have hM := hG al _ h2 h3 h7 D cy (fun i => ad (zrn k ws.length x i)) H.size
  cases al with
  | nil => cases h4
  | cons v0 r =>
    cases h4
    refine zci_go (rest := rest.map (zv ad)) (K := K) hP hD hS hA hbw (by omega) hck hx h6 (va_runI (As := (r.map (zv (zrn k ws.length x))).map (zv ad)) (b := ad k) S hM cw ⟨zPreN_blind, zpreN_at (al := .ref 0 :: r) hKN hP h6⟩ rfl (by rw [List.length_map, List.length_map]; rw [List.length_cons] at h2; omega) hsz ?_ ?_ hd ⟨by omega, by omega⟩) hk
    · show (((Value.ref 0 :: r).map (zv (zrn k ws.length x))).reverse ++ rest).map (zv ad) = _
      rw [List.map_cons, List.reverse_cons, List.map_append, List.map_append, List.map_reverse, List.append_assoc]
      rfl
    · show 2 * 0 + _ ≤ 8
      rw [zcat_map]
      omega
theorem zci_N {ci : Nat} {G0 : zG} {host : String} (S : CallFix p m c cc nL s args Ts own) (hKN : zKN D cy s) (hA : ∀ q, s.heap.size ≤ q → A q) (hcap : cap ≤ b + R.cells ∧ 828 * (cap - b) ≤ R.slots ∧ cap ≤ 900) (cw : va_CN R s args own ix y host bytes maxL none (zwd y bytes maxL none) rmc N (828 * N) n ∧ y.name = "<init>" ∧ (Cond.instanceMethod y).before args s = true) (hG : ∀ al K, al.length = n + 1 → al.all (fun v => Nat.beq v.category 1) = true → G0 al [.inr (.inr (ci, zZ ci))] K → zMetN l y (zwd y bytes maxL none) rmc N al [.inr (.inr (ci, zZ ci))] K) :
    zCI p l e R s m args below meth c cc nL D cy A b cap Q ix (n + 1) N (zFN (n + 1) ci G0) := by
  intro as rest ws K hlen hcat hGG pc ad H locs lsC hd hP hD hS hbw hcw hsz hck hk
  obtain ⟨k, x, al, ⟨rfl, h2, h3, h4⟩, ⟨h5, h6⟩, h7⟩ := hGG
  have hx : x < ws.length ∨ 1000 ≤ x := by
    rw [Bool.or_eq_true] at h5
    exact h5.elim (fun w => Or.inl (by simpa using w)) (fun w => Or.inr (Nat.le_of_ble_eq_true w))
  have hM := hG al _ h2 h3 h7 D cy (fun i => ad (zrn k ws.length x i)) H.size
  cases al with
  | nil => cases h4
  | cons v0 r =>
    cases h4
    refine zci_go (rest := rest.map (zv ad)) (K := K) hP hD hS hA hbw (by omega) hck hx h6 (va_runIN (As := (r.map (zv (zrn k ws.length x))).map (zv ad)) (b := ad k) S hM cw ⟨zPreN_blind, zpreN_at (al := .ref 0 :: r) hKN hP h6⟩ rfl (by rw [List.length_map, List.length_map]; rw [List.length_cons] at h2; omega) hsz ?_ ?_ hd ⟨by omega, by omega⟩) hk
    · show (((Value.ref 0 :: r).map (zv (zrn k ws.length x))).reverse ++ rest).map (zv ad) = _
      rw [List.map_cons, List.reverse_cons, List.map_append, List.map_append, List.map_reverse, List.append_assoc]
      rfl
    · show 2 * 0 + _ ≤ 8
      rw [zcat_map]
      omega
end ZI
