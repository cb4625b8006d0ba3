/-! ===== a run to the next cut; a method's run to its end, as the least predicate that is closed under it ===== -/
noncomputable def zrun (M : zM) (Rt : zP) (K : zK) (cuts : List Nat) (k : Nat) : zK := Nat.rec (motive := fun _ => zK) K (fun _ ih pc ls st ws => match cuts.any (Nat.beq pc) with
  | true => K pc ls st ws
  | false => zstep M Rt ih pc ls st ws) k
theorem zrun_ok {M : zM} {Rt : zP} {OK : zK} (hs : ∀ K : zK, (∀ pc ls st ws, K pc ls st ws → OK pc ls st ws) → ∀ pc ls st ws, zstep M Rt K pc ls st ws → OK pc ls st ws) (cuts : List Nat) : ∀ (k pc : Nat) (ls : List (Option Value)) (st : List Value) (ws : zW), zrun M Rt OK cuts k pc ls st ws → OK pc ls st ws := by
  intro k
  induction k with
  | zero => intro pc ls st ws h; exact h
  | succ k ih =>
    intro pc ls st ws h
    have h : (match cuts.any (Nat.beq pc) with
      | true => OK pc ls st ws
      | false => zstep M Rt (zrun M Rt OK cuts k) pc ls st ws) := h
    split at h
    · exact h
    · exact hs _ ih pc ls st ws h
def zRt (rt : Nat) (post : zP) : zP := match rt with
  | 0 => fun rv u => match rv with
    | none => post none u
    | _ => False
  | 1 => fun rv u => match rv with
    | some (.int x) => post (some (.int x)) u
    | _ => False
  | 2 => fun rv u => match rv with
    | some (.long x) => post (some (.long x)) u
    | _ => False
  | _ => fun rv u => match rv with
    | some (.int x) => (x = 0 ∨ x = 1) ∧ post (some (.int x)) u
    | _ => False
def zEnt (as : List Value) (nL : Nat) : List (Option Value) := as.map some ++ List.replicate (nL - as.length) none
/-- two worlds that differ only where an array ends -/
def zEqC (c c' : zCell) : Prop := match c, c' with
  | .inl (t, n, f), .inl (t', n', f') => zbool (Nat.beq t t' && Nat.beq n n') (∀ j, j < n → f j = f' j)
  | .inr a, .inr b => a = b
  | _, _ => False
def zEqW : zW → zW → Prop
  | [], [] => True
  | c :: cs, c' :: cs' => zEqC c c' ∧ zEqW cs cs'
  | _, _ => False
def zCl (M : zM) (rt : Nat) (post : zP) (K : zK) : Prop := (∀ (cuts : List Nat) (k pc : Nat) (ls : List (Option Value)) (st : List Value) (ws : zW), zstep M (zRt rt post) (zrun M (zRt rt post) K cuts k) pc ls st ws → K pc ls st ws) ∧ ∀ (pc : Nat) (ls : List (Option Value)) (st : List Value) (ws ws' : zW), zEqW ws ws' → K pc ls st ws' → K pc ls st ws
def zGoes (M : zM) (rt nL : Nat) : zG := fun as ws post => ∀ K : zK, zCl M rt post K → K 0 (zEnt as nL) [] ws
/-! ===== contracts ===== -/
def zwd (y : MethodName) (cc : ByteArray) (nL : Nat) (ret : Option FieldType) : List Jvm.Cond := Jvm.Cond.code y cc nL ret :: zTs
def zPre (D : va_G) (cy : Nat → ClassId) (ad : Nat → Nat) (sz : Nat) (as : List Value) (ws : zW) : Array Value → State → Prop := va_Pc (as.map (zv ad)) (fun U => U.heap.size = sz ∧ va_P D vwCl (zws cy ad ws) U.heap ∧ zKK D cy U ∧ va_D (fun _ => True) (zws cy ad ws))
def zQB (D : va_G) (cy : Nat → ClassId) (ad : Nat → Nat) (u : zW) (t : State) : Prop := va_P D vwCl (zws cy ad u) t.heap
def zQ (rt : Nat) (D : va_G) (cy : Nat → ClassId) (ad : Nat → Nat) (sz : Nat) (ws : zW) (post : zP) : Array Value → State → Outcome → State → Prop := match rt with
  | 0 => va_Qv (S := zW) (fun u => post none u ∧ u.length = ws.length) (zQB D cy ad) (va_A (zws cy ad ws) sz)
  | 2 => va_Ql (S := zW) (fun r u => post (some (.long r)) u ∧ u.length = ws.length) (zQB D cy ad) (va_A (zws cy ad ws) sz)
  | _ => va_Qi (S := zW) (fun r u => post (some (.int r)) u ∧ u.length = ws.length) (zQB D cy ad) (va_A (zws cy ad ws) sz)
def zMet (l : Launch) (y : MethodName) (Tw : List Jvm.Cond) (rm : Room) (rt : Nat) (as : List Value) (ws : zW) (post : zP) : Prop := ∀ (D : va_G) (cy : Nat → ClassId) (ad : Nat → Nat) (sz : Nat), Met l y Tw rm (zPre D cy ad sz as ws) (zQ rt D cy ad sz ws post) 0 0 (va_A (zws cy ad ws) sz)
theorem zPre_blind {D : va_G} {cy : Nat → ClassId} {ad : Nat → Nat} {sz : Nat} {as : List Value} {ws : zW} : FrameBlind (zPre D cy ad sz as ws) := by
  intro a U g mk h
  obtain ⟨h1, h2, h3, h4, h5⟩ := h
  exact ⟨h1, h2, h3, h4.calling, h5⟩
theorem zD_len {cy : Nat → ClassId} {ad : Nat → Nat} {A : Nat → Prop} {ws ws' : zW} (h : va_D A (zws cy ad ws)) (hn : ws'.length = ws.length) : va_D A (zws cy ad ws') := by
  have key : ∀ (k : Nat) (q : Nat × va_E), (zws cy ad ws')[k]? = some q → ∃ c, (zws cy ad ws)[k]? = some (q.1, c) := by
    intro k q hk
    obtain ⟨c, hc, rfl⟩ := zws_inv hk
    have hlt : k < ws.length := by rw [← hn]; exact (List.getElem?_eq_some_iff.mp hc).1
    exact ⟨_, zws_get (List.getElem?_eq_getElem hlt)⟩
  refine ⟨fun i j x y hi hj hxy => ?_, fun k q hk => ?_⟩
  · obtain ⟨c1, h1⟩ := key i x hi
    obtain ⟨c2, h2⟩ := key j y hj
    exact h.1 i j _ _ h1 h2 hxy
  · obtain ⟨c1, h1⟩ := key k q hk
    exact h.2 k (q.1, c1) h1
theorem zEqW_get : ∀ {ws ws' : zW}, zEqW ws ws' → ws.length = ws'.length ∧ ∀ (k : Nat) (c' : zCell), ws'[k]? = some c' → ∃ c, ws[k]? = some c ∧ zEqC c c'
  | [], [], _ => ⟨rfl, fun k c' h => by simp at h⟩
  | c :: cs, c' :: cs', h => by
    obtain ⟨h1, h2⟩ := h
    obtain ⟨h3, h4⟩ := zEqW_get h2
    refine ⟨by rw [List.length_cons, List.length_cons, h3], fun k d hd => ?_⟩
    cases k with
    | zero => rw [List.getElem?_cons_zero] at hd; cases hd; exact ⟨c, rfl, h1⟩
    | succ k =>
      rw [List.getElem?_cons_succ] at hd
      obtain ⟨e, h5, h6⟩ := h4 k d hd
      exact ⟨e, by rw [List.getElem?_cons_succ]; exact h5, h6⟩
  | [], c' :: cs', h => h.elim
  | c :: cs, [], h => h.elim
theorem arrV_congr {cA : ClassId} {n : Nat} {z z' : Nat → Value} (h : ∀ j, j < n → z j = z' j) : arrV cA n z = arrV cA n z' := by
  unfold arrV
  congr 2
  funext j
  exact h j.val j.isLt
theorem zEqC_at {D : va_G} {cy : Nat → ClassId} {ad : Nat → Nat} {k : Nat} {c c' : zCell} {H : Heap} (h : zEqC c c') (hat : va_at D vwCl (ad k, zc cy ad c) H) : va_at D vwCl (ad k, zc cy ad c') H := by
  rcases c with ⟨t, n, f⟩ | a
  · rcases c' with ⟨t', n', f'⟩ | b
    · obtain ⟨h1, h2⟩ := zbool_inv h
      rw [Bool.and_eq_true] at h1
      have e1 := Nat.eq_of_beq_eq_true h1.1
      have e2 := Nat.eq_of_beq_eq_true h1.2
      subst e1; subst e2
      have hat : H[ad k]? = some (arrV (cy t) n (fun j => .int (f j))) := hat
      show H[ad k]? = some (arrV (cy t) n (fun j => .int (f' j)))
      rw [hat, arrV_congr (fun j hj => by rw [h2 j hj])]
    · exact h.elim
  · rcases c' with ⟨t', n', f'⟩ | b
    · exact h.elim
    · have h : a = b := h
      subst h
      exact hat
theorem zOK_eq {p : Program} {l : Launch} {e : Env} {R : Room} {s : State} {m : MethodId} {args : Array Value} {below : List Frame} {meth : Method} {c : Code} {cells slots : Nat} {Q : State → Prop} {nL : Nat} {D : va_G} {cy : Nat → ClassId} {ad : Nat → Nat} {A : Nat → Prop} {n0 : Nat} {pc : Nat} {ls : List (Option Value)} {st : List Value} {ws ws' : zW} (he : zEqW ws ws') (h : zOK p l e R s m args below meth c nL D cy ad A n0 cells slots Q pc ls st ws') : zOK p l e R s m args below meth c nL D cy ad A n0 cells slots Q pc ls st ws := by
  obtain ⟨h1, h2⟩ := zEqW_get he
  intro H locs lsC hP hD hS hn hl
  refine h H locs lsC (fun k q hk => ?_) (zD_len hD h1.symm) hS (h1.symm.trans hn) hl
  obtain ⟨c', hc', rfl⟩ := zws_inv hk
  obtain ⟨d, hd, hdc⟩ := h2 k c' hc'
  exact zEqC_at hdc (hP k _ (zws_get hd))
theorem lg_sl_one : ∀ (vs : List Value), (∀ v ∈ vs, v.category = 1) → lg_sl vs = vs.map Slot.val
  | [], _ => rfl
  | v :: vs, h => by
    have h1 := lg_sl_one vs (fun w hw => h w (List.mem_cons_of_mem _ hw))
    have h2 : ¬ v.category = 2 := by rw [h v List.mem_cons_self]; decide
    unfold lg_sl at h1 ⊢
    rw [List.flatMap_cons, if_neg h2, h1]
    rfl
theorem zLH_entry {as : List Value} {nL : Nat} (ad : Nat → Nat) (hc : ∀ v ∈ as, v.category = 1) (hn : as.length ≤ nL) : zLH ((lg_sl (as.map (zv ad)) ++ List.replicate (nL - (lg_sl (as.map (zv ad))).length) Slot.unset).toArray) nL ad (zEnt as nL) := by
  have e : lg_sl (as.map (zv ad)) = (as.map (zv ad)).map Slot.val := lg_sl_one _ (fun v hv => by
    obtain ⟨w, hw, rfl⟩ := List.mem_map.mp hv
    rw [zv_cat]; exact hc w hw)
  have hlen : (lg_sl (as.map (zv ad))).length = as.length := by rw [e, List.length_map, List.length_map]
  have h0 := lv_entry (as.map (zv ad)) (n := nL) (by rw [hlen]; exact hn)
  refine ⟨h0.1, h0.2.1, ?_, fun i v hi _ => ?_⟩
  · unfold zEnt
    rw [List.length_append, List.length_map, List.length_replicate]
    omega
  · unfold zEnt at hi
    rw [List.getElem?_append, List.length_map] at hi
    split at hi
    · rename_i hlt
      rw [List.getElem?_map] at hi
      rw [e, List.getElem?_toArray, List.getElem?_append_left (by rw [List.length_map, List.length_map]; exact hlt), List.getElem?_map, List.getElem?_map]
      cases ha : as[i]? with
      | none => rw [ha] at hi; cases hi
      | some w => rw [ha] at hi; cases hi; rfl
    · rw [List.getElem?_replicate] at hi
      split at hi
      · cases hi
      · cases hi
/-- what a method's tables must keep, and its calls, in any place where it runs -/
def zCalls (M : zM) (l : Launch) (cc : ByteArray) (own : String) (Ts : List Jvm.Cond) (rm : Room) (nL : Nat) : Prop := ∀ (p : Program) (e : Env) (s : State) (m : MethodId) (args : Array Value) (below : List Frame) (meth : Method) (c : Code) (D : va_G) (cy : Nat → ClassId) (ad : Nat → Nat) (A : Nat → Prop) (n0 : Nat) (Q : State → Prop), CallFix p m c cc nL s args Ts own → zKK D cy s → (∀ q, s.heap.size ≤ q → A q) →
  (∀ (ix n : Nat) (G : zG), M.2.2.2.2.2.2.1.lookup ix = some (n, G) → zCO p l e rm s m args below meth c cc nL D cy ad A n0 0 0 Q (.invokevirtual ix) n G) ∧ (∀ (ix n : Nat) (G : zG), M.2.2.2.2.2.2.2.lookup ix = some (n, G) → zCO p l e rm s m args below meth c cc nL D cy ad A n0 0 0 Q (.invokestatic ix) n G)
def zret (rt : Nat) : Option FieldType := match rt with
  | 0 => none
  | 1 => some .int
  | 2 => some .long
  | _ => some .boolean
set_option maxHeartbeats 4000000 in
theorem zGoes_met {l : Launch} {y : MethodName} {M : zM} {cc : ByteArray} {nL rt : Nat} {rm : Room} {as : List Value} {ws : zW} {post : zP} (hy : plainName y.cls = true) (hrm : 1 ≤ rm.frames ∧ 150 ≤ rm.locals) (hrt : rt < 4) (hg : zGood M cc y.cls (zwd y cc nL (zret rt))) (hcalls : zCalls M l cc y.cls (zwd y cc nL (zret rt)) rm nL) (hn : as.length ≤ nL) (hc : ∀ v ∈ as, v.category = 1) (h : zGoes M rt nL as ws post) : zMet l y (zwd y cc nL (zret rt)) rm rt as ws post := by
  intro D cy ad sz
  refine Met.ofW (cc := cc) (maxL := nL) (ret := zret rt) hy rfl ?_
  intro p e s m args below meth c s₁ B hml hv
  obtain ⟨rfl, hsz, hP, hKK, hD0⟩ := hv
  have hx := B.exec
  have hb := B.bytes
  have hr := B.returns
  have hts := atoms_spec (ws := zwd y cc nL (zret rt)) B.pre
  have hown : s.vm.findClass y.cls = some m.cls := findClass_of_methodNamed B.named
  have hlocks := B.notSynchronized
  subst hsz
  have hD := hD0.self (sz := s.heap.size)
  generalize hAe : va_A (zws cy ad ws) s.heap.size = A at hD ⊢
  have hA : ∀ q : Nat, s.heap.size ≤ q → A q := fun q h => by rw [← hAe]; exact Or.inr h
  have hS : va_S A s.heap s.heap [] := va_S.rf
  rw [lg_entry_eq]
  have hcl := hcalls p e s m (as.map (zv ad)).toArray below meth c D cy ad A ws.length (MQ below (zQ rt D cy ad s.heap.size ws post) (as.map (zv ad)).toArray s 0 0 A) ⟨hx, hb, hml, hown, hts⟩ hKK hA
  have hRt : zRO p l e rm s m (as.map (zv ad)).toArray below meth c cc D cy ad A ws.length 0 0 (MQ below (zQ rt D cy ad s.heap.size ws post) (as.map (zv ad)).toArray s 0 0 A) (zRt rt post) := by
    intro rv u pc H locs lsC hrv hd _ p1 d1 s1 n1
    match rt, hrt, rv, hrv, hd, hr with
    | 0, _, none, hrv, hd, hr =>
      refine W.vret hx hb hr (fun t ht hW => ?_) s1.2.2 hd
      exact ⟨⟨u, rfl, ⟨hrv, n1⟩, by unfold zQB; rw [ht]; exact p1⟩, by rw [hAe]; exact s1.F ht⟩
    | 1, _, some (.int x), hrv, hd, hr =>
      refine W.zret hx hb hr rfl (fun t ht hW => ?_) s1.2.2 hd
      exact ⟨⟨x, u, rfl, ⟨hrv, n1⟩, by unfold zQB; rw [ht]; exact p1⟩, by rw [hAe]; exact s1.F ht⟩
    | 2, _, some (.long x), hrv, hd, hr =>
      refine W.lret hx hb hr (fun t ht hW => ?_) s1.2.2 hd
      exact ⟨⟨x, u, rfl, ⟨hrv, n1⟩, by unfold zQB; rw [ht]; exact p1⟩, by rw [hAe]; exact s1.F ht⟩
    | 3, _, some (.int x), hrv, hd, hr =>
      refine W.zret hx hb hr (by rcases hrv.1 with rfl | rfl <;> rfl) (fun t ht hW => ?_) s1.2.2 hd
      exact ⟨⟨x, u, rfl, ⟨hrv.2, n1⟩, by unfold zQB; rw [ht]; exact p1⟩, by rw [hAe]; exact s1.F ht⟩
    | 0, _, some v, hrv, hd, hr => exact hrv.elim
    | 1, _, none, hrv, hd, hr => exact hrv.elim
    | 2, _, none, hrv, hd, hr => exact hrv.elim
    | 3, _, none, hrv, hd, hr => exact hrv.elim
    | 1, _, some (.long x), hrv, hd, hr => exact hrv.elim
    | 1, _, some (.float x), hrv, hd, hr => exact hrv.elim
    | 1, _, some (.double x), hrv, hd, hr => exact hrv.elim
    | 1, _, some .null, hrv, hd, hr => exact hrv.elim
    | 1, _, some (.ref x), hrv, hd, hr => exact hrv.elim
    | 1, _, some (.retAddr x), hrv, hd, hr => exact hrv.elim
    | 2, _, some (.int x), hrv, hd, hr => exact hrv.elim
    | 2, _, some (.float x), hrv, hd, hr => exact hrv.elim
    | 2, _, some (.double x), hrv, hd, hr => exact hrv.elim
    | 2, _, some .null, hrv, hd, hr => exact hrv.elim
    | 2, _, some (.ref x), hrv, hd, hr => exact hrv.elim
    | 2, _, some (.retAddr x), hrv, hd, hr => exact hrv.elim
    | 3, _, some (.long x), hrv, hd, hr => exact hrv.elim
    | 3, _, some (.float x), hrv, hd, hr => exact hrv.elim
    | 3, _, some (.double x), hrv, hd, hr => exact hrv.elim
    | 3, _, some .null, hrv, hd, hr => exact hrv.elim
    | 3, _, some (.ref x), hrv, hd, hr => exact hrv.elim
    | 3, _, some (.retAddr x), hrv, hd, hr => exact hrv.elim
    | k + 4, hrt, _, _, _, _ => omega
  have hs : ∀ K : zK, (∀ pc ls st ws', K pc ls st ws' → zOK p l e rm s m (as.map (zv ad)).toArray below meth c nL D cy ad A ws.length 0 0 (MQ below (zQ rt D cy ad s.heap.size ws post) (as.map (zv ad)).toArray s 0 0 A) pc ls st ws') → ∀ pc ls st ws', zstep M (zRt rt post) K pc ls st ws' → zOK p l e rm s m (as.map (zv ad)).toArray below meth c nL D cy ad A ws.length 0 0 (MQ below (zQ rt D cy ad s.heap.size ws post) (as.map (zv ad)).toArray s 0 0 A) pc ls st ws' :=
    fun K hK pc ls st ws' h1 => zstep_ok hx hb hml hown hts hKK hrm ⟨Nat.zero_le _, Nat.zero_le _⟩ hg hcl.1 hcl.2 hRt hK pc ls st ws' h1
  have hgo := h _ ⟨fun cuts k pc ls st ws' h1 => hs _ (zrun_ok hs cuts k) pc ls st ws' h1, fun pc ls st w1 w2 he h1 => zOK_eq he h1⟩
  exact hgo s.heap [] _ hP hD hS rfl (zLH_entry ad hc hn)
