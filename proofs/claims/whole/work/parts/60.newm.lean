
/-! ===== the small machine that makes objects: a new cell lies at the place behind the last ===== -/
def zZ (ci : Nat) : List Value := match ci with
  | 0 => [.null, .null, .int 0]
  | 1 => [.null, .null, .null, .null, .int 0, .int 0, .int 0, .int 0]
  | 2 => [.int 0, .null, .null]
  | 3 => [.null, .null, .int 0, .null, .int 0, .int 0]
  | 4 => [.null, .int 0]
  | 5 => [.int 0, .null, .null, .null]
  | 6 => [.null, .int 0, .int 0, .int 0, .int 0, .int 0, .null, .int 0, .int 0, .int 0, .int 0, .int 0, .int 0]
  | 7 => [.null, .int 0, .null, .null, .null, .null, .null, .null, .null, .null, .long 0]
  | 8 => [.long 0, .null, .int 0, .null, .null, .null, .null, .int 0, .int 0, .int 0, .int 0, .int 0, .int 0, .null, .null, .null, .null, .int 0, .int 0, .int 0, .null, .null, .null, .int 0]
  | _ => []
theorem zcls2 : ∀ (ci : Nat) (q : vw_C), vwCl[ci]? = some q → ∃ ty0 : Nat → FieldType, (∀ k, k < q.2.2 → parseFieldDescriptor (q.2.1 k).2.2.1 = some (ty0 k)) ∧ (∀ j, j < q.2.2 → defaultValue (ty0 j) = vp_V (zZ ci) j) ∧ q.2.2 ≤ 24 := by
  intro ci q h
  match ci, h with
  | 0, h => cases h; exact ⟨tyX0, tyX0_ok, by decide +kernel, by decide⟩
  | 1, h => cases h; exact ⟨tyX1, tyX1_ok, by decide +kernel, by decide⟩
  | 2, h => cases h; exact ⟨tyX2, tyX2_ok, by decide +kernel, by decide⟩
  | 3, h => cases h; exact ⟨tyX3, tyX3_ok, by decide +kernel, by decide⟩
  | 4, h => cases h; exact ⟨tyX4, tyX4_ok, by decide +kernel, by decide⟩
  | 5, h => cases h; exact ⟨tyX5, tyX5_ok, by decide +kernel, by decide⟩
  | 6, h => cases h; exact ⟨tyX6, tyX6_ok, by decide +kernel, by decide⟩
  | 7, h => cases h; exact ⟨tyX7, tyX7_ok, by decide +kernel, by decide⟩
  | 8, h => cases h; exact ⟨tyX8, tyX8_ok, by decide +kernel, by decide⟩
  | n + 9, h => simp [vwCl] at h
theorem zZ_map (ad : Nat → Nat) (ci : Nat) : (zZ ci).map (zv ad) = zZ ci := by
  match ci with
  | 0 => rfl
  | 1 => rfl
  | 2 => rfl
  | 3 => rfl
  | 4 => rfl
  | 5 => rfl
  | 6 => rfl
  | 7 => rfl
  | 8 => rfl
  | n + 9 => rfl
def zrk (n : Nat) (v : Value) : Bool := match v with
  | .ref j => Nat.blt j n || Nat.ble 1000 j
  | _ => true
def zrkO (n : Nat) (o : Option Nat) : Bool := match o with
  | some j => Nat.blt j n || Nat.ble 1000 j
  | none => true
def zrkL (n : Nat) (o : Option Value) : Bool := match o with
  | some v => zrk n v
  | none => true
def zckC (n : Nat) (c : zCell) : Bool := match c with
  | .inl _ => true
  | .inr (.inl a) => a.2.all (zrkO n)
  | .inr (.inr o) => o.2.all (zrk n)
def zck (n : Nat) (ls : List (Option Value)) (st : List Value) (ws : zW) : Bool := ls.all (zrkL n) && (st.all (zrk n) && ws.all (zckC n))
def zag (n : Nat) (ad ad' : Nat → Nat) : Prop := ∀ k, (k < n ∨ 1000 ≤ k) → ad' k = ad k
theorem zv_ag {n : Nat} {ad ad' : Nat → Nat} (ha : zag n ad ad') {v : Value} (h : zrk n v = true) : zv ad' v = zv ad v := by
  cases v with
  | ref j =>
    have h : (Nat.blt j n || Nat.ble 1000 j) = true := h
    rw [Bool.or_eq_true] at h
    show Value.ref (ad' j) = Value.ref (ad j)
    rw [ha j (h.elim (fun x => Or.inl (by simpa using x)) (fun x => Or.inr (Nat.le_of_ble_eq_true x)))]
  | _ => rfl
theorem zst_ag {n : Nat} {ad ad' : Nat → Nat} (ha : zag n ad ad') {st : List Value} (h : st.all (zrk n) = true) : st.map (zv ad') = st.map (zv ad) := List.map_congr_left (fun v hv => zv_ag ha (List.all_eq_true.mp h v hv))
theorem zc_ag {n : Nat} {ad ad' : Nat → Nat} (cy : Nat → ClassId) (ha : zag n ad ad') {c : zCell} (h : zckC n c = true) : zc cy ad' c = zc cy ad c := by
  rcases c with a | a | o
  · rfl
  · have e : (fun i : Nat => ((a.2[i]?).getD none).map ad') = (fun i : Nat => ((a.2[i]?).getD none).map ad) := by
      funext i
      cases h1 : a.2[i]? with
      | none => rfl
      | some x =>
        cases x with
        | none => rfl
        | some j =>
          have h2 : zrkO n (some j) = true := List.all_eq_true.mp h (some j) (List.mem_of_getElem? h1)
          have h2 : (Nat.blt j n || Nat.ble 1000 j) = true := h2
          rw [Bool.or_eq_true] at h2
          show some (ad' j) = some (ad j)
          rw [ha j (h2.elim (fun x => Or.inl (by simpa using x)) (fun x => Or.inr (Nat.le_of_ble_eq_true x)))]
    show Sum.inl (cy a.1, a.2.length, _) = Sum.inl (cy a.1, a.2.length, _)
    congr 5
    simp only [e]
  · show Sum.inr (o.1, o.2.map (zv ad')) = Sum.inr (o.1, o.2.map (zv ad))
    rw [zst_ag ha h]
theorem zws_ag {n : Nat} {ad ad' : Nat → Nat} (cy : Nat → ClassId) (ha : zag n ad ad') {ws : zW} (hn : ws.length ≤ n) (h : ws.all (zckC n) = true) : zws cy ad' ws = zws cy ad ws := by
  apply List.ext_getElem?
  intro i
  rw [zws, zws, List.getElem?_mapIdx, List.getElem?_mapIdx]
  cases h1 : ws[i]? with
  | none => rfl
  | some c =>
    show some (ad' i, zc cy ad' c) = some (ad i, zc cy ad c)
    rw [zc_ag cy ha (List.all_eq_true.mp h c (List.mem_of_getElem? h1)), ha i (Or.inl (by have := (List.getElem?_eq_some_iff.mp h1).1; omega))]
theorem zLH_ag {n : Nat} {ad ad' : Nat → Nat} (ha : zag n ad ad') {lsC : Array Slot} {nL : Nat} {ls : List (Option Value)} (hl : zLH lsC nL ad ls) (h : ls.all (zrkL n) = true) : zLH lsC nL ad' ls := by
  refine ⟨hl.1, hl.2.1, hl.2.2.1, fun i v hi hc => ?_⟩
  rw [zv_ag ha (show zrk n v = true from List.all_eq_true.mp h (some v) (List.mem_of_getElem? hi))]
  exact hl.2.2.2 i v hi hc
theorem zws_app (cy : Nat → ClassId) (ad : Nat → Nat) (ws w2 : zW) : zws cy ad (ws ++ w2) = zws cy ad ws ++ w2.mapIdx (fun k c => (ad (ws.length + k), zc cy ad c)) := by
  unfold zws
  rw [List.mapIdx_append]
  congr 1
  apply List.ext_getElem?
  intro i
  rw [List.getElem?_mapIdx, List.getElem?_mapIdx, Nat.add_comm]
theorem zag_up (n q : Nat) (hn : n < 1000) (ad : Nat → Nat) : zag n ad (va_up ad n q) := by
  intro k hk
  unfold va_up
  rw [if_neg (by omega)]
theorem zws_new (cy : Nat → ClassId) (ad : Nat → Nat) (q : Nat) (ws : zW) (c : zCell) (hn : ws.length < 1000) (h : ws.all (zckC ws.length) = true) (hc : zckC ws.length c = true) : zws cy (va_up ad ws.length q) (ws ++ [c]) = zws cy ad ws ++ [(q, zc cy ad c)] := by
  rw [zws_app, zws_ag cy (zag_up _ q hn ad) (Nat.le_refl _) h]
  congr 1
  show [(va_up ad ws.length q (ws.length + 0), _)] = _
  rw [zc_ag cy (zag_up _ q hn ad) hc]
  show [(if ws.length = ws.length then q else _, _)] = _
  rw [if_pos rfl]
/-! tables: new, anewarray, final fields, Object's constructor, constructors -/
abbrev zX : Type := List (Nat × Nat) × List (Nat × Nat) × List (Nat × Nat × Nat × FieldType) × Nat × List (Nat × Nat × Nat × zG)
def ztagA (a : ArrayType) : Option Nat := match a with
  | .int => some 0
  | .byte => some 1
  | .boolean => some 2
  | _ => none
def zinN (M : zM) (X : zX) (cap : Nat) (sc : Option (Nat × (Nat → Int32))) (Rt : zP) (K : zK) (ls : List (Option Value)) (st : List Value) (ws : zW) (v : Int32) (nx : Nat) (tg : List Nat) (i : Instr) : Prop := match i with
  | .new ix => match X.1.lookup ix with
    | some ci => zbool (zck ws.length ls st ws && Nat.blt ws.length cap) (K nx ls (.ref ws.length :: st) (ws ++ [.inr (.inr (ci, zZ ci))]))
    | none => False
  | .newarray a => match ztagA a, st with
    | some t, .int n :: r => zbool (zck ws.length ls r ws && (Nat.blt ws.length cap && (decide (¬ n < 0) && Nat.ble n.toNatClampNeg 828))) (K nx ls (.ref ws.length :: r) (ws ++ [.inl (t, n.toNatClampNeg, fun _ => 0)]))
    | _, _ => False
  | .anewarray ix => match X.2.1.lookup ix, st with
    | some t, .int n :: r => zbool (zck ws.length ls r ws && (Nat.blt ws.length cap && (decide (¬ n < 0) && Nat.ble n.toNatClampNeg 828))) (K nx ls (.ref ws.length :: r) (ws ++ [.inr (.inl (t, List.replicate n.toNatClampNeg none))]))
    | _, _ => False
  | .putfield ix => match X.2.2.1.lookup ix with
    | some fl => zpf K (some fl) nx ls st ws
    | none => zpf K (M.2.2.1.lookup ix) nx ls st ws
  | .invokespecial ix => match Nat.beq ix X.2.2.2.1 with
    | true => match st with
      | .ref _ :: r => zbool (Nat.ble (zcat r) 8) (K nx ls r ws)
      | _ => False
    | false => match X.2.2.2.2.lookup ix with
      | some (n, N, G) => zbool (Nat.ble n st.length && (Nat.ble (zcat (st.drop n)) 8 && (zck ws.length ls (st.drop n) ws && Nat.ble (ws.length + N) cap))) (G (st.take n).reverse ws (fun _ ws' => K nx ls (st.drop n) ws'))
      | none => False
  | .iaload => match st with
    | .int i :: .ref k :: r => match Nat.beq k 1000, sc with
      | true, some (L, xs) => vp_in i L ∧ K nx ls (.int (xs i.toNatClampNeg) :: r) ws
      | true, none => False
      | false, _ => zal K true nx ls st ws
    | _ => False
  | .arraylength => match st with
    | .ref k :: r => match Nat.beq k 1000, sc with
      | true, some (L, _) => K nx ls (.int (Int32.ofNat L) :: r) ws
      | true, none => False
      | false, _ => zan K nx ls st ws
    | _ => False
  | i => zin M Rt K ls st ws v nx tg i
def zstepN (M : zM) (X : zX) (cap : Nat) (sc : Option (Nat × (Nat → Int32))) (Rt : zP) (K : zK) : zK := fun pc ls st ws => match M.1[pc]? with
  | some (some (i, v, nx, tg)) => zinN M X cap sc Rt K ls st ws v nx tg i
  | _ => False
def zKN (D : va_G) (cy : Nat → ClassId) (U : State) : Prop := zKK D cy U ∧ va_AO "RankWheels$Image" U ∧ va_AO "RankWheels$Line" U
theorem zKN.warm {D : va_G} {cy : Nat → ClassId} {s U : State} (h : zKN D cy s) (hW : s.WarmedH U.vm) : zKN D cy U := ⟨h.1.warm hW, va_AO.moved hW.alike h.2.1, va_AO.moved hW.alike h.2.2⟩
theorem zKN.calling {D : va_G} {cy : Nat → ClassId} {U : State} {g : JFrame} {mk : MethodId} {a : Array Value} (h : zKN D cy U) : zKN D cy (U.calling g mk a) := ⟨h.1.calling, va_AO.moved (u := U) (U := U.calling g mk a) (Vm.Alike.refl U.vm) h.2.1, va_AO.moved (u := U) (U := U.calling g mk a) (Vm.Alike.refl U.vm) h.2.2⟩
def zON (p : Program) (l : Launch) (e : Env) (R : Room) (s : State) (m : MethodId) (args : Array Value) (below : List Frame) (meth : Method) (c : Code) (nL : Nat) (D : va_G) (cy : Nat → ClassId) (ad0 : Nat → Nat) (A : Nat → Prop) (b cap : Nat) (Q : State → Prop) : zK := fun pc ls st ws =>
  ∀ (ad : Nat → Nat) (H : Heap) (locs : List Loc) (lsC : Array Slot), va_P D vwCl (zws cy ad ws) H → va_D A (zws cy ad ws) → va_S A s.heap H locs → b ≤ ws.length ∧ ws.length ≤ cap → zag b ad0 ad → zLH lsC nL ad ls → W p l e R s m args below meth c H locs (ws.length - b) (828 * (ws.length - b)) Q (F0 m pc lsC (st.map (zv ad)))
def znok (own : String) (Ts : List Jvm.Cond) (ix ci : Nat) : Prop := ∃ q : vw_C, vwCl[ci]? = some q ∧ (∀ w ∈ u_ws q.1 q.2.1 q.2.2, w ∈ Ts) ∧ Jvm.Cond.classLink own ix q.1 ∈ Ts ∧ Jvm.Cond.instantiable q.1 q.2.2 ∈ Ts ∧ Jvm.Cond.initialized q.1 ∈ Ts
def zaok (own : String) (Ts : List Jvm.Cond) (ix t : Nat) : Prop := (t = 3 ∧ Jvm.Cond.classLink own ix "RankWheels$Image" ∈ Ts) ∨ (t = 4 ∧ Jvm.Cond.classLink own ix "RankWheels$Line" ∈ Ts)
def zpok (own : String) (Ts : List Jvm.Cond) (ix ci j : Nat) (ty : FieldType) : Prop := ∃ q : vw_C, vwCl[ci]? = some q ∧ j < q.2.2 ∧ Jvm.Cond.fieldLink own ix (q.2.1 j).1 (q.2.1 j).2.1 (q.2.1 j).2.2.1 ∈ Ts ∧ (∀ w ∈ u_ws q.1 q.2.1 q.2.2, w ∈ Ts) ∧ parseFieldDescriptor (q.2.1 j).2.2.1 = some ty ∧ (q.2.1 j).2.2.2 = true ∧ (q.2.1 j).1 = own
def zGoodX (X : zX) (own : String) (Ts : List Jvm.Cond) : Prop := (∀ ix ci, X.1.lookup ix = some ci → znok own Ts ix ci) ∧ (∀ ix t, X.2.1.lookup ix = some t → zaok own Ts ix t) ∧ (∀ ix ci j ty, X.2.2.1.lookup ix = some (ci, j, ty) → zpok own Ts ix ci j ty) ∧ (Jvm.Cond.arrayClass .int ∈ Ts ∧ Jvm.Cond.arrayClass .byte ∈ Ts ∧ Jvm.Cond.arrayClass .boolean ∈ Ts) ∧ (X.2.2.2.1 = 0 ∨ (Jvm.Cond.methodLink own X.2.2.2.1 Lib.objectInit ∈ Ts ∧ Jvm.Cond.instanceMethod Lib.objectInit ∈ Ts ∧ Jvm.Cond.code Lib.objectInit { data := #[177] } 1 none ∈ Ts))
section ZN
variable {p : Program} {l : Launch} {e : Env} {R : Room} {s : State} {m : MethodId} {args : Array Value} {below : List Frame} {meth : Method} {c : Code} {Q : State → Prop} {cc : ByteArray} {own : String} {Ts : List Jvm.Cond} {nL : Nat} {D : va_G} {cy : Nat → ClassId} {ad0 : Nat → Nat} {A : Nat → Prop} {b cap : Nat}
def zCI (p : Program) (l : Launch) (e : Env) (R : Room) (s : State) (m : MethodId) (args : Array Value) (below : List Frame) (meth : Method) (c : Code) (cc : ByteArray) (nL : Nat) (D : va_G) (cy : Nat → ClassId) (A : Nat → Prop) (b cap : Nat) (Q : State → Prop) (ix n N : Nat) (G : zG) : Prop := ∀ (as rest : List Value) (ws : zW) (K : zP), as.length = n → zcat rest ≤ 8 → G as ws K → ∀ (pc : Nat) (ad : Nat → Nat) (H : Heap) (locs : List Loc) (lsC : Array Slot), decode cc pc = .ok (.invokespecial ix, 3) → va_P D vwCl (zws cy ad ws) H → va_D A (zws cy ad ws) → va_S A s.heap H locs → b ≤ ws.length → ws.length + N ≤ cap → lsC.size = nL → ws.all (zckC ws.length) = true →
  (∀ (ws' : zW) (ad' : Nat → Nat) (H1 : Heap) (locs1 : List Loc), K none ws' → va_P D vwCl (zws cy ad' ws') H1 → va_D A (zws cy ad' ws') → va_S A s.heap H1 locs1 → ws'.length = ws.length + N → zag ws.length ad ad' → W p l e R s m args below meth c H1 locs1 (ws'.length - b) (828 * (ws'.length - b)) Q (F0 m (pc + 3) lsC (rest.map (zv ad)))) → W p l e R s m args below meth c H locs (ws.length - b) (828 * (ws.length - b)) Q (F0 m pc lsC ((as.reverse ++ rest).map (zv ad)))
set_option maxHeartbeats 8000000 in
set_option maxRecDepth 100000 in
theorem zstepN_ok {M : zM} {X : zX} {sc : Option (Nat × (Nat → Int32))} {Rt : zP} {K : zK} (hx : p.tables.exec = Jvm.exec) (hb : c.code = cc) (hml : c.maxLocals = nL) (hown : s.vm.findClass own = some m.cls) (hts : ∀ w ∈ Ts, w.before args s = true) (hKN : zKN D cy s) (hR : 1 ≤ R.frames ∧ 150 ≤ R.locals) (hcap : cap ≤ b + R.cells ∧ 828 * (cap - b) ≤ R.slots ∧ cap ≤ 900) (hA : ∀ q, s.heap.size ≤ q → A q)
    (hg : zGood M cc own Ts) (hgX : zGoodX X own Ts) (hinit : X.2.2.1 = [] ∨ meth.name = "<init>") (hob : X.2.2.2.1 = 0 → ∀ (pc : Nat) (x : zI), M.1[pc]? = some (some x) → x.1 ≠ .invokespecial 0) (hsc : ∀ L xs, sc = some (L, xs) → va_X (ad0 1000) L xs s s.heap ∧ ad0 1000 < s.heap.size ∧ ¬ A (ad0 1000))
    (hcV : ∀ (ad : Nat → Nat) (n0 : Nat), n0 ≤ cap → b ≤ n0 → ∀ (ix n : Nat) (G : zG), M.2.2.2.2.2.2.1.lookup ix = some (n, G) → zCO p l e R s m args below meth c cc nL D cy ad A n0 (n0 - b) (828 * (n0 - b)) Q (.invokevirtual ix) n G)
    (hcS : ∀ (ad : Nat → Nat) (n0 : Nat), n0 ≤ cap → b ≤ n0 → ∀ (ix n : Nat) (G : zG), M.2.2.2.2.2.2.2.lookup ix = some (n, G) → zCO p l e R s m args below meth c cc nL D cy ad A n0 (n0 - b) (828 * (n0 - b)) Q (.invokestatic ix) n G)
    (hcI : ∀ (ix n N : Nat) (G : zG), X.2.2.2.2.lookup ix = some (n, N, G) → zCI p l e R s m args below meth c cc nL D cy A b cap Q ix n N G)
    (hRt : ∀ (ad : Nat → Nat) (n0 : Nat), n0 ≤ cap → b ≤ n0 → zag b ad0 ad → zRO p l e R s m args below meth c cc D cy ad A n0 (n0 - b) (828 * (n0 - b)) Q Rt)
    (hKo : ∀ (pc : Nat) (ls : List (Option Value)) (st : List Value) (ws : zW), K pc ls st ws → zON p l e R s m args below meth c nL D cy ad0 A b cap Q pc ls st ws)
    (pc : Nat) (ls : List (Option Value)) (st : List Value) (ws : zW) (h : zstepN M X cap sc Rt K pc ls st ws) : zON p l e R s m args below meth c nL D cy ad0 A b cap Q pc ls st ws := by
  have gen : zstep M Rt K pc ls st ws → zON p l e R s m args below meth c nL D cy ad0 A b cap Q pc ls st ws := by
    intro h ad H locs lsC hP hD hS hlen had hl
    exact zstep_ok hx hb hml hown hts hKN.1 hR ⟨by omega, by omega⟩ hg (hcV ad ws.length hlen.2 hlen.1) (hcS ad ws.length hlen.2 hlen.1) (hRt ad ws.length hlen.2 hlen.1 had) (fun pc ls st ws' hk => fun H1 locs1 lsC1 p1 d1 s1 n1 l1 => by
      have := hKo pc ls st ws' hk ad H1 locs1 lsC1 p1 d1 s1 (by rw [n1]; exact hlen) had l1
      rw [n1] at this
      exact this) pc ls st ws h H locs lsC hP hD hS rfl hl
  unfold zstepN at h
  split at h
  case h_2 => exact h.elim
  rename_i i v nx tg hpc
  have hck := hg.1 pc _ hpc
  have agn : ∀ {ad : Nat → Nat} {q : Nat}, b ≤ ws.length → ws.length < 1000 → zag b ad0 ad → zag b ad0 (va_up ad ws.length q) := by
    intro ad q h1 h2 h3 k hk
    rw [← h3 k hk]
    exact zag_up ws.length q h2 ad k (by omega)
  cases i
  case new ix =>
    simp only [zchk, Bool.and_eq_true, decide_eq_true_eq] at hck
    obtain ⟨hd, rfl, -⟩ := hck
    simp only [zinN] at h
    split at h
    · rename_i ci hci
      obtain ⟨h1, h2⟩ := zbool_inv h
      simp only [zck, Bool.and_eq_true] at h1
      obtain ⟨⟨z1, z2, z3⟩, z4⟩ := h1
      have z4 : ws.length < cap := by simpa using z4
      intro ad H locs lsC hP hD hS hlen had hl
      obtain ⟨q, q1, q2, q3, q4, q5⟩ := hgX.1 ix ci hci
      obtain ⟨ty0, y1, y2, y3⟩ := zcls2 ci q q1
      have hu := zag_up ws.length 0 (by omega) ad
      refine va_new hx hb hts q2 ty0 y1 hown (hts _ q3) (hts _ q4) (hts _ q5) hKN.1.1 hP hD hS hA q1 y2 (by omega) (by omega) hd (fun a H1 p1 d1 s1 => ?_)
      have ew : zws cy (va_up ad ws.length a) (ws ++ [.inr (.inr (ci, zZ ci))]) = zws cy ad ws ++ [(a, .inr (ci, zZ ci))] := by
        rw [zws_new cy ad a ws _ (by omega) z3 (by
          show (zZ ci).all (zrk ws.length) = true
          match ci with
          | 0 => rfl
          | 1 => rfl
          | 2 => rfl
          | 3 => rfl
          | 4 => rfl
          | 5 => rfl
          | 6 => rfl
          | 7 => rfl
          | 8 => rfl
          | n + 9 => rfl)]
        show _ ++ [(a, Sum.inr (ci, (zZ ci).map (zv ad)))] = _
        rw [zZ_map]
      have hk := hKo _ _ _ _ h2 (va_up ad ws.length a) H1 locs lsC (by rw [ew]; exact p1) (by rw [ew]; exact d1) s1 (by rw [List.length_append]; exact ⟨Nat.le_trans hlen.1 (Nat.le_add_right _ _), z4⟩) (agn hlen.1 (by omega) had) (zLH_ag (zag_up _ a (by omega) ad) hl z1)
      rw [List.map_cons, zst_ag (zag_up _ a (by omega) ad) z2, List.length_append] at hk
      have ea : zv (va_up ad ws.length a) (.ref ws.length) = .ref a := by
        show Value.ref (if ws.length = ws.length then a else _) = _
        rw [if_pos rfl]
      rw [ea] at hk
      refine W.widen ?_ ?_ hk
      · show ws.length - b + 1 ≤ ws.length + 1 - b
        omega
      · show 828 * (ws.length - b) + _ ≤ 828 * (ws.length + 1 - b)
        omega
    · exact h.elim
  case newarray a =>
    simp only [zchk, Bool.and_eq_true, decide_eq_true_eq] at hck
    obtain ⟨hd, rfl, -⟩ := hck
    simp only [zinN] at h
    split at h
    · rename_i t n r hta
      obtain ⟨h1, h2⟩ := zbool_inv h
      simp only [zck, Bool.and_eq_true, decide_eq_true_eq] at h1
      obtain ⟨⟨z1, z2, z3⟩, z4, z5, z6⟩ := h1
      have z4 : ws.length < cap := by simpa using z4
      have z6 := Nat.le_of_ble_eq_true z6
      intro ad H locs lsC hP hD hS hlen had hl
      have key : ∀ (ty : FieldType), newarray.typeOf a = ty → (Cond.arrayClass (newarray.typeOf a)).before args s = true → (zT cy)[t]? = some (cy t, ty) → (∀ cA : ClassId, vp_cell cA (n.toNatClampNeg, .inl (fun _ => 0)) = arrV cA n.toNatClampNeg (fun _ => defaultValue ty)) → componentBytes ty ≤ 8 → (∀ x y, va_RA s x ty → va_RA s y ty → x = y) → W p l e R s m args below meth c H locs (ws.length - b) (828 * (ws.length - b)) Q (F0 m pc lsC ((Value.int n :: r).map (zv ad))) := by
        intro ty hty harr htt hcell hcb huniq
        refine va_newa hx hb harr hty hKN.1.1 hP hD hS hA (a0 := (n.toNatClampNeg, .inl (fun _ => 0))) hcell z5 rfl (Nat.le_trans (Nat.mul_le_mul z6 hcb) (by decide)) (by omega) (by omega) hd (fun q cA H1 k1 p1 d1 s1 => ?_)
        have ecA : cA = cy t := huniq _ _ (k1.2 5 (cA, ty) (by
          show ((zT cy) ++ [(cA, ty)])[5]? = _
          rfl)).2 (hKN.1.1.2 t _ htt).2
        subst ecA
        have ew : zws cy (va_up ad ws.length q) (ws ++ [.inl (t, n.toNatClampNeg, fun _ => 0)]) = zws cy ad ws ++ [(q, .inl (cy t, n.toNatClampNeg, .inl (fun _ => 0)))] := zws_new cy ad q ws _ (by omega) z3 rfl
        have hk := hKo _ _ _ _ h2 (va_up ad ws.length q) H1 locs lsC (by rw [ew]; exact p1) (by rw [ew]; exact d1) s1 (by rw [List.length_append]; exact ⟨Nat.le_trans hlen.1 (Nat.le_add_right _ _), z4⟩) (agn hlen.1 (by omega) had) (zLH_ag (zag_up _ q (by omega) ad) hl z1)
        rw [List.map_cons, zst_ag (zag_up _ q (by omega) ad) z2, List.length_append] at hk
        have ea : zv (va_up ad ws.length q) (.ref ws.length) = .ref q := by
          show Value.ref (if ws.length = ws.length then q else _) = _
          rw [if_pos rfl]
        rw [ea] at hk
        refine W.widen ?_ ?_ hk
        · show ws.length - b + 1 ≤ ws.length + 1 - b
          omega
        · show 828 * (ws.length - b) + n.toNatClampNeg ≤ 828 * (ws.length + 1 - b)
          omega
      have hu : ∀ (ty : FieldType) (C : String), "[" ++ ty.toString = C → (∀ x, va_RA s x ty → s.vm.findClass C = some x) → ∀ x y, va_RA s x ty → va_RA s y ty → x = y := fun ty C _ hf x y h1 h2 => Option.some.inj ((hf x h1).symm.trans (hf y h2))
      cases a <;> simp only [ztagA] at hta <;> first | cases hta | skip
      · exact key .boolean rfl (hts _ hgX.2.2.2.1.2.2) rfl (fun _ => rfl) (by decide) (hu .boolean _ rfl (fun x h => h))
      · exact key .byte rfl (hts _ hgX.2.2.2.1.2.1) rfl (fun _ => rfl) (by decide) (hu .byte _ rfl (fun x h => h))
      · exact key .int rfl (hts _ hgX.2.2.2.1.1) rfl (fun _ => rfl) (by decide) (hu .int _ rfl (fun x h => h))
    · exact h.elim
  case anewarray ix =>
    simp only [zchk, Bool.and_eq_true, decide_eq_true_eq] at hck
    obtain ⟨hd, rfl, -⟩ := hck
    simp only [zinN] at h
    split at h
    · rename_i t n r hta
      obtain ⟨h1, h2⟩ := zbool_inv h
      simp only [zck, Bool.and_eq_true, decide_eq_true_eq] at h1
      obtain ⟨⟨z1, z2, z3⟩, z4, z5, z6⟩ := h1
      have z4 : ws.length < cap := by simpa using z4
      have z6 := Nat.le_of_ble_eq_true z6
      intro ad H locs lsC hP hD hS hlen had hl
      have key : ∀ (C : String), Jvm.Cond.classLink own ix C ∈ Ts → va_AO C s → (zT cy)[t]? = some (cy t, .object C) → W p l e R s m args below meth c H locs (ws.length - b) (828 * (ws.length - b)) Q (F0 m pc lsC ((Value.int n :: r).map (zv ad))) := by
        intro C hcl hao htt
        refine va_newq hx hb hown (hts _ hcl) hao hKN.1.1 hP hD hS hA z5 rfl (by omega) (by omega) (by omega) hd (fun q cA H1 k1 p1 d1 s1 => ?_)
        have ecA : cA = cy t := by
          obtain ⟨_, _, -, -, -, e1⟩ := (k1.2 5 (cA, .object C) (by
            show ((zT cy) ++ [(cA, FieldType.object C)])[5]? = _
            rfl)).2
          obtain ⟨_, _, -, -, -, e2⟩ := (hKN.1.1.2 t _ htt).2
          exact Option.some.inj (e1.symm.trans e2)
        subst ecA
        have ec : zc cy ad (.inr (.inl (t, List.replicate n.toNatClampNeg none))) = .inl (cy t, n.toNatClampNeg, .inr (.inr (.inr (.inr (fun _ => none))))) := by
          have e : (fun i : Nat => (((List.replicate n.toNatClampNeg (none : Option Nat))[i]?).getD none).map ad) = (fun _ => none) := by
            funext i
            rw [List.getElem?_replicate]
            split <;> rfl
          show Sum.inl (cy t, (List.replicate n.toNatClampNeg (none : Option Nat)).length, _) = _
          rw [List.length_replicate]
          congr 5
          simp only [e]
        have ew : zws cy (va_up ad ws.length q) (ws ++ [.inr (.inl (t, List.replicate n.toNatClampNeg none))]) = zws cy ad ws ++ [(q, .inl (cy t, n.toNatClampNeg, .inr (.inr (.inr (.inr (fun _ => none))))))] := by
          rw [zws_new cy ad q ws _ (by omega) z3 (by
            show (List.replicate n.toNatClampNeg none).all (zrkO ws.length) = true
            rw [List.all_eq_true]
            intro x hx
            rw [(List.mem_replicate.mp hx).2]
            rfl), ec]
        have hk := hKo _ _ _ _ h2 (va_up ad ws.length q) H1 locs lsC (by rw [ew]; exact p1) (by rw [ew]; exact d1) s1 (by rw [List.length_append]; exact ⟨Nat.le_trans hlen.1 (Nat.le_add_right _ _), z4⟩) (agn hlen.1 (by omega) had) (zLH_ag (zag_up _ q (by omega) ad) hl z1)
        rw [List.map_cons, zst_ag (zag_up _ q (by omega) ad) z2, List.length_append] at hk
        have ea : zv (va_up ad ws.length q) (.ref ws.length) = .ref q := by
          show Value.ref (if ws.length = ws.length then q else _) = _
          rw [if_pos rfl]
        rw [ea] at hk
        refine W.widen ?_ ?_ hk
        · show ws.length - b + 1 ≤ ws.length + 1 - b
          omega
        · show 828 * (ws.length - b) + n.toNatClampNeg ≤ 828 * (ws.length + 1 - b)
          omega
      rcases hgX.2.1 ix t hta with ⟨rfl, w⟩ | ⟨rfl, w⟩
      · exact key _ w hKN.2.1 rfl
      · exact key _ w hKN.2.2 rfl
    · exact h.elim
  case putfield ix =>
    simp only [zinN] at h
    split at h
    · rename_i fl hfl
      simp only [zchk, Bool.and_eq_true, decide_eq_true_eq] at hck
      obtain ⟨hd, rfl, -⟩ := hck
      intro ad H locs lsC hP hD hS hlen had hl
      obtain ⟨ci, j, ty, k, r, fs, w, h1, rfl, h2, h3, h4⟩ := zpf_inv h
      cases h1
      obtain ⟨q, q1, q2, q3, q4, q5, q6, q7⟩ := hgX.2.2.1 ix ci j ty hfl
      obtain ⟨ty0, y1, y2⟩ := zcls ci q q1
      obtain ⟨f1, f2, f3⟩ := zfit_inv h4 ad
      have hin : meth.name = "<init>" := hinit.elim (fun e => by rw [e] at hfl; cases hfl) id
      refine va_putF hx hb hts q4 ty0 y1 y2 hown hKN.1.1 hP hD hS k (zws_get h2) q1 j q2 (hts _ q3) (fun _ h9 => h9) q6 hin q7 q5 f1 f2 (by rw [List.length_map]; exact h3) hd (fun H1 locs1 p1 d1 s1 => ?_)
      have ew : (zws cy ad ws).set k (ad k, .inr (ci, (fs.map (zv ad)).set j (zv ad w))) = zws cy ad (ws.set k (.inr (.inr (ci, fs.set j w)))) := by
        rw [zws_set]
        show _ = (zws cy ad ws).set k (ad k, .inr (ci, (fs.set j w).map (zv ad)))
        rw [List.map_set]
      rw [ew] at p1 d1
      have hk := hKo _ _ _ _ f3 ad H1 locs1 lsC p1 d1 s1 (by rw [List.length_set]; exact hlen) had hl
      rw [List.length_set] at hk
      exact hk
    · exact gen (by unfold zstep; rw [hpc]; exact h)
  case invokespecial ix =>
    simp only [zchk, Bool.and_eq_true, decide_eq_true_eq] at hck
    obtain ⟨hd, rfl, -⟩ := hck
    simp only [zinN] at h
    split at h
    · rename_i hix
      have hix := Nat.eq_of_beq_eq_true hix
      split at h
      · rename_i k r
        obtain ⟨h1, h2⟩ := zbool_inv h
        have h1 := Nat.le_of_ble_eq_true h1
        intro ad H locs lsC hP hD hS hlen had hl
        rcases hgX.2.2.2.2 with w | ⟨w1, w2, w3⟩
        · rw [w] at hix
          subst hix
          exact absurd rfl (hob w pc _ hpc)
        rw [← hix] at w1
        refine W.objInit hx hb hown (hts _ w1) (hts _ w2) (hts _ w3) (g := F0 m pc lsC ((Value.ref k :: r).map (zv ad))) rfl (hl.1.trans hml.symm) (a := ad k) (rest := r.map (zv ad)) rfl hd hR.1 ?_ (hKo _ _ _ _ h2 ad H locs lsC hP hD hS hlen had hl)
        have : 2 * 0 + ((r.map (zv ad)).map fun v => v.category).sum + 12 ≤ R.locals := by
          rw [zcat_map]
          omega
        exact this
      · exact h.elim
    · split at h
      · rename_i n N G hsp
        obtain ⟨h1, h2⟩ := zbool_inv h
        simp only [zck, Bool.and_eq_true] at h1
        obtain ⟨z1, z2, ⟨z3, z4, z5⟩, z6⟩ := h1
        have z1 := Nat.le_of_ble_eq_true z1
        have z2 := Nat.le_of_ble_eq_true z2
        have z6 := Nat.le_of_ble_eq_true z6
        intro ad H locs lsC hP hD hS hlen had hl
        have := hcI ix n N G hsp (st.take n).reverse (st.drop n) ws _ (by rw [List.length_reverse, List.length_take]; omega) z2 h2 pc ad H locs lsC hd hP hD hS hlen.1 z6 hl.1 z5 (fun ws' ad' H1 locs1 hk p1 d1 s1 n1 ha => ?_)
        · rw [List.reverse_reverse, List.take_append_drop] at this
          exact this
        · have := hKo _ _ _ _ hk ad' H1 locs1 lsC p1 d1 s1 (by rw [n1]; exact ⟨by omega, z6⟩) (fun k hk => by rw [ha k (by omega)]; exact had k hk) (zLH_ag ha hl z3)
          rw [zst_ag ha z4] at this
          exact this
      · exact h.elim
  case iaload =>
    simp only [zinN] at h
    split at h
    · rename_i i k r
      split at h
      · rename_i L xs hk1
        simp only [zchk, Bool.and_eq_true, decide_eq_true_eq] at hck
        obtain ⟨hd, rfl, -⟩ := hck
        have hk1 := Nat.eq_of_beq_eq_true hk1
        subst hk1
        intro ad H locs lsC hP hD hS hlen had hl
        obtain ⟨x1, x2, x3⟩ := hsc L xs rfl
        have e9 : ad 1000 = ad0 1000 := had 1000 (Or.inr (Nat.le_refl _))
        show W p l e R s m args below meth c H locs _ _ Q (F0 m pc lsC (.int i :: .ref (ad 1000) :: r.map (zv ad)))
        rw [e9]
        exact va_sld hx hb x1 x2 x3 hS h.1 hd (hKo _ _ _ _ h.2 ad H locs lsC hP hD hS hlen had hl)
      · exact h.elim
      · exact gen (by unfold zstep; rw [hpc]; exact h)
    · exact h.elim
  case arraylength =>
    simp only [zinN] at h
    split at h
    · rename_i k r
      split at h
      · rename_i L xs hk1
        simp only [zchk, Bool.and_eq_true, decide_eq_true_eq] at hck
        obtain ⟨hd, rfl, -⟩ := hck
        have hk1 := Nat.eq_of_beq_eq_true hk1
        subst hk1
        intro ad H locs lsC hP hD hS hlen had hl
        obtain ⟨x1, x2, x3⟩ := hsc L xs rfl
        have e9 : ad 1000 = ad0 1000 := had 1000 (Or.inr (Nat.le_refl _))
        show W p l e R s m args below meth c H locs _ _ Q (F0 m pc lsC (.ref (ad 1000) :: r.map (zv ad)))
        rw [e9]
        exact va_slen hx hb x1 x2 x3 hS hd (hKo _ _ _ _ h ad H locs lsC hP hD hS hlen had hl)
      · exact h.elim
      · exact gen (by unfold zstep; rw [hpc]; exact h)
    · exact h.elim
  all_goals exact gen (by unfold zstep; rw [hpc]; exact h)
end ZN
