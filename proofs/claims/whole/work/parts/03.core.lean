/-! ===== the small machine: values, cells, worlds; a reference is a place of the world, 'ad' its address ===== -/
abbrev zCell : Type := (Nat × Nat × (Nat → Int32)) ⊕ ((Nat × List (Option Nat)) ⊕ (Nat × List Value))
abbrev zW : Type := List zCell
abbrev zI : Type := Instr × Int32 × Nat × List Nat
abbrev zP : Type := Option Value → zW → Prop
abbrev zK : Type := Nat → List (Option Value) → List Value → zW → Prop
abbrev zG : Type := List Value → zW → zP → Prop
abbrev zM : Type := List (Option zI) × List (Nat × Nat × Nat × FieldType) × List (Nat × Nat × Nat × FieldType) × List (Nat × Int32) × List (Nat × Int64) × List (Nat × Nat) × List (Nat × Nat × zG) × List (Nat × Nat × zG)
def zv (ad : Nat → Nat) (v : Value) : Value := match v with
  | .int x => .int x
  | .long x => .long x
  | .float x => .float x
  | .double x => .double x
  | .null => .null
  | .ref k => .ref (ad k)
  | .retAddr x => .retAddr x
theorem zv_cat (ad : Nat → Nat) (v : Value) : (zv ad v).category = v.category := by cases v <;> rfl
def zc (cy : Nat → ClassId) (ad : Nat → Nat) (c : zCell) : va_E := match c with
  | .inl a => .inl (cy a.1, a.2.1, .inl a.2.2)
  | .inr (.inl a) => .inl (cy a.1, a.2.length, .inr (.inr (.inr (.inr (fun i => ((a.2[i]?).getD none).map ad)))))
  | .inr (.inr o) => .inr (o.1, o.2.map (zv ad))
def zws (cy : Nat → ClassId) (ad : Nat → Nat) (ws : zW) : va_W := ws.mapIdx (fun k c => (ad k, zc cy ad c))
theorem zws_get {cy : Nat → ClassId} {ad : Nat → Nat} {ws : zW} {k : Nat} {c : zCell} (h : ws[k]? = some c) : (zws cy ad ws)[k]? = some (ad k, zc cy ad c) := by
  simp [zws, List.getElem?_mapIdx, h]
theorem zws_inv {cy : Nat → ClassId} {ad : Nat → Nat} {ws : zW} {k : Nat} {q : Nat × va_E} (h : (zws cy ad ws)[k]? = some q) : ∃ c, ws[k]? = some c ∧ q = (ad k, zc cy ad c) := by
  rw [zws, List.getElem?_mapIdx] at h
  cases hw : ws[k]? with
  | none => rw [hw] at h; cases h
  | some c => rw [hw] at h; exact ⟨c, rfl, (Option.some.inj h).symm⟩
theorem zws_set (cy : Nat → ClassId) (ad : Nat → Nat) (ws : zW) (k : Nat) (c : zCell) : zws cy ad (ws.set k c) = (zws cy ad ws).set k (ad k, zc cy ad c) := by
  apply List.ext_getElem?
  intro i
  simp only [zws, List.getElem?_mapIdx, List.getElem?_set, List.length_mapIdx]
  by_cases h : k = i
  · subst h
    by_cases h2 : k < ws.length
    · simp [h2]
    · simp [h2]
  · simp [h]
def zT (cy : Nat → ClassId) : List (ClassId × FieldType) := [(cy 0, .int), (cy 1, .byte), (cy 2, .boolean), (cy 3, .object "RankWheels$Image"), (cy 4, .object "RankWheels$Line")]
/-- the links to private members of nest mates -/
def zN : List Jvm.Cond := [.methodLinkNest RX7 15 yX6_init RX7, .methodLinkNest RX7 22 yX2_init RX7, .methodLinkNest RX7 54 yX5_init RX7, .methodLinkNest RX1 52 yX7_wanted RX7, .methodLinkNest RX3 57 yX7_wanted RX7, .methodLinkNest RX6 11 yX2_init RX7, .methodLinkNest RX6 90 yX7_within RX7]
def zKK (D : va_G) (cy : Nat → ClassId) (U : State) : Prop := va_K D vwCl (zT cy) U ∧ ∀ w ∈ zN, va_Nw w U
theorem zKK.warm {D : va_G} {cy : Nat → ClassId} {s U : State} (h : zKK D cy s) (hW : s.WarmedH U.vm) : zKK D cy U := by
  refine ⟨va_K.moved hW.alike h.1, fun w hw => ?_⟩
  have h1 := h.2 w hw
  simp only [zN, List.mem_cons, List.not_mem_nil, or_false] at hw
  rcases hw with rfl | rfl | rfl | rfl | rfl | rfl | rfl <;> exact va_Nw.warmM hW h1
theorem zKK.calling {D : va_G} {cy : Nat → ClassId} {U : State} {g : JFrame} {mk : MethodId} {a : Array Value} (h : zKK D cy U) : zKK D cy (U.calling g mk a) := by
  refine ⟨va_K.moved (u := U) (U := U.calling g mk a) (Vm.Alike.refl U.vm) h.1, fun w hw => ?_⟩
  have h1 := h.2 w hw
  simp only [zN, List.mem_cons, List.not_mem_nil, or_false] at hw
  rcases hw with rfl | rfl | rfl | rfl | rfl | rfl | rfl <;> exact va_Nw.same rfl rfl h1
/-! locals -/
def zLH (lsC : Array Slot) (nL : Nat) (ad : Nat → Nat) (ls : List (Option Value)) : Prop := lsC.size = nL ∧ lv_wf lsC ∧ ls.length = nL ∧ ∀ (i : Nat) (v : Value), ls[i]? = some (some v) → v.category = 1 → lsC[i]? = some (.val (zv ad v))
def zlist (ad : Nat → Nat) (ls : List (Option Value)) : List (Nat × Value) := (List.range ls.length).filterMap (fun j => match ls[j]? with
  | some (some w) => if w.category = 1 then some (j, zv ad w) else none
  | _ => none)
theorem zlist_mem {ad : Nat → Nat} {ls : List (Option Value)} {q : Nat × Value} : q ∈ zlist ad ls ↔ ∃ (j : Nat) (w : Value), ls[j]? = some (some w) ∧ w.category = 1 ∧ q = (j, zv ad w) := by
  constructor
  · intro h
    obtain ⟨j, -, h2⟩ := List.mem_filterMap.mp h
    split at h2
    · rename_i w hw
      split at h2
      · rename_i hc
        exact ⟨j, w, hw, hc, (Option.some.inj h2).symm⟩
      · cases h2
    · cases h2
  · rintro ⟨j, w, h1, h2, rfl⟩
    refine List.mem_filterMap.mpr ⟨j, List.mem_range.mpr (List.getElem?_eq_some_iff.mp h1).1, ?_⟩
    rw [h1]
    simp [h2]
theorem zLH.has {lsC : Array Slot} {nL : Nat} {ad : Nat → Nat} {ls : List (Option Value)} (h : zLH lsC nL ad ls) : lv_has lsC nL (zlist ad ls) := by
  refine ⟨h.1, h.2.1, fun q hq => ?_⟩
  obtain ⟨j, w, h1, h2, rfl⟩ := zlist_mem.mp hq
  exact h.2.2.2 j w h1 h2
theorem zLH.at {lsC : Array Slot} {nL : Nat} {ad : Nat → Nat} {ls : List (Option Value)} (h : zLH lsC nL ad ls) {i : Nat} {v : Value} (hv : ls[i]? = some (some v)) (hc : v.category = 1) : lsC[i]? = some (.val (zv ad v)) := h.2.2.2 i v hv hc
theorem zLH.put {ls' : Array Slot} {nL : Nat} {ad : Nat → Nat} {ls : List (Option Value)} {i : Nat} {v : Value} (hn : ls.length = nL) (hi : i < nL) (h : lv_has ls' nL ((i, zv ad v) :: (zlist ad ls).filter (fun q => !(q.1 == i) && !(q.1 + 1 == i && q.2.category == 2)))) : zLH ls' nL ad (ls.set i (some v)) := by
  refine ⟨h.1, h.2.1, by rw [List.length_set]; exact hn, fun j w hw hc => ?_⟩
  rw [List.getElem?_set] at hw
  by_cases hj : i = j
  · subst hj
    rw [if_pos rfl, if_pos (by omega)] at hw
    cases hw
    exact h.2.2 (i, zv ad v) List.mem_cons_self
  · rw [if_neg hj] at hw
    refine h.2.2 (j, zv ad w) (List.mem_cons_of_mem _ (List.mem_filter.mpr ⟨zlist_mem.mpr ⟨j, w, hw, hc, rfl⟩, ?_⟩))
    have hj2 : ¬ j = i := fun q => hj q.symm
    simp [hj2, zv_cat, hc]
def zOK (p : Program) (l : Launch) (e : Env) (R : Room) (s : State) (m : MethodId) (args : Array Value) (below : List Frame) (meth : Method) (c : Code) (nL : Nat) (D : va_G) (cy : Nat → ClassId) (ad : Nat → Nat) (A : Nat → Prop) (n0 : Nat) (cells slots : Nat) (Q : State → Prop) : zK := fun pc ls st ws =>
  ∀ (H : Heap) (locs : List Loc) (lsC : Array Slot), va_P D vwCl (zws cy ad ws) H → va_D A (zws cy ad ws) → va_S A s.heap H locs → ws.length = n0 → zLH lsC nL ad ls → W p l e R s m args below meth c H locs cells slots Q (F0 m pc lsC (st.map (zv ad)))
/-! the step -/
def zlen (i : Instr) : Nat := match i with
  | .bipush _ => 2
  | .iload _ => 2
  | .aload _ => 2
  | .istore _ => 2
  | .astore _ => 2
  | .ldc _ => 2
  | .newarray _ => 2
  | .sipush _ => 3
  | .getfield _ => 3
  | .putfield _ => 3
  | .iinc _ _ => 3
  | .ifCond _ _ => 3
  | .if_icmp _ _ => 3
  | .goto _ => 3
  | .invokevirtual _ => 3
  | .invokestatic _ => 3
  | .invokespecial _ => 3
  | .ldc2_w _ => 3
  | .new _ => 3
  | .anewarray _ => 3
  | _ => 1
def ztg (pc : Nat) (off : Int) (tg : List Nat) : Bool := match tg with
  | [t] => decide ((pc : Int) + off = (t : Int))
  | _ => false
def ztgs (pc : Nat) : List Int → List Nat → Bool
  | [], [] => true
  | o :: os, t :: ts => decide ((pc : Int) + o = (t : Int)) && ztgs pc os ts
  | _, _ => false
def zchk (cc : ByteArray) (pc : Nat) (x : zI) : Bool := match x.1 with
  | .tableswitch d lo hi offs => decide (decode cc pc = .ok (x.1, x.2.2.1 - pc)) && (ztgs pc (d :: offs.toList) x.2.2.2 && decide (lo + (offs.toList.length : Int) = hi + 1))
  | .lookupswitch d ps => decide (decode cc pc = .ok (x.1, x.2.2.1 - pc)) && (ztgs pc (d :: ps.toList.map (fun q => q.2)) x.2.2.2 && (ps.toList.zip (ps.toList.drop 1)).all (fun (a, next) => a.1 < next.1))
  | i => decide (decode cc pc = .ok (i, zlen i)) && (decide (x.2.2.1 = pc + zlen i) && (match i with
    | .iconst z => decide (Int32.ofInt z = x.2.1)
    | .bipush z => decide ((Int8.ofInt z).toInt32 = x.2.1)
    | .sipush z => decide ((Int16.ofInt z).toInt32 = x.2.1)
    | .iinc _ z => decide (Int32.ofInt z = x.2.1)
    | .goto off => ztg pc off x.2.2.2
    | .ifCond _ off => ztg pc off x.2.2.2
    | .if_icmp _ off => ztg pc off x.2.2.2
    | _ => true))
def zcmp (o : Jvm.ClassFile.Cond) (x y : Int32) : Prop := match o with
  | .eq => x = y
  | .ne => ¬ x = y
  | .lt => x < y
  | .ge => y ≤ x
  | .gt => y < x
  | .le => x ≤ y
def zbr (o : Jvm.ClassFile.Cond) (x y : Int32) (P N : Prop) : Prop := match o with
  | .eq => (x = y → P) ∧ (¬ x = y → N)
  | .ne => (x = y → N) ∧ (¬ x = y → P)
  | .lt => (x < y → P) ∧ (¬ x < y → N)
  | .ge => (y ≤ x → P) ∧ (¬ y ≤ x → N)
  | .gt => (y < x → P) ∧ (¬ y < x → N)
  | .le => (x ≤ y → P) ∧ (¬ x ≤ y → N)
def zcat (l : List Value) : Nat := (l.map fun v => v.category).sum
def zfit (ty : FieldType) (v : Value) (P : Prop) : Prop := match ty with
  | .int => match v with
    | .int _ => P
    | _ => False
  | .long => match v with
    | .long _ => P
    | _ => False
  | .boolean => match v with
    | .int x => (x = 0 ∨ x = 1) ∧ P
    | _ => False
  | .array _ => match v with
    | .ref _ => P
    | _ => False
  | .object _ => match v with
    | .ref _ => P
    | _ => False
  | _ => False
def zsw (x : Int32) (P : Nat → Prop) : Int → List Nat → Prop
  | _, [] => True
  | v, t :: ts => (x.toInt = v → P t) ∧ zsw x P (v + 1) ts
def zlk (x : Int32) (P : Nat → Prop) (dt : Nat) : List (Int × Int) → List Nat → Prop
  | [], [] => P dt
  | q :: qs, t :: ts => (x.toInt = q.1 → P t) ∧ (¬ x.toInt = q.1 → zlk x P dt qs ts)
  | _, _ => False
def zbool (b : Bool) (P : Prop) : Prop := match b with
  | true => P
  | false => False
def zld (K : zK) (isI : Bool) (n nx : Nat) (ls : List (Option Value)) (st : List Value) (ws : zW) : Prop := match ls[n]? with
  | some (some (.int x)) => zbool isI (K nx ls (.int x :: st) ws)
  | some (some (.ref x)) => zbool (!isI) (K nx ls (.ref x :: st) ws)
  | _ => False
def zst (K : zK) (isI : Bool) (n nx : Nat) (ls : List (Option Value)) (st : List Value) (ws : zW) : Prop := match st with
  | .int x :: r => zbool isI (zbool (Nat.blt n ls.length) (K nx (ls.set n (some (.int x))) r ws))
  | .ref x :: r => zbool (!isI) (zbool (Nat.blt n ls.length) (K nx (ls.set n (some (.ref x))) r ws))
  | _ => False
def z2 (K : zK) (f : Int32 → Int32 → Int32) (nx : Nat) (ls : List (Option Value)) (st : List Value) (ws : zW) : Prop := match st with
  | .int y :: .int x :: r => K nx ls (.int (f x y) :: r) ws
  | _ => False
def z2d (K : zK) (f : Int32 → Int32 → Int32) (nx : Nat) (ls : List (Option Value)) (st : List Value) (ws : zW) : Prop := match st with
  | .int y :: .int x :: r => ¬ y = 0 ∧ K nx ls (.int (f x y) :: r) ws
  | _ => False
def z1 (K : zK) (f : Int32 → Int32) (nx : Nat) (ls : List (Option Value)) (st : List Value) (ws : zW) : Prop := match st with
  | .int x :: r => K nx ls (.int (f x) :: r) ws
  | _ => False
def zgf (K : zK) (fl : Option (Nat × Nat × FieldType)) (nx : Nat) (ls : List (Option Value)) (st : List Value) (ws : zW) : Prop := match fl, st with
  | some (ci, j, _), .ref k :: r => match ws[k]? with
    | some (.inr (.inr (ci', fs))) => match fs[j]? with
      | some w => zbool (Nat.beq ci' ci) (K nx ls (w :: r) ws)
      | none => False
    | _ => False
  | _, _ => False
def zpf (K : zK) (fl : Option (Nat × Nat × FieldType)) (nx : Nat) (ls : List (Option Value)) (st : List Value) (ws : zW) : Prop := match fl, st with
  | some (ci, j, ty), w :: .ref k :: r => match ws[k]? with
    | some (.inr (.inr (ci', fs))) => zbool (Nat.beq ci' ci) (zbool (Nat.blt j fs.length) (zfit ty w (K nx ls r (ws.set k (.inr (.inr (ci', fs.set j w)))))))
    | _ => False
  | _, _ => False
def zal (K : zK) (isI : Bool) (nx : Nat) (ls : List (Option Value)) (st : List Value) (ws : zW) : Prop := match st with
  | .int i :: .ref k :: r => match ws[k]? with
    | some (.inl (t, n, f)) => zbool (if isI then Nat.beq t 0 else Nat.beq t 1 || Nat.beq t 2) (vp_in i n ∧ K nx ls (.int (f i.toNatClampNeg) :: r) ws)
    | _ => False
  | _ => False
def zas (K : zK) (isI : Bool) (nx : Nat) (ls : List (Option Value)) (st : List Value) (ws : zW) : Prop := match st with
  | .int x :: .int i :: .ref k :: r => match ws[k]? with
    | some (.inl (t, n, f)) => match isI, t with
      | true, 0 => vp_in i n ∧ K nx ls r (ws.set k (.inl (0, n, upd f i.toNatClampNeg x)))
      | false, 1 => vp_in i n ∧ K nx ls r (ws.set k (.inl (1, n, upd f i.toNatClampNeg (vp_nar .byte x))))
      | false, 2 => vp_in i n ∧ K nx ls r (ws.set k (.inl (2, n, upd f i.toNatClampNeg (vp_nar .boolean x))))
      | _, _ => False
    | _ => False
  | _ => False
def zaa (K : zK) (nx : Nat) (ls : List (Option Value)) (st : List Value) (ws : zW) : Prop := match st with
  | .int i :: .ref k :: r => match ws[k]? with
    | some (.inr (.inl (t, l))) => zbool (Nat.beq t 3 || Nat.beq t 4) (vp_in i l.length ∧ ∃ a : Nat, l[i.toNatClampNeg]? = some (some a) ∧ K nx ls (.ref a :: r) ws)
    | _ => False
  | _ => False
def zax (K : zK) (nx : Nat) (ls : List (Option Value)) (st : List Value) (ws : zW) : Prop := match st with
  | .ref a :: .int i :: .ref k :: r => match ws[k]?, ws[a]? with
    | some (.inr (.inl (t, l))), some (.inr (.inr (ci, _))) => zbool ((Nat.beq t 3 && Nat.beq ci 0) || (Nat.beq t 4 && Nat.beq ci 1)) (vp_in i l.length ∧ K nx ls r (ws.set k (.inr (.inl (t, l.set i.toNatClampNeg (some a))))))
    | _, _ => False
  | _ => False
def zan (K : zK) (nx : Nat) (ls : List (Option Value)) (st : List Value) (ws : zW) : Prop := match st with
  | .ref k :: r => match ws[k]? with
    | some (.inl (t, n, _)) => zbool (Nat.blt t 3) (K nx ls (.int (Int32.ofNat n) :: r) ws)
    | _ => False
  | _ => False
def zcl (K : zK) (nx : Nat) (ls : List (Option Value)) (rest : List Value) : zP := fun rv ws' => match rv with
  | some v => K nx ls (v :: rest) ws'
  | none => K nx ls rest ws'
def zca (K : zK) (g : Option (Nat × zG)) (nx : Nat) (ls : List (Option Value)) (st : List Value) (ws : zW) : Prop := match g with
  | some (n, G) => zbool (Nat.ble n st.length) (zbool (Nat.ble (zcat (st.drop n)) 8) (G (st.take n).reverse ws (zcl K nx ls (st.drop n))))
  | none => False
def zma (K : zK) (o : Nat) (nx : Nat) (ls : List (Option Value)) (st : List Value) (ws : zW) : Prop := match o with
  | 0 => match st with
    | .int y :: .int x :: r => zbool (Nat.ble (zcat r) 8) (K nx ls (.int (if x < y then y else x) :: r) ws)
    | _ => False
  | 1 => match st with
    | .int y :: .int x :: r => zbool (Nat.ble (zcat r) 8) (K nx ls (.int (if y < x then y else x) :: r) ws)
    | _ => False
  | 2 => match st with
    | .int x :: r => zbool (Nat.ble (zcat r) 8) (K nx ls (.int (if 0 ≤ x then x else 0 - x) :: r) ws)
    | _ => False
  | 3 => match st with
    | .int n :: .int dp :: .ref a :: .int sp :: .ref a0 :: r => match ws[a0]?, ws[a]? with
      | some (.inl (t0, n0, f)), some (.inl (t1, n1, g)) => zbool (Nat.ble (zcat r) 8 && (Nat.beq t0 0 && Nat.beq t1 0)) ((¬ sp < 0 ∧ ¬ dp < 0 ∧ ¬ n < 0 ∧ sp.toNatClampNeg + n.toNatClampNeg ≤ n0 ∧ dp.toNatClampNeg + n.toNatClampNeg ≤ n1) ∧ K nx ls r (ws.set a (.inl (0, n1, va_cpy f g sp.toNatClampNeg dp.toNatClampNeg n.toNatClampNeg))))
      | _, _ => False
    | _ => False
  | _ => False
def zis (M : zM) (K : zK) (ix : Nat) (nx : Nat) (ls : List (Option Value)) (st : List Value) (ws : zW) : Prop := match M.2.2.2.2.2.1.lookup ix with
  | some o => zma K o nx ls st ws
  | none => zca K (M.2.2.2.2.2.2.2.lookup ix) nx ls st ws
def zin (M : zM) (Rt : zP) (K : zK) (ls : List (Option Value)) (st : List Value) (ws : zW) (v : Int32) (nx : Nat) (tg : List Nat) (i : Instr) : Prop := match i with
  | .iload_n k => zld K true k.val nx ls st ws
  | .iload k => zld K true k nx ls st ws
  | .aload_n k => zld K false k.val nx ls st ws
  | .aload k => zld K false k nx ls st ws
  | .istore_n k => zst K true k.val nx ls st ws
  | .istore k => zst K true k nx ls st ws
  | .astore_n k => zst K false k.val nx ls st ws
  | .astore k => zst K false k nx ls st ws
  | .iconst _ => K nx ls (.int v :: st) ws
  | .bipush _ => K nx ls (.int v :: st) ws
  | .sipush _ => K nx ls (.int v :: st) ws
  | .ldc ix => match M.2.2.2.1.lookup ix with
    | some x => K nx ls (.int x :: st) ws
    | none => False
  | .ldc2_w ix => match M.2.2.2.2.1.lookup ix with
    | some x => K nx ls (.long x :: st) ws
    | none => False
  | .lconst n => K nx ls (.long (Int64.ofNat n.val) :: st) ws
  | .iadd => z2 K HAdd.hAdd nx ls st ws
  | .isub => z2 K HSub.hSub nx ls st ws
  | .imul => z2 K HMul.hMul nx ls st ws
  | .iand => z2 K HAnd.hAnd nx ls st ws
  | .ior => z2 K HOr.hOr nx ls st ws
  | .ishl => match st with
    | .int y :: .int x :: r => K nx ls (.int (x <<< (y &&& 31)) :: r) ws
    | _ => False
  | .ishr => match st with
    | .int y :: .int x :: r => K nx ls (.int (x >>> (y &&& 31)) :: r) ws
    | _ => False
  | .idiv => z2d K HDiv.hDiv nx ls st ws
  | .irem => match st with
    | .int y :: .int x :: r => ¬ y = 0 ∧ K nx ls (.int (x - x / y * y) :: r) ws
    | _ => False
  | .ineg => z1 K Neg.neg nx ls st ws
  | .i2b => match st with
    | .int x :: r => K nx ls (.int (x.toInt8.toInt32) :: r) ws
    | _ => False
  | .ladd => match st with
    | .long y :: .long x :: r => K nx ls (.long (x + y) :: r) ws
    | _ => False
  | .lcmp => match st with
    | .long y :: .long x :: r => K nx ls (.int (lg_cmp x y) :: r) ws
    | _ => False
  | .dup => match st with
    | x :: r => zbool (Nat.beq x.category 1) (K nx ls (x :: x :: r) ws)
    | _ => False
  | .dup2 => match st with
    | x :: y :: r => zbool (Nat.beq x.category 1 && Nat.beq y.category 1) (K nx ls (x :: y :: x :: y :: r) ws)
    | _ => False
  | .pop => match st with
    | x :: r => zbool (Nat.beq x.category 1) (K nx ls r ws)
    | _ => False
  | .iinc k _ => match ls[k]? with
    | some (some (.int x)) => K nx (ls.set k (some (.int (x + v)))) st ws
    | _ => False
  | .goto _ => match tg with
    | [t] => K t ls st ws
    | _ => False
  | .ifCond o _ => match tg, st with
    | [t], .int x :: r => zbr o x 0 (K t ls r ws) (K nx ls r ws)
    | _, _ => False
  | .if_icmp o _ => match tg, st with
    | [t], .int y :: .int x :: r => zbr o x y (K t ls r ws) (K nx ls r ws)
    | _, _ => False
  | .tableswitch _ lo hi _ => match tg, st with
    | d :: ts, .int x :: r => ((x.toInt < lo ∨ hi < x.toInt) → K d ls r ws) ∧ zsw x (fun t => K t ls r ws) lo ts
    | _, _ => False
  | .lookupswitch _ ps => match tg, st with
    | d :: ts, .int x :: r => zlk x (fun t => K t ls r ws) d ps.toList ts
    | _, _ => False
  | .getfield ix => zgf K (M.2.1.lookup ix) nx ls st ws
  | .putfield ix => zpf K (M.2.2.1.lookup ix) nx ls st ws
  | .iaload => zal K true nx ls st ws
  | .baload => zal K false nx ls st ws
  | .iastore => zas K true nx ls st ws
  | .bastore => zas K false nx ls st ws
  | .aaload => zaa K nx ls st ws
  | .aastore => zax K nx ls st ws
  | .arraylength => zan K nx ls st ws
  | .invokevirtual ix => zca K (M.2.2.2.2.2.2.1.lookup ix) nx ls st ws
  | .invokestatic ix => zis M K ix nx ls st ws
  | .ireturn => match st with
    | [.int x] => Rt (some (.int x)) ws
    | _ => False
  | .lreturn => match st with
    | [.long x] => Rt (some (.long x)) ws
    | _ => False
  | .return_ => match st with
    | [] => Rt none ws
    | _ => False
  | _ => False
def zstep (M : zM) (Rt : zP) (K : zK) : zK := fun pc ls st ws => match M.1[pc]? with
  | some (some (i, v, nx, tg)) => zin M Rt K ls st ws v nx tg i
  | _ => False
