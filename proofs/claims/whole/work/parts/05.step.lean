theorem zcls : ∀ (ci : Nat) (q : vw_C), vwCl[ci]? = some q → ∃ ty0 : Nat → FieldType, (∀ k, k < q.2.2 → parseFieldDescriptor (q.2.1 k).2.2.1 = some (ty0 k)) ∧ (∀ a, a < q.2.2 → ∀ b, b < q.2.2 → a ≠ b → (q.2.1 a).2.1 ≠ (q.2.1 b).2.1) := by
  intro ci q h
  match ci, h with
  | 0, h => cases h; exact ⟨tyX0, tyX0_ok, nmX0⟩
  | 1, h => cases h; exact ⟨tyX1, tyX1_ok, nmX1⟩
  | 2, h => cases h; exact ⟨tyX2, tyX2_ok, nmX2⟩
  | 3, h => cases h; exact ⟨tyX3, tyX3_ok, nmX3⟩
  | 4, h => cases h; exact ⟨tyX4, tyX4_ok, nmX4⟩
  | 5, h => cases h; exact ⟨tyX5, tyX5_ok, nmX5⟩
  | 6, h => cases h; exact ⟨tyX6, tyX6_ok, nmX6⟩
  | 7, h => cases h; exact ⟨tyX7, tyX7_ok, nmX7⟩
  | 8, h => cases h; exact ⟨tyX8, tyX8_ok, nmX8⟩
  | n + 9, h => simp [vwCl] at h
def zfok (own : String) (Ts : List Jvm.Cond) (ix ci j : Nat) (ty : FieldType) (fin : Bool) : Prop := ∃ q : vw_C, vwCl[ci]? = some q ∧ j < q.2.2 ∧ Jvm.Cond.fieldLink own ix (q.2.1 j).1 (q.2.1 j).2.1 (q.2.1 j).2.2.1 ∈ Ts ∧ (∀ w ∈ u_ws q.1 q.2.1 q.2.2, w ∈ Ts) ∧ parseFieldDescriptor (q.2.1 j).2.2.1 = some ty ∧ (fin = true → (q.2.1 j).2.2.2 = false)
def zmok (own : String) (Ts : List Jvm.Cond) (ix o : Nat) : Prop := match o with
  | 0 => Jvm.Cond.methodLink own ix Lib.Math.max.name ∈ Ts ∧ Jvm.Cond.static Lib.Math.max.name ∈ Ts ∧ Jvm.Cond.initialized "java/lang/Math" ∈ Ts ∧ Jvm.Cond.code Lib.Math.max.name Lib.Math.max.code 2 (some .int) ∈ Ts
  | 1 => Jvm.Cond.methodLink own ix Lib.Math.min.name ∈ Ts ∧ Jvm.Cond.static Lib.Math.min.name ∈ Ts ∧ Jvm.Cond.initialized "java/lang/Math" ∈ Ts ∧ Jvm.Cond.code Lib.Math.min.name Lib.Math.min.code 2 (some .int) ∈ Ts
  | 2 => Jvm.Cond.methodLink own ix Lib.Math.abs.name ∈ Ts ∧ Jvm.Cond.static Lib.Math.abs.name ∈ Ts ∧ Jvm.Cond.initialized "java/lang/Math" ∈ Ts ∧ Jvm.Cond.code Lib.Math.abs.name Lib.Math.abs.code 1 (some .int) ∈ Ts
  | 3 => Jvm.Cond.methodLink own ix arraycopyName ∈ Ts ∧ Jvm.Cond.native arraycopyName ∈ Ts ∧ Jvm.Cond.static arraycopyName ∈ Ts ∧ Jvm.Cond.initialized "java/lang/System" ∈ Ts
  | _ => False
def zGood (M : zM) (cc : ByteArray) (own : String) (Ts : List Jvm.Cond) : Prop :=
  (∀ (pc : Nat) (x : zI), M.1[pc]? = some (some x) → zchk cc pc x = true) ∧
  (∀ (ix ci j : Nat) (ty : FieldType), M.2.1.lookup ix = some (ci, j, ty) → zfok own Ts ix ci j ty false) ∧
  (∀ (ix ci j : Nat) (ty : FieldType), M.2.2.1.lookup ix = some (ci, j, ty) → zfok own Ts ix ci j ty true) ∧
  (∀ (ix : Nat) (v : Int32), M.2.2.2.1.lookup ix = some v → Jvm.Cond.constant own ix v ∈ Ts) ∧
  (∀ (ix : Nat) (v : Int64), M.2.2.2.2.1.lookup ix = some v → Jvm.Cond.constantLong own ix v ∈ Ts) ∧
  (∀ (ix o : Nat), M.2.2.2.2.2.1.lookup ix = some o → zmok own Ts ix o)
def zri (rv : Option Value) : Instr := match rv with
  | none => .return_
  | some (.long _) => .lreturn
  | _ => .ireturn
theorem zset_q (cy : Nat → ClassId) (ad : Nat → Nat) (t : Nat) (l : List (Option Nat)) (i a : Nat) (hi : i < l.length) : zc cy ad (.inr (.inl (t, l.set i (some a)))) = .inl (cy t, l.length, .inr (.inr (.inr (.inr (va_up (fun j => ((l[j]?).getD none).map ad) i (some (ad a))))))) := by
  have e : (fun j => (((l.set i (some a))[j]?).getD none).map ad) = va_up (fun j => ((l[j]?).getD none).map ad) i (some (ad a)) := by
    funext j
    unfold va_up
    rw [List.getElem?_set]
    by_cases h : i = j
    · subst h
      simp [hi]
    · have h2 : ¬ j = i := fun q => h q.symm
      simp [h, h2]
  show Sum.inl (cy t, (l.set i (some a)).length, _) = _
  rw [List.length_set]
  congr 5
  simp only [e]
section ZS
variable {p : Program} {l : Launch} {e : Env} {R : Room} {s : State} {m : MethodId} {args : Array Value} {below : List Frame} {meth : Method} {c : Code} {cells slots : Nat} {Q : State → Prop} {cc : ByteArray} {own : String} {Ts : List Jvm.Cond} {nL : Nat} {D : va_G} {cy : Nat → ClassId} {ad : Nat → Nat} {A : Nat → Prop} {n0 : Nat}
def zCO (p : Program) (l : Launch) (e : Env) (R : Room) (s : State) (m : MethodId) (args : Array Value) (below : List Frame) (meth : Method) (c : Code) (cc : ByteArray) (nL : Nat) (D : va_G) (cy : Nat → ClassId) (ad : Nat → Nat) (A : Nat → Prop) (n0 : Nat) (cells slots : Nat) (Q : State → Prop) (ins : Instr) (n : Nat) (G : zG) : Prop := ∀ (as rest : List Value) (ws : zW) (K : zP), as.length = n → zcat rest ≤ 8 → G as ws K → ∀ (pc : Nat) (H : Heap) (locs : List Loc) (lsC : Array Slot), decode cc pc = .ok (ins, 3) → va_P D vwCl (zws cy ad ws) H → va_D A (zws cy ad ws) → va_S A s.heap H locs → ws.length = n0 → lsC.size = nL →
  (∀ (rv : Option Value) (ws' : zW) (H1 : Heap) (locs1 : List Loc), K rv ws' → va_P D vwCl (zws cy ad ws') H1 → va_D A (zws cy ad ws') → va_S A s.heap H1 locs1 → ws'.length = n0 → W p l e R s m args below meth c H1 locs1 cells slots Q (F0 m (pc + 3) lsC ((rv.toList ++ rest).map (zv ad)))) → W p l e R s m args below meth c H locs cells slots Q (F0 m pc lsC ((as.reverse ++ rest).map (zv ad)))
def zRO (p : Program) (l : Launch) (e : Env) (R : Room) (s : State) (m : MethodId) (args : Array Value) (below : List Frame) (meth : Method) (c : Code) (cc : ByteArray) (D : va_G) (cy : Nat → ClassId) (ad : Nat → Nat) (A : Nat → Prop) (n0 : Nat) (cells slots : Nat) (Q : State → Prop) (Rt : zP) : Prop := ∀ (rv : Option Value) (ws : zW) (pc : Nat) (H : Heap) (locs : List Loc) (lsC : Array Slot), Rt rv ws → decode cc pc = .ok (zri rv, 1) → (rv = none ∨ (∃ x, rv = some (.int x)) ∨ ∃ x, rv = some (.long x)) → va_P D vwCl (zws cy ad ws) H → va_D A (zws cy ad ws) → va_S A s.heap H locs → ws.length = n0 → W p l e R s m args below meth c H locs cells slots Q (F0 m pc lsC (rv.toList.map (zv ad)))
set_option maxHeartbeats 8000000 in
set_option maxRecDepth 100000 in
theorem zstep_ok {M : zM} {Rt : zP} {K : zK} (hx : p.tables.exec = Jvm.exec) (hb : c.code = cc) (hml : c.maxLocals = nL) (hown : s.vm.findClass own = some m.cls) (hts : ∀ w ∈ Ts, w.before args s = true) (hKK : zKK D cy s) (hR : 1 ≤ R.frames ∧ 150 ≤ R.locals) (hcs : cells ≤ R.cells ∧ slots ≤ R.slots)
    (hg : zGood M cc own Ts) (hcV : ∀ (ix n : Nat) (G : zG), M.2.2.2.2.2.2.1.lookup ix = some (n, G) → zCO p l e R s m args below meth c cc nL D cy ad A n0 cells slots Q (.invokevirtual ix) n G) (hcS : ∀ (ix n : Nat) (G : zG), M.2.2.2.2.2.2.2.lookup ix = some (n, G) → zCO p l e R s m args below meth c cc nL D cy ad A n0 cells slots Q (.invokestatic ix) n G) (hRt : zRO p l e R s m args below meth c cc D cy ad A n0 cells slots Q Rt)
    (hKo : ∀ (pc : Nat) (ls : List (Option Value)) (st : List Value) (ws : zW), K pc ls st ws → zOK p l e R s m args below meth c nL D cy ad A n0 cells slots Q pc ls st ws)
    (pc : Nat) (ls : List (Option Value)) (st : List Value) (ws : zW) (h : zstep M Rt K pc ls st ws) : zOK p l e R s m args below meth c nL D cy ad A n0 cells slots Q pc ls st ws := by
  have hK := hKK.1
  unfold zstep at h
  split at h
  case h_2 => exact h.elim
  rename_i i v nx tg hcode
  have hck := hg.1 pc (i, v, nx, tg) hcode
  intro H locs lsC hP hD hS hn hl
  have call : ∀ {ins : Instr} {g : Option (Nat × zG)}, decode cc pc = .ok (ins, 3) → (∀ (n : Nat) (G : zG), g = some (n, G) → zCO p l e R s m args below meth c cc nL D cy ad A n0 cells slots Q ins n G) → zca K g (pc + 3) ls st ws → W p l e R s m args below meth c H locs cells slots Q (F0 m pc lsC (st.map (zv ad))) := by
    intro ins g hd hcall h
    obtain ⟨n, G, hG, h1, h2, h3⟩ := zca_inv h
    have := hcall n G hG (st.take n).reverse (st.drop n) ws _ (by rw [List.length_reverse, List.length_take]; omega) h2 h3 pc H locs lsC hd hP hD hS hn hl.1 (fun rv ws' H1 locs1 hk p1 d1 s1 n1 => ?_)
    · rw [List.reverse_reverse, List.take_append_drop] at this
      exact this
    · cases rv with
      | none => exact hKo _ _ _ _ hk H1 locs1 lsC p1 d1 s1 n1 hl
      | some v => exact hKo _ _ _ _ hk H1 locs1 lsC p1 d1 s1 n1 hl
  cases i
  case iload_n k =>
    simp only [zchk, Bool.and_eq_true, decide_eq_true_eq] at hck
    obtain ⟨hd, rfl, -⟩ := hck
    rcases zld_inv h with ⟨x, -, h1, h2⟩ | ⟨x, h0, -⟩
    · exact lv_iload_n hx hb hd rfl (hl.at h1 rfl) (hKo _ _ _ _ h2 H locs lsC hP hD hS hn hl)
    · cases h0
  case iload k =>
    simp only [zchk, Bool.and_eq_true, decide_eq_true_eq] at hck
    obtain ⟨hd, rfl, -⟩ := hck
    rcases zld_inv h with ⟨x, -, h1, h2⟩ | ⟨x, h0, -⟩
    · exact lv_iload hx hb hd (hl.at h1 rfl) (hKo _ _ _ _ h2 H locs lsC hP hD hS hn hl)
    · cases h0
  case aload_n k =>
    simp only [zchk, Bool.and_eq_true, decide_eq_true_eq] at hck
    obtain ⟨hd, rfl, -⟩ := hck
    rcases zld_inv h with ⟨x, h0, -⟩ | ⟨x, -, h1, h2⟩
    · cases h0
    · exact lv_aload_n hx hb hd rfl (hl.at h1 rfl) (hKo _ _ _ _ h2 H locs lsC hP hD hS hn hl)
  case aload k =>
    simp only [zchk, Bool.and_eq_true, decide_eq_true_eq] at hck
    obtain ⟨hd, rfl, -⟩ := hck
    rcases zld_inv h with ⟨x, h0, -⟩ | ⟨x, -, h1, h2⟩
    · cases h0
    · exact lv_aload hx hb hd (hl.at h1 rfl) (hKo _ _ _ _ h2 H locs lsC hP hD hS hn hl)
  case istore_n k =>
    simp only [zchk, Bool.and_eq_true, decide_eq_true_eq] at hck
    obtain ⟨hd, rfl, -⟩ := hck
    rcases zst_inv h with ⟨x, r, -, rfl, h1, h2⟩ | ⟨x, r, h0, -⟩
    · exact lv_istore_n hx hb hd rfl hl.has (by rw [← hl.2.2.1]; exact h1) rfl (fun ls' h' => hKo _ _ _ _ h2 H locs ls' hP hD hS hn (zLH.put (v := .int x) hl.2.2.1 (by rw [← hl.2.2.1]; exact h1) h'))
    · cases h0
  case istore k =>
    simp only [zchk, Bool.and_eq_true, decide_eq_true_eq] at hck
    obtain ⟨hd, rfl, -⟩ := hck
    rcases zst_inv h with ⟨x, r, -, rfl, h1, h2⟩ | ⟨x, r, h0, -⟩
    · exact lv_istore hx hb hd hl.has (by rw [← hl.2.2.1]; exact h1) rfl (fun ls' h' => hKo _ _ _ _ h2 H locs ls' hP hD hS hn (zLH.put (v := .int x) hl.2.2.1 (by rw [← hl.2.2.1]; exact h1) h'))
    · cases h0
  case astore_n k =>
    simp only [zchk, Bool.and_eq_true, decide_eq_true_eq] at hck
    obtain ⟨hd, rfl, -⟩ := hck
    rcases zst_inv h with ⟨x, r, h0, -⟩ | ⟨x, r, -, rfl, h1, h2⟩
    · cases h0
    · exact lv_astore_n hx hb hd rfl hl.has (by rw [← hl.2.2.1]; exact h1) rfl (fun ls' h' => hKo _ _ _ _ h2 H locs ls' hP hD hS hn (zLH.put (v := .ref x) hl.2.2.1 (by rw [← hl.2.2.1]; exact h1) h'))
  case astore k =>
    simp only [zchk, Bool.and_eq_true, decide_eq_true_eq] at hck
    obtain ⟨hd, rfl, -⟩ := hck
    rcases zst_inv h with ⟨x, r, h0, -⟩ | ⟨x, r, -, rfl, h1, h2⟩
    · cases h0
    · exact lv_astore hx hb hd hl.has (by rw [← hl.2.2.1]; exact h1) rfl (fun ls' h' => hKo _ _ _ _ h2 H locs ls' hP hD hS hn (zLH.put (v := .ref x) hl.2.2.1 (by rw [← hl.2.2.1]; exact h1) h'))
  case iconst z =>
    simp only [zchk, Bool.and_eq_true, decide_eq_true_eq] at hck
    obtain ⟨hd, rfl, hv⟩ := hck
    exact lv_iconst hx hb hd hv (hKo _ _ _ _ h H locs lsC hP hD hS hn hl)
  case bipush z =>
    simp only [zchk, Bool.and_eq_true, decide_eq_true_eq] at hck
    obtain ⟨hd, rfl, hv⟩ := hck
    exact lv_bipush hx hb hd hv (hKo _ _ _ _ h H locs lsC hP hD hS hn hl)
  case sipush z =>
    simp only [zchk, Bool.and_eq_true, decide_eq_true_eq] at hck
    obtain ⟨hd, rfl, hv⟩ := hck
    exact lv_sipush hx hb hd hv (hKo _ _ _ _ h H locs lsC hP hD hS hn hl)
  case ldc ix =>
    simp only [zchk, Bool.and_eq_true, decide_eq_true_eq] at hck
    obtain ⟨hd, rfl, -⟩ := hck
    dsimp only [zin] at h
    split at h
    · rename_i x hxv
      exact lv_ldc hx hb hown (hts _ (hg.2.2.2.1 ix x hxv)) hd (hKo _ _ _ _ h H locs lsC hP hD hS hn hl)
    · exact h.elim
  case ldc2_w ix =>
    simp only [zchk, Bool.and_eq_true, decide_eq_true_eq] at hck
    obtain ⟨hd, rfl, -⟩ := hck
    dsimp only [zin] at h
    split at h
    · rename_i x hxv
      exact lv_ldc2 hx hb hown (hts _ (hg.2.2.2.2.1 ix x hxv)) hd (hKo _ _ _ _ h H locs lsC hP hD hS hn hl)
    · exact h.elim
  case lconst z =>
    simp only [zchk, Bool.and_eq_true, decide_eq_true_eq] at hck
    obtain ⟨hd, rfl, -⟩ := hck
    exact lv_lconst hx hb hd rfl (hKo _ _ _ _ h H locs lsC hP hD hS hn hl)
  case iadd =>
    simp only [zchk, Bool.and_eq_true, decide_eq_true_eq] at hck
    obtain ⟨hd, rfl, -⟩ := hck
    obtain ⟨x, y, r, rfl, h1⟩ := z2_inv h
    exact lv_iadd hx hb hd (hKo _ _ _ _ h1 H locs lsC hP hD hS hn hl)
  case isub =>
    simp only [zchk, Bool.and_eq_true, decide_eq_true_eq] at hck
    obtain ⟨hd, rfl, -⟩ := hck
    obtain ⟨x, y, r, rfl, h1⟩ := z2_inv h
    exact lv_isub hx hb hd (hKo _ _ _ _ h1 H locs lsC hP hD hS hn hl)
  case imul =>
    simp only [zchk, Bool.and_eq_true, decide_eq_true_eq] at hck
    obtain ⟨hd, rfl, -⟩ := hck
    obtain ⟨x, y, r, rfl, h1⟩ := z2_inv h
    exact lv_imul hx hb hd (hKo _ _ _ _ h1 H locs lsC hP hD hS hn hl)
  case iand =>
    simp only [zchk, Bool.and_eq_true, decide_eq_true_eq] at hck
    obtain ⟨hd, rfl, -⟩ := hck
    obtain ⟨x, y, r, rfl, h1⟩ := z2_inv h
    exact lv_iand hx hb hd (hKo _ _ _ _ h1 H locs lsC hP hD hS hn hl)
  case ior =>
    simp only [zchk, Bool.and_eq_true, decide_eq_true_eq] at hck
    obtain ⟨hd, rfl, -⟩ := hck
    obtain ⟨x, y, r, rfl, h1⟩ := z2_inv h
    exact lv_ior hx hb hd (hKo _ _ _ _ h1 H locs lsC hP hD hS hn hl)
  case ishl =>
    simp only [zchk, Bool.and_eq_true, decide_eq_true_eq] at hck
    obtain ⟨hd, rfl, -⟩ := hck
    dsimp only [zin] at h
    split at h
    · exact lv_ishl hx hb hd (hKo _ _ _ _ h H locs lsC hP hD hS hn hl)
    · exact h.elim
  case ishr =>
    simp only [zchk, Bool.and_eq_true, decide_eq_true_eq] at hck
    obtain ⟨hd, rfl, -⟩ := hck
    dsimp only [zin] at h
    split at h
    · exact lv_ishr hx hb hd (hKo _ _ _ _ h H locs lsC hP hD hS hn hl)
    · exact h.elim
  case idiv =>
    simp only [zchk, Bool.and_eq_true, decide_eq_true_eq] at hck
    obtain ⟨hd, rfl, -⟩ := hck
    obtain ⟨x, y, r, rfl, h0, h1⟩ := z2d_inv h
    exact lv_idiv hx hb hd h0 (hKo _ _ _ _ h1 H locs lsC hP hD hS hn hl)
  case irem =>
    simp only [zchk, Bool.and_eq_true, decide_eq_true_eq] at hck
    obtain ⟨hd, rfl, -⟩ := hck
    dsimp only [zin] at h
    split at h
    · exact lv_irem hx hb hd h.1 (hKo _ _ _ _ h.2 H locs lsC hP hD hS hn hl)
    · exact h.elim
  case ineg =>
    simp only [zchk, Bool.and_eq_true, decide_eq_true_eq] at hck
    obtain ⟨hd, rfl, -⟩ := hck
    obtain ⟨x, r, rfl, h1⟩ := z1_inv h
    exact lv_ineg hx hb hd (hKo _ _ _ _ h1 H locs lsC hP hD hS hn hl)
  case i2b =>
    simp only [zchk, Bool.and_eq_true, decide_eq_true_eq] at hck
    obtain ⟨hd, rfl, -⟩ := hck
    dsimp only [zin] at h
    split at h
    · exact lv_i2b hx hb hd rfl (hKo _ _ _ _ h H locs lsC hP hD hS hn hl)
    · exact h.elim
  case ladd =>
    simp only [zchk, Bool.and_eq_true, decide_eq_true_eq] at hck
    obtain ⟨hd, rfl, -⟩ := hck
    dsimp only [zin] at h
    split at h
    · exact lv_ladd hx hb hd (hKo _ _ _ _ h H locs lsC hP hD hS hn hl)
    · exact h.elim
  case lcmp =>
    simp only [zchk, Bool.and_eq_true, decide_eq_true_eq] at hck
    obtain ⟨hd, rfl, -⟩ := hck
    dsimp only [zin] at h
    split at h
    · exact W.lcmp hx hb hd (hKo _ _ _ _ h H locs lsC hP hD hS hn hl)
    · exact h.elim
  case dup =>
    simp only [zchk, Bool.and_eq_true, decide_eq_true_eq] at hck
    obtain ⟨hd, rfl, -⟩ := hck
    dsimp only [zin] at h
    split at h
    · obtain ⟨a, b⟩ := zbool_inv h
      exact lv_dup hx hb hd (by rw [zv_cat]; exact Nat.eq_of_beq_eq_true a) (hKo _ _ _ _ b H locs lsC hP hD hS hn hl)
    · exact h.elim
  case dup2 =>
    simp only [zchk, Bool.and_eq_true, decide_eq_true_eq] at hck
    obtain ⟨hd, rfl, -⟩ := hck
    dsimp only [zin] at h
    split at h
    · obtain ⟨a, b⟩ := zbool_inv h
      rw [Bool.and_eq_true] at a
      exact lv_dup2_11 hx hb hd (by rw [zv_cat]; exact Nat.eq_of_beq_eq_true a.1) (by rw [zv_cat]; exact Nat.eq_of_beq_eq_true a.2) (hKo _ _ _ _ b H locs lsC hP hD hS hn hl)
    · exact h.elim
  case pop =>
    simp only [zchk, Bool.and_eq_true, decide_eq_true_eq] at hck
    obtain ⟨hd, rfl, -⟩ := hck
    dsimp only [zin] at h
    split at h
    · obtain ⟨a, b⟩ := zbool_inv h
      exact lv_pop hx hb hd (by rw [zv_cat]; exact Nat.eq_of_beq_eq_true a) (hKo _ _ _ _ b H locs lsC hP hD hS hn hl)
    · exact h.elim
  case iinc k z =>
    simp only [zchk, Bool.and_eq_true, decide_eq_true_eq] at hck
    obtain ⟨hd, rfl, hv⟩ := hck
    dsimp only [zin] at h
    split at h
    · rename_i x hk
      obtain ⟨pl, hpl⟩ := List.getElem?_of_mem (zlist_mem (ad := ad).mpr ⟨k, .int x, hk, rfl, rfl⟩)
      have hlt : k < nL := by rw [← hl.2.2.1]; exact (List.getElem?_eq_some_iff.mp hk).1
      exact lv_iinc hx hb hd hl.has hpl (by rw [hv]) hlt rfl (fun ls' h' => hKo _ _ _ _ h H locs ls' hP hD hS hn (zLH.put (v := .int (x + v)) hl.2.2.1 hlt h'))
    · exact h.elim
  case goto off =>
    simp only [zchk, Bool.and_eq_true, decide_eq_true_eq] at hck
    obtain ⟨hd, rfl, hv⟩ := hck
    dsimp only [zin] at h
    split at h
    · simp only [ztg, decide_eq_true_eq] at hv
      exact lv_goto hx hb hd hv (hKo _ _ _ _ h H locs lsC hP hD hS hn hl)
    · exact h.elim
  case ifCond o off =>
    simp only [zchk, Bool.and_eq_true, decide_eq_true_eq] at hck
    obtain ⟨hd, rfl, hv⟩ := hck
    dsimp only [zin] at h
    split at h
    · simp only [ztg, decide_eq_true_eq] at hv
      cases o
      · exact lv_if_eq hx hb hd hv (fun q => hKo _ _ _ _ (h.1 q) H locs lsC hP hD hS hn hl) (fun q => hKo _ _ _ _ (h.2 q) H locs lsC hP hD hS hn hl)
      · exact lv_if_ne hx hb hd hv (fun q => hKo _ _ _ _ (h.2 q) H locs lsC hP hD hS hn hl) (fun q => hKo _ _ _ _ (h.1 q) H locs lsC hP hD hS hn hl)
      · exact lv_if_lt hx hb hd hv (fun q => hKo _ _ _ _ (h.1 q) H locs lsC hP hD hS hn hl) (fun q => hKo _ _ _ _ (h.2 q) H locs lsC hP hD hS hn hl)
      · exact lv_if_ge hx hb hd hv (fun q => hKo _ _ _ _ (h.1 q) H locs lsC hP hD hS hn hl) (fun q => hKo _ _ _ _ (h.2 q) H locs lsC hP hD hS hn hl)
      · exact lv_if_gt hx hb hd hv (fun q => hKo _ _ _ _ (h.1 q) H locs lsC hP hD hS hn hl) (fun q => hKo _ _ _ _ (h.2 q) H locs lsC hP hD hS hn hl)
      · exact lv_if_le hx hb hd hv (fun q => hKo _ _ _ _ (h.1 q) H locs lsC hP hD hS hn hl) (fun q => hKo _ _ _ _ (h.2 q) H locs lsC hP hD hS hn hl)
    · exact h.elim
  case if_icmp o off =>
    simp only [zchk, Bool.and_eq_true, decide_eq_true_eq] at hck
    obtain ⟨hd, rfl, hv⟩ := hck
    dsimp only [zin] at h
    split at h
    · simp only [ztg, decide_eq_true_eq] at hv
      cases o
      · exact lv_icmp_eq hx hb hd hv (fun q => hKo _ _ _ _ (h.1 q) H locs lsC hP hD hS hn hl) (fun q => hKo _ _ _ _ (h.2 q) H locs lsC hP hD hS hn hl)
      · exact lv_icmp_ne hx hb hd hv (fun q => hKo _ _ _ _ (h.2 q) H locs lsC hP hD hS hn hl) (fun q => hKo _ _ _ _ (h.1 q) H locs lsC hP hD hS hn hl)
      · exact lv_icmp_lt hx hb hd hv (fun q => hKo _ _ _ _ (h.1 q) H locs lsC hP hD hS hn hl) (fun q => hKo _ _ _ _ (h.2 q) H locs lsC hP hD hS hn hl)
      · exact lv_icmp_ge hx hb hd hv (fun q => hKo _ _ _ _ (h.1 q) H locs lsC hP hD hS hn hl) (fun q => hKo _ _ _ _ (h.2 q) H locs lsC hP hD hS hn hl)
      · exact lv_icmp_gt hx hb hd hv (fun q => hKo _ _ _ _ (h.1 q) H locs lsC hP hD hS hn hl) (fun q => hKo _ _ _ _ (h.2 q) H locs lsC hP hD hS hn hl)
      · exact lv_icmp_le hx hb hd hv (fun q => hKo _ _ _ _ (h.1 q) H locs lsC hP hD hS hn hl) (fun q => hKo _ _ _ _ (h.2 q) H locs lsC hP hD hS hn hl)
    · exact h.elim
  case tableswitch d lo hi offs =>
    simp only [zchk, Bool.and_eq_true, decide_eq_true_eq] at hck
    obtain ⟨hd, hv, hlh⟩ := hck
    dsimp only [zin] at h
    split at h
    · rename_i d' ts x r
      by_cases ho : x.toInt < lo ∨ hi < x.toInt
      · obtain ⟨o, h1, h2⟩ := ztgs_get hv 0 d' rfl
        cases h1
        exact lv_tableOut hx hb hd ho h2 (hKo _ _ _ _ (h.1 ho) H locs lsC hP hD hS hn hl)
      · have hlen := ztgs_len hv
        rw [List.length_cons, List.length_cons] at hlen
        obtain ⟨t, ht⟩ : ∃ t, ts[(x.toInt - lo).toNat]? = some t := by
          have : (x.toInt - lo).toNat < ts.length := by omega
          exact ⟨_, List.getElem?_eq_getElem this⟩
        obtain ⟨o, h1, h2⟩ := ztgs_get hv ((x.toInt - lo).toNat + 1) t ht
        rw [List.getElem?_cons_succ] at h1
        exact lv_tableIn hx hb hd (fun q => ho (Or.inl q)) (fun q => ho (Or.inr q)) (by rw [← Array.getElem?_toList]; exact h1) h2 (hKo _ _ _ _ (zsw_get h.2 _ t ht (by omega)) H locs lsC hP hD hS hn hl)
    · exact h.elim
  case lookupswitch d ps =>
    simp only [zchk, Bool.and_eq_true, decide_eq_true_eq] at hck
    obtain ⟨hd, hv, hps⟩ := hck
    dsimp only [zin] at h
    split at h
    · rename_i d' ts x r
      simp only [ztgs, Bool.and_eq_true, decide_eq_true_eq] at hv
      obtain ⟨t, h1, h2⟩ := zlk_get hv.1 h hv.2
      exact lv_lookup hx hb hd hps rfl h1 (hKo _ _ _ _ h2 H locs lsC hP hD hS hn hl)
    · exact h.elim
  case getfield ix =>
    simp only [zchk, Bool.and_eq_true, decide_eq_true_eq] at hck
    obtain ⟨hd, rfl, -⟩ := hck
    obtain ⟨ci, j, ty, k, r, fs, w, h1, rfl, h2, h3, h4⟩ := zgf_inv h
    obtain ⟨q, q1, q2, q3, q4, -, -⟩ := hg.2.1 ix ci j ty h1
    exact va_get hx hb hts q4 hown hK hP k (zws_get h2) q1 j q2 (hts _ q3) (fun _ h9 => h9) (v := zv ad w) (by rw [List.getElem?_map, h3]; rfl) hd (hKo _ _ _ _ h4 H locs lsC hP hD hS hn hl)
  case putfield ix =>
    simp only [zchk, Bool.and_eq_true, decide_eq_true_eq] at hck
    obtain ⟨hd, rfl, -⟩ := hck
    obtain ⟨ci, j, ty, k, r, fs, w, h1, rfl, h2, h3, h4⟩ := zpf_inv h
    obtain ⟨q, q1, q2, q3, q4, q5, q6⟩ := hg.2.2.1 ix ci j ty h1
    obtain ⟨ty0, y1, y2⟩ := zcls ci q q1
    obtain ⟨f1, f2, f3⟩ := zfit_inv h4 ad
    refine va_put hx hb hts q4 ty0 y1 y2 hown hK hP hD hS k (zws_get h2) q1 j q2 (hts _ q3) (fun _ h9 => h9) (q6 rfl) q5 f1 f2 (by rw [List.length_map]; exact h3) hd (fun H1 locs1 p1 d1 s1 => ?_)
    have ew : (zws cy ad ws).set k (ad k, .inr (ci, (fs.map (zv ad)).set j (zv ad w))) = zws cy ad (ws.set k (.inr (.inr (ci, fs.set j w)))) := by
      rw [zws_set]
      show _ = (zws cy ad ws).set k (ad k, .inr (ci, (fs.set j w).map (zv ad)))
      rw [List.map_set]
    rw [ew] at p1 d1
    exact hKo _ _ _ _ f3 H1 locs1 lsC p1 d1 s1 (by rw [List.length_set]; exact hn) hl
  case iaload =>
    simp only [zchk, Bool.and_eq_true, decide_eq_true_eq] at hck
    obtain ⟨hd, rfl, -⟩ := hck
    obtain ⟨i, k, r, t, n, f, rfl, h1, h2, h3, h4⟩ := zal_inv h
    have h2 : t = 0 := h2
    subst h2
    exact va_iald hx hb hK hP k 0 (zws_get h1) rfl h3 hd (hKo _ _ _ _ h4 H locs lsC hP hD hS hn hl)
  case baload =>
    simp only [zchk, Bool.and_eq_true, decide_eq_true_eq] at hck
    obtain ⟨hd, rfl, -⟩ := hck
    obtain ⟨i, k, r, t, n, f, rfl, h1, h2, h3, h4⟩ := zal_inv h
    have h2 : t = 1 ∨ t = 2 := by simpa using h2
    rcases h2 with rfl | rfl
    · exact va_bald hx hb hK hP k 1 (zws_get h1) rfl h3 hd (hKo _ _ _ _ h4 H locs lsC hP hD hS hn hl)
    · exact va_zald hx hb hK hP k 2 (zws_get h1) rfl h3 hd (hKo _ _ _ _ h4 H locs lsC hP hD hS hn hl)
  case iastore =>
    simp only [zchk, Bool.and_eq_true, decide_eq_true_eq] at hck
    obtain ⟨hd, rfl, -⟩ := hck
    obtain ⟨x, i, k, r, t, n, f, rfl, h1, h3, h4⟩ := zas_inv h
    rcases h4 with ⟨-, rfl, h4⟩ | ⟨h0, -⟩ | ⟨h0, -⟩
    · refine va_iast hx hb hK hP hD hS k 0 (zws_get h1) rfl h3 hd (fun H1 locs1 p1 d1 s1 => ?_)
      have ew : zws cy ad (ws.set k (.inl (0, n, upd f i.toNatClampNeg x))) = (zws cy ad ws).set k (ad k, .inl (cy 0, n, .inl (upd f i.toNatClampNeg x))) := zws_set _ _ _ _ _
      rw [← ew] at p1 d1
      exact hKo _ _ _ _ h4 H1 locs1 lsC p1 d1 s1 (by rw [List.length_set]; exact hn) hl
    · cases h0
    · cases h0
  case bastore =>
    simp only [zchk, Bool.and_eq_true, decide_eq_true_eq] at hck
    obtain ⟨hd, rfl, -⟩ := hck
    obtain ⟨x, i, k, r, t, n, f, rfl, h1, h3, h4⟩ := zas_inv h
    rcases h4 with ⟨h0, -⟩ | ⟨-, rfl, h4⟩ | ⟨-, rfl, h4⟩
    · cases h0
    · refine va_bast hx hb hK hP hD hS k 1 (zws_get h1) rfl h3 hd (fun H1 locs1 p1 d1 s1 => ?_)
      have ew : zws cy ad (ws.set k (.inl (1, n, upd f i.toNatClampNeg (vp_nar .byte x)))) = (zws cy ad ws).set k (ad k, .inl (cy 1, n, .inl (upd f i.toNatClampNeg (vp_nar .byte x)))) := zws_set _ _ _ _ _
      rw [← ew] at p1 d1
      exact hKo _ _ _ _ h4 H1 locs1 lsC p1 d1 s1 (by rw [List.length_set]; exact hn) hl
    · refine va_zast hx hb hK hP hD hS k 2 (zws_get h1) rfl h3 hd (fun H1 locs1 p1 d1 s1 => ?_)
      have ew : zws cy ad (ws.set k (.inl (2, n, upd f i.toNatClampNeg (vp_nar .boolean x)))) = (zws cy ad ws).set k (ad k, .inl (cy 2, n, .inl (upd f i.toNatClampNeg (vp_nar .boolean x)))) := zws_set _ _ _ _ _
      rw [← ew] at p1 d1
      exact hKo _ _ _ _ h4 H1 locs1 lsC p1 d1 s1 (by rw [List.length_set]; exact hn) hl
  case aaload =>
    simp only [zchk, Bool.and_eq_true, decide_eq_true_eq] at hck
    obtain ⟨hd, rfl, -⟩ := hck
    obtain ⟨i, k, r, t, lq, a, rfl, h1, h2, h3, h4, h5⟩ := zaa_inv h
    have er : va_rf (((lq[i.toNatClampNeg]?).getD none).map ad) = .ref (ad a) := by rw [h4]; rfl
    have key : W p l e R s m args below meth c H locs cells slots Q (F0 m (pc + 1) lsC (va_rf (((lq[i.toNatClampNeg]?).getD none).map ad) :: r.map (zv ad))) := by
      rw [er]
      exact hKo _ _ _ _ h5 H locs lsC hP hD hS hn hl
    rcases h2 with rfl | rfl
    · exact va_aldq hx hb hK hP k 3 (zws_get h1) rfl h3 hd key
    · exact va_aldq hx hb hK hP k 4 (zws_get h1) rfl h3 hd key
  case aastore =>
    simp only [zchk, Bool.and_eq_true, decide_eq_true_eq] at hck
    obtain ⟨hd, rfl, -⟩ := hck
    obtain ⟨a, i, k, r, t, lq, ci, fs, rfl, h1, h2, h3, h4, h5⟩ := zax_inv h
    have hlt : i.toNatClampNeg < lq.length := Nat.not_le.mp fun q => h4 (Or.inr q)
    have ew : zws cy ad (ws.set k (.inr (.inl (t, lq.set i.toNatClampNeg (some a))))) = (zws cy ad ws).set k (ad k, .inl (cy t, lq.length, .inr (.inr (.inr (.inr (va_up (fun j => ((lq[j]?).getD none).map ad) i.toNatClampNeg (some (ad a)))))))) := by
      rw [zws_set, zset_q cy ad t lq _ a hlt]
    rcases h3 with ⟨rfl, rfl⟩ | ⟨rfl, rfl⟩
    · refine va_astq hx hb hK hP hD hS k 3 a 0 (r := (RX0, TX0, 3)) (zws_get h1) rfl (zws_get h2) rfl h4 hd (fun H1 locs1 p1 d1 s1 => ?_)
      rw [← ew] at p1 d1
      exact hKo _ _ _ _ h5 H1 locs1 lsC p1 d1 s1 (by rw [List.length_set]; exact hn) hl
    · refine va_astq hx hb hK hP hD hS k 4 a 1 (r := (RX1, TX1, 8)) (zws_get h1) rfl (zws_get h2) rfl h4 hd (fun H1 locs1 p1 d1 s1 => ?_)
      rw [← ew] at p1 d1
      exact hKo _ _ _ _ h5 H1 locs1 lsC p1 d1 s1 (by rw [List.length_set]; exact hn) hl
  case arraylength =>
    simp only [zchk, Bool.and_eq_true, decide_eq_true_eq] at hck
    obtain ⟨hd, rfl, -⟩ := hck
    obtain ⟨k, r, t, n, f, rfl, h1, h2, h3⟩ := zan_inv h
    rcases (show t = 0 ∨ t = 1 ∨ t = 2 by omega) with rfl | rfl | rfl
    · exact va_alen hx hb hK hP k 0 (zws_get h1) rfl rfl hd (hKo _ _ _ _ h3 H locs lsC hP hD hS hn hl)
    · exact va_alen hx hb hK hP k 1 (zws_get h1) rfl rfl hd (hKo _ _ _ _ h3 H locs lsC hP hD hS hn hl)
    · exact va_alen hx hb hK hP k 2 (zws_get h1) rfl rfl hd (hKo _ _ _ _ h3 H locs lsC hP hD hS hn hl)
  case invokevirtual ix =>
    simp only [zchk, Bool.and_eq_true, decide_eq_true_eq] at hck
    obtain ⟨hd, rfl, -⟩ := hck
    exact call hd (hcV ix) h
  case invokestatic ix =>
    simp only [zchk, Bool.and_eq_true, decide_eq_true_eq] at hck
    obtain ⟨hd, rfl, -⟩ := hck
    dsimp only [zin] at h
    unfold zis at h
    split at h
    · rename_i o ho
      have hm := hg.2.2.2.2.2 ix o ho
      unfold zma at h
      split at h
      · split at h
        · obtain ⟨a, b⟩ := zbool_inv h
          obtain ⟨m1, m2, m3, m4⟩ := hm
          have a := Nat.le_of_ble_eq_true a
          exact va_mmax hx hb (by rw [hml]; exact hl.1.symm) hown (hts _ m1) (hts _ m2) (hts _ m3) (hts _ m4) hR.1 (by rw [zcat_map]; omega) hcs.1 hcs.2 hd (hKo _ _ _ _ b H locs lsC hP hD hS hn hl)
        · exact h.elim
      · split at h
        · obtain ⟨a, b⟩ := zbool_inv h
          obtain ⟨m1, m2, m3, m4⟩ := hm
          have a := Nat.le_of_ble_eq_true a
          exact va_mmin hx hb (by rw [hml]; exact hl.1.symm) hown (hts _ m1) (hts _ m2) (hts _ m3) (hts _ m4) hR.1 (by rw [zcat_map]; omega) hcs.1 hcs.2 hd (hKo _ _ _ _ b H locs lsC hP hD hS hn hl)
        · exact h.elim
      · split at h
        · obtain ⟨a, b⟩ := zbool_inv h
          obtain ⟨m1, m2, m3, m4⟩ := hm
          have a := Nat.le_of_ble_eq_true a
          exact va_mabs hx hb (by rw [hml]; exact hl.1.symm) hown (hts _ m1) (hts _ m2) (hts _ m3) (hts _ m4) hR.1 (by rw [zcat_map]; omega) hcs.1 hcs.2 hd (hKo _ _ _ _ b H locs lsC hP hD hS hn hl)
        · exact h.elim
      · split at h
        · split at h
          · rename_i k0 k1
            obtain ⟨a, ⟨e1, e2, e3, e4, e5⟩, b⟩ := zbool_inv h
            obtain ⟨m1, m2, m3, m4⟩ := hm
            simp only [Bool.and_eq_true] at a
            obtain ⟨a, a0, a1⟩ := a
            have a := Nat.le_of_ble_eq_true a
            have a0 := Nat.eq_of_beq_eq_true a0
            have a1 := Nat.eq_of_beq_eq_true a1
            subst a0; subst a1
            refine va_copyi hx hb (by rw [hml]; exact hl.1.symm) hown (hts _ m1) (hts _ m2) (hts _ m3) (hts _ m4) hK hP hD hS _ _ 0 0 (zws_get k0) (zws_get k1) rfl rfl rfl e1 e2 e3 e4 e5 (fun _ _ => rfl) hR.1 ?_ hd (fun H1 locs1 p1 d1 s1 => ?_)
            · rw [zcat_map]
              have : nativeFrameWords "java/lang/System" "arraycopy" 5 ≤ 100 := by decide
              omega
            · rw [show ∀ (k : Nat) (nn : Nat) (ff : Nat → Int32), (zws cy ad ws).set k (ad k, .inl (cy 0, nn, .inl ff)) = zws cy ad (ws.set k (.inl (0, nn, ff))) from fun k nn ff => (zws_set cy ad ws k (.inl (0, nn, ff))).symm] at p1 d1
              exact hKo _ _ _ _ b H1 locs1 lsC p1 d1 s1 (by rw [List.length_set]; exact hn) hl
          · exact h.elim
        · exact h.elim
      · exact h.elim
    · exact call hd (hcS ix) h
  case ireturn =>
    simp only [zchk, Bool.and_eq_true, decide_eq_true_eq] at hck
    obtain ⟨hd, rfl, -⟩ := hck
    dsimp only [zin] at h
    split at h
    · rename_i x
      exact hRt (some (.int x)) ws pc H locs lsC h hd (Or.inr (Or.inl ⟨x, rfl⟩)) hP hD hS hn
    · exact h.elim
  case lreturn =>
    simp only [zchk, Bool.and_eq_true, decide_eq_true_eq] at hck
    obtain ⟨hd, rfl, -⟩ := hck
    dsimp only [zin] at h
    split at h
    · rename_i x
      exact hRt (some (.long x)) ws pc H locs lsC h hd (Or.inr (Or.inr ⟨x, rfl⟩)) hP hD hS hn
    · exact h.elim
  case return_ =>
    simp only [zchk, Bool.and_eq_true, decide_eq_true_eq] at hck
    obtain ⟨hd, rfl, -⟩ := hck
    dsimp only [zin] at h
    split at h
    · exact hRt none ws pc H locs lsC h hd (Or.inl rfl) hP hD hS hn
    · exact h.elim
  all_goals exact h.elim
end ZS
