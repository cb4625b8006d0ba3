theorem zbool_inv {b : Bool} {P : Prop} (h : zbool b P) : b = true ∧ P := by
  unfold zbool at h
  split at h
  · exact ⟨rfl, h⟩
  · exact h.elim
theorem zld_inv {K : zK} {isI : Bool} {n nx : Nat} {ls : List (Option Value)} {st : List Value} {ws : zW} (h : zld K isI n nx ls st ws) : (∃ x, isI = true ∧ ls[n]? = some (some (.int x)) ∧ K nx ls (.int x :: st) ws) ∨ (∃ x, isI = false ∧ ls[n]? = some (some (.ref x)) ∧ K nx ls (.ref x :: st) ws) := by
  unfold zld at h
  split at h
  · rename_i x hx
    obtain ⟨a, b⟩ := zbool_inv h
    exact Or.inl ⟨x, a, hx, b⟩
  · rename_i x hx
    obtain ⟨a, b⟩ := zbool_inv h
    exact Or.inr ⟨x, by simpa using a, hx, b⟩
  · exact h.elim
theorem zst_inv {K : zK} {isI : Bool} {n nx : Nat} {ls : List (Option Value)} {st : List Value} {ws : zW} (h : zst K isI n nx ls st ws) : (∃ x r, isI = true ∧ st = .int x :: r ∧ n < ls.length ∧ K nx (ls.set n (some (.int x))) r ws) ∨ (∃ x r, isI = false ∧ st = .ref x :: r ∧ n < ls.length ∧ K nx (ls.set n (some (.ref x))) r ws) := by
  unfold zst at h
  split at h
  · obtain ⟨a, b⟩ := zbool_inv h
    obtain ⟨b, d⟩ := zbool_inv b
    exact Or.inl ⟨_, _, a, rfl, by simpa using b, d⟩
  · obtain ⟨a, b⟩ := zbool_inv h
    obtain ⟨b, d⟩ := zbool_inv b
    exact Or.inr ⟨_, _, by simpa using a, rfl, by simpa using b, d⟩
  · exact h.elim
theorem z2_inv {K : zK} {f : Int32 → Int32 → Int32} {nx : Nat} {ls : List (Option Value)} {st : List Value} {ws : zW} (h : z2 K f nx ls st ws) : ∃ x y r, st = .int y :: .int x :: r ∧ K nx ls (.int (f x y) :: r) ws := by
  unfold z2 at h
  split at h
  · exact ⟨_, _, _, rfl, h⟩
  · exact h.elim
theorem z2d_inv {K : zK} {f : Int32 → Int32 → Int32} {nx : Nat} {ls : List (Option Value)} {st : List Value} {ws : zW} (h : z2d K f nx ls st ws) : ∃ x y r, st = .int y :: .int x :: r ∧ ¬ y = 0 ∧ K nx ls (.int (f x y) :: r) ws := by
  unfold z2d at h
  split at h
  · exact ⟨_, _, _, rfl, h.1, h.2⟩
  · exact h.elim
theorem z1_inv {K : zK} {f : Int32 → Int32} {nx : Nat} {ls : List (Option Value)} {st : List Value} {ws : zW} (h : z1 K f nx ls st ws) : ∃ x r, st = .int x :: r ∧ K nx ls (.int (f x) :: r) ws := by
  unfold z1 at h
  split at h
  · exact ⟨_, _, rfl, h⟩
  · exact h.elim
theorem zgf_inv {K : zK} {fl : Option (Nat × Nat × FieldType)} {nx : Nat} {ls : List (Option Value)} {st : List Value} {ws : zW} (h : zgf K fl nx ls st ws) : ∃ ci j ty k r fs w, fl = some (ci, j, ty) ∧ st = .ref k :: r ∧ ws[k]? = some (.inr (.inr (ci, fs))) ∧ fs[j]? = some w ∧ K nx ls (w :: r) ws := by
  unfold zgf at h
  split at h
  · split at h
    · rename_i hk
      split at h
      · rename_i w hw
        obtain ⟨a, b⟩ := zbool_inv h
        have a := Nat.eq_of_beq_eq_true a
        subst a
        exact ⟨_, _, _, _, _, _, w, rfl, rfl, hk, hw, b⟩
      · exact h.elim
    · exact h.elim
  · exact h.elim
theorem zpf_inv {K : zK} {fl : Option (Nat × Nat × FieldType)} {nx : Nat} {ls : List (Option Value)} {st : List Value} {ws : zW} (h : zpf K fl nx ls st ws) : ∃ ci j ty k r fs w, fl = some (ci, j, ty) ∧ st = w :: .ref k :: r ∧ ws[k]? = some (.inr (.inr (ci, fs))) ∧ j < fs.length ∧ zfit ty w (K nx ls r (ws.set k (.inr (.inr (ci, fs.set j w))))) := by
  unfold zpf at h
  split at h
  · split at h
    · rename_i hk
      obtain ⟨a, b⟩ := zbool_inv h
      have a := Nat.eq_of_beq_eq_true a
      subst a
      obtain ⟨a, b⟩ := zbool_inv b
      exact ⟨_, _, _, _, _, _, _, rfl, rfl, hk, by simpa using a, b⟩
    · exact h.elim
  · exact h.elim
theorem zfit_inv {ty : FieldType} {v : Value} {P : Prop} (h : zfit ty v P) (ad : Nat → Nat) : narrow ty (zv ad v) = zv ad v ∧ fits ty (zv ad v) = true ∧ P := by
  cases ty <;> cases v <;> simp only [zfit] at h <;> first | exact h.elim | exact ⟨rfl, rfl, h⟩ | (obtain ⟨h1, h2⟩ := h; rcases h1 with rfl | rfl <;> exact ⟨rfl, rfl, h2⟩)
theorem zal_inv {K : zK} {isI : Bool} {nx : Nat} {ls : List (Option Value)} {st : List Value} {ws : zW} (h : zal K isI nx ls st ws) : ∃ i k r t n f, st = .int i :: .ref k :: r ∧ ws[k]? = some (.inl (t, n, f)) ∧ (if isI then t = 0 else t = 1 ∨ t = 2) ∧ vp_in i n ∧ K nx ls (.int (f i.toNatClampNeg) :: r) ws := by
  unfold zal at h
  split at h
  · split at h
    · rename_i hk
      obtain ⟨a, b, d⟩ := zbool_inv h
      refine ⟨_, _, _, _, _, _, rfl, hk, ?_, b, d⟩
      cases isI <;> simp at a ⊢ <;> exact a
    · exact h.elim
  · exact h.elim
theorem zas_inv {K : zK} {isI : Bool} {nx : Nat} {ls : List (Option Value)} {st : List Value} {ws : zW} (h : zas K isI nx ls st ws) : ∃ x i k r t n f, st = .int x :: .int i :: .ref k :: r ∧ ws[k]? = some (.inl (t, n, f)) ∧ vp_in i n ∧ ((isI = true ∧ t = 0 ∧ K nx ls r (ws.set k (.inl (0, n, upd f i.toNatClampNeg x)))) ∨ (isI = false ∧ t = 1 ∧ K nx ls r (ws.set k (.inl (1, n, upd f i.toNatClampNeg (vp_nar .byte x))))) ∨ (isI = false ∧ t = 2 ∧ K nx ls r (ws.set k (.inl (2, n, upd f i.toNatClampNeg (vp_nar .boolean x)))))) := by
  unfold zas at h
  split at h
  · split at h
    · rename_i hk
      split at h
      · exact ⟨_, _, _, _, _, _, _, rfl, hk, h.1, Or.inl ⟨rfl, rfl, h.2⟩⟩
      · exact ⟨_, _, _, _, _, _, _, rfl, hk, h.1, Or.inr (Or.inl ⟨rfl, rfl, h.2⟩)⟩
      · exact ⟨_, _, _, _, _, _, _, rfl, hk, h.1, Or.inr (Or.inr ⟨rfl, rfl, h.2⟩)⟩
      · exact h.elim
    · exact h.elim
  · exact h.elim
theorem zaa_inv {K : zK} {nx : Nat} {ls : List (Option Value)} {st : List Value} {ws : zW} (h : zaa K nx ls st ws) : ∃ i k r t l a, st = .int i :: .ref k :: r ∧ ws[k]? = some (.inr (.inl (t, l))) ∧ (t = 3 ∨ t = 4) ∧ vp_in i l.length ∧ l[i.toNatClampNeg]? = some (some a) ∧ K nx ls (.ref a :: r) ws := by
  unfold zaa at h
  split at h
  · split at h
    · rename_i hk
      obtain ⟨a, b, y, d, f⟩ := zbool_inv h
      exact ⟨_, _, _, _, _, y, rfl, hk, by simpa using a, b, d, f⟩
    · exact h.elim
  · exact h.elim
theorem zax_inv {K : zK} {nx : Nat} {ls : List (Option Value)} {st : List Value} {ws : zW} (h : zax K nx ls st ws) : ∃ a i k r t l ci fs, st = .ref a :: .int i :: .ref k :: r ∧ ws[k]? = some (.inr (.inl (t, l))) ∧ ws[a]? = some (.inr (.inr (ci, fs))) ∧ ((t = 3 ∧ ci = 0) ∨ (t = 4 ∧ ci = 1)) ∧ vp_in i l.length ∧ K nx ls r (ws.set k (.inr (.inl (t, l.set i.toNatClampNeg (some a))))) := by
  unfold zax at h
  split at h
  · split at h
    · rename_i hk ha
      obtain ⟨b, d, f⟩ := zbool_inv h
      exact ⟨_, _, _, _, _, _, _, _, rfl, hk, ha, by simpa using b, d, f⟩
    · exact h.elim
  · exact h.elim
theorem zan_inv {K : zK} {nx : Nat} {ls : List (Option Value)} {st : List Value} {ws : zW} (h : zan K nx ls st ws) : ∃ k r t n f, st = .ref k :: r ∧ ws[k]? = some (.inl (t, n, f)) ∧ t < 3 ∧ K nx ls (.int (Int32.ofNat n) :: r) ws := by
  unfold zan at h
  split at h
  · split at h
    · rename_i hk
      obtain ⟨a, b⟩ := zbool_inv h
      exact ⟨_, _, _, _, _, rfl, hk, by simpa using a, b⟩
    · exact h.elim
  · exact h.elim
theorem zca_inv {K : zK} {g : Option (Nat × zG)} {nx : Nat} {ls : List (Option Value)} {st : List Value} {ws : zW} (h : zca K g nx ls st ws) : ∃ n G, g = some (n, G) ∧ n ≤ st.length ∧ zcat (st.drop n) ≤ 8 ∧ G (st.take n).reverse ws (zcl K nx ls (st.drop n)) := by
  unfold zca at h
  split at h
  · obtain ⟨a, b⟩ := zbool_inv h
    obtain ⟨b, d⟩ := zbool_inv b
    exact ⟨_, _, rfl, Nat.le_of_ble_eq_true a, Nat.le_of_ble_eq_true b, d⟩
  · exact h.elim
theorem zcat_map (ad : Nat → Nat) (l : List Value) : ((l.map (zv ad)).map fun v => v.category).sum = zcat l := by
  unfold zcat
  rw [List.map_map]
  congr 1
  apply List.map_congr_left
  intro v _
  exact zv_cat ad v
theorem ztgs_get {pc : Nat} : ∀ {os : List Int} {ts : List Nat}, ztgs pc os ts = true → ∀ (j : Nat) (t : Nat), ts[j]? = some t → ∃ o, os[j]? = some o ∧ (pc : Int) + o = (t : Int)
  | [], [], _, j, t, h => by simp at h
  | o :: os, t0 :: ts, h, j, t, hj => by
    simp only [ztgs, Bool.and_eq_true, decide_eq_true_eq] at h
    cases j with
    | zero =>
      rw [List.getElem?_cons_zero] at hj
      cases hj
      exact ⟨o, rfl, h.1⟩
    | succ j =>
      rw [List.getElem?_cons_succ] at hj
      obtain ⟨o', h1, h2⟩ := ztgs_get h.2 j t hj
      exact ⟨o', by rw [List.getElem?_cons_succ]; exact h1, h2⟩
  | [], t0 :: ts, h, j, t, hj => by simp [ztgs] at h
  | o :: os, [], h, j, t, hj => by simp [ztgs] at h
theorem ztgs_len {pc : Nat} : ∀ {os : List Int} {ts : List Nat}, ztgs pc os ts = true → os.length = ts.length
  | [], [], _ => rfl
  | o :: os, t0 :: ts, h => by
    simp only [ztgs, Bool.and_eq_true, decide_eq_true_eq] at h
    rw [List.length_cons, List.length_cons, ztgs_len h.2]
  | [], t0 :: ts, h => by simp [ztgs] at h
  | o :: os, [], h => by simp [ztgs] at h
theorem zsw_get {x : Int32} {P : Nat → Prop} : ∀ {ts : List Nat} {v : Int}, zsw x P v ts → ∀ (j t : Nat), ts[j]? = some t → x.toInt = v + (j : Int) → P t
  | [], _, _, j, t, h, _ => by simp at h
  | t0 :: ts, v, h, j, t, hj, hx => by
    cases j with
    | zero =>
      rw [List.getElem?_cons_zero] at hj
      cases hj
      exact h.1 (by omega)
    | succ j =>
      rw [List.getElem?_cons_succ] at hj
      exact zsw_get h.2 j t hj (by omega)
theorem zlk_get {x : Int32} {P : Nat → Prop} {dt pc : Nat} {d : Int} (hd : (pc : Int) + d = (dt : Int)) : ∀ {ps : List (Int × Int)} {ts : List Nat}, zlk x P dt ps ts → ztgs pc (ps.map (fun q => q.2)) ts = true → ∃ t : Nat, (pc : Int) + Op.lookupswitch.offset ps d x.toInt = (t : Int) ∧ P t
  | [], [], h, _ => ⟨dt, hd, h⟩
  | (a, o) :: ps, t :: ts, h, hg => by
    simp only [ztgs, List.map_cons, Bool.and_eq_true, decide_eq_true_eq] at hg
    by_cases hx : x.toInt = a
    · refine ⟨t, ?_, h.1 hx⟩
      have e : Op.lookupswitch.offset ((a, o) :: ps) d x.toInt = o := by simp [Op.lookupswitch.offset, hx]
      rw [e]
      exact hg.1
    · obtain ⟨t', h1, h2⟩ := zlk_get hd (h.2 hx) hg.2
      refine ⟨t', ?_, h2⟩
      have e : Op.lookupswitch.offset ((a, o) :: ps) d x.toInt = Op.lookupswitch.offset ps d x.toInt := by
        simp [Op.lookupswitch.offset]
        intro q
        exact absurd q.symm hx
      rw [e]
      exact h1
  | [], t :: ts, h, _ => by simp [zlk] at h
  | q :: ps, [], h, _ => by simp [zlk] at h
