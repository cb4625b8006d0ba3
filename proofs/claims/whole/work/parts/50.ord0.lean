
/-! order: the meaning -/
def yad (x y : Nat) : Nat := (x - y) + (y - x)
def rd : Nat → Nat → List Nat
  | 0, _ => []
  | p + 1, c => c % 7 :: rd p (c / 7)
theorem rd_len : ∀ (p c : Nat), (rd p c).length = p
  | 0, _ => rfl
  | p + 1, c => by unfold rd; rw [List.length_cons, rd_len p]
theorem rd_next (p c m : Nat) (hm : m < 7) : rd (p + 1) (c * 7 + m) = m :: rd p c := by
  unfold rd
  rw [show (c * 7 + m) % 7 = m by omega, show (c * 7 + m) / 7 = c by omega]
  cases p <;> rfl
def yA (wn L : Nat → Nat) : List Nat → Nat
  | [] => 0
  | m :: t => yA wn L t + (wn t.length - L m)
def yLk (H : Nat → Nat) (m : Nat) : List Nat → Nat
  | [] => 0
  | m' :: _ => yad (H m) (H m')
def yB (H : Nat → Nat) : List Nat → Nat
  | [] => 0
  | m :: t => yB H t + yLk H m t
def yOk (n : Nat) : List Nat → Bool
  | [] => true
  | m :: t => yOk n t && (decide (m < n) && !(t.contains m))
abbrev ySt : Type := Option (Nat × Nat × Nat)
def yBet (a b : Nat) : ySt → Bool
  | none => true
  | some (A, B, _) => decide (a < A ∨ (a = A ∧ b < B))
theorem yBet_mono {a b a' b' : Nat} {s : ySt} (h1 : a ≤ a') (h2 : b ≤ b') (h : yBet a b s = false) : yBet a' b' s = false := by
  cases s with
  | none => exact h
  | some q =>
    obtain ⟨A, B, c⟩ := q
    have h := of_decide_eq_false h
    exact decide_eq_false (by omega)
def yFo (f : Nat → ySt → ySt) : Nat → Nat → ySt → ySt
  | 0, _, s => s
  | k + 1, m, s => yFo f k (m + 1) (f m s)
section YP
variable (n : Nat) (wn L H : Nat → Nat)
def yUp (r : List Nat) (c : Nat) (s : ySt) : ySt := if yOk n r && yBet (yA wn L r) (yB H r) s then some (yA wn L r, yB H r, c) else s
def yEx : Nat → Nat → Nat → ySt → ySt
  | 0, p, c, s => yUp n wn L H (rd p c) c s
  | d + 1, p, c, s => yFo (fun m s => yEx d (p + 1) (c * 7 + m) s) 7 0 s
def yDf : Nat → Nat → Nat → ySt → ySt
  | 0, p, c, s => if yBet (yA wn L (rd p c)) (yB H (rd p c)) s then some (yA wn L (rd p c), yB H (rd p c), c) else s
  | d + 1, p, c, s => if yBet (yA wn L (rd p c)) (yB H (rd p c)) s then yFo (fun m s => if (rd p c).contains m then s else yDf d (p + 1) (c * 7 + m) s) n 0 s else s
def yCo : Nat → Nat → ySt → ySt
  | 0, _, s => s
  | k + 1, c, s => yCo k (c + 1) (yUp n wn L H (rd n c) c s)
end YP
section YQ
variable {n : Nat} {wn L H : Nat → Nat}
theorem yFo_id {f : Nat → ySt → ySt} {s : ySt} : ∀ (k m : Nat), (∀ j, m ≤ j → j < m + k → f j s = s) → yFo f k m s = s
  | 0, _, _ => rfl
  | k + 1, m, h => by
    unfold yFo
    rw [h m (by omega) (by omega)]
    exact yFo_id k (m + 1) (fun j h1 h2 => h j (by omega) (by omega))
theorem yFo_cong {f g : Nat → ySt → ySt} : ∀ (k m : Nat) (s : ySt), (∀ j s, m ≤ j → j < m + k → f j s = g j s) → yFo f k m s = yFo g k m s
  | 0, _, _, _ => rfl
  | k + 1, m, s, h => by
    unfold yFo
    rw [h m s (by omega) (by omega)]
    exact yFo_cong k (m + 1) _ (fun j s h1 h2 => h j s (by omega) (by omega))
theorem yFo_add (f : Nat → ySt → ySt) : ∀ (a b m : Nat) (s : ySt), yFo f (a + b) m s = yFo f b (m + a) (yFo f a m s)
  | 0, b, m, s => by rw [Nat.zero_add, Nat.add_zero]; rfl
  | a + 1, b, m, s => by
    rw [show a + 1 + b = (a + b) + 1 by omega]
    show yFo f (a + b) (m + 1) (f m s) = _
    rw [yFo_add f a b (m + 1)]
    rw [show m + 1 + a = m + (a + 1) by omega]
    rfl
theorem yFo_cut {f : Nat → ySt → ySt} (hn : n ≤ 7) (s : ySt) (h : ∀ m s, n ≤ m → m < 7 → f m s = s) : yFo f 7 0 s = yFo f n 0 s := by
  have e := yFo_add f n (7 - n) 0 s
  rw [show n + (7 - n) = 7 by omega] at e
  rw [e, yFo_id (7 - n) (0 + n) (fun m h1 h2 => h m _ (by omega) (by omega))]
theorem yEx_bad : ∀ (d p c : Nat) (s : ySt), (yOk n (rd p c) && yBet (yA wn L (rd p c)) (yB H (rd p c)) s) = false → yEx n wn L H d p c s = s
  | 0, p, c, s, h => by
    unfold yEx yUp
    rw [h]
    rfl
  | d + 1, p, c, s, h => by
    unfold yEx
    refine yFo_id 7 0 (fun m _ hm => yEx_bad d (p + 1) (c * 7 + m) s ?_)
    rw [rd_next p c m (by omega)]
    rw [Bool.and_eq_false_iff] at h ⊢
    rcases h with h | h
    · left
      unfold yOk
      rw [h]
      rfl
    · right
      exact yBet_mono (Nat.le_add_right (yA wn L (rd p c)) _) (Nat.le_add_right (yB H (rd p c)) _) h
theorem yDf_Ex (hn : n ≤ 7) : ∀ (d p c : Nat) (s : ySt), yOk n (rd p c) = true → yDf n wn L H d p c s = yEx n wn L H d p c s
  | 0, p, c, s, h => by
    unfold yDf yEx yUp
    rw [h, Bool.true_and]
  | d + 1, p, c, s, h => by
    cases hb : yBet (yA wn L (rd p c)) (yB H (rd p c)) s with
    | false =>
      rw [yEx_bad (d + 1) p c s (by rw [hb, Bool.and_false])]
      unfold yDf
      rw [hb]
      rfl
    | true =>
      unfold yDf yEx
      rw [hb, if_pos rfl]
      rw [yFo_cut hn s (fun m s h1 h2 => yEx_bad d (p + 1) (c * 7 + m) s (by
        rw [rd_next p c m (by omega), Bool.and_eq_false_iff]
        left
        unfold yOk
        rw [decide_eq_false (show ¬ m < n by omega)]
        simp))]
      refine yFo_cong n 0 s (fun m s _ hm => ?_)
      cases hc : (rd p c).contains m with
      | true =>
        rw [if_pos rfl, yEx_bad d (p + 1) (c * 7 + m) s (by
          rw [rd_next p c m (by omega), Bool.and_eq_false_iff]
          left
          unfold yOk
          rw [hc]
          simp)]
      | false =>
        rw [if_neg (by decide)]
        exact yDf_Ex hn d (p + 1) (c * 7 + m) s (by
          rw [rd_next p c m (by omega)]
          unfold yOk
          rw [h, hc, decide_eq_true (show m < n by omega)]
          rfl)
theorem yCo_add : ∀ (a b c : Nat) (s : ySt), yCo n wn L H (a + b) c s = yCo n wn L H b (c + a) (yCo n wn L H a c s)
  | 0, b, c, s => by rw [Nat.zero_add, Nat.add_zero]; rfl
  | a + 1, b, c, s => by
    rw [show a + 1 + b = (a + b) + 1 by omega]
    show yCo n wn L H (a + b) (c + 1) (yUp n wn L H (rd n c) c s) = _
    rw [yCo_add a b (c + 1), show c + 1 + a = c + (a + 1) by omega]
    rfl
theorem yCo_Fo (N : Nat) (f : Nat → ySt → ySt) (c : Nat) : ∀ (k m : Nat) (s : ySt), (∀ j s, m ≤ j → j < m + k → yCo n wn L H N ((c * 7 + j) * N) s = f j s) → yCo n wn L H (k * N) ((c * 7 + m) * N) s = yFo f k m s
  | 0, m, s, _ => by rw [Nat.zero_mul]; rfl
  | k + 1, m, s, h => by
    rw [show (k + 1) * N = N + k * N by rw [Nat.succ_mul]; omega, yCo_add, h m s (by omega) (by omega)]
    unfold yFo
    rw [show (c * 7 + m) * N + N = (c * 7 + (m + 1)) * N by rw [← Nat.add_assoc, Nat.succ_mul]]
    exact yCo_Fo N f c k (m + 1) _ (fun j s h1 h2 => h j s (by omega) (by omega))
theorem yCo_Ex : ∀ (d p c : Nat) (s : ySt), p + d = n → yCo n wn L H (7 ^ d) (c * 7 ^ d) s = yEx n wn L H d p c s
  | 0, p, c, s, h => by
    have e : p = n := by omega
    subst e
    rw [Nat.pow_zero, Nat.mul_one]
    rfl
  | d + 1, p, c, s, h => by
    rw [Nat.pow_succ, Nat.mul_comm (7 ^ d) 7]
    unfold yEx
    have := yCo_Fo (n := n) (wn := wn) (L := L) (H := H) (7 ^ d) (fun m s => yEx n wn L H d (p + 1) (c * 7 + m) s) c 7 0 s (fun j s _ _ => yCo_Ex d (p + 1) (c * 7 + j) s (by omega))
    rw [Nat.add_zero, Nat.mul_assoc] at this
    exact this
theorem yUp_some {r : List Nat} {c : Nat} {s : ySt} (h : s.isSome = true) : (yUp n wn L H r c s).isSome = true := by
  unfold yUp
  split
  · rfl
  · exact h
theorem yCo_some : ∀ (k c : Nat) (s : ySt), (s.isSome = true ∨ ∃ j, c ≤ j ∧ j < c + k ∧ yOk n (rd n j) = true) → (yCo n wn L H k c s).isSome = true
  | 0, c, s, h => by
    rcases h with h | ⟨j, h1, h2, _⟩
    · exact h
    · omega
  | k + 1, c, s, h => by
    unfold yCo
    refine yCo_some k (c + 1) _ ?_
    rcases h with h | ⟨j, h1, h2, h3⟩
    · exact Or.inl (yUp_some h)
    · by_cases e : c = j
      · subst e
        cases s with
        | some q => exact Or.inl (yUp_some rfl)
        | none =>
          left
          unfold yUp
          rw [h3]
          rfl
      · exact Or.inr ⟨j, by omega, by omega, h3⟩
def yFin (n : Nat) (wn L H : Nat → Nat) : ySt := yEx n wn L H n 0 0 none
theorem yFin_Co : yCo n wn L H (7 ^ n) 0 none = yFin n wn L H := by
  have := yCo_Ex (n := n) (wn := wn) (L := L) (H := H) n 0 0 none (by omega)
  rw [Nat.zero_mul] at this
  exact this
theorem yFin_some (hn : n ≤ 7) : ∃ A B c, yFin n wn L H = some (A, B, c) := by
  have h : (yFin n wn L H).isSome = true := by
    rw [← yFin_Co]
    have : ∀ m, m < 8 → ([0, 0, 1, 9, 66, 466, 3267, 22875].getD m 0 < 7 ^ m ∧ yOk m (rd m ([0, 0, 1, 9, 66, 466, 3267, 22875].getD m 0)) = true) := by decide
    exact yCo_some (7 ^ n) 0 none (Or.inr ⟨_, Nat.zero_le _, by rw [Nat.zero_add]; exact (this n (by omega)).1, (this n (by omega)).2⟩)
  cases e : yFin n wn L H with
  | none => rw [e] at h; cases h
  | some q => exact ⟨q.1, q.2.1, q.2.2, rfl⟩
/-! bounds: the sums stay small -/
theorem yOk_mem : ∀ {r : List Nat}, yOk n r = true → ∀ m ∈ r, m < n
  | [], _, m, h => absurd h List.not_mem_nil
  | a :: t, h, m, hm => by
    unfold yOk at h
    rw [Bool.and_eq_true, Bool.and_eq_true] at h
    rcases List.mem_cons.mp hm with e | e
    · subst e; exact of_decide_eq_true h.2.1
    · exact yOk_mem h.1 m e
theorem yA_le (hw : ∀ p, p < n → wn p ≤ 60) : ∀ {r : List Nat}, r.length ≤ n → yA wn L r ≤ 60 * r.length
  | [], _ => Nat.le_refl _
  | m :: t, h => by
    rw [List.length_cons] at h ⊢
    have := yA_le hw (r := t) (by omega)
    have := hw t.length (by omega)
    unfold yA
    omega
theorem yB_le (hH : ∀ m, m < n → H m ≤ 99) : ∀ {r : List Nat}, yOk n r = true → yB H r ≤ 99 * r.length
  | [], _ => Nat.le_refl _
  | m :: t, h => by
    have h0 := h
    unfold yOk at h
    rw [Bool.and_eq_true, Bool.and_eq_true] at h
    have h1 := yB_le hH (r := t) h.1
    have h2 := hH m (of_decide_eq_true h.2.1)
    rw [List.length_cons]
    unfold yB
    have h3 : yLk H m t ≤ 99 := by
      cases t with
      | nil => exact Nat.zero_le _
      | cons m' t' =>
        have h4 := hH m' (yOk_mem h0 m' (List.mem_cons_of_mem _ List.mem_cons_self))
        show yad (H m) (H m') ≤ 99
        unfold yad
        omega
    omega
end YQ
def yMk : List Nat → Nat
  | [] => 0
  | m :: t => yMk t ||| 2 ^ m
theorem yMk_bit : ∀ {t : List Nat} {j : Nat}, (yMk t).testBit j = t.contains j
  | [], j => by simp [yMk]
  | m :: t, j => by
    unfold yMk
    rw [Nat.testBit_or, yMk_bit, Nat.testBit_two_pow, List.contains_cons]
    by_cases h : j = m
    · subst h; simp
    · have h2 : ¬ m = j := fun e => h e.symm
      simp [h, h2]
theorem yMk_lt : ∀ {t : List Nat}, (∀ m ∈ t, m < 7) → yMk t < 128
  | [], _ => by decide
  | m :: t, h => by
    have h1 : yMk t < 2 ^ 7 := yMk_lt (fun j hj => h j (List.mem_cons_of_mem _ hj))
    have h2 : 2 ^ m < 2 ^ 7 := Nat.pow_lt_pow_right (by omega) (h m List.mem_cons_self)
    exact Nat.or_lt_two_pow h1 h2
set_option maxRecDepth 100000 in
theorem bit_tbl : (List.range 128).all (fun U => (List.range 7).all (fun m => (decide (nI U &&& ((1 : Int32) <<< (nI m &&& 31)) = 0) == !(U.testBit m)) && (decide (nI U ||| ((1 : Int32) <<< (nI m &&& 31)) = nI (U ||| 2 ^ m)) && (decide (((nI U : Int32) >>> (nI m &&& 31)) &&& 1 = 1) == U.testBit m)))) = true := by decide +kernel
theorem bit_at {U m : Nat} (hU : U < 128) (hm : m < 7) : ((nI U &&& ((1 : Int32) <<< (nI m &&& 31)) = 0) ↔ U.testBit m = false) ∧ (nI U ||| ((1 : Int32) <<< (nI m &&& 31)) = nI (U ||| 2 ^ m)) ∧ ((((nI U : Int32) >>> (nI m &&& 31)) &&& 1 = 1) ↔ U.testBit m = true) := by
  have h1 := List.all_eq_true.mp (List.all_eq_true.mp bit_tbl U (List.mem_range.mpr hU)) m (List.mem_range.mpr hm)
  rw [Bool.and_eq_true, Bool.and_eq_true] at h1
  obtain ⟨h1, h2, h3⟩ := h1
  have h1 := eq_of_beq h1
  have h3 := eq_of_beq h3
  refine ⟨?_, of_decide_eq_true h2, ?_⟩
  · cases hb : U.testBit m with
    | true =>
      rw [hb] at h1
      exact ⟨fun q => absurd q (of_decide_eq_false h1), fun q => (by cases q)⟩
    | false =>
      rw [hb] at h1
      exact ⟨fun _ => rfl, fun _ => of_decide_eq_true h1⟩
  · cases hb : U.testBit m with
    | true =>
      rw [hb] at h3
      exact ⟨fun _ => rfl, fun _ => of_decide_eq_true h3⟩
    | false =>
      rw [hb] at h3
      exact ⟨fun q => absurd q (of_decide_eq_false h3), fun q => (by cases q)⟩
theorem zmax_sub {w l : Nat} (hw : w < 1000) (hl : l < 1000) : zmax 0 (nI w - nI l) = nI (w - l) := by
  unfold zmax
  rcases Nat.lt_or_ge l w with c | c
  · rw [pk_sub (by omega), if_pos (by rw [← nI_0]; exact nI_lt (by omega) (by omega))]
  · rw [show w - l = 0 by omega, nI_0]
    rw [if_neg]
    rw [Int32.lt_iff_toInt_lt, pk_sub_toInt (by omega) (by omega)]
    have : (0 : Int32).toInt = 0 := by decide
    omega
theorem zabs_sub {w l : Nat} (hw : w < 1000) (hl : l < 1000) : zabs (nI w - nI l) = nI (yad w l) := by
  unfold zabs yad
  have e0 : (0 : Int32).toInt = 0 := by decide
  rcases Nat.lt_or_ge w l with c | c
  · rw [if_neg (by rw [Int32.le_iff_toInt_le, pk_sub_toInt (by omega) (by omega)]; omega), show w - l + (l - w) = l - w by omega, ← pk_sub (by omega)]
    apply Int32.toInt_inj.mp
    rw [Int32.toInt_sub, pk_sub_toInt (by omega) (by omega), pk_sub_toInt (by omega) (by omega), e0, Int.bmod_eq_of_le (by omega) (by omega)]
    omega
  · rw [if_pos (by rw [Int32.le_iff_toInt_le, pk_sub_toInt (by omega) (by omega)]; omega), show w - l + (l - w) = w - l by omega, pk_sub c]
