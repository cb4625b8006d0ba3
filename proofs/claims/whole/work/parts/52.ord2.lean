
/-! order: the reference -/
def yRS (s : ySt) (ba bp br : Int32) : Prop := match s with
  | none => br = -1009
  | some (A, B, c) => c < 2 ^ 31 ∧ br = nI c ∧ ba = nI A ∧ bp = nI B
theorem yad_comm (x y : Nat) : yad x y = yad y x := Nat.add_comm _ _
def yHd (H : Nat → Nat) (m : Nat) : List Nat → Nat
  | [] => 0
  | m' :: _ => yad (H m) (H m')
def yLn (H : Nat → Nat) (t : List Nat) : List Nat → Nat
  | [] => 0
  | m' :: _ => yLk H m' t
def yVl : List Nat → Int32
  | [] => -1009
  | m :: _ => nI m
theorem yUp_S {n : Nat} {wn L H : Nat → Nat} (hn : n ≤ 7) (hw : ∀ p, p < n → wn p ≤ 60) (hH : ∀ m, m < n → H m ≤ 99) {c : Nat} {s : ySt} (hs : yS s) : yS (yUp n wn L H (rd n c) c s) := by
  unfold yUp
  split
  · rename_i h
    rw [Bool.and_eq_true] at h
    have h1 := yA_le (L := L) hw (r := rd n c) (by rw [rd_len]; omega)
    have h2 := yB_le hH h.1
    rw [rd_len] at h1 h2
    exact ⟨by omega, by omega⟩
  · exact hs
theorem i_dec (k : Nat) : nI k + (-1) = nI k - 1 := (Int32.sub_eq_add_neg (nI k) 1).symm
section MD
variable {tr : Int64} {tx : Nat → Int32} {ty n : Nat} {m1 : Int32} {lg ht la : Nat → Int32} {at_ st_ so_ va_ fa_ to_ : Int32} {nw ik td th : Nat → Int32} {ba bp br : Int32} {sa sb sc : Nat → Int32} {z : Nat}
variable {K : zP} {post : zP}

set_option maxRecDepth 100000 in
set_option maxHeartbeats 4000000 in
theorem u_look {x : zLn} (hx : mIs nw x) {wn L H : Nat → Nat} (hn : n ≤ 7) (hwn : ∀ p, p < n → sWant x.2.2.2.1 n p = nI (wn p) ∧ wn p ≤ 60) (hL : ∀ m, m < n → lg m = nI (L m) ∧ L m ≤ 60) (hH : ∀ m, m < n → ht m = nI (H m) ∧ H m ≤ 99) (s : ySt) (hs : yS s) (hr : yRS s ba bp br) (c : Nat) (hc : c < 2 ^ 31) (h : ∀ ba' bp' br', yRS (yUp n wn L H (rd n c) c s) ba' bp' br' → K none (wD tr tx ty n m1 lg ht la at_ st_ so_ va_ fa_ to_ nw ik td th ba' bp' br' sa sb sc z)) : zFV 8 2 (zGoes mX8_look 0 12) [.ref 0, .int (nI c)] (wD tr tx ty n m1 lg ht la at_ st_ so_ va_ fa_ to_ nw ik td th ba bp br sa sb sc z) K := by
  refine And.intro rfl (Or.inl ⟨rfl, rfl, ?_⟩)
  intro Z hZ
  have hw60 : ∀ p, p < n → wn p ≤ 60 := fun p hp => (hwn p hp).2
  have hH99 : ∀ m, m < n → H m ≤ 99 := fun m hm => (hH m hm).2
  have bad : yOk n (rd n c) = false → ∀ (ls : List (Option Value)), Z 63 ls [] (wD tr tx ty n m1 lg ht la at_ st_ so_ va_ fa_ to_ nw ik td th ba bp br sa sb sc z) := by
    intro hb ls
    have := h ba bp br
    unfold yUp at this
    rw [hb] at this
    exact hZ.1 [] 10 _ _ _ _ (this hr)
  have loop : ∀ (k v : Nat) (u : List Nat) (a b : Nat) (o9 o10 o11 : Option Value), v < 2 ^ 31 → u.length + k = n → (∀ m ∈ u, m < n) → a ≤ 60 * u.length → b ≤ 99 * u.length → yA wn L (rd n c) = a + yA wn L (rd k v) → yB H (rd n c) = b + yLn H (rd k v) u + yB H (rd k v) → yOk n (rd n c) = (yOk n (rd k v) && u.all (fun m => !((rd k v).contains m))) → Z 28 [some (.ref 0), some (.int (nI c)), some (.int (nI n)), some (.int (nI (yMk u))), some (.int (nI a)), some (.int (nI b)), some (.int (nI v)), some (.int (yVl u)), some (.int (nI k - 1)), o9, o10, o11] [] (wD tr tx ty n m1 lg ht la at_ st_ so_ va_ fa_ to_ nw ik td th ba bp br sa sb sc z) := by
    intro k
    induction k with
    | zero =>
      intro v u a b o9 o10 o11 hv hu hum ha hb hA hB hO
      have hA : yA wn L (rd n c) = a := hA
      have hB : yB H (rd n c) = b := by
        rw [hB]
        cases u with
        | nil => rfl
        | cons m u => rfl
      have hO : yOk n (rd n c) = true := by
        rw [hO]
        have : u.all (fun m => !((rd 0 v).contains m)) = true := List.all_eq_true.mpr (fun m _ => rfl)
        rw [this]
        rfl
      have took : yBet a b s = true → Z 201 [some (.ref 0), some (.int (nI c)), some (.int (nI n)), some (.int (nI (yMk u))), some (.int (nI a)), some (.int (nI b)), some (.int (nI v)), some (.int (yVl u)), some (.int (nI 0 - 1)), o9, o10, o11] [] (wD tr tx ty n m1 lg ht la at_ st_ so_ va_ fa_ to_ nw ik td th ba bp br sa sb sc z) := by
        intro hbt
        have := h (nI a) (nI b) (nI c)
        unfold yUp at this
        rw [hO, hA, hB, hbt] at this
        exact hZ.1 [] 20 _ _ _ _ (this ⟨hc, rfl, rfl, rfl⟩)
      have not : yBet a b s = false → Z 218 [some (.ref 0), some (.int (nI c)), some (.int (nI n)), some (.int (nI (yMk u))), some (.int (nI a)), some (.int (nI b)), some (.int (nI v)), some (.int (yVl u)), some (.int (nI 0 - 1)), o9, o10, o11] [] (wD tr tx ty n m1 lg ht la at_ st_ so_ va_ fa_ to_ nw ik td th ba bp br sa sb sc z) := by
        intro hbt
        have := h ba bp br
        unfold yUp at this
        rw [hO, hA, hB, hbt] at this
        exact hZ.1 [] 20 _ _ _ _ (this hr)
      refine hZ.1 [28, 201, 218] 60 _ _ _ _ (And.intro (fun _ => And.intro (fun c1 => ?_) (fun c1 => And.intro (fun c2 => ?_) (fun c2 => And.intro (fun c3 => And.intro (fun c4 => ?_) (fun c4 => ?_)) (fun c3 => ?_)))) (fun c => absurd (by decide) c))
      · cases s with
        | none => exact took rfl
        | some q =>
          obtain ⟨A, B, c'⟩ := q
          have c1 : br = -1009 := c1
          exact absurd (hr.2.1.symm.trans c1) (nI_n9 hr.1)
      · cases s with
        | none => exact absurd hr c1
        | some q =>
          obtain ⟨A, B, c'⟩ := q
          have hs : A < 10000 ∧ B < 10000 := hs
          have c2 : nI a < ba := c2
          rw [hr.2.2.1, nI_ltI (by omega) (by omega)] at c2
          exact took (decide_eq_true (by omega))
      · cases s with
        | none => exact absurd hr c1
        | some q =>
          obtain ⟨A, B, c'⟩ := q
          have hs : A < 10000 ∧ B < 10000 := hs
          have c3 : nI a = ba := c3
          have c4 : bp ≤ nI b := c4
          rw [hr.2.2.1, nI_eq (by omega) (by omega)] at c3
          rw [hr.2.2.2, nI_leI (by omega) (by omega)] at c4
          exact not (decide_eq_false (by omega))
      · cases s with
        | none => exact absurd hr c1
        | some q =>
          obtain ⟨A, B, c'⟩ := q
          have hs : A < 10000 ∧ B < 10000 := hs
          have c3 : nI a = ba := c3
          have c4 : ¬ bp ≤ nI b := c4
          rw [hr.2.2.1, nI_eq (by omega) (by omega)] at c3
          rw [hr.2.2.2, nI_leI (by omega) (by omega)] at c4
          exact took (decide_eq_true (by omega))
      · cases s with
        | none => exact absurd hr c1
        | some q =>
          obtain ⟨A, B, c'⟩ := q
          have hs : A < 10000 ∧ B < 10000 := hs
          have c2 : ¬ nI a < ba := c2
          have c3 : ¬ nI a = ba := c3
          rw [hr.2.2.1, nI_ltI (by omega) (by omega)] at c2
          rw [hr.2.2.1, nI_eq (by omega) (by omega)] at c3
          exact not (decide_eq_false (by omega))
    | succ k ih =>
      intro v u a b o9 o10 o11 hv hu hum ha hb hA hB hO
      have hm7 : v % 7 < 7 := Nat.mod_lt _ (by omega)
      have hv7 : v / 7 ≤ v := Nat.div_le_self _ _
      have e1 : (nI v - nI v / 7 * 7 : Int32) = nI (v % 7) := by rw [← n7, pk_rem hv (by omega) (by omega)]
      have e2 : (nI v / 7 : Int32) = nI (v / 7) := by rw [← n7, pk_div hv (by omega) (by omega)]
      have hb7 := bit_at (U := yMk u) (m := v % 7) (yMk_lt (fun m hm => Nat.lt_of_lt_of_le (hum m hm) hn)) hm7
      have hA : yA wn L (rd n c) = a + (yA wn L (rd k (v / 7)) + (wn (rd k (v / 7)).length - L (v % 7))) := hA
      rw [rd_len] at hA
      have hO : yOk n (rd n c) = ((yOk n (rd k (v / 7)) && (decide (v % 7 < n) && !((rd k (v / 7)).contains (v % 7)))) && u.all (fun m => !((v % 7 :: rd k (v / 7)).contains m))) := hO
      have j47 : Z 47 [some (.ref 0), some (.int (nI c)), some (.int (nI n)), some (.int (nI (yMk u))), some (.int (nI a)), some (.int (nI b)), some (.int (nI (v / 7))), some (.int (yVl u)), some (.int (nI k)), some (.int (nI (v % 7))), o10, o11] [] (wD tr tx ty n m1 lg ht la at_ st_ so_ va_ fa_ to_ nw ik td th ba bp br sa sb sc z) := by
        refine hZ.1 [63, 64] 60 _ _ _ _ (And.intro (fun c1 => ?_) (fun c1 => And.intro (fun c2 => ?_) (fun c2 => ?_)))
        · have c1 : nI n ≤ nI (v % 7) := c1
          rw [nI_leI (by omega) (by omega)] at c1
          exact bad (by rw [hO, decide_eq_false (show ¬ v % 7 < n by omega)]; simp) _
        · have hin := hb7.2.2.mp c2
          rw [yMk_bit] at hin
          refine bad ?_ _
          rw [hO, Bool.and_eq_false_iff]
          right
          rw [List.all_eq_false]
          exact ⟨v % 7, by simpa using hin, by simp⟩
        · have c1 : ¬ nI n ≤ nI (v % 7) := c1
          rw [nI_leI (by omega) (by omega)] at c1
          have hnin : u.contains (v % 7) = false := by
            rw [← yMk_bit]
            cases hx : (yMk u).testBit (v % 7) with
            | false => rfl
            | true => exact absurd (hb7.2.2.mpr hx) c2
          have hlgm := hL (v % 7) (by omega)
          have hhtm := hH (v % 7) (by omega)
          have hwk := hwn k (by omega)
          have hO2 : yOk n (rd n c) = (yOk n (rd k (v / 7)) && (v % 7 :: u).all (fun m => !((rd k (v / 7)).contains m))) := by
            rw [hO, decide_eq_true (show v % 7 < n by omega), Bool.true_and, Bool.and_assoc]
            congr 1
            rw [List.all_cons]
            congr 1
            rw [Bool.eq_iff_iff, List.all_eq_true, List.all_eq_true]
            constructor
            · intro q m hm
              have := q m hm
              rw [List.contains_cons, Bool.not_or, Bool.and_eq_true] at this
              exact this.2
            · intro q m hm
              rw [List.contains_cons, Bool.not_or, Bool.and_eq_true]
              refine ⟨?_, q m hm⟩
              have : ¬ m = v % 7 := fun e => by
                rw [e] at hm
                have : u.contains (v % 7) = true := by simpa using hm
                rw [hnin] at this
                cases this
              simp [this]
          have hD : yHd H (v % 7) u ≤ 99 := by
            cases u with
            | nil => exact Nat.zero_le _
            | cons m' u' =>
              have h5 := hH99 m' (hum m' List.mem_cons_self)
              show yad (H (v % 7)) (H m') ≤ 99
              unfold yad
              have := hhtm.2
              omega
          have j151 : ∀ (hv' : Int32), Z 151 [some (.ref 0), some (.int (nI c)), some (.int (nI n)), some (.int (nI (yMk (v % 7 :: u)))), some (.int (nI (a + (wn k - L (v % 7))))), some (.int (nI b)), some (.int (nI (v / 7))), some (.int (yVl u)), some (.int (nI k)), some (.int (nI (v % 7))), some (.int (nI (wn k) - nI (L (v % 7)))), some (.int hv')] [.int (nI (yHd H (v % 7) u)), .int (nI b)] (wD tr tx ty n m1 lg ht la at_ st_ so_ va_ fa_ to_ nw ik td th ba bp br sa sb sc z) := by
            intro hv'
            have := ih (v / 7) (v % 7 :: u) (a + (wn k - L (v % 7))) (b + yHd H (v % 7) u) (some (.int (nI (v % 7)))) (some (.int (nI (wn k) - nI (L (v % 7))))) (some (.int hv')) (by omega) (by rw [List.length_cons]; omega) (fun m hm => by
              rcases List.mem_cons.mp hm with e | e
              · rw [e]; omega
              · exact hum m e) (by rw [List.length_cons]; omega) (by rw [List.length_cons]; omega) (by rw [hA]; omega) (by
                rw [hB]
                have hx1 : yB H (rd (k + 1) v) = yB H (rd k (v / 7)) + yLk H (v % 7) (rd k (v / 7)) := rfl
                have hx2 : yLn H (rd (k + 1) v) u = yHd H (v % 7) u := by
                  cases u with
                  | nil => rfl
                  | cons m' u' => exact yad_comm _ _
                have hx3 : yLn H (rd k (v / 7)) (v % 7 :: u) = yLk H (v % 7) (rd k (v / 7)) := rfl
                rw [hx1, hx2, hx3]
                omega) hO2
            rw [← nI_add b, ← i_dec] at this
            exact hZ.1 [28] 20 _ _ _ _ this
          have j134 : ∀ (hv' : Int32), zabs hv' = nI (yHd H (v % 7) u) → Z 134 [some (.ref 0), some (.int (nI c)), some (.int (nI n)), some (.int (nI (yMk (v % 7 :: u)))), some (.int (nI (a + (wn k - L (v % 7))))), some (.int (nI b)), some (.int (nI (v / 7))), some (.int (yVl u)), some (.int (nI k)), some (.int (nI (v % 7))), some (.int (nI (wn k) - nI (L (v % 7)))), o11] [.int hv'] (wD tr tx ty n m1 lg ht la at_ st_ so_ va_ fa_ to_ nw ik td th ba bp br sa sb sc z) := by
            intro hv' he
            rw [← mabs_eq] at he
            unfold mabs at he
            have j := j151 hv'
            rw [← he] at j
            refine hZ.1 [151] 20 _ _ _ _ (And.intro (fun c3 => ?_) (fun c3 => ?_))
            · rw [if_pos c3] at j
              exact j
            · rw [if_neg c3] at j
              exact j
          have j104 : Z 104 [some (.ref 0), some (.int (nI c)), some (.int (nI n)), some (.int (nI (yMk (v % 7 :: u)))), some (.int (nI a)), some (.int (nI b)), some (.int (nI (v / 7))), some (.int (yVl u)), some (.int (nI k)), some (.int (nI (v % 7))), some (.int (nI (wn k) - nI (L (v % 7)))), o11] [.int (nI (wn k - L (v % 7))), .int (nI a)] (wD tr tx ty n m1 lg ht la at_ st_ so_ va_ fa_ to_ nw ik td th ba bp br sa sb sc z) := by
            rw [← nI_add a] at j134
            refine hZ.1 [134] 30 _ _ _ _ (And.intro (fun c3 => ?_) (fun c3 => ?_))
            · cases u with
              | nil => exact j134 0 (show zabs 0 = nI 0 by decide)
              | cons m' u' => exact absurd (show nI m' = -1009 from c3) (nI_n9 (by have := hum m' List.mem_cons_self; omega))
            · cases u with
              | nil => exact absurd rfl c3
              | cons m' u' =>
                have hm' := hum m' List.mem_cons_self
                have hhm := hH m' hm'
                have e5 : ht (nI (v % 7)).toNatClampNeg = nI (H (v % 7)) := by rw [nI_c0 (by omega), hhtm.1]
                have e6 : ht (nI m').toNatClampNeg = nI (H m') := by rw [nI_c0 (by omega), hhm.1]
                have j := j134 (nI (H (v % 7)) - nI (H m')) (zabs_sub (by omega) (by omega))
                rw [← e5, ← e6] at j
                exact And.intro (vi0 (by omega) (by omega)) (And.intro (vi0 (by omega) (by omega)) j)
          have el : lg (nI (v % 7)).toNatClampNeg = nI (L (v % 7)) := by rw [nI_c0 (by omega), hlgm.1]
          have j64 : Z 64 [some (.ref 0), some (.int (nI c)), some (.int (nI n)), some (.int (nI (yMk u))), some (.int (nI a)), some (.int (nI b)), some (.int (nI (v / 7))), some (.int (yVl u)), some (.int (nI k)), some (.int (nI (v % 7))), o10, o11] [] (wD tr tx ty n m1 lg ht la at_ st_ so_ va_ fa_ to_ nw ik td th ba bp br sa sb sc z) := by
            rw [show yMk (v % 7 :: u) = yMk u ||| 2 ^ (v % 7) from rfl, ← hb7.2.1] at j104
            rw [← zmax_sub (by omega) (by omega)] at j104
            unfold zmax at j104
            rw [← el] at j104
            refine hZ.1 [104] 60 _ _ _ _ (u_mwantsN hn k ?_)
            rw [sWant_F hx, hwk.1]
            refine And.intro (vi0 (by omega) (by omega)) (And.intro (fun c3 => ?_) (fun c3 => ?_))
            · rw [if_neg (Int32.not_lt.mpr c3)] at j104
              exact j104
            · rw [if_pos (Int32.not_le.mp c3)] at j104
              exact j104
          exact j64
      have e3 : (nI (k + 1) - 1 : Int32) = nI k := nI_pred k
      rw [e3]
      refine hZ.1 [47] 60 _ _ _ _ (And.intro (fun c1 => absurd c1 (nI_pos (by omega))) (fun _ => And.intro (by decide) (And.intro (by decide) ?_)))
      rw [← e1, ← e2] at j47
      exact j47
  have := loop n c [] 0 0 none none none hc (by simp) (fun m hm => absurd hm List.not_mem_nil) (Nat.zero_le _) (Nat.zero_le _) (by omega) (by show _ = 0 + 0 + _; omega) (by simp)
  exact hZ.1 [28] 60 _ _ _ _ (And.intro (vpd (by decide)) this)
set_option maxRecDepth 100000 in
theorem m_order {x : zLn} (hx : mIs nw x) {wn L H : Nat → Nat} (hn : n ≤ 7) (hwn : ∀ p, p < n → sWant x.2.2.2.1 n p = nI (wn p) ∧ wn p ≤ 60) (hL : ∀ m, m < n → lg m = nI (L m) ∧ L m ≤ 60) (hH : ∀ m, m < n → ht m = nI (H m) ∧ H m ≤ 99) (p : Int32) (h : ∀ ba' bp' br', post (some (.int (sOrder n wn L H p))) (wD tr tx ty n m1 lg ht la at_ st_ so_ va_ fa_ to_ nw ik td th ba' bp' br' sa sb sc z)) : zGoes mX8_order 1 5 [.ref 0, .int p] (wD tr tx ty n m1 lg ht la at_ st_ so_ va_ fa_ to_ nw ik td th ba bp br sa sb sc z) post := by
  intro Z hZ
  have hw60 : ∀ p, p < n → wn p ≤ 60 := fun p hp => (hwn p hp).2
  have hH99 : ∀ m, m < n → H m ≤ 99 := fun m hm => (hH m hm).2
  have h77 : 7 ^ n ≤ 7 ^ 7 := Nat.pow_le_pow_right (by omega) hn
  have good : (p = -1 ∨ p = -2 ∨ sIn n p) → Z 23 [some (.ref 0), some (.int p), none, none, none] [] (wD tr tx ty n m1 lg ht la at_ st_ so_ va_ fa_ to_ nw ik td th ba bp br sa sb sc z) := by
    intro hp
    obtain ⟨A, B, c, hf⟩ := yFin_some (n := n) (wn := wn) (L := L) (H := H) hn
    unfold sOrder at h
    rw [if_pos hp, hf, yAns_some] at h
    have fin : ∀ (ba bp br : Int32) (v : Nat) (o4 : Option Value), c < 2 ^ 31 → ba = nI A → bp = nI B → v ≤ c → (∀ j, j < n → p = nI j → v = c / 7 ^ (n - 1 - j)) → Z 109 [some (.ref 0), some (.int p), some (.int (nI (7 ^ n))), some (.int (nI v)), o4] [] (wD tr tx ty n m1 lg ht la at_ st_ so_ va_ fa_ to_ nw ik td th ba bp br sa sb sc z) := by
      intro ba bp br v o4 hc h1 h2 hv hvj
      have h := h ba bp br
      subst h1; subst h2
      refine hZ.1 [] 60 _ _ _ _ (And.intro (fun e => ?_) (fun e => And.intro (fun e2 => ?_) (fun e2 => And.intro (by decide) ?_)))
      · rw [if_pos e] at h
        exact h
      · rw [if_neg e, if_pos e2] at h
        exact h
      · rw [if_neg e, if_neg e2] at h
        have q : sIn n p := by
          rcases hp with w | w | w
          · exact absurd w e
          · exact absurd w e2
          · exact w
        obtain ⟨j, hj, rfl⟩ := (sIn_iff hn p).mp q
        rw [nI_c0 (by omega), ← hvj j hj rfl, ← pk_rem (by omega) (by omega) (by omega), n7] at h
        exact h
    have last : ∀ (ba bp br : Int32) (o2 : Option Value), yRS (some (A, B, c)) ba bp br → Z 73 [some (.ref 0), some (.int p), some (.int (nI (7 ^ n))), o2, none] [] (wD tr tx ty n m1 lg ht la at_ st_ so_ va_ fa_ to_ nw ik td th ba bp br sa sb sc z) := by
      intro ba bp br o2 hr
      obtain ⟨hc, hbr, hba, hbp⟩ := hr
      subst hbr
      have wh : ∀ (d k v : Nat), k + d = n → v ≤ c → v = c / 7 ^ d → (∀ j, j < n → p = nI j → j < k) → Z 88 [some (.ref 0), some (.int p), some (.int (nI (7 ^ n))), some (.int (nI v)), some (.int (nI k - 1))] [] (wD tr tx ty n m1 lg ht la at_ st_ so_ va_ fa_ to_ nw ik td th ba bp (nI c) sa sb sc z) := by
        intro d0 k
        induction k generalizing d0 with
        | zero =>
          intro v hk hv hv2 hj
          have exit : Z 109 [some (.ref 0), some (.int p), some (.int (nI (7 ^ n))), some (.int (nI v)), some (.int (nI 0 - 1))] [] (wD tr tx ty n m1 lg ht la at_ st_ so_ va_ fa_ to_ nw ik td th ba bp (nI c) sa sb sc z) := fin ba bp (nI c) v _ hc hba hbp hv (fun j h1 h2 => absurd (hj j h1 h2) (Nat.not_lt_zero _))
          refine hZ.1 [88, 109] 60 _ _ _ _ (And.intro (fun _ => exit) (fun c1 => And.intro (fun _ => exit) (fun c2 => ?_)))
          have c1 : ¬ (-1 : Int32) ≤ p := c1
          have c2 : ¬ p < 0 := c2
          exact absurd (Int32.le_trans (by decide) (Int32.not_lt.mp c2)) c1
        | succ k ih =>
          intro v hk hv hv2 hj
          have e3 : (nI (k + 1) - 1 : Int32) = nI k := nI_pred k
          rw [e3]
          by_cases hq : ∃ j, j < n ∧ p = nI j
          · obtain ⟨j, hjn, hpj⟩ := hq
            have hjk := hj j hjn hpj
            by_cases hjk2 : j = k
            · have exit : Z 109 [some (.ref 0), some (.int p), some (.int (nI (7 ^ n))), some (.int (nI v)), some (.int (nI k))] [] (wD tr tx ty n m1 lg ht la at_ st_ so_ va_ fa_ to_ nw ik td th ba bp (nI c) sa sb sc z) := fin ba bp (nI c) v _ hc hba hbp hv (fun j2 h1 h2 => by
                have : j2 = j := (nI_eq (by omega) (by omega)).mp (h2.symm.trans hpj)
                rw [hv2, this, show n - 1 - j = d0 by omega])
              refine hZ.1 [88, 109] 60 _ _ _ _ (And.intro (fun _ => exit) (fun c1 => ?_))
              exact absurd (by rw [hpj, hjk2]; exact Int32.le_refl _) c1
            · have hv7 : v / 7 ≤ v := Nat.div_le_self _ _
              have := ih (d0 + 1) (v / 7) (by omega) (by omega) (by rw [hv2, Nat.div_div_eq_div_mul, Nat.pow_succ]) (fun j2 h1 h2 => by
                have : j2 = j := (nI_eq (by omega) (by omega)).mp (h2.symm.trans hpj)
                omega)
              rw [← pk_div (by omega) (by omega) (by omega), n7, ← i_dec] at this
              refine hZ.1 [88, 109] 60 _ _ _ _ (And.intro (fun c1 => ?_) (fun c1 => And.intro (fun c2 => ?_) (fun c2 => And.intro (by decide) this)))
              · have c1 : nI k ≤ p := c1
                rw [hpj, nI_leI (by omega) (by omega)] at c1
                omega
              · have c2 : p < 0 := c2
                rw [hpj] at c2
                exact absurd c2 (nI_pos (by omega))
          · have exit : Z 109 [some (.ref 0), some (.int p), some (.int (nI (7 ^ n))), some (.int (nI v)), some (.int (nI k))] [] (wD tr tx ty n m1 lg ht la at_ st_ so_ va_ fa_ to_ nw ik td th ba bp (nI c) sa sb sc z) := fin ba bp (nI c) v _ hc hba hbp hv (fun j h1 h2 => absurd ⟨j, h1, h2⟩ hq)
            refine hZ.1 [88, 109] 60 _ _ _ _ (And.intro (fun _ => exit) (fun c1 => And.intro (fun _ => exit) (fun c2 => ?_)))
            have c2 : ¬ p < 0 := c2
            rcases hp with w | w | w
            · exact absurd (by rw [w]; decide) c2
            · exact absurd (by rw [w]; decide) c2
            · exact absurd ((sIn_iff hn p).mp w) hq
      exact hZ.1 [88] 60 _ _ _ _ (And.intro (vpd (by decide)) (wh 0 n c (by omega) (Nat.le_refl _) (by rw [Nat.pow_zero, Nat.div_one]) (fun j h1 _ => h1)))
    have codes : ∀ (d k : Nat) (s : ySt) (ba bp br : Int32), k + d = 7 ^ n → yS s → yRS s ba bp br → yCo n wn L H d k s = some (A, B, c) → Z 57 [some (.ref 0), some (.int p), some (.int (nI (7 ^ n))), some (.int (nI k)), none] [] (wD tr tx ty n m1 lg ht la at_ st_ so_ va_ fa_ to_ nw ik td th ba bp br sa sb sc z) := by
      intro d
      induction d with
      | zero =>
        intro k s ba bp br hk hs hr hy
        have e : k = 7 ^ n := by omega
        subst e
        have hy : s = some (A, B, c) := hy
        subst hy
        exact hZ.1 [57, 73] 60 _ _ _ _ (And.intro (fun _ => last ba bp br _ hr) (fun c1 => absurd (Int32.le_refl _) c1))
      | succ d ih =>
        intro k s ba bp br hk hs hr hy
        refine hZ.1 [57] 60 _ _ _ _ (And.intro (fun c1 => ?_) (fun _ => u_look hx hn hwn hL hH s hs hr k (by omega) (fun ba' bp' br' hr' => ?_)))
        · have c1 : nI (7 ^ n) ≤ nI k := c1
          rw [nI_leI (by omega) (by omega)] at c1
          omega
        · have := ih (k + 1) _ ba' bp' br' (by omega) (yUp_S hn hw60 hH99 hs) hr' hy
          rw [← nI_1] at this
          exact this
    have pows : ∀ (d k : Nat), k + d = n → Z 27 [some (.ref 0), some (.int p), some (.int (nI (7 ^ k))), some (.int (nI k)), none] [] (wD tr tx ty n m1 lg ht la at_ st_ so_ va_ fa_ to_ nw ik td th ba bp br sa sb sc z) := by
      intro d
      induction d with
      | zero =>
        intro k hk
        have e : k = n := by omega
        subst e
        exact hZ.1 [27, 57] 60 _ _ _ _ (And.intro (vpd (by decide)) (And.intro (fun _ => codes (7 ^ k) 0 none ba bp (-1009) (by omega) trivial rfl (by rw [yFin_Co, hf])) (fun c1 => absurd (Int32.le_refl _) c1)))
      | succ d ih =>
        intro k hk
        have := ih (k + 1) (by omega)
        rw [← nI_1, Nat.pow_succ, ← pk_mul, n7] at this
        exact hZ.1 [27] 60 _ _ _ _ (And.intro (vpd (by decide)) (And.intro (fun c1 => absurd (show nI n ≤ nI k from c1) (nle_of (by omega) (by omega))) (fun _ => this)))
    exact hZ.1 [27] 60 _ _ _ _ (pows n 0 (by omega))
  refine hZ.1 [23] 60 _ _ _ _ (And.intro (fun e => good (Or.inl e)) (fun e => And.intro (fun e2 => good (Or.inr (Or.inl e2))) (fun e2 => u_misPlace p (fun q => ?_) (fun q => ?_))))
  · exact And.intro (fun w => absurd w (by decide)) (fun _ => good (Or.inr (Or.inr q)))
  · have := h ba bp br
    unfold sOrder at this
    rw [if_neg (fun w => w.elim e (fun w => w.elim e2 q))] at this
    exact And.intro (fun _ => this) (fun w => absurd rfl w)

end MD
