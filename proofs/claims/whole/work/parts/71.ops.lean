
/-! ===== the methods side by side ===== -/
def zBothA (Inv : zW → zW → Prop) (mC mM : zM) (nC nM : Nat) (as : List Value) (wl wr : zW) : Prop := ∀ K1 : zP, (∀ (v : Int32) (wl' : zW), wl'.length = 162 → (∀ K2 : zP, (∀ wr', zInv2 Inv wl' wr' → K2 (some (.int v)) wr') → zGoes mM 1 nM (.ref 0 :: as) wr K2) → K1 (some (.int v)) wl') → zGoes mC 1 nC (.ref 0 :: as) wl K1
def zBothB (Inv : zW → zW → Prop) (mC mM : zM) (nC nM : Nat) (wl wr : zW) : Prop := ∀ K1 : zP, (∀ (v : Int64) (wl' : zW), wl'.length = 162 → (∀ K2 : zP, (∀ wr', zInv2 Inv wl' wr' → K2 (some (.long v)) wr') → zGoes mM 2 nM [.ref 0] wr K2) → K1 (some (.long v)) wl') → zGoes mC 2 nC [.ref 0] wl K1
theorem sIn_of {n k : Nat} (hn : n ≤ 7) (hk : k < n) : sIn n (nI k) := by
  refine ⟨nI_pos' (by omega), ?_⟩
  obtain ⟨m, rfl⟩ : ∃ m, n = m + 1 := ⟨n - 1, by omega⟩
  rw [nI_pred]
  exact (nI_leI (by omega) (by omega)).mpr (by omega)
theorem nI_inj {a b : Nat} (ha : a < 1000) (hb : b < 1000) (h : nI a = nI b) : a = b := (nI_eq (by omega) (by omega)).mp h
theorem nat_of {c : Int32} {M : Int32} {m : Nat} (hM : M = nI m) (hm : m < 1000) (h0 : 0 ≤ c) (h1 : c ≤ M) : ∃ k, k ≤ m ∧ c = nI k := by
  subst hM
  have h0 := Int32.le_iff_toInt_le.mp h0
  have h1 := Int32.le_iff_toInt_le.mp h1
  have e0 : (0 : Int32).toInt = 0 := by decide
  rw [nI_toInt (by omega)] at h1
  refine ⟨c.toInt.toNat, by omega, ?_⟩
  apply Int32.toInt_inj.mp
  rw [nI_toInt (by omega)]
  omega
set_option maxRecDepth 100000 in
theorem at0 : zAt0 zIV := by
  intro wl wr I
  refine zIV_elim (M := fun wl wr => wl.length = 162 ∧ (∃ f, wl[0]? = some (.inr (.inr (7, f)))) ∧ ∃ g, wr[0]? = some (.inr (.inr (8, g)))) ?_ I
  clear I wl wr
  intro t b pp ee ww it st r ln at1 tk va du lv k la1 ha1 c6f n lg ht x y s k0 k1 z sa sb sc po lap lp sd be tr P X0 s0 P0 X1 s1 P1 tx m1 lg' ht' la at_ st_ so_ va_ fa_ to_ nw ik td th ba bp br hT hM hr hx hl hP hI0 hI1 hS
  exact ⟨rfl, ⟨_, rfl⟩, _, rfl⟩

set_option maxRecDepth 100000 in
set_option maxHeartbeats 4000000 in
theorem q_type : ∀ a0 : Int32, zBoth zIV mX7_type mX8_type 2 2 [.int a0] := by
  intro c wl wr I
  refine zIV_elim (M := zBothA zIV mX7_type mX8_type 2 2 [.int c]) ?_ I
  clear I wl wr
  intro t b pp ee ww it st r ln at1 tk va du lv k la1 ha1 c6f n lg ht x y s k0 k1 z sa sb sc po lap lp sd be tr P X0 s0 P0 X1 s1 P1 tx m1 lg' ht' la at_ st_ so_ va_ fa_ to_ nw ik td th ba bp br hT hM hr hx hl hP hI0 hI1 hS K1 h
  have hn := hM.1
  have hw := fL_w hn hl
  have hlg := fLg hM hl
  have hA := fAg hM hl
  have hi := hl.2.2.1
  have hs := hP.1
  have h25 : nw 25 = nI s := hP.2.1
  by_cases q : 0 ≤ c ∧ c ≤ 255 ∧ b < 120
  · refine c_type hT.1 c ?_
    rw [if_pos q]
    refine h _ _ rfl (fun K2 k2 => m_type hT.1 c ?_)
    rw [if_pos q]
    refine k2 _ (I2_mk ⟨by omega, ?_⟩ hM hr hx hl hP hI0 hI1 hS)
    obtain ⟨hb, tb, htb⟩ := hT
    obtain ⟨v, hv, rfl⟩ := nat_of (m := 255) (by decide) (by omega) q.1 q.2.1
    refine ⟨fun j => if j = b then v else tb j, fun j hj => ?_⟩
    show (upd t b (nI v) j = nI (if j = b then v else tb j) ∧ upd tx b (nI v).toInt8.toInt32 j = (nI (if j = b then v else tb j)).toInt8.toInt32) ∧ (if j = b then v else tb j) < 256
    by_cases e : j = b
    · subst e
      rw [if_pos rfl, pk_us, pk_us]
      exact ⟨⟨rfl, rfl⟩, by omega⟩
    · rw [if_neg e, pk_un e, pk_un e]
      exact htb j (by omega)
  · refine c_type hT.1 c ?_
    rw [if_neg q]
    refine h _ _ rfl (fun K2 k2 => m_type hT.1 c ?_)
    rw [if_neg q]
    exact k2 _ (I2_mk hT hM hr hx hl hP hI0 hI1 hS)

set_option maxRecDepth 100000 in
set_option maxHeartbeats 4000000 in
theorem q_clear : zBoth zIV mX7_clear mX8_clear 2 2 [] := by
  intro wl wr I
  refine zIV_elim (M := zBothA zIV mX7_clear mX8_clear 2 2 []) ?_ I
  clear I wl wr
  intro t b pp ee ww it st r ln at1 tk va du lv k la1 ha1 c6f n lg ht x y s k0 k1 z sa sb sc po lap lp sd be tr P X0 s0 P0 X1 s1 P1 tx m1 lg' ht' la at_ st_ so_ va_ fa_ to_ nw ik td th ba bp br hT hM hr hx hl hP hI0 hI1 hS K1 h
  have hn := hM.1
  have hw := fL_w hn hl
  have hlg := fLg hM hl
  have hA := fAg hM hl
  have hi := hl.2.2.1
  have hs := hP.1
  have h25 : nw 25 = nI s := hP.2.1
  exact c_clear (h _ _ rfl (fun K2 k2 => m_clear (k2 _ (I2_mk ⟨by omega, fun _ => 0, fun j hj => absurd hj (Nat.not_lt_zero _)⟩ hM hr hx hl hP hI0 hI1 hS))))

set_option maxRecDepth 100000 in
set_option maxHeartbeats 4000000 in
theorem q_man : ∀ a0 a1 : Int32, zBoth zIV mX7_man mX8_man 3 4 [.int a0, .int a1] := by
  intro m u wl wr I
  refine zIV_elim (M := zBothA zIV mX7_man mX8_man 3 4 [.int m, .int u]) ?_ I
  clear I wl wr
  intro t b pp ee ww it st r ln at1 tk va du lv k la1 ha1 c6f n lg ht x y s k0 k1 z sa sb sc po lap lp sd be tr P X0 s0 P0 X1 s1 P1 tx m1 lg' ht' la at_ st_ so_ va_ fa_ to_ nw ik td th ba bp br hT hM hr hx hl hP hI0 hI1 hS K1 h
  have hn := hM.1
  have hw := fL_w hn hl
  have hlg := fLg hM hl
  have hA := fAg hM hl
  have hi := hl.2.2.1
  have hs := hP.1
  have h25 : nw 25 = nI s := hP.2.1
  have hLH : ∀ m, m < n → lg m = lg' m ∧ ht m = ht' m := by
    obtain ⟨_, L, H, g⟩ := hM
    exact fun m hm => ⟨(g m hm).1.1.trans (g m hm).1.2.1.symm, (g m hm).2.1.trans (g m hm).2.2.1.symm⟩
  refine c_man hn m u (h _ _ rfl (fun K2 k2 => m_man hx hn hl.2.1 m u ?_))
  rw [← sMan_lg hn hLH m u]
  exact k2 _ (I2_mk hT hM hr hx hl hP hI0 hI1 hS)

set_option maxRecDepth 100000 in
set_option maxHeartbeats 4000000 in
theorem q_place : ∀ a0 a1 : Int32, zBoth zIV mX7_place mX8_place 3 3 [.int a0, .int a1] := by
  intro p u wl wr I
  refine zIV_elim (M := zBothA zIV mX7_place mX8_place 3 3 [.int p, .int u]) ?_ I
  clear I wl wr
  intro t b pp ee ww it st r ln at1 tk va du lv k la1 ha1 c6f n lg ht x y s k0 k1 z sa sb sc po lap lp sd be tr P X0 s0 P0 X1 s1 P1 tx m1 lg' ht' la at_ st_ so_ va_ fa_ to_ nw ik td th ba bp br hT hM hr hx hl hP hI0 hI1 hS K1 h
  have hn := hM.1
  have hw := fL_w hn hl
  have hlg := fLg hM hl
  have hA := fAg hM hl
  have hi := hl.2.2.1
  have hs := hP.1
  have h25 : nw 25 = nI s := hP.2.1
  exact c_place hn p u (h _ _ rfl (fun K2 k2 => m_place hx hn p u (k2 _ (I2_mk hT hM hr hx hl hP hI0 hI1 hS))))

set_option maxRecDepth 100000 in
set_option maxHeartbeats 4000000 in
theorem q_now : ∀ a0 : Int32, zBoth zIV mX7_now mX8_now 2 5 [.int a0] := by
  intro u wl wr I
  refine zIV_elim (M := zBothA zIV mX7_now mX8_now 2 5 [.int u]) ?_ I
  clear I wl wr
  intro t b pp ee ww it st r ln at1 tk va du lv k la1 ha1 c6f n lg ht x y s k0 k1 z sa sb sc po lap lp sd be tr P X0 s0 P0 X1 s1 P1 tx m1 lg' ht' la at_ st_ so_ va_ fa_ to_ nw ik td th ba bp br hT hM hr hx hl hP hI0 hI1 hS K1 h
  have hn := hM.1
  have hw := fL_w hn hl
  have hlg := fLg hM hl
  have hA := fAg hM hl
  have hi := hl.2.2.1
  have hs := hP.1
  have h25 : nw 25 = nI s := hP.2.1
  exact c_now hn u (h _ _ rfl (fun K2 k2 => m_now hx hn u (k2 _ (I2_mk hT hM hr hx hl hP hI0 hI1 hS))))

set_option maxRecDepth 100000 in
set_option maxHeartbeats 4000000 in
theorem q_count : ∀ a0 : Int32, zBoth zIV mX7_count mX8_count 2 2 [.int a0] := by
  intro u wl wr I
  refine zIV_elim (M := zBothA zIV mX7_count mX8_count 2 2 [.int u]) ?_ I
  clear I wl wr
  intro t b pp ee ww it st r ln at1 tk va du lv k la1 ha1 c6f n lg ht x y s k0 k1 z sa sb sc po lap lp sd be tr P X0 s0 P0 X1 s1 P1 tx m1 lg' ht' la at_ st_ so_ va_ fa_ to_ nw ik td th ba bp br hT hM hr hx hl hP hI0 hI1 hS K1 h
  have hn := hM.1
  have hw := fL_w hn hl
  have hlg := fLg hM hl
  have hA := fAg hM hl
  have hi := hl.2.2.1
  have hs := hP.1
  have h25 : nw 25 = nI s := hP.2.1
  refine c_count u (h _ _ rfl (fun K2 k2 => m_count u ?_))
  rw [h25]
  exact k2 _ (I2_mk hT hM hr hx hl hP hI0 hI1 hS)

set_option maxRecDepth 100000 in
set_option maxHeartbeats 4000000 in
theorem q_odds : ∀ a0 a1 a2 : Int32, zBoth zIV mX7_odds mX8_odds 7 11 [.int a0, .int a1, .int a2] := by
  intro u v a wl wr I
  refine zIV_elim (M := zBothA zIV mX7_odds mX8_odds 7 11 [.int u, .int v, .int a]) ?_ I
  clear I wl wr
  intro t b pp ee ww it st r ln at1 tk va du lv k la1 ha1 c6f n lg ht x y s k0 k1 z sa sb sc po lap lp sd be tr P X0 s0 P0 X1 s1 P1 tx m1 lg' ht' la at_ st_ so_ va_ fa_ to_ nw ik td th ba bp br hT hM hr hx hl hP hI0 hI1 hS K1 h
  have hn := hM.1
  have hw := fL_w hn hl
  have hlg := fLg hM hl
  have hA := fAg hM hl
  have hi := hl.2.2.1
  have hs := hP.1
  have h25 : nw 25 = nI s := hP.2.1
  exact c_odds hn u v a (h _ _ rfl (fun K2 k2 => m_odds hn u v a (k2 _ (I2_mk hT hM hr hx hl hP hI0 hI1 hS))))

set_option maxRecDepth 100000 in
set_option maxHeartbeats 4000000 in
theorem q_forget : zBoth zIV mX7_forget mX8_forget 2 2 [] := by
  intro wl wr I
  refine zIV_elim (M := zBothA zIV mX7_forget mX8_forget 2 2 []) ?_ I
  clear I wl wr
  intro t b pp ee ww it st r ln at1 tk va du lv k la1 ha1 c6f n lg ht x y s k0 k1 z sa sb sc po lap lp sd be tr P X0 s0 P0 X1 s1 P1 tx m1 lg' ht' la at_ st_ so_ va_ fa_ to_ nw ik td th ba bp br hT hM hr hx hl hP hI0 hI1 hS K1 h
  have hn := hM.1
  have hw := fL_w hn hl
  have hlg := fLg hM hl
  have hA := fAg hM hl
  have hi := hl.2.2.1
  have hs := hP.1
  have h25 : nw 25 = nI s := hP.2.1
  exact c_forget (h _ _ rfl (fun K2 k2 => m_forget (k2 _ (I2_mk hT hM hr hx hl hP hI0 hI1 ⟨by omega, fun j hj => absurd hj (Nat.not_lt_zero _), fun j hj => absurd hj (Nat.not_lt_zero _)⟩))))

set_option maxRecDepth 100000 in
set_option maxHeartbeats 4000000 in
theorem q_trace : zBothL zIV mX7_trace mX8_trace 1 1 := by
  intro wl wr I
  refine zIV_elim (M := zBothB zIV mX7_trace mX8_trace 1 1) ?_ I
  clear I wl wr
  intro t b pp ee ww it st r ln at1 tk va du lv k la1 ha1 c6f n lg ht x y s k0 k1 z sa sb sc po lap lp sd be tr P X0 s0 P0 X1 s1 P1 tx m1 lg' ht' la at_ st_ so_ va_ fa_ to_ nw ik td th ba bp br hT hM hr hx hl hP hI0 hI1 hS K1 h
  have hn := hM.1
  have hw := fL_w hn hl
  have hlg := fLg hM hl
  have hA := fAg hM hl
  have hi := hl.2.2.1
  have hs := hP.1
  have h25 : nw 25 = nI s := hP.2.1
  exact c_trace (h _ _ rfl (fun K2 k2 => m_trace (k2 _ (I2_mk hT hM hr hx hl hP hI0 hI1 hS))))

set_option maxRecDepth 100000 in
set_option maxHeartbeats 4000000 in
theorem q_saw : ∀ a0 a1 a2 : Int32, zBoth zIV mX7_saw mX8_saw 4 4 [.int a0, .int a1, .int a2] := by
  intro p a u wl wr I
  refine zIV_elim (M := zBothA zIV mX7_saw mX8_saw 4 4 [.int p, .int a, .int u]) ?_ I
  clear I wl wr
  intro t b pp ee ww it st r ln at1 tk va du lv k la1 ha1 c6f n lg ht x y s k0 k1 z sa sb sc po lap lp sd be tr P X0 s0 P0 X1 s1 P1 tx m1 lg' ht' la at_ st_ so_ va_ fa_ to_ nw ik td th ba bp br hT hM hr hx hl hP hI0 hI1 hS K1 h
  have hn := hM.1
  have hw := fL_w hn hl
  have hlg := fLg hM hl
  have hA := fAg hM hl
  have hi := hl.2.2.1
  have hs := hP.1
  have h25 : nw 25 = nI s := hP.2.1
  by_cases q : (sIn n p ∧ (0 ≤ a ∧ a ≤ 60) ∧ (-999 ≤ u ∧ u ≤ 999)) ∧ z < 6
  · refine c_saw hn hS.1 p a u ?_
    rw [if_pos q]
    refine h _ _ rfl (fun K2 k2 => m_saw hn hS.1 p a u ?_)
    rw [if_pos q]
    refine k2 _ (I2_mk hT hM hr hx hl hP hI0 hI1 ⟨by omega, fun j hj => ?_, fun j hj => ?_⟩)
    · by_cases e : j = z
      · subst e
        rw [pk_us]
        obtain ⟨m, hm, rfl⟩ := sIn_nat hn q.1.1
        exact vi0 (by omega) (by omega)
      · rw [pk_un e]
        exact hS.2.1 j (by omega)
    · by_cases e : j = z
      · subst e
        rw [pk_us]
        obtain ⟨m, hm, rfl⟩ := nat_of (m := 60) (by decide) (by omega) q.1.2.1.1 q.1.2.1.2
        exact ⟨m, hm, rfl⟩
      · rw [pk_un e]
        exact hS.2.2 j (by omega)
  · refine c_saw hn hS.1 p a u ?_
    rw [if_neg q]
    refine h _ _ rfl (fun K2 k2 => m_saw hn hS.1 p a u ?_)
    rw [if_neg q]
    exact k2 _ (I2_mk hT hM hr hx hl hP hI0 hI1 hS)

set_option maxRecDepth 100000 in
set_option maxHeartbeats 4000000 in
theorem q_dressed : zBoth zIV mX7_dressed mX8_dressed 1 1 [] := by
  intro wl wr I
  refine zIV_elim (M := zBothA zIV mX7_dressed mX8_dressed 1 1 []) ?_ I
  clear I wl wr
  intro t b pp ee ww it st r ln at1 tk va du lv k la1 ha1 c6f n lg ht x y s k0 k1 z sa sb sc po lap lp sd be tr P X0 s0 P0 X1 s1 P1 tx m1 lg' ht' la at_ st_ so_ va_ fa_ to_ nw ik td th ba bp br hT hM hr hx hl hP hI0 hI1 hS K1 h
  have hn := hM.1
  have hw := fL_w hn hl
  have hlg := fLg hM hl
  have hA := fAg hM hl
  have hi := hl.2.2.1
  have hs := hP.1
  have h25 : nw 25 = nI s := hP.2.1
  refine c_dressed hn hw (fun y' => h _ _ rfl (fun K2 k2 => m_dressed hx hn hw hlg (fun td' th' => ?_)))
  have e : sTillM n lg' 301 0 (sMind x.2.2.2.2.1 x.2.2.2.2.2.1 x) = sTill n lg 301 0 (sMind x.2.2.2.2.1 x.2.2.2.2.2.1 x) := by
    rw [sTill_M, sTillM_lg 301 0 (sMind x.2.2.2.2.1 x.2.2.2.2.2.1 x) hA]
  rw [e]
  exact k2 _ (I2_mk hT hM hr hx hl hP hI0 hI1 hS)

set_option maxRecDepth 100000 in
set_option maxHeartbeats 4000000 in
theorem q_looks : ∀ a0 a1 : Int32, zBoth zIV mX7_looks mX8_looks 4 4 [.int a0, .int a1] := by
  intro a p wl wr I
  refine zIV_elim (M := zBothA zIV mX7_looks mX8_looks 4 4 [.int a, .int p]) ?_ I
  clear I wl wr
  intro t b pp ee ww it st r ln at1 tk va du lv k la1 ha1 c6f n lg ht x y s k0 k1 z sa sb sc po lap lp sd be tr P X0 s0 P0 X1 s1 P1 tx m1 lg' ht' la at_ st_ so_ va_ fa_ to_ nw ik td th ba bp br hT hM hr hx hl hP hI0 hI1 hS K1 h
  have hn := hM.1
  have hw := fL_w hn hl
  have hlg := fLg hM hl
  have hA := fAg hM hl
  have hi := hl.2.2.1
  have hs := hP.1
  have h25 : nw 25 = nI s := hP.2.1
  refine c_looks hn hw a p (fun y' => h _ _ rfl (fun K2 k2 => m_looks hx hn hw hlg a p (fun td' th' => ?_)))
  rw [← sLooks_lg hA]
  exact k2 _ (I2_mk hT hM hr hx hl hP hI0 hI1 hS)

set_option maxRecDepth 100000 in
set_option maxHeartbeats 4000000 in
theorem q_post : ∀ a0 a1 : Int32, zBoth zIV mX7_post mX8_post 3 4 [.int a0, .int a1] := by
  intro p a wl wr I
  refine zIV_elim (M := zBothA zIV mX7_post mX8_post 3 4 [.int p, .int a]) ?_ I
  clear I wl wr
  intro t b pp ee ww it st r ln at1 tk va du lv k la1 ha1 c6f n lg ht x y s k0 k1 z sa sb sc po lap lp sd be tr P X0 s0 P0 X1 s1 P1 tx m1 lg' ht' la at_ st_ so_ va_ fa_ to_ nw ik td th ba bp br hT hM hr hx hl hP hI0 hI1 hS K1 h
  have hn := hM.1
  have hw := fL_w hn hl
  have hlg := fLg hM hl
  have hA := fAg hM hl
  have hi := hl.2.2.1
  have hs := hP.1
  have h25 : nw 25 = nI s := hP.2.1
  refine c_post hn hw p a (fun y' => h _ _ rfl (fun K2 k2 => m_post hx hn hw hlg p a (fun td' th' => ?_)))
  rw [← sPost_lg hA]
  exact k2 _ (I2_mk hT hM hr hx hl hP hI0 hI1 hS)

set_option maxRecDepth 100000 in
set_option maxHeartbeats 4000000 in
theorem q_inStep : zBoth zIV mX7_inStep mX8_inStep 2 4 [] := by
  intro wl wr I
  refine zIV_elim (M := zBothA zIV mX7_inStep mX8_inStep 2 4 []) ?_ I
  clear I wl wr
  intro t b pp ee ww it st r ln at1 tk va du lv k la1 ha1 c6f n lg ht x y s k0 k1 z sa sb sc po lap lp sd be tr P X0 s0 P0 X1 s1 P1 tx m1 lg' ht' la at_ st_ so_ va_ fa_ to_ nw ik td th ba bp br hT hM hr hx hl hP hI0 hI1 hS K1 h
  have hn := hM.1
  have hw := fL_w hn hl
  have hlg := fLg hM hl
  have hA := fAg hM hl
  have hi := hl.2.2.1
  have hs := hP.1
  have h25 : nw 25 = nI s := hP.2.1
  refine c_inStep hn hw (fun y' => h _ _ rfl (fun K2 k2 => m_inStep hx hn (fun td' th' => ?_)))
  rw [← sInStep_M n lg 21 0 x]
  exact k2 _ (I2_mk hT hM hr hx hl hP hI0 hI1 hS)

set_option maxRecDepth 100000 in
set_option maxHeartbeats 4000000 in
theorem q_behind : ∀ a0 : Int32, zBoth zIV mX7_behind mX8_behind 4 6 [.int a0] := by
  intro u wl wr I
  refine zIV_elim (M := zBothA zIV mX7_behind mX8_behind 4 6 [.int u]) ?_ I
  clear I wl wr
  intro t b pp ee ww it st r ln at1 tk va du lv k la1 ha1 c6f n lg ht x y s k0 k1 z sa sb sc po lap lp sd be tr P X0 s0 P0 X1 s1 P1 tx m1 lg' ht' la at_ st_ so_ va_ fa_ to_ nw ik td th ba bp br hT hM hr hx hl hP hI0 hI1 hS K1 h
  have hn := hM.1
  have hw := fL_w hn hl
  have hlg := fLg hM hl
  have hA := fAg hM hl
  have hi := hl.2.2.1
  have hs := hP.1
  have h25 : nw 25 = nI s := hP.2.1
  obtain ⟨a, ha, ha2⟩ := hl.2.2.2.1
  refine c_behind hn hw u (fun y' => h _ _ rfl (fun K2 k2 => m_behind hx hn hw hlg hi ha ha2 u (fun td' th' => ?_)))
  rw [← sBehind_lg hA]
  exact k2 _ (I2_mk hT hM hr hx hl hP hI0 hI1 hS)

set_option maxRecDepth 100000 in
set_option maxHeartbeats 4000000 in
theorem q_fastest : zBoth zIV mX7_fastest mX8_fastest 2 4 [] := by
  intro wl wr I
  refine zIV_elim (M := zBothA zIV mX7_fastest mX8_fastest 2 4 []) ?_ I
  clear I wl wr
  intro t b pp ee ww it st r ln at1 tk va du lv k la1 ha1 c6f n lg ht x y s k0 k1 z sa sb sc po lap lp sd be tr P X0 s0 P0 X1 s1 P1 tx m1 lg' ht' la at_ st_ so_ va_ fa_ to_ nw ik td th ba bp br hT hM hr hx hl hP hI0 hI1 hS K1 h
  have hn := hM.1
  have hw := fL_w hn hl
  have hlg := fLg hM hl
  have hA := fAg hM hl
  have hi := hl.2.2.1
  have hs := hP.1
  have h25 : nw 25 = nI s := hP.2.1
  refine c_fastest hn hw (h _ _ rfl (fun K2 k2 => m_fastest hx hn hw (fun td' => ?_)))
  rw [← sFast_lg hA]
  exact k2 _ (I2_mk hT hM hr hx hl hP hI0 hI1 hS)

set_option maxRecDepth 100000 in
set_option maxHeartbeats 4000000 in
theorem q_rate : ∀ a0 a1 : Int32, zBoth zIV mX7_rate mX8_rate 3 6 [.int a0, .int a1] := by
  intro kd p wl wr I
  refine zIV_elim (M := zBothA zIV mX7_rate mX8_rate 3 6 [.int kd, .int p]) ?_ I
  clear I wl wr
  intro t b pp ee ww it st r ln at1 tk va du lv k la1 ha1 c6f n lg ht x y s k0 k1 z sa sb sc po lap lp sd be tr P X0 s0 P0 X1 s1 P1 tx m1 lg' ht' la at_ st_ so_ va_ fa_ to_ nw ik td th ba bp br hT hM hr hx hl hP hI0 hI1 hS K1 h
  have hn := hM.1
  have hw := fL_w hn hl
  have hlg := fLg hM hl
  have hA := fAg hM hl
  have hi := hl.2.2.1
  have hs := hP.1
  have h25 : nw 25 = nI s := hP.2.1
  refine c_rate hn hw kd p (h _ _ rfl (fun K2 k2 => m_rate hx hn hw kd p ?_))
  rw [← sRate_lg hn hA]
  exact k2 _ (I2_mk hT hM hr hx hl hP hI0 hI1 hS)

set_option maxRecDepth 100000 in
set_option maxHeartbeats 4000000 in
theorem q_whose : ∀ a0 : Int32, zBoth zIV mX7_whose mX8_whose 7 7 [.int a0] := by
  intro a wl wr I
  refine zIV_elim (M := zBothA zIV mX7_whose mX8_whose 7 7 [.int a]) ?_ I
  clear I wl wr
  intro t b pp ee ww it st r ln at1 tk va du lv k la1 ha1 c6f n lg ht x y s k0 k1 z sa sb sc po lap lp sd be tr P X0 s0 P0 X1 s1 P1 tx m1 lg' ht' la at_ st_ so_ va_ fa_ to_ nw ik td th ba bp br hT hM hr hx hl hP hI0 hI1 hS K1 h
  have hn := hM.1
  have hw := fL_w hn hl
  have hlg := fLg hM hl
  have hA := fAg hM hl
  have hi := hl.2.2.1
  have hs := hP.1
  have h25 : nw 25 = nI s := hP.2.1
  obtain ⟨r', hr', hls⟩ := sLast_in hS.2.2
  refine c_whose hn hw hS.1 hS.2.1 r' hr' hls a (fun y' => h _ _ rfl (fun K2 k2 => m_whose hx hn hw hlg hi hS.1 hS.2.1 hS.2.2 r' hr' hls a (fun td' th' => ?_)))
  rw [← sWho_lg hA]
  exact k2 _ (I2_mk hT hM hr hx hl hP hI0 hI1 hS)

set_option maxRecDepth 100000 in
set_option maxHeartbeats 4000000 in
theorem q_mix : ∀ a0 : Int32, zBoth zIV mX7_mix mX8_mix 7 6 [.int a0] := by
  intro a wl wr I
  refine zIV_elim (M := zBothA zIV mX7_mix mX8_mix 7 6 [.int a]) ?_ I
  clear I wl wr
  intro t b pp ee ww it st r ln at1 tk va du lv k la1 ha1 c6f n lg ht x y s k0 k1 z sa sb sc po lap lp sd be tr P X0 s0 P0 X1 s1 P1 tx m1 lg' ht' la at_ st_ so_ va_ fa_ to_ nw ik td th ba bp br hT hM hr hx hl hP hI0 hI1 hS K1 h
  have hn := hM.1
  have hw := fL_w hn hl
  have hlg := fLg hM hl
  have hA := fAg hM hl
  have hi := hl.2.2.1
  have hs := hP.1
  have h25 : nw 25 = nI s := hP.2.1
  refine c_mix hn hw a (fun y' => h _ _ rfl (fun K2 k2 => m_mix hx hn hw hlg a (fun td' th' => ?_)))
  rw [← sMo_lg hA]
  exact k2 _ (I2_mk hT hM hr hx hl hP hI0 hI1 hS)

set_option maxRecDepth 100000 in
set_option maxHeartbeats 4000000 in
theorem q_order : ∀ a0 : Int32, zBoth zIV mX7_order mX8_order 2 5 [.int a0] := by
  intro p wl wr I
  refine zIV_elim (M := zBothA zIV mX7_order mX8_order 2 5 [.int p]) ?_ I
  clear I wl wr
  intro t b pp ee ww it st r ln at1 tk va du lv k la1 ha1 c6f n lg ht x y s k0 k1 z sa sb sc po lap lp sd be tr P X0 s0 P0 X1 s1 P1 tx m1 lg' ht' la at_ st_ so_ va_ fa_ to_ nw ik td th ba bp br hT hM hr hx hl hP hI0 hI1 hS K1 h
  have hn := hM.1
  have hw := fL_w hn hl
  have hlg := fLg hM hl
  have hA := fAg hM hl
  have hi := hl.2.2.1
  have hs := hP.1
  have h25 : nw 25 = nI s := hP.2.1
  obtain ⟨a, ha, ha2⟩ := hl.2.2.2.1
  have hM0 := hM
  obtain ⟨_, L, H, g⟩ := hM0
  have hwn : ∀ p, p < n → sWant x.2.2.2.1 n p = nI ((sWant x.2.2.2.1 n p).toInt.toNat) ∧ (sWant x.2.2.2.1 n p).toInt.toNat ≤ 60 := by
    intro p hp
    obtain ⟨w, hw1, hw2⟩ := sWant_nat ha2 hn hp
    rw [ha, hw2, nI_toInt (by omega)]
    exact ⟨rfl, hw1⟩
  exact c_order (wn := fun p => (sWant x.2.2.2.1 n p).toInt.toNat) (L := L) (H := H) hn hwn (fun m hm => ⟨(g m hm).1.1, (g m hm).1.2.2⟩) (fun m hm => ⟨(g m hm).2.1, (g m hm).2.2.2⟩) p (fun po' la' lp' sd' be' => h _ _ rfl (fun K2 k2 => m_order (wn := fun p => (sWant x.2.2.2.1 n p).toInt.toNat) (L := L) (H := H) hx hn hwn (fun m hm => ⟨(g m hm).1.2.1, (g m hm).1.2.2⟩) (fun m hm => ⟨(g m hm).2.2.1, (g m hm).2.2.2⟩) p (fun ba' bp' br' => k2 _ (I2_mk hT hM hr hx hl hP hI0 hI1 hS))))

set_option maxRecDepth 100000 in
set_option maxHeartbeats 4000000 in
theorem q_wheels : zBoth zIV mX7_wheels mX8_wheels 1 1 [] := by
  intro wl wr I
  refine zIV_elim (M := zBothA zIV mX7_wheels mX8_wheels 1 1 []) ?_ I
  clear I wl wr
  intro t b pp ee ww it st r ln at1 tk va du lv k la1 ha1 c6f n lg ht x y s k0 k1 z sa sb sc po lap lp sd be tr P X0 s0 P0 X1 s1 P1 tx m1 lg' ht' la at_ st_ so_ va_ fa_ to_ nw ik td th ba bp br hT hM hr hx hl hP hI0 hI1 hS K1 h
  have hn := hM.1
  have hw := fL_w hn hl
  have hlg := fLg hM hl
  have hA := fAg hM hl
  have hi := hl.2.2.1
  have hs := hP.1
  have h25 : nw 25 = nI s := hP.2.1
  refine c_wheels hn hw hs (fun q => h _ _ rfl (fun K2 k2 => m_wheels hx hs h25 hn hw hlg hl.2.2.2.2 (fun _ nw' th' q1 q2 => ?_) (fun w => absurd q w))) (fun q => h _ _ rfl (fun K2 k2 => m_wheels hx hs h25 hn hw hlg hl.2.2.2.2 (fun w _ _ _ _ => absurd w q) (fun _ => k2 _ (I2_mk hT hM hr hx hl hP hI0 hI1 hS))))
  have e := sStep_lg (q := -1) hA
  rw [← e] at q1 ⊢
  exact k2 _ (I2_deed hT hM hr hx hl hP hI0 hI1 hS q1 (fL_tick (fL_step hl) q) q2)

set_option maxRecDepth 100000 in
set_option maxHeartbeats 4000000 in
theorem q_slips : ∀ a0 a1 : Int32, zBoth zIV mX7_slips mX8_slips 3 3 [.int a0, .int a1] := by
  intro p u wl wr I
  refine zIV_elim (M := zBothA zIV mX7_slips mX8_slips 3 3 [.int p, .int u]) ?_ I
  clear I wl wr
  intro t b pp ee ww it st r ln at1 tk va du lv k la1 ha1 c6f n lg ht x y s k0 k1 z sa sb sc po lap lp sd be tr P X0 s0 P0 X1 s1 P1 tx m1 lg' ht' la at_ st_ so_ va_ fa_ to_ nw ik td th ba bp br hT hM hr hx hl hP hI0 hI1 hS K1 h
  have hn := hM.1
  have hw := fL_w hn hl
  have hlg := fLg hM hl
  have hA := fAg hM hl
  have hi := hl.2.2.1
  have hs := hP.1
  have h25 : nw 25 = nI s := hP.2.1
  refine c_slips hn hs p u (fun k1' hk e hu => h _ _ rfl (fun K2 k2 => m_slips hx hs h25 hn hi p u (fun k' hk' e' hu' nw' q1 q2 => ?_) (fun w => absurd ⟨by rw [e]; exact sIn_of hn hk, hu⟩ w))) (fun q => h _ _ rfl (fun K2 k2 => m_slips hx hs h25 hn hi p u (fun k' hk' e' hu' nw' q1 q2 => absurd ⟨by rw [e']; exact sIn_of hn hk', hu'⟩ q) (fun _ => k2 _ (I2_mk hT hM hr hx hl hP hI0 hI1 hS))))
  have ee : k' = k1' := nI_inj (by omega) (by omega) (e'.symm.trans e)
  subst ee
  exact k2 _ (I2_deed hT hM hr hx hl hP hI0 hI1 hS q1 (fL_lose hl hk hu) q2)

set_option maxRecDepth 100000 in
set_option maxHeartbeats 4000000 in
theorem q_hops : ∀ a0 : Int32, zBoth zIV mX7_hops mX8_hops 2 2 [.int a0] := by
  intro p wl wr I
  refine zIV_elim (M := zBothA zIV mX7_hops mX8_hops 2 2 [.int p]) ?_ I
  clear I wl wr
  intro t b pp ee ww it st r ln at1 tk va du lv k la1 ha1 c6f n lg ht x y s k0 k1 z sa sb sc po lap lp sd be tr P X0 s0 P0 X1 s1 P1 tx m1 lg' ht' la at_ st_ so_ va_ fa_ to_ nw ik td th ba bp br hT hM hr hx hl hP hI0 hI1 hS K1 h
  have hn := hM.1
  have hw := fL_w hn hl
  have hlg := fLg hM hl
  have hA := fAg hM hl
  have hi := hl.2.2.1
  have hs := hP.1
  have h25 : nw 25 = nI s := hP.2.1
  refine c_hops hn hs p (fun k1' hk e => h _ _ rfl (fun K2 k2 => m_hops hx hs h25 hn p (fun k' hk' e' nw' q1 q2 => ?_) (fun w => absurd (by rw [e]; exact sIn_of hn hk) w))) (fun q => h _ _ rfl (fun K2 k2 => m_hops hx hs h25 hn p (fun k' hk' e' nw' q1 q2 => absurd (by rw [e']; exact sIn_of hn hk') q) (fun _ => k2 _ (I2_mk hT hM hr hx hl hP hI0 hI1 hS))))
  have ee : k' = k1' := nI_inj (by omega) (by omega) (e'.symm.trans e)
  subst ee
  exact k2 _ (I2_deed hT hM hr hx hl hP hI0 hI1 hS q1 (fL_hop hl) q2)

set_option maxRecDepth 100000 in
set_option maxHeartbeats 4000000 in
theorem q_swaps : ∀ a0 a1 : Int32, zBoth zIV mX7_swaps mX8_swaps 4 4 [.int a0, .int a1] := by
  intro p u wl wr I
  refine zIV_elim (M := zBothA zIV mX7_swaps mX8_swaps 4 4 [.int p, .int u]) ?_ I
  clear I wl wr
  intro t b pp ee ww it st r ln at1 tk va du lv k la1 ha1 c6f n lg ht x y s k0 k1 z sa sb sc po lap lp sd be tr P X0 s0 P0 X1 s1 P1 tx m1 lg' ht' la at_ st_ so_ va_ fa_ to_ nw ik td th ba bp br hT hM hr hx hl hP hI0 hI1 hS K1 h
  have hn := hM.1
  have hw := fL_w hn hl
  have hlg := fLg hM hl
  have hA := fAg hM hl
  have hi := hl.2.2.1
  have hs := hP.1
  have h25 : nw 25 = nI s := hP.2.1
  have bad : ∀ k j, k < n → j < n → k ≠ j → p = nI k → u = nI j → sIn n p ∧ sIn n u ∧ ¬ p = u := by
    intro k j hk hj hkj e1 e2
    refine ⟨by rw [e1]; exact sIn_of hn hk, by rw [e2]; exact sIn_of hn hj, fun w => hkj (nI_inj (by omega) (by omega) ?_)⟩
    rw [← e1, ← e2]
    exact w
  refine c_swaps hn hs p u (fun k1' j1 hk hj hkj e1 e2 => h _ _ rfl (fun K2 k2 => m_swaps hx hs h25 hn p u (fun k' j' hk' hj' hkj' e1' e2' nw' q1 q2 => ?_) (fun w => absurd (bad k1' j1 hk hj hkj e1 e2) w))) (fun q => h _ _ rfl (fun K2 k2 => m_swaps hx hs h25 hn p u (fun k' j' hk' hj' hkj' e1' e2' nw' q1 q2 => absurd (bad k' j' hk' hj' hkj' e1' e2') q) (fun _ => k2 _ (I2_mk hT hM hr hx hl hP hI0 hI1 hS))))
  have ee : k' = k1' := nI_inj (by omega) (by omega) (e1'.symm.trans e1)
  have ef : j' = j1 := nI_inj (by omega) (by omega) (e2'.symm.trans e2)
  subst ee
  subst ef
  exact k2 _ (I2_deed hT hM hr hx hl hP hI0 hI1 hS q1 (fL_swap hl hk hj hkj) q2)

set_option maxRecDepth 100000 in
set_option maxHeartbeats 4000000 in
theorem q_minds : ∀ a0 a1 : Int32, zBoth zIV mX7_minds mX8_minds 4 4 [.int a0, .int a1] := by
  intro p u wl wr I
  refine zIV_elim (M := zBothA zIV mX7_minds mX8_minds 4 4 [.int p, .int u]) ?_ I
  clear I wl wr
  intro t b pp ee ww it st r ln at1 tk va du lv k la1 ha1 c6f n lg ht x y s k0 k1 z sa sb sc po lap lp sd be tr P X0 s0 P0 X1 s1 P1 tx m1 lg' ht' la at_ st_ so_ va_ fa_ to_ nw ik td th ba bp br hT hM hr hx hl hP hI0 hI1 hS K1 h
  have hn := hM.1
  have hw := fL_w hn hl
  have hlg := fLg hM hl
  have hA := fAg hM hl
  have hi := hl.2.2.1
  have hs := hP.1
  have h25 : nw 25 = nI s := hP.2.1
  refine c_minds hs p u (fun q => h _ _ rfl (fun K2 k2 => m_minds hx hs h25 p u (fun _ nw' q1 q2 => ?_) (fun w => absurd q w))) (fun q => h _ _ rfl (fun K2 k2 => m_minds hx hs h25 p u (fun w nw' q1 q2 => absurd w q) (fun _ => k2 _ (I2_mk hT hM hr hx hl hP hI0 hI1 hS))))
  exact k2 _ (I2_deed hT hM hr hx hl hP hI0 hI1 hS q1 (fL_mind hl) q2)

set_option maxRecDepth 100000 in
set_option maxHeartbeats 4000000 in
theorem q_speeds : ∀ a0 : Int32, zBoth zIV mX7_speeds mX8_speeds 3 3 [.int a0] := by
  intro u wl wr I
  refine zIV_elim (M := zBothA zIV mX7_speeds mX8_speeds 3 3 [.int u]) ?_ I
  clear I wl wr
  intro t b pp ee ww it st r ln at1 tk va du lv k la1 ha1 c6f n lg ht x y s k0 k1 z sa sb sc po lap lp sd be tr P X0 s0 P0 X1 s1 P1 tx m1 lg' ht' la at_ st_ so_ va_ fa_ to_ nw ik td th ba bp br hT hM hr hx hl hP hI0 hI1 hS K1 h
  have hn := hM.1
  have hw := fL_w hn hl
  have hlg := fLg hM hl
  have hA := fAg hM hl
  have hi := hl.2.2.1
  have hs := hP.1
  have h25 : nw 25 = nI s := hP.2.1
  refine c_speeds hs u (fun q => h _ _ rfl (fun K2 k2 => m_speeds hx hs h25 u (fun _ nw' q1 q2 => ?_) (fun w => absurd q w))) (fun q => h _ _ rfl (fun K2 k2 => m_speeds hx hs h25 u (fun w nw' q1 q2 => absurd w q) (fun _ => k2 _ (I2_mk hT hM hr hx hl hP hI0 hI1 hS))))
  exact k2 _ (I2_deed hT hM hr hx hl hP hI0 hI1 hS q1 (fL_speed hl q) q2)

set_option maxRecDepth 100000 in
set_option maxHeartbeats 4000000 in
theorem q_undo : zBoth zIV mX7_undo mX8_undo 1 2 [] := by
  intro wl wr I
  refine zIV_elim (M := zBothA zIV mX7_undo mX8_undo 1 2 []) ?_ I
  clear I wl wr
  intro t b pp ee ww it st r ln at1 tk va du lv k la1 ha1 c6f n lg ht x y s k0 k1 z sa sb sc po lap lp sd be tr P X0 s0 P0 X1 s1 P1 tx m1 lg' ht' la at_ st_ so_ va_ fa_ to_ nw ik td th ba bp br hT hM hr hx hl hP hI0 hI1 hS K1 h
  have hn := hM.1
  have hw := fL_w hn hl
  have hlg := fLg hM hl
  have hA := fAg hM hl
  have hi := hl.2.2.1
  have hs := hP.1
  have h25 : nw 25 = nI s := hP.2.1
  cases s with
  | zero => exact c_undo0 (h _ _ rfl (fun K2 k2 => m_undo0 h25 (k2 _ (I2_mk hT hM hr hx hl hP hI0 hI1 hS))))
  | succ s =>
    obtain ⟨g1, g2⟩ := hP.2.2 s (by omega)
    refine c_undo (by omega) (h _ _ rfl (fun K2 k2 => m_undo (y := P s) (by omega) h25 (fun k hk => ?_) (fun nw' q1 q2 q3 => ?_)))
    · have := g2 k hk
      rw [Nat.zero_add] at this
      exact this
    · refine k2 _ (I2_mk hT hM hr q1 g1 ⟨by omega, q2, fun j hj => ⟨(hP.2.2 j (by omega)).1, fun k hk => ?_⟩⟩ (fI_to hI0 (fun k w1 w2 => q3 k (by omega))) (fI_to hI1 (fun k w1 w2 => q3 k (by omega))) hS)
      rw [q3 _ (by omega)]
      exact (hP.2.2 j (by omega)).2 k hk

set_option maxRecDepth 100000 in
set_option maxHeartbeats 4000000 in
theorem q_keep : ∀ a0 : Int32, zBoth zIV mX7_keep mX8_keep 2 3 [.int a0] := by
  intro a wl wr I
  refine zIV_elim (M := zBothA zIV mX7_keep mX8_keep 2 3 [.int a]) ?_ I
  clear I wl wr
  intro t b pp ee ww it st r ln at1 tk va du lv k la1 ha1 c6f n lg ht x y s k0 k1 z sa sb sc po lap lp sd be tr P X0 s0 P0 X1 s1 P1 tx m1 lg' ht' la at_ st_ so_ va_ fa_ to_ nw ik td th ba bp br hT hM hr hx hl hP hI0 hI1 hS K1 h
  have hn := hM.1
  have hw := fL_w hn hl
  have hlg := fLg hM hl
  have hA := fAg hM hl
  have hi := hl.2.2.1
  have hs := hP.1
  have h25 : nw 25 = nI s := hP.2.1
  have h24 : nw 24 = x.2.2.2.2.2.2 := mIs_24 hx
  refine c_keep hs a (fun e => h _ _ rfl (fun K2 k2 => m_keep a (fun i hi2 ei => ?_) (fun w => absurd ⟨by rw [e]; decide, by rw [e]; decide⟩ w))) (fun e => h _ _ rfl (fun K2 k2 => m_keep a (fun i hi2 ei => ?_) (fun w => absurd ⟨by rw [e]; decide, by rw [e]; decide⟩ w))) (fun q => h _ _ rfl (fun K2 k2 => m_keep a (fun i hi2 ei => ?_) (fun _ => k2 _ (I2_mk hT hM hr hx hl hP hI0 hI1 hS))))
  · have e0 : i = 0 := nI_inj (by omega) (by omega) (ei.symm.trans e)
    subst e0
    rw [h24]
    refine k2 _ (I2_mk (nw := sFo 276 nw nw 276) (ik := upd ik 0 1) hT hM hr (fun k hk => ?_) hl (fP_to hP (fun k w1 w2 => sFo_out (by omega))) ⟨hs, pk_us.symm, fun _ => ⟨hl, fun k hk => ?_, hs, ?_, fun j hj => ?_⟩⟩ (fI_to hI1 (fun k w1 w2 => sFo_out (by omega))) hS)
    · rw [sFo_out (by omega)]
      exact hx k hk
    · rw [sFo_in (by omega)]
      exact hx k hk
    · rw [sFo_in (by omega)]
      exact h25
    · rw [show zfl P P0 s j = P j from if_pos hj]
      obtain ⟨g1, g2⟩ := hP.2.2 j hj
      refine ⟨g1, fun k hk => ?_⟩
      rw [sFo_in (by omega)]
      have := g2 k hk
      rw [Nat.zero_add] at this
      exact this
  · have e0 : i = 1 := nI_inj (by omega) (by omega) (ei.symm.trans (e.trans n1.symm))
    subst e0
    rw [h24]
    refine k2 _ (I2_mk (nw := sFo 552 nw nw 276) (ik := upd ik 1 1) hT hM hr (fun k hk => ?_) hl (fP_to hP (fun k w1 w2 => sFo_out (by omega))) (fI_to hI0 (fun k w1 w2 => sFo_out (by omega))) ⟨hs, pk_us.symm, fun _ => ⟨hl, fun k hk => ?_, hs, ?_, fun j hj => ?_⟩⟩ hS)
    · rw [sFo_out (by omega)]
      exact hx k hk
    · rw [sFo_in (by omega)]
      exact hx k hk
    · rw [sFo_in (by omega)]
      exact h25
    · rw [show zfl P P1 s j = P j from if_pos hj]
      obtain ⟨g1, g2⟩ := hP.2.2 j hj
      refine ⟨g1, fun k hk => ?_⟩
      rw [sFo_in (by omega)]
      have := g2 k hk
      rw [Nat.zero_add] at this
      exact this
  · refine absurd ⟨?_, ?_⟩ q
    · rw [ei]; exact nI_pos' (by omega)
    · rw [ei, ← n1]; exact (nI_leI (by omega) (by omega)).mpr (by omega)

set_option maxRecDepth 100000 in
set_option maxHeartbeats 4000000 in
theorem q_back : ∀ a0 : Int32, zBoth zIV mX7_back mX8_back 2 3 [.int a0] := by
  intro a wl wr I
  refine zIV_elim (M := zBothA zIV mX7_back mX8_back 2 3 [.int a]) ?_ I
  clear I wl wr
  intro t b pp ee ww it st r ln at1 tk va du lv k la1 ha1 c6f n lg ht x y s k0 k1 z sa sb sc po lap lp sd be tr P X0 s0 P0 X1 s1 P1 tx m1 lg' ht' la at_ st_ so_ va_ fa_ to_ nw ik td th ba bp br hT hM hr hx hl hP hI0 hI1 hS K1 h
  have hn := hM.1
  have hw := fL_w hn hl
  have hlg := fLg hM hl
  have hA := fAg hM hl
  have hi := hl.2.2.1
  have hs := hP.1
  have h25 : nw 25 = nI s := hP.2.1
  by_cases c0 : a = 0
  · subst c0
    refine c_back0 hI0.1 (fun q => h _ _ rfl (fun K2 k2 => m_back 0 (fun i hi2 ei hk => ?_) (fun i hi2 ei hk => ?_) (fun w => absurd ⟨by decide, by decide⟩ w))) (fun q => h _ _ rfl (fun K2 k2 => m_back 0 (fun i hi2 ei hk => ?_) (fun i hi2 ei hk => ?_) (fun w => absurd ⟨by decide, by decide⟩ w)))
    · have e0 : i = 0 := nI_inj (by omega) (by omega) ei.symm
      subst e0
      obtain ⟨f1, f2, f3⟩ := hI0.2.2 hk
      have h24 : nw (276 + 24) = X0.2.2.2.2.2.2 := f2 24 (by omega)
      rw [h24]
      refine k2 _ (I2_mk (nw := sFill (fun k => nw (276 + k)) nw 276) hT hM hr (fun k hk => ?_) f1 ⟨hI0.1, ?_, fun j hj => ?_⟩ (fI_to hI0 (fun k w1 w2 => sFill_ge (by omega))) (fI_to hI1 (fun k w1 w2 => sFill_ge (by omega))) hS)
      · rw [sFill_lt (by omega)]
        exact f2 k hk
      · rw [sFill_lt (by omega)]
        exact f3.2.1
      · rw [show zfl P0 P s0 j = P0 j from if_pos hj]
        obtain ⟨g1, g2⟩ := f3.2.2 j hj
        refine ⟨g1, fun k hk => ?_⟩
        have s10 := hI0.1
        rw [sFill_lt (by omega)]
        have := g2 k hk
        rw [← this]
        congr 1
        omega
    · have e0 : i = 0 := nI_inj (by omega) (by omega) ei.symm
      subst e0
      exact absurd (hI0.2.1.trans hk) q
    · have e0 : i = 0 := nI_inj (by omega) (by omega) ei.symm
      subst e0
      exact absurd (hI0.2.1.symm.trans q) hk
    · exact k2 _ (I2_mk hT hM hr hx hl hP hI0 hI1 hS)
  · by_cases c1 : a = 1
    · subst c1
      refine c_back1 hI1.1 (fun q => h _ _ rfl (fun K2 k2 => m_back 1 (fun i hi2 ei hk => ?_) (fun i hi2 ei hk => ?_) (fun w => absurd ⟨by decide, by decide⟩ w))) (fun q => h _ _ rfl (fun K2 k2 => m_back 1 (fun i hi2 ei hk => ?_) (fun i hi2 ei hk => ?_) (fun w => absurd ⟨by decide, by decide⟩ w)))
      · have e0 : i = 1 := nI_inj (by omega) (by omega) (ei.symm.trans n1.symm)
        subst e0
        obtain ⟨f1, f2, f3⟩ := hI1.2.2 hk
        have h24 : nw (552 + 24) = X1.2.2.2.2.2.2 := f2 24 (by omega)
        rw [h24]
        refine k2 _ (I2_mk (nw := sFill (fun k => nw (552 + k)) nw 276) hT hM hr (fun k hk => ?_) f1 ⟨hI1.1, ?_, fun j hj => ?_⟩ (fI_to hI0 (fun k w1 w2 => sFill_ge (by omega))) (fI_to hI1 (fun k w1 w2 => sFill_ge (by omega))) hS)
        · rw [sFill_lt (by omega)]
          exact f2 k hk
        · rw [sFill_lt (by omega)]
          exact f3.2.1
        · rw [show zfl P1 P s1 j = P1 j from if_pos hj]
          obtain ⟨g1, g2⟩ := f3.2.2 j hj
          refine ⟨g1, fun k hk => ?_⟩
          have s10 := hI1.1
          rw [sFill_lt (by omega)]
          have := g2 k hk
          rw [← this]
          congr 1
          omega
      · have e0 : i = 1 := nI_inj (by omega) (by omega) (ei.symm.trans n1.symm)
        subst e0
        exact absurd (hI1.2.1.trans hk) q
      · have e0 : i = 1 := nI_inj (by omega) (by omega) (ei.symm.trans n1.symm)
        subst e0
        exact absurd (hI1.2.1.symm.trans q) hk
      · exact k2 _ (I2_mk hT hM hr hx hl hP hI0 hI1 hS)
    · have hb : ¬ (0 ≤ a ∧ a ≤ 1) := by
        intro w
        obtain ⟨m, hm, e⟩ := nat_of (m := 1) (by decide) (by omega) w.1 w.2
        rcases (show m = 0 ∨ m = 1 by omega) with rfl | rfl
        · exact c0 e
        · exact c1 (e.trans n1)
      refine c_backBad a hb (h _ _ rfl (fun K2 k2 => m_back a (fun i hi2 ei hk => ?_) (fun i hi2 ei hk => ?_) (fun _ => k2 _ (I2_mk hT hM hr hx hl hP hI0 hI1 hS))))
      · refine absurd ⟨?_, ?_⟩ hb
        · rw [ei]; exact nI_pos' (by omega)
        · rw [ei, ← n1]; exact (nI_leI (by omega) (by omega)).mpr (by omega)
      · refine absurd ⟨?_, ?_⟩ hb
        · rw [ei]; exact nI_pos' (by omega)
        · rw [ei, ← n1]; exact (nI_leI (by omega) (by omega)).mpr (by omega)

set_option maxRecDepth 100000 in
set_option maxHeartbeats 4000000 in
theorem q_rank : zBoth zIV mX7_rank mX8_rank 2 3 [] := by
  intro wl wr I
  refine zIV_elim (M := zBothA zIV mX7_rank mX8_rank 2 3 []) ?_ I
  clear I wl wr
  intro t b pp ee ww it st r ln at1 tk va du lv k la1 ha1 c6f n lg ht x y s k0 k1 z sa sb sc po lap lp sd be tr P X0 s0 P0 X1 s1 P1 tx m1 lg' ht' la at_ st_ so_ va_ fa_ to_ nw ik td th ba bp br hT hM hr hx hl hP hI0 hI1 hS K1 h
  have hn := hM.1
  have hw := fL_w hn hl
  have hlg := fLg hM hl
  have hA := fAg hM hl
  have hi := hl.2.2.1
  have hs := hP.1
  have h25 : nw 25 = nI s := hP.2.1
  obtain ⟨hb, tb, htb⟩ := hT
  have ht1 : ∀ j, j < b → t j = nI (tb j) ∧ tb j < 256 := fun j hj => ⟨(htb j hj).1.1, (htb j hj).2⟩
  have ht2 : ∀ j, j < b → tx j = (nI (tb j)).toInt8.toInt32 ∧ tb j < 256 := fun j hj => ⟨(htb j hj).1.2, (htb j hj).2⟩
  refine c_rank (tb := tb) hb ht1 (fun σ hσ hok pp ee ww it st ln at1 tk va du lv k la1 ha1 hla => h _ _ rfl (fun K2 k2 => m_rank (tb := tb) hb ht2 (fun σ' hσ' hok' m1' lg2 ht2' la2 at2 st2 so2 va2 fa2 to2 nw2 ik2 w1 w2 w3 w4 w5 => ?_) (fun f hf _ m1' lg2 ht2' la2 at2 st2 so2 va2 fa2 to2 _ => ?_))) (fun f hf hfb pp ee ww it st ln at1 tk va du lv k la1 ha1 => h _ _ rfl (fun K2 k2 => m_rank (tb := tb) hb ht2 (fun σ' hσ' hok' m1' lg2 ht2' la2 at2 st2 so2 va2 fa2 to2 nw2 ik2 w1 w2 w3 w4 w5 => ?_) (fun f' hf' _ m1' lg2 ht2' la2 at2 st2 so2 va2 fa2 to2 w1 => ?_)))
  · have eσ : σ' = σ := by
      have := hσ'.symm.trans hσ
      cases this
      rfl
    subst eσ
    have b1 : pOr σ'.2.2.2.1 30 ≤ 60 := by
      cases c : σ'.2.2.2.1 with
      | none => show 30 ≤ 60; omega
      | some v => exact (hok.2.2.2.1 v c).2
    exact k2 _ (I2_mk (s := 0) (n := σ'.1) ⟨by omega, fun _ => 0, fun j hj => absurd hj (Nat.not_lt_zero _)⟩ ⟨hok.2.1, σ'.2.1, σ'.2.2.1, fun m hm => ⟨⟨(hla m hm).1, (w1 m hm).1, (hok.2.2.2.2.2.2 m hm).1.2⟩, ⟨(hla m hm).2, (w1 m hm).2, (hok.2.2.2.2.2.2 m hm).2.2⟩⟩⟩ (Or.inl rfl) w2 (fL_form hok.2.1 b1) ⟨by omega, w3, fun j hj => absurd hj (Nat.not_lt_zero _)⟩ ⟨hI0.1, w4.symm, fun q => absurd w4 q⟩ ⟨hI1.1, w5.symm, fun q => absurd w5 q⟩ ⟨by omega, fun j hj => absurd hj (Nat.not_lt_zero _), fun j hj => absurd hj (Nat.not_lt_zero _)⟩)
  · have := hf.symm.trans hσ
    cases this
  · have := hσ'.symm.trans hf
    cases this
  · have ef : f' = f := by
      have := hf'.symm.trans hf
      cases this
      rfl
    subst ef
    refine k2 _ (I2_mk ⟨hb, tb, htb⟩ ?_ (Or.inl rfl) hx hl hP hI0 hI1 hS)
    obtain ⟨_, L, H, g⟩ := hM
    exact ⟨hn, L, H, fun m hm => ⟨⟨(g m hm).1.1, (w1 m (by omega)).1.trans (g m hm).1.2.1, (g m hm).1.2.2⟩, ⟨(g m hm).2.1, (w1 m (by omega)).2.trans (g m hm).2.2.1, (g m hm).2.2.2⟩⟩⟩
theorem ops : zOps zIV := ⟨at0, q_type, q_clear, q_rank, q_man, q_place, q_wheels, q_slips, q_hops, q_swaps, q_minds, q_speeds, q_undo, q_now, q_dressed, q_looks, q_mix, q_fastest, q_order, q_inStep, q_behind, q_post, q_odds, q_saw, q_forget, q_whose, q_rate, q_keep, q_back, q_count, q_trace⟩
