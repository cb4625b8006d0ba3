
/-! ===== from the law's entry to its loop ===== -/
def zL0 : zLn := (fun _ => 0, fun _ => 0, fun _ => 0, 0, 0, 0, 0)
/-- the class's cells at the start, in their order -/
def wC0 : zW := wC (fun _ => 0) 0 (tC2 0 0 0 0 0 5 0 0 0 0 0 0) (tC3 0) (.inl (0, 7, fun _ => 0)) (.inl (0, 7, fun _ => 0)) (.inl (0, 0, fun _ => 0)) 0 (fun _ => 0) (fun _ => 0) (xForm 30 5 2) zL0 0 kidC 0 0 0 (fun _ => 0) (fun _ => 0) (fun _ => 0) (.inr (.inr (3, [.ref 7, .ref 28, .int 0, .ref 29, .int 0, .int 0]))) (.inl (0, 7, fun _ => 0)) (.inl (0, 7, fun _ => 0)) 0 (wPL (fun _ => zL0) (wIM zL0 0 (fun _ => zL0) zL0 0 (fun _ => zL0) []))
def pA : List Nat := [0, 1, 2, 3, 4, 5, 6, 7, 8, 9, 10, 11, 12, 13, 14, 15, 16, 17, 18, 19, 60, 68, 115, 61, 62, 63, 64, 65, 66, 67, 20, 21, 22, 23, 24, 25, 26, 27, 28, 29, 30, 31, 32, 33, 34, 35, 36, 37, 38, 39, 40, 41, 42, 43, 44, 45, 46, 47, 48, 49, 50, 51, 52, 53, 54, 55, 56, 57, 58, 59, 69, 70, 71, 72, 73, 74, 75, 76, 77, 78, 79, 80, 81, 82, 83, 84, 85, 86, 87, 88, 89, 90, 91, 92, 93, 94, 95, 96, 97, 98, 99, 100, 101, 102, 103, 104, 105, 106, 107, 108, 109, 110, 111, 112, 113, 114, 116, 117, 118, 119, 120, 121, 122, 123, 124, 125, 126, 127, 128, 129, 130, 131, 132, 133, 134, 135, 136, 137, 138, 139, 140, 141, 142, 143, 144, 145, 146, 147, 148, 149, 150, 151, 152, 153, 154, 155, 156, 157, 158, 159, 160, 161]
set_option maxRecDepth 100000 in
set_option maxHeartbeats 4000000 in
theorem rot0 : zRot wA wC0 := ⟨pA, ⟨rfl, rfl, rfl⟩, ⟨by decide +kernel, by decide +kernel, rfl⟩, rfl⟩
theorem known {s : State} {A : Array Value} (hts : ∀ w ∈ lw_tbl, w.before A s = true) : ∃ (D : va_G) (cy : Nat → ClassId), zKN D cy s := by
  obtain ⟨c0, i0, u0⟩ := u_known (ws := lw_tbl) (C := RX0) (T := TX0) (N := 3) (n := 3) hts (fun w h => (List.mem_filter.mp (zX0 w h)).1) (hts (.instantiable RX0 3) (List.mem_of_getElem? (i := 254) (by decide +kernel)))
  obtain ⟨c1, i1, u1⟩ := u_known (ws := lw_tbl) (C := RX1) (T := TX1) (N := 8) (n := 8) hts (fun w h => (List.mem_filter.mp (zX1 w h)).1) (hts (.instantiable RX1 8) (List.mem_of_getElem? (i := 149) (by decide +kernel)))
  obtain ⟨c2, i2, u2⟩ := u_known (ws := lw_tbl) (C := RX2) (T := TX2) (N := 3) (n := 3) hts (fun w h => (List.mem_filter.mp (zX2 w h)).1) (hts (.instantiable RX2 3) (List.mem_of_getElem? (i := 75) (by decide +kernel)))
  obtain ⟨c3, i3, u3⟩ := u_known (ws := lw_tbl) (C := RX3) (T := TX3) (N := 6) (n := 6) hts (fun w h => (List.mem_filter.mp (zX3 w h)).1) (hts (.instantiable RX3 6) (List.mem_of_getElem? (i := 227) (by decide +kernel)))
  obtain ⟨c4, i4, u4⟩ := u_known (ws := lw_tbl) (C := RX4) (T := TX4) (N := 2) (n := 2) hts (fun w h => (List.mem_filter.mp (zX4 w h)).1) (hts (.instantiable RX4 2) (List.mem_of_getElem? (i := 188) (by decide +kernel)))
  obtain ⟨c5, i5, u5⟩ := u_known (ws := lw_tbl) (C := RX5) (T := TX5) (N := 4) (n := 4) hts (fun w h => (List.mem_filter.mp (zX5 w h)).1) (hts (.instantiable RX5 4) (List.mem_of_getElem? (i := 207) (by decide +kernel)))
  obtain ⟨c6, i6, u6⟩ := u_known (ws := lw_tbl) (C := RX6) (T := TX6) (N := 13) (n := 13) hts (fun w h => (List.mem_filter.mp (zX6 w h)).1) (hts (.instantiable RX6 13) (List.mem_of_getElem? (i := 69) (by decide +kernel)))
  obtain ⟨c7, i7, u7⟩ := u_known (ws := lw_tbl) (C := RX7) (T := TX7) (N := 11) (n := 11) hts (fun w h => (List.mem_filter.mp (zX7 w h)).1) (hts (.instantiable RX7 11) (List.mem_of_getElem? (i := 61) (by decide +kernel)))
  obtain ⟨c8, i8, u8⟩ := u_known (ws := lw_tbl) (C := RX8) (T := TX8) (N := 24) (n := 24) hts (fun w h => (List.mem_filter.mp (zX8 w h)).1) (hts (.instantiable RX8 24) (List.mem_of_getElem? (i := 702) (by decide +kernel)))
  obtain ⟨a0, k0, q0, e0, f0, g0⟩ := Cond.arrayClass_spec (hts (.arrayClass .int) (List.mem_of_getElem? (i := 99) (by decide +kernel)))
  obtain ⟨a1, k1, q1, e1, f1, g1⟩ := Cond.arrayClass_spec (hts (.arrayClass .byte) (List.mem_of_getElem? (i := 788) (by decide +kernel)))
  obtain ⟨a2, k2, q2, e2, f2, g2⟩ := Cond.arrayClass_spec (hts (.arrayClass .boolean) (List.mem_of_getElem? (i := 789) (by decide +kernel)))
  have o3 : (Cond.arrayOver (.object "RankWheels$Image")).before A s = true := hts _ (List.mem_of_getElem? (i := 205) (by decide +kernel))
  have o4 : (Cond.arrayOver (.object "RankWheels$Line")).before A s = true := hts _ (List.mem_of_getElem? (i := 194) (by decide +kernel))
  obtain ⟨q3, a3, k3, e3, -, f3, g3, h3⟩ := Cond.arrayOver_spec o3
  obtain ⟨q4, a4, k4, e4, -, f4, g4, h4⟩ := Cond.arrayOver_spec o4
  refine ⟨(fun c => match c with
    | 0 => c0
    | 1 => c1
    | 2 => c2
    | 3 => c3
    | 4 => c4
    | 5 => c5
    | 6 => c6
    | 7 => c7
    | 8 => c8
    | _ => c0, fun c => match c with
    | 0 => i0
    | 1 => i1
    | 2 => i2
    | 3 => i3
    | 4 => i4
    | 5 => i5
    | 6 => i6
    | 7 => i7
    | 8 => i8
    | _ => i0), (fun t => match t with
    | 0 => a0
    | 1 => a1
    | 2 => a2
    | 3 => a3
    | _ => a4), ⟨⟨fun ci q h => ?_, fun k q h => ?_⟩, fun w hw => ?_⟩, va_AO.of o3, va_AO.of o4⟩
  · match ci, h with
    | 0, h => cases h; exact u0
    | 1, h => cases h; exact u1
    | 2, h => cases h; exact u2
    | 3, h => cases h; exact u3
    | 4, h => cases h; exact u4
    | 5, h => cases h; exact u5
    | 6, h => cases h; exact u6
    | 7, h => cases h; exact u7
    | 8, h => cases h; exact u8
    | n + 9, h => simp [vwCl] at h
  · match k, h with
    | 0, h => cases h; exact ⟨fun N z => ⟨(fun k h => by cases h), k0, f0, q0, g0⟩, e0⟩
    | 1, h => cases h; exact ⟨fun N z => ⟨(fun k h => by cases h), k1, f1, q1, g1⟩, e1⟩
    | 2, h => cases h; exact ⟨fun N z => ⟨(fun k h => by cases h), k2, f2, q2, g2⟩, e2⟩
    | 3, h => cases h; exact ⟨fun N z => ⟨(fun k h => by cases h), k3, f3, q3, g3⟩, k3, q3, f3, g3, e3, h3⟩
    | 4, h => cases h; exact ⟨fun N z => ⟨(fun k h => by cases h), k4, f4, q4, g4⟩, k4, q4, f4, g4, e4, h4⟩
    | n + 5, h => simp [zT] at h
  · simp only [zN, List.mem_cons, List.not_mem_nil, or_false] at hw
    rcases hw with rfl | rfl | rfl | rfl | rfl | rfl | rfl
    · exact va_Nw.of rfl (hts _ (List.mem_of_getElem? (i := 70) (by decide +kernel)))
    · exact va_Nw.of rfl (hts _ (List.mem_of_getElem? (i := 147) (by decide +kernel)))
    · exact va_Nw.of rfl (hts _ (List.mem_of_getElem? (i := 208) (by decide +kernel)))
    · exact va_Nw.of rfl (hts _ (List.mem_of_getElem? (i := 413) (by decide +kernel)))
    · exact va_Nw.of rfl (hts _ (List.mem_of_getElem? (i := 577) (by decide +kernel)))
    · exact va_Nw.of rfl (hts _ (List.mem_of_getElem? (i := 76) (by decide +kernel)))
    · exact va_Nw.of rfl (hts _ (List.mem_of_getElem? (i := 346) (by decide +kernel)))
theorem zLS_fix {l : List Nat} (h1 : l.length = 162) (h0 : zpm l 0 = 0) (i : Int32) : ∀ v, some v ∈ zLS i → zv (zpm l) v = v := by
  intro v hv
  simp only [zLS, List.mem_cons, List.not_mem_nil, or_false, Option.some.injEq] at hv
  rcases hv with rfl | rfl | rfl | rfl
  · show Value.ref (zpm l 1000) = _
    rw [zpm_ge (by omega)]
  · show Value.ref (zpm l 0) = _
    rw [h0]
  · show Value.ref (zpm l 162) = _
    rw [zpm_ge (by omega)]
  · rfl
set_option maxRecDepth 100000 in
set_option maxHeartbeats 8000000 in
theorem whole_of {Inv : zW → zW → Prop} (HO : zOps Inv) (h0 : ∀ lg' ht' la' nw' ik', mIs nw' (xForm 30 5 2) → nw' 25 = 0 → ik' 0 = 0 → ik' 1 = 0 → Inv wC0 (wD 0 (fun _ => 0) 0 0 0 lg' ht' la' 0 0 0 0 0 0 nw' ik' (fun _ => 0) (fun _ => 0) 0 0 0 (fun _ => 0) (fun _ => 0) (fun _ => 0) 0)) {p : Program} {e : Env} {s : State} {m : MethodId} {below : List Frame} {meth : Method} {c : Code} (l : Launch) {b L : Nat} {xs : Nat → Int32} (hL : L ≤ 2048) (C0 : lw_At p s m meth c b L xs) : W p l e room_1 s m #[Value.ref b] below meth c s.heap [] 0 0 (lw_Z below #[Value.ref b] s) (entryFrame m ([Value.ref b] : List Value).toArray 4) := by
  obtain ⟨hx, hb, hr, hml, hown, hts, hX, hbl, hlocks, -⟩ := C0
  have ht1 : ∀ w ∈ zTL, w.before #[Value.ref b] s = true := by
    intro w hw
    rcases List.mem_cons.mp hw with rfl | hw
    · exact hts _ (List.mem_of_getElem? (i := 48) (by decide +kernel))
    · exact hts w (List.mem_filter.mp hw).1
  obtain ⟨D, cy, hKN⟩ := known hts
  have hA : ∀ q : Nat, s.heap.size ≤ q → (fun q => s.heap.size ≤ q) q := fun q h => h
  have S : CallFix p m c cL_law 4 s #[Value.ref b] zTL RL := ⟨hx, hb, hml, hown, ht1⟩
  have hRt : ∀ (ad : Nat → Nat) (n0 : Nat), n0 ≤ 175 → 0 ≤ n0 → zag 0 (fun _ => b) ad → zRO p l e room_1 s m #[Value.ref b] below meth c cL_law D cy ad (fun q => s.heap.size ≤ q) n0 (n0 - 0) (828 * (n0 - 0)) (lw_Z below #[Value.ref b] s) zRL := by
    intro ad n0 hn0 _ _ rv u pc H locs lsC hrv hd _ p1 d1 s1 n1
    have hrv : rv = some (.int 1) := hrv
    subst hrv
    refine va_forget s1.2.2 (W.widen (k := 600000) (n := 7302250) (by omega) (by omega) ?_)
    exact lw_ret hx hb hr hlocks hd
  have hs : ∀ K : zK, (∀ pc ls st ws, K pc ls st ws → zON p l e room_1 s m #[Value.ref b] below meth c 4 D cy (fun _ => b) (fun q => s.heap.size ≤ q) 0 175 (lw_Z below #[Value.ref b] s) pc ls st ws) → ∀ pc ls st ws, zstepN mL xL 175 (some (L, xs)) zRL K pc ls st ws → zON p l e room_1 s m #[Value.ref b] below meth c 4 D cy (fun _ => b) (fun q => s.heap.size ≤ q) 0 175 (lw_Z below #[Value.ref b] s) pc ls st ws := by
    intro K hK pc ls st ws h1
    refine zstepN_ok hx hb hml hown ht1 hKN (by decide +kernel) (by decide +kernel) hA gL gxL (Or.inl rfl) hobL (fun L1 xs1 e1 => ?_) (fun ad n0 h1 _ => vL l S hKN hA ad n0 ⟨?_, ?_⟩) (fun ad n0 _ _ ix n G w => by cases w) (iLs l S hKN hA) hRt hK pc ls st ws h1
    · cases e1
      exact ⟨hX, hbl, Nat.not_le.mpr hbl⟩
    · show n0 - 0 ≤ 600000
      omega
    · show 828 * (n0 - 0) ≤ 7302250
      omega
  generalize hZe : zON p l e room_1 s m #[Value.ref b] below meth c 4 D cy (fun _ => b) (fun q => s.heap.size ≤ q) 0 175 (lw_Z below #[Value.ref b] s) = Z at hs
  have hZ : ∀ (cuts : List Nat) (k pc : Nat) (ls : List (Option Value)) (st : List Value) (ws : zW), zstepN mL xL 175 (some (L, xs)) zRL (zrunN mL xL 175 (some (L, xs)) zRL Z cuts k) pc ls st ws → Z pc ls st ws := fun cuts k pc ls st ws h => hs _ (zrunN_ok hs cuts k) pc ls st ws h
  have hrot : ∀ (i : Int32) (wl wl2 wr : zW), zRot wl wl2 → Z 18 (zLS i) [] (wl2 ++ sh wr) → Z 18 (zLS i) [] (wl ++ sh wr) := by
    intro i wl wl2 wr hq h
    obtain ⟨lp, ⟨h1, h2, h3⟩, ⟨h4, h5, h6⟩, h7⟩ := hq
    subst hZe
    refine zON_perm (π := zpm lp) (n := 162) h2 h3 (by omega) (fun i j hi hj e => zpm_inj h4 (by omega) (by omega) e) (fun i hi => zpm_ge (by omega)) (fun i c hi => ?_) (zLS_fix h1 h6 i) h
    have := zpm_w h5 (by omega) h7 i c hi
    rw [h1] at this
    exact this
  have j8 : Z 8 [some (.ref 1000), some (.ref 0), none, none] [] wA := by
    refine hZ [18] 40 _ _ _ _ ⟨162, 1000, [.ref 0], ⟨rfl, rfl, rfl, rfl⟩, ⟨rfl, rfl⟩, n_model (fun lg' ht' la' nw' ik' q1 q2 q3 q4 => ?_)⟩
    exact hrot 0 wA wC0 _ rot0 (law_go HO hL hZ hrot (L + 5) 0 wC0 _ (by omega) (by omega) (h0 lg' ht' la' nw' ik' q1 q2 q3 q4))
  have j0 : Z 0 (zEnt [.ref 1000] 4) [] [] := hZ [8] 40 _ _ _ _ ⟨0, 1000, [.ref 0], ⟨rfl, rfl, rfl, rfl⟩, ⟨rfl, rfl⟩, n_rank j8⟩
  rw [lg_entry_eq]
  subst hZe
  exact j0 (fun _ => b) s.heap [] _ (fun k q hk => by cases hk) ⟨(fun i j x y hi _ _ => by cases hi), (fun k q hk => by cases hk)⟩ va_S.rf ⟨Nat.le_refl _, by decide⟩ (fun _ _ => rfl) (zLH_entry (as := [.ref 1000]) (fun _ => b) (fun v hv => by cases hv with
    | head => rfl
    | tail _ h => cases h) (by decide))
