
/-! ===== two worlds side by side, and other names for places ===== -/
theorem zv_id (v : Value) : zv (fun i => i) v = v := by cases v <;> rfl
theorem zrc_id (c : zCell) : zrc (fun i => i) c = c := by
  rcases c with a | a | o
  · rfl
  · show Sum.inr (Sum.inl (a.1, a.2.map (Option.map (fun i => i)))) = _
    rw [show (Option.map (fun i : Nat => i)) = id from by funext x; cases x <;> rfl, List.map_id]
  · show Sum.inr (Sum.inr (o.1, o.2.map (zv (fun i => i)))) = _
    rw [show (zv (fun i => i)) = id from funext zv_id, List.map_id]
theorem zrc_zrc (f g : Nat → Nat) (c : zCell) : zrc f (zrc g c) = zrc (fun i => f (g i)) c := by
  rcases c with a | a | o
  · rfl
  · show Sum.inr (Sum.inl (a.1, (a.2.map (Option.map g)).map (Option.map f))) = Sum.inr (Sum.inl (a.1, a.2.map (Option.map (fun i => f (g i)))))
    rw [List.map_map]
    congr 3
    apply List.map_congr_left
    intro x _
    cases x <;> rfl
  · show Sum.inr (Sum.inr (o.1, (o.2.map (zv g)).map (zv f))) = Sum.inr (Sum.inr (o.1, o.2.map (zv (fun i => f (g i)))))
    rw [List.map_map]
    congr 3
    apply List.map_congr_left
    intro v _
    exact zv_zv f g v
set_option maxHeartbeats 4000000 in
theorem zMet_gen {l : Launch} {y : MethodName} {Tw : List Jvm.Cond} {rm : Room} {rt : Nat} {al as : List Value} {wl ws : zW} {r : Nat → Nat} {U : zW → zW} {K : zP} (h : zMet l y Tw rm rt al wl (fun rv wl' => K (rv.map (zv r)) (U wl'))) (ha : as = al.map (zv r)) (hinj : ∀ i j : Nat, i < wl.length → j < wl.length → r i = r j → i = j) (hget : ∀ (i : Nat) (c : zCell), wl[i]? = some c → ws[r i]? = some (zrc r c)) (hU : ∀ wl' : zW, wl'.length = wl.length → (U wl').length = ws.length ∧ ∀ (k : Nat) (c : zCell), (U wl')[k]? = some c → (∃ (i : Nat) (c' : zCell), k = r i ∧ wl'[i]? = some c' ∧ c = zrc r c') ∨ (ws[k]? = some c ∧ ∀ i : Nat, i < wl.length → r i ≠ k)) : zMet l y Tw rm rt as ws K := by
  intro D cy ad sz
  have h1 := h D cy (fun i => ad (r i)) sz
  have hAA : ∀ q, va_A (zws cy (fun i => ad (r i)) wl) sz q → va_A (zws cy ad ws) sz q := by
    intro q hq
    rcases hq with ⟨i, x, hi⟩ | hq
    · obtain ⟨c, hc, hx⟩ := zws_inv hi
      cases hx
      exact Or.inl ⟨r i, _, zws_get (hget i c hc)⟩
    · exact Or.inr hq
  have keep : ∀ (st t : State) (u : zW), zPre D cy ad sz as ws (as.map (zv ad)).toArray st → u.length = wl.length → va_P D vwCl (zws cy (fun i => ad (r i)) u) t.heap → va_F (va_A (zws cy (fun i => ad (r i)) wl) sz) st t → va_P D vwCl (zws cy ad (U u)) t.heap := by
    intro st t u hpre hul hB hF k q hk
    obtain ⟨-, hsz, hP, -, hD⟩ := hpre
    obtain ⟨c, hc, rfl⟩ := zws_inv hk
    rcases (hU u hul).2 k c hc with ⟨i, c', rfl, g2, rfl⟩ | ⟨g1, g2⟩
    · have hb := hB i _ (zws_get g2)
      rw [zc_ren]
      exact hb
    · have hat := hP k _ (zws_get g1)
      refine hat.kept (hF.2 (ad k) hat.lt (fun hq => ?_))
      rcases hq with ⟨i, x, hi⟩ | hq
      · obtain ⟨c2, hc2, hx⟩ := zws_inv hi
        have hx1 : ad k = ad (r i) := congrArg Prod.fst hx
        have := hD.1 k (r i) _ _ (zws_get g1) (zws_get (hget i c2 hc2)) hx1
        exact g2 i (List.getElem?_eq_some_iff.mp hc2).1 this.symm
      · have := hat.lt
        simp only at this
        omega
  refine MetFree.mono h1 ?_ (fun _ _ _ _ _ h => h) ?_
  · intro a s hp
    obtain ⟨rfl, hsz, hP, hKK, hD⟩ := hp
    refine ⟨?_, hsz, ?_, hKK, ?_, fun _ _ _ => trivial⟩
    · rw [ha, List.map_map]
      congr 1
      apply List.map_congr_left
      intro v _
      exact zv_zv ad r v
    · intro i q hi
      obtain ⟨c, hc, rfl⟩ := zws_inv hi
      have := hP _ _ (zws_get (cy := cy) (ad := ad) (hget i c hc))
      rw [zc_ren] at this
      exact this
    · intro i j x y hi hj hxy
      obtain ⟨c, hc, rfl⟩ := zws_inv hi
      obtain ⟨d, hd, rfl⟩ := zws_inv hj
      exact hinj i j (List.getElem?_eq_some_iff.mp hc).1 (List.getElem?_eq_some_iff.mp hd).1 (hD.1 _ _ _ _ (zws_get (cy := cy) (ad := ad) (hget i c hc)) (zws_get (cy := cy) (ad := ad) (hget j d hd)) hxy)
  · intro a st o t hp hq
    have hp0 := hp
    obtain ⟨rfl, -⟩ := hp0
    obtain ⟨hq, L, hL1, hL2⟩ := hq
    refine ⟨?_, L, hL1, fun q hq => hAA _ (hL2 q hq)⟩
    have hFF : ∀ {st t : State}, va_F (va_A (zws cy (fun i => ad (r i)) wl) sz) st t → va_F (va_A (zws cy ad ws) sz) st t := fun h => ⟨h.1, fun q h1 h2 => h.2 q h1 (fun z => h2 (hAA q z))⟩
    match rt, hq with
    | 0, hq =>
      obtain ⟨⟨u, e1, ⟨e2, e3⟩, e4⟩, hF⟩ := hq
      exact ⟨⟨_, e1, ⟨e2, (hU u e3).1⟩, keep st t u hp e3 e4 hF⟩, hFF hF⟩
    | 1, hq =>
      obtain ⟨⟨r, u, e1, ⟨e2, e3⟩, e4⟩, hF⟩ := hq
      exact ⟨⟨r, _, e1, ⟨e2, (hU u e3).1⟩, keep st t u hp e3 e4 hF⟩, hFF hF⟩
    | 2, hq =>
      obtain ⟨⟨r, u, e1, ⟨e2, e3⟩, e4⟩, hF⟩ := hq
      exact ⟨⟨r, _, e1, ⟨e2, (hU u e3).1⟩, keep st t u hp e3 e4 hF⟩, hFF hF⟩
    | k + 3, hq =>
      obtain ⟨⟨r, u, e1, ⟨e2, e3⟩, e4⟩, hF⟩ := hq
      exact ⟨⟨r, _, e1, ⟨e2, (hU u e3).1⟩, keep st t u hp e3 e4 hF⟩, hFF hF⟩
/-- the callee's world lies in front -/
def zFL (G0 : zG) : zG := fun as ws K => ∃ wl wr : zW, ws = wl ++ wr ∧ G0 as wl (fun rv wl' => K rv (wl' ++ wr))
/-- the callee's world lies behind n cells -/
def zFB (n : Nat) (G0 : zG) : zG := fun as ws K => ∃ (wl wr : zW) (al : List Value), wl.length = n ∧ ws = wl ++ wr.map (zrc (fun i => i + n)) ∧ as = al.map (zv (fun i => i + n)) ∧ G0 al wr (fun rv wr' => K (rv.map (zv (fun i => i + n))) (wl ++ wr'.map (zrc (fun i => i + n))))
theorem zFL_met {l : Launch} {y : MethodName} {Tw : List Jvm.Cond} {rm : Room} {rt : Nat} {G0 : zG} (hG : ∀ as ws K, G0 as ws K → zMet l y Tw rm rt as ws K) : ∀ as ws K, zFL G0 as ws K → zMet l y Tw rm rt as ws K := by
  rintro as ws K ⟨wl, wr, rfl, h⟩
  have h1 := hG _ _ _ h
  have e1 : (fun (rv : Option Value) (wl' : zW) => K rv (wl' ++ wr)) = (fun rv wl' => K (rv.map (zv (fun i => i))) ((fun w : zW => w ++ wr) wl')) := by
    funext rv wl'
    rw [show (zv (fun i => i)) = id from funext zv_id, Option.map_id]
    rfl
  rw [e1] at h1
  refine zMet_gen h1 (by rw [show (zv (fun i => i)) = id from funext zv_id, List.map_id]) (fun i j _ _ h => h) (fun i c hi => ?_) (fun wl' hl => ⟨by simp [hl], fun k c hk => ?_⟩)
  · rw [zrc_id, List.getElem?_append_left (List.getElem?_eq_some_iff.mp hi).1]
    exact hi
  · rcases Nat.lt_or_ge k wl'.length with q | q
    · have hk : (wl' ++ wr)[k]? = some c := hk
      rw [List.getElem?_append_left q] at hk
      exact Or.inl ⟨k, c, rfl, hk, (zrc_id c).symm⟩
    · have hk : (wl' ++ wr)[k]? = some c := hk
      rw [List.getElem?_append_right q] at hk
      refine Or.inr ⟨?_, fun i hi e => ?_⟩
      · rw [List.getElem?_append_right (by omega), ← hl]
        exact hk
      · have e : i = k := e
        omega
theorem zFB_met {l : Launch} {y : MethodName} {Tw : List Jvm.Cond} {rm : Room} {rt n : Nat} {G0 : zG} (hG : ∀ as ws K, G0 as ws K → zMet l y Tw rm rt as ws K) : ∀ as ws K, zFB n G0 as ws K → zMet l y Tw rm rt as ws K := by
  rintro as ws K ⟨wl, wr, al, hn, rfl, rfl, h⟩
  have h1 := hG _ _ _ h
  refine zMet_gen (r := fun i => i + n) (U := fun wr' : zW => wl ++ wr'.map (zrc (fun i => i + n))) h1 rfl (fun i j _ _ h => by have h : i + n = j + n := h; omega) (fun i c hi => ?_) (fun wl' hl => ⟨by simp [hl], fun k c hk => ?_⟩)
  · show (wl ++ wr.map (zrc (fun i => i + n)))[i + n]? = _
    rw [List.getElem?_append_right (by omega), hn, Nat.add_sub_cancel, List.getElem?_map, hi]
    rfl
  · have hk : (wl ++ wl'.map (zrc (fun i => i + n)))[k]? = some c := hk
    rcases Nat.lt_or_ge k wl.length with q | q
    · rw [List.getElem?_append_left q] at hk
      refine Or.inr ⟨?_, fun i hi e => ?_⟩
      · rw [List.getElem?_append_left q]
        exact hk
      · have e : i + n = k := e
        omega
    · rw [List.getElem?_append_right q, List.getElem?_map] at hk
      cases h2 : wl'[k - wl.length]? with
      | none => rw [h2] at hk; cases hk
      | some d =>
        rw [h2] at hk
        exact Or.inl ⟨k - wl.length, d, by show k = k - wl.length + n; omega, h2, (Option.some.inj hk).symm⟩
theorem zON_perm {p : Program} {l : Launch} {e : Env} {R : Room} {s : State} {m : MethodId} {args : Array Value} {below : List Frame} {meth : Method} {c : Code} {Q : State → Prop} {nL : Nat} {D : va_G} {cy : Nat → ClassId} {ad0 : Nat → Nat} {A : Nat → Prop} {cap : Nat} {pc : Nat} {ls : List (Option Value)} {π : Nat → Nat} {n : Nat} {wl wl2 wr : zW} (hn : wl.length = n) (hn2 : wl2.length = n) (hn3 : n < 1000) (hinj : ∀ i j, i < n → j < n → π i = π j → i = j) (hfix : ∀ i, n ≤ i → π i = i) (hw : ∀ (i : Nat) (c : zCell), wl2[i]? = some c → π i < n ∧ wl[π i]? = some (zrc π c)) (hls : ∀ v, some v ∈ ls → zv π v = v) (h : zON p l e R s m args below meth c nL D cy ad0 A 0 cap Q pc ls [] (wl2 ++ wr.map (zrc (fun i => i + n)))) : zON p l e R s m args below meth c nL D cy ad0 A 0 cap Q pc ls [] (wl ++ wr.map (zrc (fun i => i + n))) := by
  intro ad H locs lsC hP hD hS hlen had hl
  have hlen2 : (wl2 ++ wr.map (zrc (fun i => i + n))).length = (wl ++ wr.map (zrc (fun i => i + n))).length := by rw [List.length_append, List.length_append, hn, hn2]
  have hcase : ∀ (k : Nat) (d : zCell), (wl2 ++ wr.map (zrc (fun i => i + n)))[k]? = some d → (wl ++ wr.map (zrc (fun i => i + n)))[π k]? = some (zrc π d) ∧ (k < n → π k < n) := by
    intro k d hk
    rcases Nat.lt_or_ge k n with q | q
    · rw [List.getElem?_append_left (by omega)] at hk
      obtain ⟨g1, g2⟩ := hw k d hk
      rw [List.getElem?_append_left (by omega)]
      exact ⟨g2, fun _ => g1⟩
    · rw [List.getElem?_append_right (by omega), List.getElem?_map] at hk
      rw [hfix k q, List.getElem?_append_right (by omega), List.getElem?_map]
      rw [hn2] at hk
      rw [hn]
      cases h2 : wr[k - n]? with
      | none => rw [h2] at hk; cases hk
      | some d0 =>
        rw [h2] at hk
        have hk := Option.some.inj hk
        rw [← hk, zrc_zrc, show (fun i => π (i + n)) = (fun i => i + n) from funext (fun i => hfix _ (by omega))]
        exact ⟨rfl, fun w => by omega⟩
  have := h (fun i => ad (π i)) H locs lsC (fun k q hk => ?_) ⟨fun i j x y hi hj hxy => ?_, fun k q hk => ?_⟩ hS (by rw [hlen2]; exact hlen) (fun k hk => by
      show ad (π k) = ad0 k
      rw [hfix k (by omega)]
      exact had k hk) ⟨hl.1, hl.2.1, hl.2.2.1, fun i v hi hc => ?_⟩
  · rw [hlen2] at this
    exact this
  · obtain ⟨d, hd, rfl⟩ := zws_inv hk
    have := hP _ _ (zws_get (cy := cy) (ad := ad) (hcase k d hd).1)
    rw [zc_ren] at this
    exact this
  · obtain ⟨d1, hd1, rfl⟩ := zws_inv hi
    obtain ⟨d2, hd2, rfl⟩ := zws_inv hj
    have e9 := hD.1 _ _ _ _ (zws_get (cy := cy) (ad := ad) (hcase i d1 hd1).1) (zws_get (cy := cy) (ad := ad) (hcase j d2 hd2).1) hxy
    rcases Nat.lt_or_ge i n with q1 | q1
    · rcases Nat.lt_or_ge j n with q2 | q2
      · exact hinj i j q1 q2 e9
      · have := (hcase i d1 hd1).2 q1
        rw [hfix j q2] at e9
        omega
    · rcases Nat.lt_or_ge j n with q2 | q2
      · have := (hcase j d2 hd2).2 q2
        rw [hfix i q1] at e9
        omega
      · rw [hfix i q1, hfix j q2] at e9
        exact e9
  · obtain ⟨d, hd, rfl⟩ := zws_inv hk
    have := hD.2 _ _ (zws_get (cy := cy) (ad := ad) (hcase k d hd).1)
    exact this
  · have e9 := hls v (List.mem_of_getElem? hi)
    have := hl.2.2.2 i v hi hc
    rw [← zv_zv ad π v, e9]
    exact this
/-- a permutation of places, as a list -/
def zpm (l : List Nat) : Nat → Nat := fun i => (l[i]?).getD i
theorem zpm_ge {l : List Nat} {i : Nat} (h : l.length ≤ i) : zpm l i = i := by
  unfold zpm
  rw [List.getElem?_eq_none h]
  rfl
theorem zpm_inj {l : List Nat} (h : va_nd l = true) {i j : Nat} (hi : i < l.length) (hj : j < l.length) (e : zpm l i = zpm l j) : i = j := by
  unfold zpm at e
  rw [List.getElem?_eq_getElem hi, List.getElem?_eq_getElem hj] at e
  have e : l[i] = l[j] := e
  exact va_nd_inj _ h i j l[i] (List.getElem?_eq_getElem hi) (by rw [e]; exact List.getElem?_eq_getElem hj)
theorem zpm_w {l : List Nat} {wl wl2 : zW} (hl : l.all (fun k => Nat.blt k l.length) = true) (h2 : wl2.length = l.length) (h : wl2.map (fun c => some (zrc (zpm l) c)) = l.map (fun k => wl[k]?)) : ∀ (i : Nat) (c : zCell), wl2[i]? = some c → zpm l i < l.length ∧ wl[zpm l i]? = some (zrc (zpm l) c) := by
  intro i c hi
  have hlt : i < l.length := by have := (List.getElem?_eq_some_iff.mp hi).1; omega
  have e : zpm l i = l[i] := by unfold zpm; rw [List.getElem?_eq_getElem hlt]; rfl
  have h3 := congrArg (fun l => l[i]?) h
  simp only [List.getElem?_map, hi, List.getElem?_eq_getElem hlt, Option.map_some] at h3
  rw [e]
  have h4 := List.all_eq_true.mp hl l[i] (List.getElem_mem hlt)
  exact ⟨by simpa using h4, (Option.some.inj h3).symm⟩
