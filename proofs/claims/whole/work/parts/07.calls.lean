/-! ===== a callee's own small world inside the caller's: place i of the one is place ρ[i] of the other ===== -/
def zr (ρ : List Nat) : Nat → Nat := fun i => ρ.getD i 0
def zrc (r : Nat → Nat) (c : zCell) : zCell := match c with
  | .inl a => .inl a
  | .inr (.inl a) => .inr (.inl (a.1, a.2.map (Option.map r)))
  | .inr (.inr o) => .inr (.inr (o.1, o.2.map (zv r)))
def zup (r : Nat → Nat) : List Nat → zW → zW → zW
  | k :: ks, c :: cs, ws => zup r ks cs (ws.set k (zrc r c))
  | _, _, ws => ws
theorem zv_zv (ad r : Nat → Nat) (v : Value) : zv ad (zv r v) = zv (fun i => ad (r i)) v := by cases v <;> rfl
theorem zc_ren (cy : Nat → ClassId) (ad r : Nat → Nat) (c : zCell) : zc cy ad (zrc r c) = zc cy (fun i => ad (r i)) c := by
  rcases c with a | a | o
  · rfl
  · have e : (fun i : Nat => ((((a.2.map (Option.map r))[i]?).getD none).map ad)) = (fun i : Nat => (((a.2[i]?).getD none).map (fun i => ad (r i)))) := by
      funext i
      rw [List.getElem?_map]
      cases h : a.2[i]? with
      | none => rfl
      | some x => cases x <;> rfl
    show Sum.inl (cy a.1, (a.2.map (Option.map r)).length, _) = Sum.inl (cy a.1, a.2.length, _)
    rw [List.length_map]
    congr 5
    simp only [e]
  · show Sum.inr (o.1, (o.2.map (zv r)).map (zv ad)) = Sum.inr (o.1, o.2.map (zv (fun i => ad (r i))))
    rw [List.map_map]
    congr 2
    apply List.map_congr_left
    intro v _
    exact zv_zv ad r v
theorem zup_len (r : Nat → Nat) : ∀ (ks : List Nat) (cs ws : zW), (zup r ks cs ws).length = ws.length
  | [], cs, ws => by cases cs <;> rfl
  | k :: ks, [], ws => rfl
  | k :: ks, c :: cs, ws => by
    show (zup r ks cs (ws.set k (zrc r c))).length = ws.length
    rw [zup_len r ks cs, List.length_set]
theorem zup_inv (r : Nat → Nat) : ∀ (ks : List Nat) (cs ws : zW) (k : Nat) (c : zCell), (zup r ks cs ws)[k]? = some c → (∃ (i : Nat) (c' : zCell), ks[i]? = some k ∧ cs[i]? = some c' ∧ c = zrc r c') ∨ (ws[k]? = some c ∧ ∀ i : Nat, i < cs.length → ks[i]? ≠ some k)
  | [], cs, ws, k, c, h => by
    right
    have h : ws[k]? = some c := by cases cs <;> exact h
    exact ⟨h, fun i _ => by simp⟩
  | k0 :: ks, [], ws, k, c, h => Or.inr ⟨h, fun i hi => absurd hi (Nat.not_lt_zero i)⟩
  | k0 :: ks, c0 :: cs, ws, k, c, h => by
    have h : (zup r ks cs (ws.set k0 (zrc r c0)))[k]? = some c := h
    rcases zup_inv r ks cs _ k c h with ⟨i, c', h1, h2, h3⟩ | ⟨h1, h2⟩
    · exact Or.inl ⟨i + 1, c', by rw [List.getElem?_cons_succ]; exact h1, by rw [List.getElem?_cons_succ]; exact h2, h3⟩
    · rw [List.getElem?_set] at h1
      by_cases hk : k0 = k
      · subst hk
        rw [if_pos rfl] at h1
        split at h1
        · cases h1
          exact Or.inl ⟨0, c0, rfl, rfl, rfl⟩
        · cases h1
      · rw [if_neg hk] at h1
        refine Or.inr ⟨h1, fun i hi => ?_⟩
        cases i with
        | zero => intro q; exact hk (Option.some.inj q)
        | succ i =>
          rw [List.getElem?_cons_succ]
          exact h2 i (by rw [List.length_cons] at hi; omega)
def zFr (n : Nat) (G0 : zG) : zG := fun as ws K => (as.length = n ∧ as.all (fun v => Nat.beq v.category 1) = true ∧ G0 as ws K) ∨ ∃ (ρ : List Nat) (al : List Value) (wl : zW), (as = al.map (zv (zr ρ)) ∧ al.length = n ∧ al.all (fun v => Nat.beq v.category 1) = true) ∧ (wl.length ≤ ρ.length ∧ va_nd (ρ.take wl.length) = true) ∧ wl.map (fun c => some (zrc (zr ρ) c)) = (ρ.take wl.length).map (fun k => ws[k]?) ∧ G0 al wl (fun rv wl' => K (rv.map (zv (zr ρ))) (zup (zr ρ) ρ wl' ws))
def zFV (ci n : Nat) (G0 : zG) : zG := fun as ws K => (match as with
  | .ref k :: _ => match ws[k]? with
    | some (.inr (.inr (ci', _))) => Nat.beq ci' ci
    | _ => false
  | _ => false) = true ∧ zFr n G0 as ws K
set_option maxHeartbeats 4000000 in
theorem zMet_frame {l : Launch} {y : MethodName} {Tw : List Jvm.Cond} {rm : Room} {rt : Nat} {al as : List Value} {wl ws : zW} {ρ : List Nat} {K : zP} (h : zMet l y Tw rm rt al wl (fun rv wl' => K (rv.map (zv (zr ρ))) (zup (zr ρ) ρ wl' ws))) (ha : as = al.map (zv (zr ρ))) (hl : wl.length ≤ ρ.length) (hnd : va_nd (ρ.take wl.length) = true) (hw : wl.map (fun c => some (zrc (zr ρ) c)) = (ρ.take wl.length).map (fun k => ws[k]?)) : zMet l y Tw rm rt as ws K := by
  intro D cy ad sz
  have h1 := h D cy (fun i => ad (zr ρ i)) sz
  have hget : ∀ (i : Nat) (c : zCell), wl[i]? = some c → ρ[i]? = some (zr ρ i) ∧ ws[zr ρ i]? = some (zrc (zr ρ) c) := by
    intro i c hi
    have hlt : i < wl.length := (List.getElem?_eq_some_iff.mp hi).1
    have hlt2 : i < ρ.length := by omega
    have e1 : ρ[i]? = some ρ[i] := List.getElem?_eq_getElem hlt2
    have e2 : zr ρ i = ρ[i] := by unfold zr; rw [List.getD_eq_getElem?_getD, e1]; rfl
    refine ⟨by rw [e2]; exact e1, ?_⟩
    have h2 := congrArg (fun l => l[i]?) hw
    simp only [List.getElem?_map, hi, List.getElem?_take, hlt, if_pos, e1, Option.map_some] at h2
    rw [e2]
    exact (Option.some.inj h2).symm
  have hinj : ∀ i j : Nat, i < wl.length → j < wl.length → zr ρ i = zr ρ j → i = j := by
    intro i j hi hj hij
    have gi := (hget i _ (List.getElem?_eq_getElem hi)).1
    have gj := (hget j _ (List.getElem?_eq_getElem hj)).1
    rw [hij] at gi
    have ti : (ρ.take wl.length)[i]? = some (zr ρ j) := by rw [List.getElem?_take, if_pos hi]; exact gi
    have tj : (ρ.take wl.length)[j]? = some (zr ρ j) := by rw [List.getElem?_take, if_pos hj]; exact gj
    exact va_nd_inj _ hnd i j _ ti tj
  have hAA : ∀ q, va_A (zws cy (fun i => ad (zr ρ i)) wl) sz q → va_A (zws cy ad ws) sz q := by
    intro q hq
    rcases hq with ⟨i, x, hi⟩ | hq
    · obtain ⟨c, hc, hx⟩ := zws_inv hi
      cases hx
      exact Or.inl ⟨zr ρ i, _, zws_get (hget i c hc).2⟩
    · exact Or.inr hq
  have keep : ∀ (st t : State) (u : zW), zPre D cy ad sz as ws (as.map (zv ad)).toArray st → u.length = wl.length → va_P D vwCl (zws cy (fun i => ad (zr ρ i)) u) t.heap → va_F (va_A (zws cy (fun i => ad (zr ρ i)) wl) sz) st t → va_P D vwCl (zws cy ad (zup (zr ρ) ρ u ws)) t.heap := by
    intro st t u hpre hul hB hF k q hk
    obtain ⟨-, hsz, hP, -, hD⟩ := hpre
    obtain ⟨c, hc, rfl⟩ := zws_inv hk
    rcases zup_inv _ _ _ _ k c hc with ⟨i, c', g1, g2, rfl⟩ | ⟨g1, g2⟩
    · have hb := hB i _ (zws_get g2)
      have e : zr ρ i = k := by unfold zr; rw [List.getD_eq_getElem?_getD, g1]; rfl
      rw [zc_ren]
      rw [← e]
      exact hb
    · have hat := hP k _ (zws_get g1)
      refine hat.kept (hF.2 (ad k) hat.lt (fun hq => ?_))
      rcases hq with ⟨i, x, hi⟩ | hq
      · obtain ⟨c2, hc2, hx⟩ := zws_inv hi
        have hx1 : ad k = ad (zr ρ i) := congrArg Prod.fst hx
        obtain ⟨r1, r2⟩ := hget i c2 hc2
        have := hD.1 k (zr ρ i) _ _ (zws_get g1) (zws_get r2) hx1
        exact g2 i (by rw [hul]; exact (List.getElem?_eq_some_iff.mp hc2).1) (by rw [this]; exact r1)
      · have := hat.lt
        simp only at this
        omega
  refine MetFree.mono h1 ?_ (fun _ _ _ _ _ h => h) ?_
  · intro a s hp
    obtain ⟨rfl, hsz, hP, hKK, hD⟩ := hp
    refine ⟨?_, hsz, ?_, hKK, ?_, fun _ _ _ => trivial⟩
    · rw [ha, List.map_map]
      congr 1
      apply List.map_congr_left
      intro v _
      exact zv_zv ad (zr ρ) v
    · intro i q hi
      obtain ⟨c, hc, rfl⟩ := zws_inv hi
      have := hP _ _ (zws_get (cy := cy) (ad := ad) (hget i c hc).2)
      rw [zc_ren] at this
      exact this
    · intro i j x y hi hj hxy
      obtain ⟨c, hc, rfl⟩ := zws_inv hi
      obtain ⟨d, hd, rfl⟩ := zws_inv hj
      exact hinj i j (List.getElem?_eq_some_iff.mp hc).1 (List.getElem?_eq_some_iff.mp hd).1 (hD.1 _ _ _ _ (zws_get (cy := cy) (ad := ad) (hget i c hc).2) (zws_get (cy := cy) (ad := ad) (hget j d hd).2) hxy)
  · intro a st o t hp hq
    have hp0 := hp
    obtain ⟨rfl, -⟩ := hp0
    obtain ⟨hq, L, hL1, hL2⟩ := hq
    refine ⟨?_, L, hL1, fun q hq => hAA _ (hL2 q hq)⟩
    have hFF : ∀ {st t : State}, va_F (va_A (zws cy (fun i => ad (zr ρ i)) wl) sz) st t → va_F (va_A (zws cy ad ws) sz) st t := fun h => ⟨h.1, fun q h1 h2 => h.2 q h1 (fun z => h2 (hAA q z))⟩
    match rt, hq with
    | 0, hq =>
      obtain ⟨⟨u, e1, ⟨e2, e3⟩, e4⟩, hF⟩ := hq
      exact ⟨⟨_, e1, ⟨e2, zup_len _ _ _ _⟩, keep st t u hp e3 e4 hF⟩, hFF hF⟩
    | 1, hq =>
      obtain ⟨⟨r, u, e1, ⟨e2, e3⟩, e4⟩, hF⟩ := hq
      exact ⟨⟨r, _, e1, ⟨e2, zup_len _ _ _ _⟩, keep st t u hp e3 e4 hF⟩, hFF hF⟩
    | 2, hq =>
      obtain ⟨⟨r, u, e1, ⟨e2, e3⟩, e4⟩, hF⟩ := hq
      exact ⟨⟨r, _, e1, ⟨e2, zup_len _ _ _ _⟩, keep st t u hp e3 e4 hF⟩, hFF hF⟩
    | k + 3, hq =>
      obtain ⟨⟨r, u, e1, ⟨e2, e3⟩, e4⟩, hF⟩ := hq
      exact ⟨⟨r, _, e1, ⟨e2, zup_len _ _ _ _⟩, keep st t u hp e3 e4 hF⟩, hFF hF⟩
/-- a method's soundness, framed -/
theorem zFr_met {l : Launch} {y : MethodName} {M : zM} {cc : ByteArray} {nL rt n : Nat} {rm : Room} (hy : plainName y.cls = true) (hrm : 1 ≤ rm.frames ∧ 150 ≤ rm.locals) (hrt : rt < 4) (hg : zGood M cc y.cls (zwd y cc nL (zret rt))) (hcalls : zCalls M l cc y.cls (zwd y cc nL (zret rt)) rm nL) (hn : n ≤ nL) : ∀ (as : List Value) (ws : zW) (K : zP), zFr n (zGoes M rt nL) as ws K → zMet l y (zwd y cc nL (zret rt)) rm rt as ws K := by
  rintro as ws K (⟨h1, h3, h7⟩ | ⟨ρ, al, wl, ⟨h1, h2, h3⟩, ⟨h4, h5⟩, h6, h7⟩)
  · exact zGoes_met hy hrm hrt hg hcalls (by omega) (fun v hv => Nat.eq_of_beq_eq_true (List.all_eq_true.mp h3 v hv)) h7
  exact zMet_frame (zGoes_met hy hrm hrt hg hcalls (by omega) (fun v hv => Nat.eq_of_beq_eq_true (List.all_eq_true.mp h3 v hv)) h7) h1 h4 h5 h6
section ZC
variable {p : Program} {l : Launch} {e : Env} {R : Room} {s : State} {m : MethodId} {args : Array Value} {below : List Frame} {meth : Method} {c : Code} {cells slots : Nat} {Q : State → Prop} {cc : ByteArray} {own : String} {Ts : List Jvm.Cond} {nL : Nat} {D : va_G} {cy : Nat → ClassId} {ad : Nat → Nat} {A : Nat → Prop} {n0 : Nat}
variable {y : MethodName} {bytes : ByteArray} {maxL rt n ix : Nat} {rmc : Room} {C : String}
theorem zpre_at {H : Heap} {as : List Value} {ws : zW} (hKK : zKK D cy s) (hP : va_P D vwCl (zws cy ad ws) H) (hD : va_D A (zws cy ad ws)) : ∀ U : State, U.heap = H → s.WarmedH U.vm → zPre D cy ad H.size as ws (as.map (zv ad)).toArray U := fun U hU hW => ⟨rfl, by rw [hU], by rw [hU]; exact hP, hKK.warm hW, hD.1, fun _ _ _ => trivial⟩
theorem zAA {H : Heap} {locs : List Loc} {ws : zW} (hD : va_D A (zws cy ad ws)) (hS : va_S A s.heap H locs) (hA : ∀ q, s.heap.size ≤ q → A q) : ∀ q, va_A (zws cy ad ws) H.size q → A q := by
  intro q h
  rcases h with ⟨k, e, h⟩ | h
  · exact hD.2 k (q, e) h
  · exact hA q (Nat.le_trans hS.1 h)
theorem zco_run {H : Heap} {locs : List Loc} {ws : zW} {rest : List Value} {st0 : List Value} {a : Array Value} {pc : Nat} {lsC : Array Slot} {K : zP} (hD : va_D A (zws cy ad ws)) (hS : va_S A s.heap H locs) (hA : ∀ q, s.heap.size ≤ q → A q) (hn0 : ws.length = n0) (hrun : va_Run p l e R s m args below meth c H locs cells slots 0 0 (F0 m pc lsC st0) rest (zQ rt D cy ad H.size ws K a) (va_A (zws cy ad ws) H.size))
    (hk : ∀ (rv : Option Value) (ws' : zW) (H1 : Heap) (locs1 : List Loc), rv.toList.map (zv ad) = rv.toList → K rv ws' → va_P D vwCl (zws cy ad ws') H1 → va_D A (zws cy ad ws') → va_S A s.heap H1 locs1 → ws'.length = n0 → W p l e R s m args below meth c H1 locs1 cells slots Q (F0 m (pc + 3) lsC (rv.toList ++ rest))) : W p l e R s m args below meth c H locs cells slots Q (F0 m pc lsC st0) := by
  have hf := zAA (s := s) hD hS hA
  match rt, hrun with
  | 0, hrun => exact va_callv (a := a) hrun hS (fun q _ h => hf q h) hf (fun u t H1 locs1 ht hvm hp hB hz hkk hS1 => hk none u H1 locs1 rfl hp.1 (by rw [← ht]; exact hB) (zD_len hD hp.2) hS1 (hp.2.trans hn0))
  | 1, hrun => exact va_calli (a := a) hrun hS (fun q _ h => hf q h) hf (fun r u t H1 locs1 ht hvm hp hB hz hkk hS1 => hk (some (.int r)) u H1 locs1 rfl hp.1 (by rw [← ht]; exact hB) (zD_len hD hp.2) hS1 (hp.2.trans hn0))
  | 2, hrun => exact va_calll (a := a) hrun hS (fun q _ h => hf q h) hf (fun r u t H1 locs1 ht hvm hp hB hz hkk hS1 => hk (some (.long r)) u H1 locs1 rfl hp.1 (by rw [← ht]; exact hB) (zD_len hD hp.2) hS1 (hp.2.trans hn0))
  | k + 3, hrun => exact va_calli (a := a) hrun hS (fun q _ h => hf q h) hf (fun r u t H1 locs1 ht hvm hp hB hz hkk hS1 => hk (some (.int r)) u H1 locs1 rfl hp.1 (by rw [← ht]; exact hB) (zD_len hD hp.2) hS1 (hp.2.trans hn0))
theorem zco_V {ci : Nat} {q : vw_C} {G : zG} (S : CallFix p m c cc nL s args Ts own) (hKK : zKK D cy s) (hA : ∀ q, s.heap.size ≤ q → A q) (hcs : cells ≤ R.cells ∧ slots ≤ R.slots) (cw : CallW R s args own C ix y bytes maxL (zret rt) (zwd y bytes maxL (zret rt)) rmc 0 0 n) (hq : vwCl[ci]? = some q) (hC : q.1 = C) (hG : ∀ as ws K, G as ws K → zMet l y (zwd y bytes maxL (zret rt)) rmc rt as ws K) :
    zCO p l e R s m args below meth c cc nL D cy ad A n0 cells slots Q (.invokevirtual ix) (n + 1) (fun as ws K => (match as with
  | .ref k :: _ => match ws[k]? with
    | some (.inr (.inr (ci', _))) => Nat.beq ci' ci
    | _ => false
  | _ => false) = true ∧ G as ws K) := by
  intro as rest ws K hlen hcat hGG pc H locs lsC hd hP hD hS hn0 hsz hk
  obtain ⟨hrc, hGG⟩ := hGG
  split at hrc
  · rename_i k r
    split at hrc
    · rename_i ci' fs hws
      have hrc := Nat.eq_of_beq_eq_true hrc
      subst hrc
      have hrecv := va_recv hKK.1 hP hq (zws_get hws)
      rw [hC] at hrecv
      have hM := hG _ _ _ hGG D cy ad H.size
      refine zco_run (st0 := ((Value.ref k :: r).reverse ++ rest).map (zv ad)) (rest := rest.map (zv ad)) (K := K) hD hS hA hn0 (va_runV (As := r.map (zv ad)) (b := ad k) S hM cw ⟨zPre_blind, hrecv, zpre_at hKK hP hD⟩ rfl (by rw [List.length_map]; rw [List.length_cons] at hlen; omega) hsz ?_ ?_ hd ⟨hcs.1, hcs.2⟩) ?_
      · show ((Value.ref k :: r).reverse ++ rest).map (zv ad) = _
        rw [List.reverse_cons, List.map_append, List.map_append, List.map_reverse, List.append_assoc]
        rfl
      · show 2 * 0 + _ ≤ 8
        rw [zcat_map]
        omega
      · intro rv ws' H1 locs1 e hk1 p1 d1 s1 n1
        have := hk rv ws' H1 locs1 hk1 p1 d1 s1 n1
        rw [List.map_append, e] at this
        exact this
    · cases hrc
  · cases hrc
theorem zco_S {G : zG} (S : CallFix p m c cc nL s args Ts own) (hKK : zKK D cy s) (hA : ∀ q, s.heap.size ≤ q → A q) (hcs : cells ≤ R.cells ∧ slots ≤ R.slots) (cw : CallB R s args own ix y bytes maxL (zret rt) (zwd y bytes maxL (zret rt)) rmc 0 0 n ∧ (Cond.static y).before args s = true) (hG : ∀ as ws K, G as ws K → zMet l y (zwd y bytes maxL (zret rt)) rmc rt as ws K) :
    zCO p l e R s m args below meth c cc nL D cy ad A n0 cells slots Q (.invokestatic ix) n G := by
  intro as rest ws K hlen hcat hGG pc H locs lsC hd hP hD hS hn0 hsz hk
  have hM := hG _ _ _ hGG D cy ad H.size
  refine zco_run (st0 := (as.reverse ++ rest).map (zv ad)) (rest := rest.map (zv ad)) (K := K) hD hS hA hn0 (va_runS (As := as.map (zv ad)) S hM cw ⟨zPre_blind, zpre_at hKK hP hD⟩ rfl (by rw [List.length_map]; exact hlen) hsz ?_ ?_ hd ⟨hcs.1, hcs.2⟩) ?_
  · show (as.reverse ++ rest).map (zv ad) = _
    rw [List.map_append, List.map_reverse]
  · show 2 * 0 + _ ≤ 8
    rw [zcat_map]
    omega
  · intro rv ws' H1 locs1 e hk1 p1 d1 s1 n1
    have := hk rv ws' H1 locs1 hk1 p1 d1 s1 n1
    rw [List.map_append, e] at this
    exact this
theorem zco_N {G : zG} {host : String} (S : CallFix p m c cc nL s args Ts own) (hKK : zKK D cy s) (hA : ∀ q, s.heap.size ≤ q → A q) (hcs : cells ≤ R.cells ∧ slots ≤ R.slots) (cw : va_CN R s args own ix y host bytes maxL (zret rt) (zwd y bytes maxL (zret rt)) rmc 0 0 n ∧ (Cond.static y).before args s = true ∧ True) (hG : ∀ as ws K, G as ws K → zMet l y (zwd y bytes maxL (zret rt)) rmc rt as ws K) :
    zCO p l e R s m args below meth c cc nL D cy ad A n0 cells slots Q (.invokestatic ix) n G := by
  intro as rest ws K hlen hcat hGG pc H locs lsC hd hP hD hS hn0 hsz hk
  have hM := hG _ _ _ hGG D cy ad H.size
  refine zco_run (st0 := (as.reverse ++ rest).map (zv ad)) (rest := rest.map (zv ad)) (K := K) hD hS hA hn0 (va_runSN (As := as.map (zv ad)) S hM cw ⟨zPre_blind, zpre_at hKK hP hD⟩ rfl (by rw [List.length_map]; exact hlen) hsz ?_ ?_ hd ⟨hcs.1, hcs.2⟩) ?_
  · show (as.reverse ++ rest).map (zv ad) = _
    rw [List.map_append, List.map_reverse]
  · show 2 * 0 + _ ≤ 8
    rw [zcat_map]
    omega
  · intro rv ws' H1 locs1 e hk1 p1 d1 s1 n1
    have := hk rv ws' H1 locs1 hk1 p1 d1 s1 n1
    rw [List.map_append, e] at this
    exact this
end ZC
theorem zlookup {β : Type} {P : Nat → β → Prop} : ∀ {L : List (Nat × β)}, (∀ q ∈ L, P q.1 q.2) → ∀ (ix : Nat) (b : β), L.lookup ix = some b → P ix b
  | [], _, ix, b, h => by cases h
  | (k, v) :: L, hL, ix, b, h => by
    rw [List.lookup_cons] at h
    split at h
    · rename_i he
      cases h
      have he : ix = k := by simpa using he
      subst he
      exact hL (ix, v) List.mem_cons_self
    · exact zlookup (fun q hq => hL q (List.mem_cons_of_mem _ hq)) ix b h
def zchkL (cc : ByteArray) : Nat → List (Option zI) → Bool
  | _, [] => true
  | n, none :: r => zchkL cc (n + 1) r
  | n, some x :: r => zchk cc n x && zchkL cc (n + 1) r
theorem zchkL_at {cc : ByteArray} : ∀ {L : List (Option zI)} {n : Nat}, zchkL cc n L = true → ∀ (i : Nat) (x : zI), L[i]? = some (some x) → zchk cc (n + i) x = true
  | [], n, _, i, x, h => by simp at h
  | none :: r, n, hL, i, x, h => by
    cases i with
    | zero => cases h
    | succ i =>
      rw [List.getElem?_cons_succ] at h
      have := zchkL_at (L := r) (n := n + 1) hL i x h
      rw [show n + (i + 1) = n + 1 + i by omega]
      exact this
  | some y :: r, n, hL, i, x, h => by
    simp only [zchkL, Bool.and_eq_true] at hL
    cases i with
    | zero => cases h; exact hL.1
    | succ i =>
      rw [List.getElem?_cons_succ] at h
      have := zchkL_at (L := r) (n := n + 1) hL.2 i x h
      rw [show n + (i + 1) = n + 1 + i by omega]
      exact this
