
/-! the reference's rank -/
theorem cC {a p : Nat} {A : Int32} (hA : A = nI a) (h : a + p < 1000) : (A + nI p).toNatClampNeg = a + p := cA hA h
section MD
variable {tr : Int64} {tx : Nat → Int32} {ty n : Nat} {m1 : Int32} {lg ht la : Nat → Int32} {at_ st_ so_ va_ fa_ to_ : Int32} {nw ik td th : Nat → Int32} {ba bp br : Int32} {sa sb sc : Nat → Int32} {z : Nat}
variable {K : zP} {post : zP}

variable {tb : Nat → Nat} {N : Nat}
set_option maxRecDepth 100000 in
set_option maxHeartbeats 4000000 in
theorem u_rowM (hN : ty ≤ 120) (htx : ∀ j, j < ty → tx j = (nI (tb j)).toInt8.toInt32 ∧ tb j < 256) (s : Nat) (hs : s ≤ ty) (va : Int32) (hva : mVa tb ty s va) (k : Nat) (hk : k < 7) (h1 : ∀ v1 v2, pNum (pT tb ty s) (pV tb ty s) 1 60 = some v1 → pNum (pT tb ty (pSk tb ty (pEn tb ty s))) (pV tb ty (pSk tb ty (pEn tb ty s))) 1 99 = some v2 → ∀ va', mVa tb ty (pSk tb ty (pEn tb ty (pSk tb ty (pEn tb ty s)))) va' → K none (wD tr tx ty n (nI (k + 1)) (upd lg (7 + k) (nI v1)) (upd ht (7 + k) (nI v2)) la (nI (pEn tb ty (pSk tb ty (pEn tb ty (pSk tb ty (pEn tb ty s)))))) (nI (pSk tb ty (pEn tb ty (pSk tb ty (pEn tb ty s))))) (mSo (pT tb ty (pSk tb ty (pEn tb ty (pSk tb ty (pEn tb ty s))))) (pV tb ty (pSk tb ty (pEn tb ty (pSk tb ty (pEn tb ty s)))))) va' (-1009) to_ nw ik td th ba bp br sa sb sc z)) (h0 : pNum (pT tb ty s) (pV tb ty s) 1 60 = none → ∀ at' st' so' va' m1' lg' ht', (∀ j, j < 7 → lg' j = lg j ∧ ht' j = ht j) → K none (wD tr tx ty n m1' lg' ht' la at' st' so' va' (nI s) to_ nw ik td th ba bp br sa sb sc z)) (h2 : ∀ v1, pNum (pT tb ty s) (pV tb ty s) 1 60 = some v1 → pNum (pT tb ty (pSk tb ty (pEn tb ty s))) (pV tb ty (pSk tb ty (pEn tb ty s))) 1 99 = none → ∀ at' st' so' va' m1' lg' ht', (∀ j, j < 7 → lg' j = lg j ∧ ht' j = ht j) → K none (wD tr tx ty n m1' lg' ht' la at' st' so' va' (nI (pSk tb ty (pEn tb ty s))) to_ nw ik td th ba bp br sa sb sc z)) : zFV 8 2 (zGoes mX8_readRow 0 3) [.ref 0, .int 109] (wD tr tx ty n (nI k) lg ht la (nI (pEn tb ty (s))) (nI (s)) (mSo (pT tb ty (s)) (pV tb ty (s))) va (-1009) to_ nw ik td th ba bp br sa sb sc z) K := by
  refine And.intro rfl (Or.inl ⟨rfl, rfl, ?_⟩)
  intro Z hZ
  have hs2 : pSk tb ty (pEn tb ty s) ≤ ty := (pSk_in (pEn_le hs)).2
  have ec : (7 + nI k).toNatClampNeg = 7 + k := cA a7 (by omega)
  have hm : ∀ (x y : Int32), upd (mnf n x) (1 : Int32).toNatClampNeg y = upd (mnf n x) 1 y := fun _ _ => rfl
  have fin : ∀ (at' st' so' va' fa' : Int32) (lg' ht' : Nat → Int32), K none (wD tr tx ty n (nI (k + 1)) lg' ht' la at' st' so' va' fa' to_ nw ik td th ba bp br sa sb sc z) → Z 48 [some (.ref 0), some (.int 109), none] [] (wD tr tx ty n (nI k) lg' ht' la at' st' so' va' fa' to_ nw ik td th ba bp br sa sb sc z) := by
    intro at' st' so' va' fa' lg' ht' hK
    have j58 : Z 58 [some (.ref 0), some (.int 109), none] [] (wD tr tx ty n (nI (k + 1)) lg' ht' la at' st' so' va' fa' to_ nw ik td th ba bp br sa sb sc z) := hZ.1 [] 40 _ _ _ _ hK
    refine hZ.1 [58] 40 _ _ _ _ (And.intro (vpd (by decide)) (And.intro (vpd (by decide)) (hZ.2 _ _ _ _ (wD tr tx ty n (nI (k + 1)) lg' ht' la at' st' so' va' fa' to_ nw ik td th ba bp br sa sb sc z) ?_ j58)))
    refine ⟨zEqC_r _, zEqC_r _, zEqC_i (fun j hj => ?_), zEqC_r _, zEqC_r _, zEqC_r _, zEqC_r _, zEqC_r _, zEqC_r _, zEqC_r _, zEqC_r _, zEqC_r _, zEqC_r _, trivial⟩
    rcases (show j = 0 ∨ j = 1 by omega) with rfl | rfl
    · rfl
    · exact nI_1 k
  have hf : ∀ (g : Nat → Int32) (x : Int32) (j : Nat), j < 7 → upd g (7 + nI k).toNatClampNeg x j = g j := by
    intro g x j hj
    rw [ec, pk_un (by omega)]
  refine hZ.1 [48] 80 _ _ _ _ (And.intro (fun _ => And.intro (vpd (by decide)) ?_) (fun e => absurd rfl e))
  refine u_num hN htx s hs va hva 1 60 (by omega) (by omega) _ _ (by decide) (by decide) (fun v hv va' hv' => And.intro (vA a7 (by omega) (by omega)) (And.intro (vpd (by decide)) ?_)) (fun hv => And.intro (vA a7 (by omega) (by omega)) (And.intro (vpd (by decide)) ?_))
  · refine u_num hN htx (pSk tb ty (pEn tb ty s)) hs2 va' hv' 1 99 (by omega) (by omega) _ _ (by decide) (by decide) (fun v2 hv2 va2 hv2' => And.intro (vA a7 (by omega) (by omega)) ?_) (fun hv2 => And.intro (vA a7 (by omega) (by omega)) ?_)
    · have := fin _ _ _ _ _ _ _ (h1 v v2 hv hv2 va2 hv2')
      rw [← ec] at this
      exact this
    · exact fin _ _ _ _ _ _ _ (h2 v hv hv2 _ _ _ _ _ _ _ (fun j hj => ⟨hf _ _ j hj, hf _ _ j hj⟩))
  · refine u_numF (by omega) _ _ (And.intro (vA a7 (by omega) (by omega)) ?_)
    exact fin _ _ _ _ _ _ _ (h0 hv _ _ _ _ _ _ _ (fun j hj => ⟨hf _ _ j hj, hf _ _ j hj⟩))

set_option maxRecDepth 100000 in
set_option maxHeartbeats 4000000 in
theorem u_rowP (hN : ty ≤ 120) (htx : ∀ j, j < ty → tx j = (nI (tb j)).toInt8.toInt32 ∧ tb j < 256) (s : Nat) (hs : s ≤ ty) (va : Int32) (hva : mVa tb ty s va) (h1 : ∀ v, pNum (pT tb ty s) (pV tb ty s) 1 60 = some v → ∀ va', mVa tb ty (pSk tb ty (pEn tb ty s)) va' → K none (wD tr tx ty n m1 lg ht (upd la 3 (nI v)) (nI (pEn tb ty (pSk tb ty (pEn tb ty s)))) (nI (pSk tb ty (pEn tb ty s))) (mSo (pT tb ty (pSk tb ty (pEn tb ty s))) (pV tb ty (pSk tb ty (pEn tb ty s)))) va' (-1009) (to_ ||| ((1 : Int32) <<< ((0 : Int32) &&& 31))) nw ik td th ba bp br sa sb sc z)) (h0 : pNum (pT tb ty s) (pV tb ty s) 1 60 = none → ∀ la' to', K none (wD tr tx ty n m1 lg ht la' (nI (pEn tb ty (s))) (nI (s)) (mSo (pT tb ty (s)) (pV tb ty (s))) va (nI s) to' nw ik td th ba bp br sa sb sc z)) : zFV 8 2 (zGoes mX8_readRow 0 3) [.ref 0, .int 112] (wD tr tx ty n m1 lg ht la (nI (pEn tb ty (s))) (nI (s)) (mSo (pT tb ty (s)) (pV tb ty (s))) va (-1009) to_ nw ik td th ba bp br sa sb sc z) K := by
  refine And.intro rfl (Or.inl ⟨rfl, rfl, ?_⟩)
  intro Z hZ
  refine hZ.1 [] 60 _ _ _ _ (And.intro (fun c => absurd c (by decide)) (fun _ => u_lawOf _ (fun e => ?_) (fun e => absurd e (by decide)) (fun e => absurd e (by decide)) (fun e1 e2 e3 => absurd rfl e1)))
  refine And.intro (fun _ => ?_) (fun e => absurd rfl e)
  exact u_num hN htx s hs va hva 1 60 (by omega) (by omega) _ _ (by decide) (by decide) (fun v hv va' hv' => And.intro (vpd (by decide)) (h1 v hv va' hv')) (fun hv => And.intro (vpd (by decide)) (h0 hv _ _))

set_option maxRecDepth 100000 in
set_option maxHeartbeats 4000000 in
theorem u_rowE (hN : ty ≤ 120) (htx : ∀ j, j < ty → tx j = (nI (tb j)).toInt8.toInt32 ∧ tb j < 256) (s : Nat) (hs : s ≤ ty) (va : Int32) (hva : mVa tb ty s va) (h1 : ∀ v, pNum (pT tb ty s) (pV tb ty s) 0 10 = some v → ∀ va', mVa tb ty (pSk tb ty (pEn tb ty s)) va' → K none (wD tr tx ty n m1 lg ht (upd la 4 (nI v)) (nI (pEn tb ty (pSk tb ty (pEn tb ty s)))) (nI (pSk tb ty (pEn tb ty s))) (mSo (pT tb ty (pSk tb ty (pEn tb ty s))) (pV tb ty (pSk tb ty (pEn tb ty s)))) va' (-1009) (to_ ||| ((1 : Int32) <<< ((1 : Int32) &&& 31))) nw ik td th ba bp br sa sb sc z)) (h0 : pNum (pT tb ty s) (pV tb ty s) 0 10 = none → ∀ la' to', K none (wD tr tx ty n m1 lg ht la' (nI (pEn tb ty (s))) (nI (s)) (mSo (pT tb ty (s)) (pV tb ty (s))) va (nI s) to' nw ik td th ba bp br sa sb sc z)) : zFV 8 2 (zGoes mX8_readRow 0 3) [.ref 0, .int 101] (wD tr tx ty n m1 lg ht la (nI (pEn tb ty (s))) (nI (s)) (mSo (pT tb ty (s)) (pV tb ty (s))) va (-1009) to_ nw ik td th ba bp br sa sb sc z) K := by
  refine And.intro rfl (Or.inl ⟨rfl, rfl, ?_⟩)
  intro Z hZ
  refine hZ.1 [] 60 _ _ _ _ (And.intro (fun c => absurd c (by decide)) (fun _ => u_lawOf _ (fun e => absurd e (by decide)) (fun e => ?_) (fun e => absurd e (by decide)) (fun e1 e2 e3 => absurd rfl e2)))
  refine And.intro (fun e => absurd e (by decide)) (fun _ => ?_)
  exact u_num hN htx s hs va hva 0 10 (by omega) (by omega) _ _ (by decide) (by decide) (fun v hv va' hv' => And.intro (vpd (by decide)) (h1 v hv va' hv')) (fun hv => And.intro (vpd (by decide)) (h0 hv _ _))

set_option maxRecDepth 100000 in
set_option maxHeartbeats 4000000 in
theorem u_rowW (hN : ty ≤ 120) (htx : ∀ j, j < ty → tx j = (nI (tb j)).toInt8.toInt32 ∧ tb j < 256) (s : Nat) (hs : s ≤ ty) (va : Int32) (hva : mVa tb ty s va) (h1 : ∀ v, pNum (pT tb ty s) (pV tb ty s) 0 10 = some v → ∀ va', mVa tb ty (pSk tb ty (pEn tb ty s)) va' → K none (wD tr tx ty n m1 lg ht (upd la 5 (nI v)) (nI (pEn tb ty (pSk tb ty (pEn tb ty s)))) (nI (pSk tb ty (pEn tb ty s))) (mSo (pT tb ty (pSk tb ty (pEn tb ty s))) (pV tb ty (pSk tb ty (pEn tb ty s)))) va' (-1009) (to_ ||| ((1 : Int32) <<< ((2 : Int32) &&& 31))) nw ik td th ba bp br sa sb sc z)) (h0 : pNum (pT tb ty s) (pV tb ty s) 0 10 = none → ∀ la' to', K none (wD tr tx ty n m1 lg ht la' (nI (pEn tb ty (s))) (nI (s)) (mSo (pT tb ty (s)) (pV tb ty (s))) va (nI s) to' nw ik td th ba bp br sa sb sc z)) : zFV 8 2 (zGoes mX8_readRow 0 3) [.ref 0, .int 119] (wD tr tx ty n m1 lg ht la (nI (pEn tb ty (s))) (nI (s)) (mSo (pT tb ty (s)) (pV tb ty (s))) va (-1009) to_ nw ik td th ba bp br sa sb sc z) K := by
  refine And.intro rfl (Or.inl ⟨rfl, rfl, ?_⟩)
  intro Z hZ
  refine hZ.1 [] 60 _ _ _ _ (And.intro (fun c => absurd c (by decide)) (fun _ => u_lawOf _ (fun e => absurd e (by decide)) (fun e => absurd e (by decide)) (fun e => ?_) (fun e1 e2 e3 => absurd rfl e3)))
  refine And.intro (fun e => absurd e (by decide)) (fun _ => ?_)
  exact u_num hN htx s hs va hva 0 10 (by omega) (by omega) _ _ (by decide) (by decide) (fun v hv va' hv' => And.intro (vpd (by decide)) (h1 v hv va' hv')) (fun hv => And.intro (vpd (by decide)) (h0 hv _ _))

set_option maxRecDepth 100000 in
set_option maxHeartbeats 8000000 in
theorem m_rank (hN : ty ≤ 120) (htx : ∀ j, j < ty → tx j = (nI (tb j)).toInt8.toInt32 ∧ tb j < 256)
    (h1 : ∀ s : pS, pR tb ty (ty + 1) 0 0 0 pS0 = .inr s → pOK 0 s → ∀ m1' lg' ht' la' at' st' so' va' fa' to' nw' ik', (∀ j, j < s.1 → lg' j = nI (s.2.1 j) ∧ ht' j = nI (s.2.2.1 j)) → mIs nw' (xForm (nI (pOr s.2.2.2.1 30)) (nI (pOr s.2.2.2.2.1 5)) (nI (pOr s.2.2.2.2.2.1 2))) → nw' 25 = 0 → ik' 0 = 0 → ik' 1 = 0 → post (some (.int (nI s.2.2.2.2.2.2))) (wD tr tx 0 s.1 m1' lg' ht' la' at' st' so' va' fa' to' nw' ik' td th ba bp br sa sb sc 0))
    (h0 : ∀ f, pR tb ty (ty + 1) 0 0 0 pS0 = .inl f → f ≤ ty → ∀ m1' lg' ht' la' at' st' so' va' fa' to', (∀ j, j < 7 → lg' j = lg j ∧ ht' j = ht j) → post (some (.int (-2000 - nI f))) (wD tr tx ty n m1' lg' ht' la' at' st' so' va' fa' to' nw ik td th ba bp br sa sb sc z)) : zGoes mX8_rank 1 3 [.ref 0] (wD tr tx ty n m1 lg ht la at_ st_ so_ va_ fa_ to_ nw ik td th ba bp br sa sb sc z) post := by
  intro Z hZ
  have hb : ∀ j, j < ty → tb j < 256 := fun j hj => (htx j hj).2
  have flt : ∀ (f : Nat) (it : Int32) (o2 : Option Value) (m1' : Int32) (lg' ht' la' : Nat → Int32) (at' st' so' va' to' : Int32), pR tb ty (ty + 1) 0 0 0 pS0 = .inl f → f ≤ ty → (∀ j, j < 7 → lg' j = lg j ∧ ht' j = ht j) → Z 22 [some (.ref 0), some (.int it), o2] [] (wD tr tx ty n m1' lg' ht' la' at' st' so' va' (nI f) to' nw ik td th ba bp br sa sb sc z) := by
    intro f it o2 m1' lg' ht' la' at' st' so' va' to' hr hf hs
    exact hZ.1 [] 60 _ _ _ _ (And.intro (fun e => absurd e (f_ne (by omega))) (fun _ => And.intro (fun e => absurd e (f_ne (by omega))) (fun _ => h0 f hr hf _ _ _ _ _ _ _ _ _ _ hs)))
  have flr : ∀ (f : Nat) (it : Int32) (o2 : Option Value) (m1' : Int32) (lg' ht' la' : Nat → Int32) (at' st' so' va' to' : Int32), pR tb ty (ty + 1) 0 0 0 pS0 = .inl f → f ≤ ty → (∀ j, j < 7 → lg' j = lg j ∧ ht' j = ht j) → Z 70 [some (.ref 0), some (.int it), o2] [] (wD tr tx ty n m1' lg' ht' la' at' st' so' va' (nI f) to' nw ik td th ba bp br sa sb sc z) := by
    intro f it o2 m1' lg' ht' la' at' st' so' va' to' hr hf hs
    exact hZ.1 [22] 60 _ _ _ _ (And.intro (fun _ => u_dueF (by omega) _ (flt f _ _ _ _ _ _ _ _ _ _ _ hr hf hs)) (fun _ => u_dueF (by omega) _ (flt f _ _ _ _ _ _ _ _ _ _ _ hr hf hs)))
  have loop : ∀ (F i l : Nat) (s : pS) (va : Int32) (lg' ht' la' : Nat → Int32) (o2 : Option Value), i ≤ ty → ty + 1 ≤ i + F → pOK 0 s → pR tb ty F i 0 l s = pR tb ty (ty + 1) 0 0 0 pS0 → mVa tb ty (pSk tb ty i) va → (∀ j, j < 7 → lg' j = lg j ∧ ht' j = ht j) → (∀ j, j < s.1 → lg' (7 + j) = nI (s.2.1 j) ∧ ht' (7 + j) = nI (s.2.2.1 j)) → la' 3 = nI (pOr s.2.2.2.1 30) → la' 4 = nI (pOr s.2.2.2.2.1 5) → la' 5 = nI (pOr s.2.2.2.2.2.1 2) → Z 22 [some (.ref 0), some (.int (nI s.2.2.2.2.2.2)), o2] [] (wD tr tx ty n (nI s.1) lg' ht' la' (nI (pEn tb ty (pSk tb ty i))) (nI (pSk tb ty i)) (mSo (pT tb ty (pSk tb ty i)) (pV tb ty (pSk tb ty i))) va (-1009) (mTo s) nw ik td th ba bp br sa sb sc z) := by
    intro F
    induction F using Nat.strongRecOn with
    | ind F ih =>
      intro i l s va lg' ht' la' o2 hi hF hO hR hva hlh hdr hl3 hl4 hl5
      have hL : pLt (pT tb ty (pSk tb ty i)) (pV tb ty (pSk tb ty i)) := pLt_of hb
      have hsk := pSk_in (tb := tb) hi
      -- behind a row: the stop
      have j70 : ∀ (F' i' l' : Nat) (s' : pS) (va' : Int32) (lg2 ht2 la2 : Nat → Int32) (o2 : Option Value), F' < F → i' ≤ ty → ty + 1 ≤ i' + F' → pOK 6 s' → pR tb ty F' i' 6 l' s' = pR tb ty (ty + 1) 0 0 0 pS0 → mVa tb ty (pSk tb ty i') va' → (∀ j, j < 7 → lg2 j = lg j ∧ ht2 j = ht j) → (∀ j, j < s'.1 → lg2 (7 + j) = nI (s'.2.1 j) ∧ ht2 (7 + j) = nI (s'.2.2.1 j)) → la2 3 = nI (pOr s'.2.2.2.1 30) → la2 4 = nI (pOr s'.2.2.2.2.1 5) → la2 5 = nI (pOr s'.2.2.2.2.2.1 2) → Z 70 [some (.ref 0), some (.int (nI s'.2.2.2.2.2.2)), o2] [] (wD tr tx ty n (nI s'.1) lg2 ht2 la2 (nI (pEn tb ty (pSk tb ty i'))) (nI (pSk tb ty i')) (mSo (pT tb ty (pSk tb ty i')) (pV tb ty (pSk tb ty i'))) va' (-1009) (mTo s') nw ik td th ba bp br sa sb sc z) := by
        intro F' i' l' s' va' lg2 ht2 la2 o2 hFF hi' hF' hO' hR' hva' hlh' hdr' hl3' hl4' hl5'
        have hL' : pLt (pT tb ty (pSk tb ty i')) (pV tb ty (pSk tb ty i')) := pLt_of hb
        have hsk' := pSk_in (tb := tb) hi'
        refine hZ.1 [22] 60 _ _ _ _ (And.intro (fun c => ?_) (fun c => ?_))
        · have c := (mSo_2 hL').mp c
          have hlt : pSk tb ty i' < ty := by
            rcases Nat.lt_or_ge (pSk tb ty i') ty with w | w
            · exact w
            · have := (pT_0 (tb := tb)).mpr w; omega
          have hd : pDo (pT tb ty (pSk tb ty i')) (pV tb ty (pSk tb ty i')) 6 l' s' = some (0, l', (s'.1, s'.2.1, s'.2.2.1, s'.2.2.2.1, s'.2.2.2.2.1, s'.2.2.2.2.2.1, s'.2.2.2.2.2.2 + 1)) := by
            unfold pDo
            rw [c]
            rfl
          have hr := pR_some hi' hF' (by omega) hd
          have hen := pEn_in (tb := tb) hlt
          have hok := (pDo_OK hd hO' (fun w => absurd w (by decide))).1
          refine u_dueY hN htx _ hen.2 (fun va2 hv2 => ?_)
          have := ih (F' - 1) (by omega) (pEn tb ty (pSk tb ty i')) l' (s'.1, s'.2.1, s'.2.2.1, s'.2.2.2.1, s'.2.2.2.2.1, s'.2.2.2.2.2.1, s'.2.2.2.2.2.2 + 1) va2 lg2 ht2 la2 o2 hen.2 (by omega) hok (hr.symm.trans hR') hv2 hlh' hdr' hl3' hl4' hl5'
          rw [← nI_1] at this
          exact this
        · have c : ¬ pT tb ty (pSk tb ty i') = 3 := fun w => c ((mSo_2 hL').mpr w)
          have hd : pDo (pT tb ty (pSk tb ty i')) (pV tb ty (pSk tb ty i')) 6 l' s' = none := by
            unfold pDo
            simp [c]
          have hr := pR_none hi' hF' (Or.inr (by decide)) hd
          refine u_dueN ?_
          exact flt _ _ _ _ _ _ _ _ _ _ _ _ (hR'.symm.trans hr) hsk'.2 hlh'
      refine hZ.1 [22, 70] 100 _ _ _ _ (And.intro (fun _ => And.intro (fun c => ?_) (fun c => ?_)) (fun e => absurd rfl e))
      · have c := (mSo_3 hL).mp c
        have hr := pR_end (l := l) (s := s) hi hF c
        rw [hR] at hr
        have hs7 := hO.2.1
        refine And.intro (fun _ => u_draft s.1 hs7 (fun lg2 ht2 nw2 ik2 q1 q2 q3 q4 q5 => ?_)) (fun e => absurd rfl e)
        have q2 : mIs nw2 (xForm (la' 3) (la' 4) (la' 5)) := q2
        rw [hl3, hl4, hl5] at q2
        exact h1 s hr hO _ _ _ _ _ _ _ _ _ _ _ _ (fun j hj => ⟨(q1 j (by omega)).1.trans (hdr j hj).1, (q1 j (by omega)).2.trans (hdr j hj).2⟩) q2 q3 q4 q5
      · have c : ¬ pT tb ty (pSk tb ty i) = 0 := fun w => c ((mSo_3 hL).mpr w)
        have hlt : pSk tb ty i < ty := by
          rcases Nat.lt_or_ge (pSk tb ty i) ty with w | w
          · exact w
          · exact absurd (pT_0.mpr w) c
        have hen := pEn_in (tb := tb) hlt
        have hsk2 := pSk_in (tb := tb) hen.2
        refine u_mayBe _ _ hL l s hO.2.1 (fun q hq => u_dueY hN htx _ hen.2 (fun va2 hv2 => And.intro (fun _ => ?_) (fun e => absurd rfl e))) (fun hq => u_dueN (And.intro (fun e => absurd e (f_ne (by omega))) (fun _ => ?_)))
        · have hr := pR_some hi hF c hq
          have hok := (pDo_OK hq hO (fun w => absurd w (by decide))).1
          obtain ⟨hT, hq⟩ := pDo_0 hq
          rcases hq with ⟨hV, hk, rfl⟩ | ⟨hV, hk, rfl⟩ | ⟨hV, hk, rfl⟩ | ⟨hV, hk, rfl⟩
          · have ew : mSo (pT tb ty (pSk tb ty i)) (pV tb ty (pSk tb ty i)) = 109 := (mSo_c hL 109 (by omega) (by omega) _ (by decide)).mpr ⟨hT, hV⟩
            rw [ew]
            have hr : pR tb ty F i 0 l s = pR tb ty (F - 1) (pEn tb ty (pSk tb ty i)) 1 l s := hr
            refine u_rowM hN htx _ hsk2.2 va2 hv2 s.1 hk (fun v1 v2 w1 w2 va3 hv3 => ?_) (fun w1 at3 st3 so3 va3 m13 lg3 ht3 hs3 => ?_) (fun v1 w1 w2 at3 st3 so3 va3 m13 lg3 ht3 hs3 => ?_)
            · have d1 : pDo (pT tb ty (pSk tb ty (pEn tb ty (pSk tb ty i)))) (pV tb ty (pSk tb ty (pEn tb ty (pSk tb ty i)))) 1 l s = some (2, v1, s) := by
                unfold pDo; rw [w1]; rfl
              have r1 := pR_some (f := F - 1) hen.2 (by omega) (pD_T d1) d1
              have o1 := pDo_OK d1 hok (fun w => absurd w (by decide))
              have hlt2 : pSk tb ty (pEn tb ty (pSk tb ty i)) < ty := by
                rcases Nat.lt_or_ge (pSk tb ty (pEn tb ty (pSk tb ty i))) ty with w | w
                · exact w
                · exact absurd (pT_0.mpr w) (pD_T d1)
              have hen2 := pEn_in (tb := tb) hlt2
              have hsk3 := pSk_in (tb := tb) hen2.2
              have d2 : pDo (pT tb ty (pSk tb ty (pEn tb ty (pSk tb ty (pEn tb ty (pSk tb ty i)))))) (pV tb ty (pSk tb ty (pEn tb ty (pSk tb ty (pEn tb ty (pSk tb ty i)))))) 2 v1 s = some (6, v1, (s.1 + 1, pUp s.2.1 s.1 v1, pUp s.2.2.1 s.1 v2, s.2.2.2)) := by
                unfold pDo; rw [w2]; rfl
              have r2 := pR_some (f := F - 1 - 1) hen2.2 (by omega) (pD_T d2) d2
              have o2' := pDo_OK d2 o1.1 o1.2
              have hlt3 : pSk tb ty (pEn tb ty (pSk tb ty (pEn tb ty (pSk tb ty i)))) < ty := by
                rcases Nat.lt_or_ge (pSk tb ty (pEn tb ty (pSk tb ty (pEn tb ty (pSk tb ty i))))) ty with w | w
                · exact w
                · exact absurd (pT_0.mpr w) (pD_T d2)
              have hen3 := pEn_in (tb := tb) hlt3
              refine j70 _ _ v1 (s.1 + 1, pUp s.2.1 s.1 v1, pUp s.2.2.1 s.1 v2, s.2.2.2) va3 _ _ _ _ ?_ hen3.2 ?_ o2'.1 (r2.symm.trans (r1.symm.trans (hr.symm.trans hR))) hv3 (fun j hj => ?_) (fun j hj => ?_) hl3 hl4 hl5
              · omega
              · omega
              · rw [pk_un (by omega), pk_un (by omega)]
                exact hlh j hj
              · have hj : j < s.1 + 1 := hj
                show upd lg' (7 + s.1) (nI v1) (7 + j) = nI (if j = s.1 then v1 else s.2.1 j) ∧ upd ht' (7 + s.1) (nI v2) (7 + j) = nI (if j = s.1 then v2 else s.2.2.1 j)
                by_cases w : j = s.1
                · rw [if_pos w, if_pos w, w, pk_us, pk_us]
                  exact ⟨rfl, rfl⟩
                · rw [if_neg w, if_neg w, pk_un (by omega), pk_un (by omega)]
                  exact hdr j (by omega)
            · have d1 : pDo (pT tb ty (pSk tb ty (pEn tb ty (pSk tb ty i)))) (pV tb ty (pSk tb ty (pEn tb ty (pSk tb ty i)))) 1 l s = none := by
                unfold pDo; rw [w1]; rfl
              have r1 := pR_none (f := F - 1) hen.2 (by omega) (Or.inr (by decide)) d1
              exact flr _ _ _ _ _ _ _ _ _ _ _ _ (hR.symm.trans (hr.trans r1)) hsk2.2 (fun j hj => ⟨(hs3 j hj).1.trans (hlh j hj).1, (hs3 j hj).2.trans (hlh j hj).2⟩)
            · have d1 : pDo (pT tb ty (pSk tb ty (pEn tb ty (pSk tb ty i)))) (pV tb ty (pSk tb ty (pEn tb ty (pSk tb ty i)))) 1 l s = some (2, v1, s) := by
                unfold pDo; rw [w1]; rfl
              have r1 := pR_some (f := F - 1) hen.2 (by omega) (pD_T d1) d1
              have hlt2 : pSk tb ty (pEn tb ty (pSk tb ty i)) < ty := by
                rcases Nat.lt_or_ge (pSk tb ty (pEn tb ty (pSk tb ty i))) ty with w | w
                · exact w
                · exact absurd (pT_0.mpr w) (pD_T d1)
              have hen2 := pEn_in (tb := tb) hlt2
              have hsk3 := pSk_in (tb := tb) hen2.2
              have d2 : pDo (pT tb ty (pSk tb ty (pEn tb ty (pSk tb ty (pEn tb ty (pSk tb ty i)))))) (pV tb ty (pSk tb ty (pEn tb ty (pSk tb ty (pEn tb ty (pSk tb ty i)))))) 2 v1 s = none := by
                unfold pDo; rw [w2]; rfl
              have r2 := pR_none (f := F - 1 - 1) hen2.2 (by omega) (Or.inr (by decide)) d2
              exact flr _ _ _ _ _ _ _ _ _ _ _ _ (hR.symm.trans (hr.trans (r1.trans r2))) hsk3.2 (fun j hj => ⟨(hs3 j hj).1.trans (hlh j hj).1, (hs3 j hj).2.trans (hlh j hj).2⟩)
          · have ew : mSo (pT tb ty (pSk tb ty i)) (pV tb ty (pSk tb ty i)) = 112 := (mSo_c hL 112 (by omega) (by omega) _ (by decide)).mpr ⟨hT, hV⟩
            rw [ew]
            have hr : pR tb ty F i 0 l s = pR tb ty (F - 1) (pEn tb ty (pSk tb ty i)) 3 l s := hr
            refine u_rowP hN htx _ hsk2.2 va2 hv2 (fun v w1 va3 hv3 => ?_) (fun w1 la3 to3 => ?_)
            · have d1 : pDo (pT tb ty (pSk tb ty (pEn tb ty (pSk tb ty i)))) (pV tb ty (pSk tb ty (pEn tb ty (pSk tb ty i)))) 3 l s = some (6, l, (s.1, s.2.1, s.2.2.1, some v, s.2.2.2.2)) := by
                unfold pDo; rw [w1]; rfl
              have r1 := pR_some (f := F - 1) hen.2 (by omega) (pD_T d1) d1
              have o1 := pDo_OK d1 hok (fun w => absurd w (by decide))
              have hlt2 : pSk tb ty (pEn tb ty (pSk tb ty i)) < ty := by
                rcases Nat.lt_or_ge (pSk tb ty (pEn tb ty (pSk tb ty i))) ty with w | w
                · exact w
                · exact absurd (pT_0.mpr w) (pD_T d1)
              have hen2 := pEn_in (tb := tb) hlt2
              have := j70 (F - 1 - 1) _ l (s.1, s.2.1, s.2.2.1, some v, s.2.2.2.2) va3 lg' ht' (upd la' 3 (nI v)) (some (.int 112)) (by omega) hen2.2 (by omega) o1.1 (r1.symm.trans (hr.symm.trans hR)) hv3 hlh hdr (by rw [pk_us]; rfl) (by rw [pk_un (by decide)]; exact hl4) (by rw [pk_un (by decide)]; exact hl5)
              have et : mTo s ||| ((1 : Int32) <<< ((0 : Int32) &&& 31)) = mTo (s.1, s.2.1, s.2.2.1, some v, s.2.2.2.2) := mTb_p _ _ _
              rw [← et] at this
              exact this
            · have d1 : pDo (pT tb ty (pSk tb ty (pEn tb ty (pSk tb ty i)))) (pV tb ty (pSk tb ty (pEn tb ty (pSk tb ty i)))) 3 l s = none := by
                unfold pDo; rw [w1]; rfl
              have r1 := pR_none (f := F - 1) hen.2 (by omega) (Or.inr (by decide)) d1
              exact flr _ _ _ _ _ _ _ _ _ _ _ _ (hR.symm.trans (hr.trans r1)) hsk2.2 hlh
          · have ew : mSo (pT tb ty (pSk tb ty i)) (pV tb ty (pSk tb ty i)) = 101 := (mSo_c hL 101 (by omega) (by omega) _ (by decide)).mpr ⟨hT, hV⟩
            rw [ew]
            have hr : pR tb ty F i 0 l s = pR tb ty (F - 1) (pEn tb ty (pSk tb ty i)) 4 l s := hr
            refine u_rowE hN htx _ hsk2.2 va2 hv2 (fun v w1 va3 hv3 => ?_) (fun w1 la3 to3 => ?_)
            · have d1 : pDo (pT tb ty (pSk tb ty (pEn tb ty (pSk tb ty i)))) (pV tb ty (pSk tb ty (pEn tb ty (pSk tb ty i)))) 4 l s = some (6, l, (s.1, s.2.1, s.2.2.1, s.2.2.2.1, some v, s.2.2.2.2.2)) := by
                unfold pDo; rw [w1]; rfl
              have r1 := pR_some (f := F - 1) hen.2 (by omega) (pD_T d1) d1
              have o1 := pDo_OK d1 hok (fun w => absurd w (by decide))
              have hlt2 : pSk tb ty (pEn tb ty (pSk tb ty i)) < ty := by
                rcases Nat.lt_or_ge (pSk tb ty (pEn tb ty (pSk tb ty i))) ty with w | w
                · exact w
                · exact absurd (pT_0.mpr w) (pD_T d1)
              have hen2 := pEn_in (tb := tb) hlt2
              have := j70 (F - 1 - 1) _ l (s.1, s.2.1, s.2.2.1, s.2.2.2.1, some v, s.2.2.2.2.2) va3 lg' ht' (upd la' 4 (nI v)) (some (.int 101)) (by omega) hen2.2 (by omega) o1.1 (r1.symm.trans (hr.symm.trans hR)) hv3 hlh hdr (by rw [pk_un (by decide)]; exact hl3) (by rw [pk_us]; rfl) (by rw [pk_un (by decide)]; exact hl5)
              have et : mTo s ||| ((1 : Int32) <<< ((1 : Int32) &&& 31)) = mTo (s.1, s.2.1, s.2.2.1, s.2.2.2.1, some v, s.2.2.2.2.2) := mTb_e _ _ _
              rw [← et] at this
              exact this
            · have d1 : pDo (pT tb ty (pSk tb ty (pEn tb ty (pSk tb ty i)))) (pV tb ty (pSk tb ty (pEn tb ty (pSk tb ty i)))) 4 l s = none := by
                unfold pDo; rw [w1]; rfl
              have r1 := pR_none (f := F - 1) hen.2 (by omega) (Or.inr (by decide)) d1
              exact flr _ _ _ _ _ _ _ _ _ _ _ _ (hR.symm.trans (hr.trans r1)) hsk2.2 hlh
          · have ew : mSo (pT tb ty (pSk tb ty i)) (pV tb ty (pSk tb ty i)) = 119 := (mSo_c hL 119 (by omega) (by omega) _ (by decide)).mpr ⟨hT, hV⟩
            rw [ew]
            have hr : pR tb ty F i 0 l s = pR tb ty (F - 1) (pEn tb ty (pSk tb ty i)) 5 l s := hr
            refine u_rowW hN htx _ hsk2.2 va2 hv2 (fun v w1 va3 hv3 => ?_) (fun w1 la3 to3 => ?_)
            · have d1 : pDo (pT tb ty (pSk tb ty (pEn tb ty (pSk tb ty i)))) (pV tb ty (pSk tb ty (pEn tb ty (pSk tb ty i)))) 5 l s = some (6, l, (s.1, s.2.1, s.2.2.1, s.2.2.2.1, s.2.2.2.2.1, some v, s.2.2.2.2.2.2)) := by
                unfold pDo; rw [w1]; rfl
              have r1 := pR_some (f := F - 1) hen.2 (by omega) (pD_T d1) d1
              have o1 := pDo_OK d1 hok (fun w => absurd w (by decide))
              have hlt2 : pSk tb ty (pEn tb ty (pSk tb ty i)) < ty := by
                rcases Nat.lt_or_ge (pSk tb ty (pEn tb ty (pSk tb ty i))) ty with w | w
                · exact w
                · exact absurd (pT_0.mpr w) (pD_T d1)
              have hen2 := pEn_in (tb := tb) hlt2
              have := j70 (F - 1 - 1) _ l (s.1, s.2.1, s.2.2.1, s.2.2.2.1, s.2.2.2.2.1, some v, s.2.2.2.2.2.2) va3 lg' ht' (upd la' 5 (nI v)) (some (.int 119)) (by omega) hen2.2 (by omega) o1.1 (r1.symm.trans (hr.symm.trans hR)) hv3 hlh hdr (by rw [pk_un (by decide)]; exact hl3) (by rw [pk_un (by decide)]; exact hl4) (by rw [pk_us]; rfl)
              have et : mTo s ||| ((1 : Int32) <<< ((2 : Int32) &&& 31)) = mTo (s.1, s.2.1, s.2.2.1, s.2.2.2.1, s.2.2.2.2.1, some v, s.2.2.2.2.2.2) := mTb_w _ _ _
              rw [← et] at this
              exact this
            · have d1 : pDo (pT tb ty (pSk tb ty (pEn tb ty (pSk tb ty i)))) (pV tb ty (pSk tb ty (pEn tb ty (pSk tb ty i)))) 5 l s = none := by
                unfold pDo; rw [w1]; rfl
              have r1 := pR_none (f := F - 1) hen.2 (by omega) (Or.inr (by decide)) d1
              exact flr _ _ _ _ _ _ _ _ _ _ _ _ (hR.symm.trans (hr.trans r1)) hsk2.2 hlh
        · have hr := pR_none hi hF (Or.inl c) hq
          rw [hR] at hr
          exact flt _ _ _ _ _ _ _ _ _ _ _ _ hr hsk.2 hlh
  refine hZ.1 [22] 60 _ _ _ _ (u_plain (fun la' q3 q4 q5 => u_step hN htx 0 (by omega) (fun va' hv => ?_)))
  exact loop (ty + 1) 0 0 pS0 va' lg ht la' none (by omega) (by omega) pOK_0 rfl hv (fun j hj => ⟨rfl, rfl⟩) (fun j hj => absurd hj (Nat.not_lt_zero _)) q3 q4 q5

end MD
