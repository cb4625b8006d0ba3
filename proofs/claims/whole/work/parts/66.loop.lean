
/-! ===== the law: its loop, over what the methods do side by side ===== -/
def sh (w : zW) : zW := w.map (zrc (fun i => i + 162))
def zLS (i : Int32) : List (Option Value) := [some (.ref 1000), some (.ref 0), some (.ref 162), some (.int i)]
/-- the second world is the first with other names for its places -/
def zRot (wl wl2 : zW) : Prop := ∃ l : List Nat, (l.length = 162 ∧ wl.length = 162 ∧ wl2.length = 162) ∧ (va_nd l = true ∧ l.all (fun k => Nat.blt k l.length) = true ∧ zpm l 0 = 0) ∧ wl2.map (fun c => some (zrc (zpm l) c)) = l.map (fun k => wl[k]?)
def zInv2 (Inv : zW → zW → Prop) (wl wr : zW) : Prop := ∃ wl2 : zW, (wl2 = wl ∨ zRot wl wl2) ∧ Inv wl2 wr
def zBoth (Inv : zW → zW → Prop) (mC mM : zM) (nC nM : Nat) (as : List Value) : Prop := ∀ (wl wr : zW), Inv wl wr → ∀ K1 : zP, (∀ (v : Int32) (wl' : zW), wl'.length = 162 → (∀ K2 : zP, (∀ wr', zInv2 Inv wl' wr' → K2 (some (.int v)) wr') → zGoes mM 1 nM (.ref 0 :: as) wr K2) → K1 (some (.int v)) wl') → zGoes mC 1 nC (.ref 0 :: as) wl K1
def zBothL (Inv : zW → zW → Prop) (mC mM : zM) (nC nM : Nat) : Prop := ∀ (wl wr : zW), Inv wl wr → ∀ K1 : zP, (∀ (v : Int64) (wl' : zW), wl'.length = 162 → (∀ K2 : zP, (∀ wr', zInv2 Inv wl' wr' → K2 (some (.long v)) wr') → zGoes mM 2 nM [.ref 0] wr K2) → K1 (some (.long v)) wl') → zGoes mC 2 nC [.ref 0] wl K1
def zAt0 (Inv : zW → zW → Prop) : Prop := ∀ wl wr, Inv wl wr → wl.length = 162 ∧ (∃ f, wl[0]? = some (.inr (.inr (7, f)))) ∧ ∃ g, wr[0]? = some (.inr (.inr (8, g)))
def zOps (Inv : zW → zW → Prop) : Prop := zAt0 Inv ∧ (∀ a0 : Int32, zBoth Inv mX7_type mX8_type 2 2 [.int a0]) ∧ (zBoth Inv mX7_clear mX8_clear 2 2 []) ∧ (zBoth Inv mX7_rank mX8_rank 2 3 []) ∧ (∀ a0 a1 : Int32, zBoth Inv mX7_man mX8_man 3 4 [.int a0, .int a1]) ∧ (∀ a0 a1 : Int32, zBoth Inv mX7_place mX8_place 3 3 [.int a0, .int a1]) ∧ (zBoth Inv mX7_wheels mX8_wheels 1 1 []) ∧ (∀ a0 a1 : Int32, zBoth Inv mX7_slips mX8_slips 3 3 [.int a0, .int a1]) ∧ (∀ a0 : Int32, zBoth Inv mX7_hops mX8_hops 2 2 [.int a0]) ∧ (∀ a0 a1 : Int32, zBoth Inv mX7_swaps mX8_swaps 4 4 [.int a0, .int a1]) ∧ (∀ a0 a1 : Int32, zBoth Inv mX7_minds mX8_minds 4 4 [.int a0, .int a1]) ∧ (∀ a0 : Int32, zBoth Inv mX7_speeds mX8_speeds 3 3 [.int a0]) ∧ (zBoth Inv mX7_undo mX8_undo 1 2 []) ∧ (∀ a0 : Int32, zBoth Inv mX7_now mX8_now 2 5 [.int a0]) ∧ (zBoth Inv mX7_dressed mX8_dressed 1 1 []) ∧ (∀ a0 a1 : Int32, zBoth Inv mX7_looks mX8_looks 4 4 [.int a0, .int a1]) ∧ (∀ a0 : Int32, zBoth Inv mX7_mix mX8_mix 7 6 [.int a0]) ∧ (zBoth Inv mX7_fastest mX8_fastest 2 4 []) ∧ (∀ a0 : Int32, zBoth Inv mX7_order mX8_order 2 5 [.int a0]) ∧ (zBoth Inv mX7_inStep mX8_inStep 2 4 []) ∧ (∀ a0 : Int32, zBoth Inv mX7_behind mX8_behind 4 6 [.int a0]) ∧ (∀ a0 a1 : Int32, zBoth Inv mX7_post mX8_post 3 4 [.int a0, .int a1]) ∧ (∀ a0 a1 a2 : Int32, zBoth Inv mX7_odds mX8_odds 7 11 [.int a0, .int a1, .int a2]) ∧ (∀ a0 a1 a2 : Int32, zBoth Inv mX7_saw mX8_saw 4 4 [.int a0, .int a1, .int a2]) ∧ (zBoth Inv mX7_forget mX8_forget 2 2 []) ∧ (∀ a0 : Int32, zBoth Inv mX7_whose mX8_whose 7 7 [.int a0]) ∧ (∀ a0 a1 : Int32, zBoth Inv mX7_rate mX8_rate 3 6 [.int a0, .int a1]) ∧ (∀ a0 : Int32, zBoth Inv mX7_keep mX8_keep 2 3 [.int a0]) ∧ (∀ a0 : Int32, zBoth Inv mX7_back mX8_back 2 3 [.int a0]) ∧ (∀ a0 : Int32, zBoth Inv mX7_count mX8_count 2 2 [.int a0]) ∧ (zBothL Inv mX7_trace mX8_trace 1 1)

def zRL : zP := fun rv _ => rv = some (.int 1)
theorem vxL {j L : Nat} (h : j < L) (hL : L ≤ 2048) : vp_in (nI j) L := by
  have h1 : (nI j).toInt = (j : Int) := nI_toInt (by omega)
  rintro (q | q)
  · have := Int32.lt_iff_toInt_lt.mp q
    have e0 : (0 : Int32).toInt = 0 := by decide
    omega
  · have e : (nI j).toNatClampNeg = j := by
      show (nI j).toInt.toNat = j
      omega
    omega
theorem sh_get {wl wr : zW} {g : List Value} (hl : wl.length = 162) (h : wr[0]? = some (.inr (.inr (8, g)))) : (wl ++ sh wr)[162]? = some (zrc (fun i => i + 162) (.inr (.inr (8, g)))) := by
  rw [List.getElem?_append_right (by omega), hl]
  show (wr.map (zrc (fun i => i + 162)))[0]? = _
  rw [List.getElem?_map, h]
  rfl
theorem rK {ws : zW} {as : List Value} {k0 ci : Nat} {f : List Value} (h : ws[k0]? = some (.inr (.inr (ci, f)))) : (match (Value.ref k0 :: as : List Value) with
  | .ref k :: _ => match ws[k]? with
    | some (.inr (.inr (ci', _))) => Nat.beq ci' ci
    | _ => false
  | _ => false) = true := by
  show (match ws[k0]? with
    | some (.inr (.inr (ci', _))) => Nat.beq ci' ci
    | _ => false) = true
  rw [h]
  exact Nat.beq_refl ci
theorem r7 {wl wr : zW} {f : List Value} (hl : wl.length = 162) (h : wl[0]? = some (.inr (.inr (7, f)))) : (wl ++ wr)[0]? = some (.inr (.inr (7, f))) := by
  rw [List.getElem?_append_left (by omega), h]
theorem lcmp_self (v : Int64) : lg_cmp v v = 0 := by
  unfold lg_cmp
  simp
section LP
variable {Inv : zW → zW → Prop} {Z : zK} {L : Nat} {xs : Nat → Int32}
set_option maxRecDepth 100000 in
theorem l0_type (hL : L ≤ 2048) (hZ : ∀ (cuts : List Nat) (k pc : Nat) (ls : List (Option Value)) (st : List Value) (ws : zW), zstepN mL xL 175 (some (L, xs)) zRL (zrunN mL xL 175 (some (L, xs)) zRL Z cuts k) pc ls st ws → Z pc ls st ws) (H0 : zAt0 Inv) (Ho : ∀ a0 : Int32, zBoth Inv mX7_type mX8_type 2 2 [.int a0]) (i : Nat) (hi : i + 4 ≤ L) (wl wr : zW) (I : Inv wl wr) (nxt : ∀ wl' wr', wl'.length = 162 → zInv2 Inv wl' wr' → Z 18 (zLS (nI i + 4)) [] (wl' ++ sh wr')) : Z 168 (zLS (nI i)) [] (wl ++ sh wr) := by
  obtain ⟨hl0, ⟨f, h7⟩, g, h8⟩ := H0 wl wr I
  have q1 : vp_in (nI i + 1) L := by rw [nI_1]; exact vxL (by omega) hL
  have q2 : vp_in (nI i + 2) L := by rw [show (2 : Int32) = nI 2 by decide, nI_add]; exact vxL (by omega) hL
  have q3 : vp_in (nI i + 3) L := by rw [show (3 : Int32) = nI 3 by decide, nI_add]; exact vxL (by omega) hL
  exact hZ [18] 60 _ _ _ _ (And.intro q1 (And.intro (rK (as := []) (r7 hl0 h7)) ⟨wl, sh wr, rfl, Or.inl ⟨rfl, rfl, Ho _ wl wr I _ (fun v wl' hl hm => And.intro q1 (And.intro (rK (as := []) (sh_get hl h8)) ⟨wl', wr, [.ref 0, .int (xs (nI i + 1).toNatClampNeg)], hl, rfl, rfl, Or.inl ⟨rfl, rfl, hm _ (fun wr' I2 => And.intro (fun _ => nxt wl' wr' hl I2) (fun cc => absurd rfl cc))⟩⟩))⟩⟩))
set_option maxRecDepth 100000 in
theorem l1_clear (hL : L ≤ 2048) (hZ : ∀ (cuts : List Nat) (k pc : Nat) (ls : List (Option Value)) (st : List Value) (ws : zW), zstepN mL xL 175 (some (L, xs)) zRL (zrunN mL xL 175 (some (L, xs)) zRL Z cuts k) pc ls st ws → Z pc ls st ws) (H0 : zAt0 Inv) (Ho : zBoth Inv mX7_clear mX8_clear 2 2 []) (i : Nat) (hi : i + 4 ≤ L) (wl wr : zW) (I : Inv wl wr) (nxt : ∀ wl' wr', wl'.length = 162 → zInv2 Inv wl' wr' → Z 18 (zLS (nI i + 4)) [] (wl' ++ sh wr')) : Z 191 (zLS (nI i)) [] (wl ++ sh wr) := by
  obtain ⟨hl0, ⟨f, h7⟩, g, h8⟩ := H0 wl wr I
  have q1 : vp_in (nI i + 1) L := by rw [nI_1]; exact vxL (by omega) hL
  have q2 : vp_in (nI i + 2) L := by rw [show (2 : Int32) = nI 2 by decide, nI_add]; exact vxL (by omega) hL
  have q3 : vp_in (nI i + 3) L := by rw [show (3 : Int32) = nI 3 by decide, nI_add]; exact vxL (by omega) hL
  exact hZ [18] 60 _ _ _ _ (And.intro (rK (as := []) (r7 hl0 h7)) ⟨wl, sh wr, rfl, Or.inl ⟨rfl, rfl, Ho  wl wr I _ (fun v wl' hl hm => And.intro (rK (as := []) (sh_get hl h8)) ⟨wl', wr, [.ref 0], hl, rfl, rfl, Or.inl ⟨rfl, rfl, hm _ (fun wr' I2 => And.intro (fun _ => nxt wl' wr' hl I2) (fun cc => absurd rfl cc))⟩⟩)⟩⟩)
set_option maxRecDepth 100000 in
theorem l2_rank (hL : L ≤ 2048) (hZ : ∀ (cuts : List Nat) (k pc : Nat) (ls : List (Option Value)) (st : List Value) (ws : zW), zstepN mL xL 175 (some (L, xs)) zRL (zrunN mL xL 175 (some (L, xs)) zRL Z cuts k) pc ls st ws → Z pc ls st ws) (H0 : zAt0 Inv) (Ho : zBoth Inv mX7_rank mX8_rank 2 3 []) (i : Nat) (hi : i + 4 ≤ L) (wl wr : zW) (I : Inv wl wr) (nxt : ∀ wl' wr', wl'.length = 162 → zInv2 Inv wl' wr' → Z 18 (zLS (nI i + 4)) [] (wl' ++ sh wr')) : Z 204 (zLS (nI i)) [] (wl ++ sh wr) := by
  obtain ⟨hl0, ⟨f, h7⟩, g, h8⟩ := H0 wl wr I
  have q1 : vp_in (nI i + 1) L := by rw [nI_1]; exact vxL (by omega) hL
  have q2 : vp_in (nI i + 2) L := by rw [show (2 : Int32) = nI 2 by decide, nI_add]; exact vxL (by omega) hL
  have q3 : vp_in (nI i + 3) L := by rw [show (3 : Int32) = nI 3 by decide, nI_add]; exact vxL (by omega) hL
  exact hZ [18] 60 _ _ _ _ (And.intro (rK (as := []) (r7 hl0 h7)) ⟨wl, sh wr, rfl, Or.inl ⟨rfl, rfl, Ho  wl wr I _ (fun v wl' hl hm => And.intro (rK (as := []) (sh_get hl h8)) ⟨wl', wr, [.ref 0], hl, rfl, rfl, Or.inl ⟨rfl, rfl, hm _ (fun wr' I2 => And.intro (fun _ => nxt wl' wr' hl I2) (fun cc => absurd rfl cc))⟩⟩)⟩⟩)
set_option maxRecDepth 100000 in
theorem l3_man (hL : L ≤ 2048) (hZ : ∀ (cuts : List Nat) (k pc : Nat) (ls : List (Option Value)) (st : List Value) (ws : zW), zstepN mL xL 175 (some (L, xs)) zRL (zrunN mL xL 175 (some (L, xs)) zRL Z cuts k) pc ls st ws → Z pc ls st ws) (H0 : zAt0 Inv) (Ho : ∀ a0 a1 : Int32, zBoth Inv mX7_man mX8_man 3 4 [.int a0, .int a1]) (i : Nat) (hi : i + 4 ≤ L) (wl wr : zW) (I : Inv wl wr) (nxt : ∀ wl' wr', wl'.length = 162 → zInv2 Inv wl' wr' → Z 18 (zLS (nI i + 4)) [] (wl' ++ sh wr')) : Z 217 (zLS (nI i)) [] (wl ++ sh wr) := by
  obtain ⟨hl0, ⟨f, h7⟩, g, h8⟩ := H0 wl wr I
  have q1 : vp_in (nI i + 1) L := by rw [nI_1]; exact vxL (by omega) hL
  have q2 : vp_in (nI i + 2) L := by rw [show (2 : Int32) = nI 2 by decide, nI_add]; exact vxL (by omega) hL
  have q3 : vp_in (nI i + 3) L := by rw [show (3 : Int32) = nI 3 by decide, nI_add]; exact vxL (by omega) hL
  exact hZ [18] 60 _ _ _ _ (And.intro q1 (And.intro q2 (And.intro (rK (as := []) (r7 hl0 h7)) ⟨wl, sh wr, rfl, Or.inl ⟨rfl, rfl, Ho _ _ wl wr I _ (fun v wl' hl hm => And.intro q1 (And.intro q2 (And.intro (rK (as := []) (sh_get hl h8)) ⟨wl', wr, [.ref 0, .int (xs (nI i + 1).toNatClampNeg), .int (xs (nI i + 2).toNatClampNeg)], hl, rfl, rfl, Or.inl ⟨rfl, rfl, hm _ (fun wr' I2 => And.intro (fun _ => nxt wl' wr' hl I2) (fun cc => absurd rfl cc))⟩⟩)))⟩⟩)))
set_option maxRecDepth 100000 in
theorem l4_place (hL : L ≤ 2048) (hZ : ∀ (cuts : List Nat) (k pc : Nat) (ls : List (Option Value)) (st : List Value) (ws : zW), zstepN mL xL 175 (some (L, xs)) zRL (zrunN mL xL 175 (some (L, xs)) zRL Z cuts k) pc ls st ws → Z pc ls st ws) (H0 : zAt0 Inv) (Ho : ∀ a0 a1 : Int32, zBoth Inv mX7_place mX8_place 3 3 [.int a0, .int a1]) (i : Nat) (hi : i + 4 ≤ L) (wl wr : zW) (I : Inv wl wr) (nxt : ∀ wl' wr', wl'.length = 162 → zInv2 Inv wl' wr' → Z 18 (zLS (nI i + 4)) [] (wl' ++ sh wr')) : Z 250 (zLS (nI i)) [] (wl ++ sh wr) := by
  obtain ⟨hl0, ⟨f, h7⟩, g, h8⟩ := H0 wl wr I
  have q1 : vp_in (nI i + 1) L := by rw [nI_1]; exact vxL (by omega) hL
  have q2 : vp_in (nI i + 2) L := by rw [show (2 : Int32) = nI 2 by decide, nI_add]; exact vxL (by omega) hL
  have q3 : vp_in (nI i + 3) L := by rw [show (3 : Int32) = nI 3 by decide, nI_add]; exact vxL (by omega) hL
  exact hZ [18] 60 _ _ _ _ (And.intro q1 (And.intro q2 (And.intro (rK (as := []) (r7 hl0 h7)) ⟨wl, sh wr, rfl, Or.inl ⟨rfl, rfl, Ho _ _ wl wr I _ (fun v wl' hl hm => And.intro q1 (And.intro q2 (And.intro (rK (as := []) (sh_get hl h8)) ⟨wl', wr, [.ref 0, .int (xs (nI i + 1).toNatClampNeg), .int (xs (nI i + 2).toNatClampNeg)], hl, rfl, rfl, Or.inl ⟨rfl, rfl, hm _ (fun wr' I2 => And.intro (fun _ => nxt wl' wr' hl I2) (fun cc => absurd rfl cc))⟩⟩)))⟩⟩)))
set_option maxRecDepth 100000 in
theorem l5_wheels (hL : L ≤ 2048) (hZ : ∀ (cuts : List Nat) (k pc : Nat) (ls : List (Option Value)) (st : List Value) (ws : zW), zstepN mL xL 175 (some (L, xs)) zRL (zrunN mL xL 175 (some (L, xs)) zRL Z cuts k) pc ls st ws → Z pc ls st ws) (H0 : zAt0 Inv) (Ho : zBoth Inv mX7_wheels mX8_wheels 1 1 []) (i : Nat) (hi : i + 4 ≤ L) (wl wr : zW) (I : Inv wl wr) (nxt : ∀ wl' wr', wl'.length = 162 → zInv2 Inv wl' wr' → Z 18 (zLS (nI i + 4)) [] (wl' ++ sh wr')) : Z 283 (zLS (nI i)) [] (wl ++ sh wr) := by
  obtain ⟨hl0, ⟨f, h7⟩, g, h8⟩ := H0 wl wr I
  have q1 : vp_in (nI i + 1) L := by rw [nI_1]; exact vxL (by omega) hL
  have q2 : vp_in (nI i + 2) L := by rw [show (2 : Int32) = nI 2 by decide, nI_add]; exact vxL (by omega) hL
  have q3 : vp_in (nI i + 3) L := by rw [show (3 : Int32) = nI 3 by decide, nI_add]; exact vxL (by omega) hL
  exact hZ [18] 60 _ _ _ _ (And.intro (rK (as := []) (r7 hl0 h7)) ⟨wl, sh wr, rfl, Or.inl ⟨rfl, rfl, Ho  wl wr I _ (fun v wl' hl hm => And.intro (rK (as := []) (sh_get hl h8)) ⟨wl', wr, [.ref 0], hl, rfl, rfl, Or.inl ⟨rfl, rfl, hm _ (fun wr' I2 => And.intro (fun _ => nxt wl' wr' hl I2) (fun cc => absurd rfl cc))⟩⟩)⟩⟩)
set_option maxRecDepth 100000 in
theorem l6_slips (hL : L ≤ 2048) (hZ : ∀ (cuts : List Nat) (k pc : Nat) (ls : List (Option Value)) (st : List Value) (ws : zW), zstepN mL xL 175 (some (L, xs)) zRL (zrunN mL xL 175 (some (L, xs)) zRL Z cuts k) pc ls st ws → Z pc ls st ws) (H0 : zAt0 Inv) (Ho : ∀ a0 a1 : Int32, zBoth Inv mX7_slips mX8_slips 3 3 [.int a0, .int a1]) (i : Nat) (hi : i + 4 ≤ L) (wl wr : zW) (I : Inv wl wr) (nxt : ∀ wl' wr', wl'.length = 162 → zInv2 Inv wl' wr' → Z 18 (zLS (nI i + 4)) [] (wl' ++ sh wr')) : Z 296 (zLS (nI i)) [] (wl ++ sh wr) := by
  obtain ⟨hl0, ⟨f, h7⟩, g, h8⟩ := H0 wl wr I
  have q1 : vp_in (nI i + 1) L := by rw [nI_1]; exact vxL (by omega) hL
  have q2 : vp_in (nI i + 2) L := by rw [show (2 : Int32) = nI 2 by decide, nI_add]; exact vxL (by omega) hL
  have q3 : vp_in (nI i + 3) L := by rw [show (3 : Int32) = nI 3 by decide, nI_add]; exact vxL (by omega) hL
  exact hZ [18] 60 _ _ _ _ (And.intro q1 (And.intro q2 (And.intro (rK (as := []) (r7 hl0 h7)) ⟨wl, sh wr, rfl, Or.inl ⟨rfl, rfl, Ho _ _ wl wr I _ (fun v wl' hl hm => And.intro q1 (And.intro q2 (And.intro (rK (as := []) (sh_get hl h8)) ⟨wl', wr, [.ref 0, .int (xs (nI i + 1).toNatClampNeg), .int (xs (nI i + 2).toNatClampNeg)], hl, rfl, rfl, Or.inl ⟨rfl, rfl, hm _ (fun wr' I2 => And.intro (fun _ => nxt wl' wr' hl I2) (fun cc => absurd rfl cc))⟩⟩)))⟩⟩)))
set_option maxRecDepth 100000 in
theorem l7_hops (hL : L ≤ 2048) (hZ : ∀ (cuts : List Nat) (k pc : Nat) (ls : List (Option Value)) (st : List Value) (ws : zW), zstepN mL xL 175 (some (L, xs)) zRL (zrunN mL xL 175 (some (L, xs)) zRL Z cuts k) pc ls st ws → Z pc ls st ws) (H0 : zAt0 Inv) (Ho : ∀ a0 : Int32, zBoth Inv mX7_hops mX8_hops 2 2 [.int a0]) (i : Nat) (hi : i + 4 ≤ L) (wl wr : zW) (I : Inv wl wr) (nxt : ∀ wl' wr', wl'.length = 162 → zInv2 Inv wl' wr' → Z 18 (zLS (nI i + 4)) [] (wl' ++ sh wr')) : Z 329 (zLS (nI i)) [] (wl ++ sh wr) := by
  obtain ⟨hl0, ⟨f, h7⟩, g, h8⟩ := H0 wl wr I
  have q1 : vp_in (nI i + 1) L := by rw [nI_1]; exact vxL (by omega) hL
  have q2 : vp_in (nI i + 2) L := by rw [show (2 : Int32) = nI 2 by decide, nI_add]; exact vxL (by omega) hL
  have q3 : vp_in (nI i + 3) L := by rw [show (3 : Int32) = nI 3 by decide, nI_add]; exact vxL (by omega) hL
  exact hZ [18] 60 _ _ _ _ (And.intro q1 (And.intro (rK (as := []) (r7 hl0 h7)) ⟨wl, sh wr, rfl, Or.inl ⟨rfl, rfl, Ho _ wl wr I _ (fun v wl' hl hm => And.intro q1 (And.intro (rK (as := []) (sh_get hl h8)) ⟨wl', wr, [.ref 0, .int (xs (nI i + 1).toNatClampNeg)], hl, rfl, rfl, Or.inl ⟨rfl, rfl, hm _ (fun wr' I2 => And.intro (fun _ => nxt wl' wr' hl I2) (fun cc => absurd rfl cc))⟩⟩))⟩⟩))
set_option maxRecDepth 100000 in
theorem l8_swaps (hL : L ≤ 2048) (hZ : ∀ (cuts : List Nat) (k pc : Nat) (ls : List (Option Value)) (st : List Value) (ws : zW), zstepN mL xL 175 (some (L, xs)) zRL (zrunN mL xL 175 (some (L, xs)) zRL Z cuts k) pc ls st ws → Z pc ls st ws) (H0 : zAt0 Inv) (Ho : ∀ a0 a1 : Int32, zBoth Inv mX7_swaps mX8_swaps 4 4 [.int a0, .int a1]) (i : Nat) (hi : i + 4 ≤ L) (wl wr : zW) (I : Inv wl wr) (nxt : ∀ wl' wr', wl'.length = 162 → zInv2 Inv wl' wr' → Z 18 (zLS (nI i + 4)) [] (wl' ++ sh wr')) : Z 352 (zLS (nI i)) [] (wl ++ sh wr) := by
  obtain ⟨hl0, ⟨f, h7⟩, g, h8⟩ := H0 wl wr I
  have q1 : vp_in (nI i + 1) L := by rw [nI_1]; exact vxL (by omega) hL
  have q2 : vp_in (nI i + 2) L := by rw [show (2 : Int32) = nI 2 by decide, nI_add]; exact vxL (by omega) hL
  have q3 : vp_in (nI i + 3) L := by rw [show (3 : Int32) = nI 3 by decide, nI_add]; exact vxL (by omega) hL
  exact hZ [18] 60 _ _ _ _ (And.intro q1 (And.intro q2 (And.intro (rK (as := []) (r7 hl0 h7)) ⟨wl, sh wr, rfl, Or.inl ⟨rfl, rfl, Ho _ _ wl wr I _ (fun v wl' hl hm => And.intro q1 (And.intro q2 (And.intro (rK (as := []) (sh_get hl h8)) ⟨wl', wr, [.ref 0, .int (xs (nI i + 1).toNatClampNeg), .int (xs (nI i + 2).toNatClampNeg)], hl, rfl, rfl, Or.inl ⟨rfl, rfl, hm _ (fun wr' I2 => And.intro (fun _ => nxt wl' wr' hl I2) (fun cc => absurd rfl cc))⟩⟩)))⟩⟩)))
set_option maxRecDepth 100000 in
theorem l9_minds (hL : L ≤ 2048) (hZ : ∀ (cuts : List Nat) (k pc : Nat) (ls : List (Option Value)) (st : List Value) (ws : zW), zstepN mL xL 175 (some (L, xs)) zRL (zrunN mL xL 175 (some (L, xs)) zRL Z cuts k) pc ls st ws → Z pc ls st ws) (H0 : zAt0 Inv) (Ho : ∀ a0 a1 : Int32, zBoth Inv mX7_minds mX8_minds 4 4 [.int a0, .int a1]) (i : Nat) (hi : i + 4 ≤ L) (wl wr : zW) (I : Inv wl wr) (nxt : ∀ wl' wr', wl'.length = 162 → zInv2 Inv wl' wr' → Z 18 (zLS (nI i + 4)) [] (wl' ++ sh wr')) : Z 385 (zLS (nI i)) [] (wl ++ sh wr) := by
  obtain ⟨hl0, ⟨f, h7⟩, g, h8⟩ := H0 wl wr I
  have q1 : vp_in (nI i + 1) L := by rw [nI_1]; exact vxL (by omega) hL
  have q2 : vp_in (nI i + 2) L := by rw [show (2 : Int32) = nI 2 by decide, nI_add]; exact vxL (by omega) hL
  have q3 : vp_in (nI i + 3) L := by rw [show (3 : Int32) = nI 3 by decide, nI_add]; exact vxL (by omega) hL
  exact hZ [18] 60 _ _ _ _ (And.intro q1 (And.intro q2 (And.intro (rK (as := []) (r7 hl0 h7)) ⟨wl, sh wr, rfl, Or.inl ⟨rfl, rfl, Ho _ _ wl wr I _ (fun v wl' hl hm => And.intro q1 (And.intro q2 (And.intro (rK (as := []) (sh_get hl h8)) ⟨wl', wr, [.ref 0, .int (xs (nI i + 1).toNatClampNeg), .int (xs (nI i + 2).toNatClampNeg)], hl, rfl, rfl, Or.inl ⟨rfl, rfl, hm _ (fun wr' I2 => And.intro (fun _ => nxt wl' wr' hl I2) (fun cc => absurd rfl cc))⟩⟩)))⟩⟩)))
set_option maxRecDepth 100000 in
theorem l10_speeds (hL : L ≤ 2048) (hZ : ∀ (cuts : List Nat) (k pc : Nat) (ls : List (Option Value)) (st : List Value) (ws : zW), zstepN mL xL 175 (some (L, xs)) zRL (zrunN mL xL 175 (some (L, xs)) zRL Z cuts k) pc ls st ws → Z pc ls st ws) (H0 : zAt0 Inv) (Ho : ∀ a0 : Int32, zBoth Inv mX7_speeds mX8_speeds 3 3 [.int a0]) (i : Nat) (hi : i + 4 ≤ L) (wl wr : zW) (I : Inv wl wr) (nxt : ∀ wl' wr', wl'.length = 162 → zInv2 Inv wl' wr' → Z 18 (zLS (nI i + 4)) [] (wl' ++ sh wr')) : Z 418 (zLS (nI i)) [] (wl ++ sh wr) := by
  obtain ⟨hl0, ⟨f, h7⟩, g, h8⟩ := H0 wl wr I
  have q1 : vp_in (nI i + 1) L := by rw [nI_1]; exact vxL (by omega) hL
  have q2 : vp_in (nI i + 2) L := by rw [show (2 : Int32) = nI 2 by decide, nI_add]; exact vxL (by omega) hL
  have q3 : vp_in (nI i + 3) L := by rw [show (3 : Int32) = nI 3 by decide, nI_add]; exact vxL (by omega) hL
  exact hZ [18] 60 _ _ _ _ (And.intro q1 (And.intro (rK (as := []) (r7 hl0 h7)) ⟨wl, sh wr, rfl, Or.inl ⟨rfl, rfl, Ho _ wl wr I _ (fun v wl' hl hm => And.intro q1 (And.intro (rK (as := []) (sh_get hl h8)) ⟨wl', wr, [.ref 0, .int (xs (nI i + 1).toNatClampNeg)], hl, rfl, rfl, Or.inl ⟨rfl, rfl, hm _ (fun wr' I2 => And.intro (fun _ => nxt wl' wr' hl I2) (fun cc => absurd rfl cc))⟩⟩))⟩⟩))
set_option maxRecDepth 100000 in
theorem l11_undo (hL : L ≤ 2048) (hZ : ∀ (cuts : List Nat) (k pc : Nat) (ls : List (Option Value)) (st : List Value) (ws : zW), zstepN mL xL 175 (some (L, xs)) zRL (zrunN mL xL 175 (some (L, xs)) zRL Z cuts k) pc ls st ws → Z pc ls st ws) (H0 : zAt0 Inv) (Ho : zBoth Inv mX7_undo mX8_undo 1 2 []) (i : Nat) (hi : i + 4 ≤ L) (wl wr : zW) (I : Inv wl wr) (nxt : ∀ wl' wr', wl'.length = 162 → zInv2 Inv wl' wr' → Z 18 (zLS (nI i + 4)) [] (wl' ++ sh wr')) : Z 441 (zLS (nI i)) [] (wl ++ sh wr) := by
  obtain ⟨hl0, ⟨f, h7⟩, g, h8⟩ := H0 wl wr I
  have q1 : vp_in (nI i + 1) L := by rw [nI_1]; exact vxL (by omega) hL
  have q2 : vp_in (nI i + 2) L := by rw [show (2 : Int32) = nI 2 by decide, nI_add]; exact vxL (by omega) hL
  have q3 : vp_in (nI i + 3) L := by rw [show (3 : Int32) = nI 3 by decide, nI_add]; exact vxL (by omega) hL
  exact hZ [18] 60 _ _ _ _ (And.intro (rK (as := []) (r7 hl0 h7)) ⟨wl, sh wr, rfl, Or.inl ⟨rfl, rfl, Ho  wl wr I _ (fun v wl' hl hm => And.intro (rK (as := []) (sh_get hl h8)) ⟨wl', wr, [.ref 0], hl, rfl, rfl, Or.inl ⟨rfl, rfl, hm _ (fun wr' I2 => And.intro (fun _ => nxt wl' wr' hl I2) (fun cc => absurd rfl cc))⟩⟩)⟩⟩)
set_option maxRecDepth 100000 in
theorem l12_now (hL : L ≤ 2048) (hZ : ∀ (cuts : List Nat) (k pc : Nat) (ls : List (Option Value)) (st : List Value) (ws : zW), zstepN mL xL 175 (some (L, xs)) zRL (zrunN mL xL 175 (some (L, xs)) zRL Z cuts k) pc ls st ws → Z pc ls st ws) (H0 : zAt0 Inv) (Ho : ∀ a0 : Int32, zBoth Inv mX7_now mX8_now 2 5 [.int a0]) (i : Nat) (hi : i + 4 ≤ L) (wl wr : zW) (I : Inv wl wr) (nxt : ∀ wl' wr', wl'.length = 162 → zInv2 Inv wl' wr' → Z 18 (zLS (nI i + 4)) [] (wl' ++ sh wr')) : Z 454 (zLS (nI i)) [] (wl ++ sh wr) := by
  obtain ⟨hl0, ⟨f, h7⟩, g, h8⟩ := H0 wl wr I
  have q1 : vp_in (nI i + 1) L := by rw [nI_1]; exact vxL (by omega) hL
  have q2 : vp_in (nI i + 2) L := by rw [show (2 : Int32) = nI 2 by decide, nI_add]; exact vxL (by omega) hL
  have q3 : vp_in (nI i + 3) L := by rw [show (3 : Int32) = nI 3 by decide, nI_add]; exact vxL (by omega) hL
  exact hZ [18] 60 _ _ _ _ (And.intro q1 (And.intro (rK (as := []) (r7 hl0 h7)) ⟨wl, sh wr, rfl, Or.inl ⟨rfl, rfl, Ho _ wl wr I _ (fun v wl' hl hm => And.intro q1 (And.intro (rK (as := []) (sh_get hl h8)) ⟨wl', wr, [.ref 0, .int (xs (nI i + 1).toNatClampNeg)], hl, rfl, rfl, Or.inl ⟨rfl, rfl, hm _ (fun wr' I2 => And.intro (fun _ => nxt wl' wr' hl I2) (fun cc => absurd rfl cc))⟩⟩))⟩⟩))
set_option maxRecDepth 100000 in
theorem l13_dressed (hL : L ≤ 2048) (hZ : ∀ (cuts : List Nat) (k pc : Nat) (ls : List (Option Value)) (st : List Value) (ws : zW), zstepN mL xL 175 (some (L, xs)) zRL (zrunN mL xL 175 (some (L, xs)) zRL Z cuts k) pc ls st ws → Z pc ls st ws) (H0 : zAt0 Inv) (Ho : zBoth Inv mX7_dressed mX8_dressed 1 1 []) (i : Nat) (hi : i + 4 ≤ L) (wl wr : zW) (I : Inv wl wr) (nxt : ∀ wl' wr', wl'.length = 162 → zInv2 Inv wl' wr' → Z 18 (zLS (nI i + 4)) [] (wl' ++ sh wr')) : Z 477 (zLS (nI i)) [] (wl ++ sh wr) := by
  obtain ⟨hl0, ⟨f, h7⟩, g, h8⟩ := H0 wl wr I
  have q1 : vp_in (nI i + 1) L := by rw [nI_1]; exact vxL (by omega) hL
  have q2 : vp_in (nI i + 2) L := by rw [show (2 : Int32) = nI 2 by decide, nI_add]; exact vxL (by omega) hL
  have q3 : vp_in (nI i + 3) L := by rw [show (3 : Int32) = nI 3 by decide, nI_add]; exact vxL (by omega) hL
  exact hZ [18] 60 _ _ _ _ (And.intro (rK (as := []) (r7 hl0 h7)) ⟨wl, sh wr, rfl, Or.inl ⟨rfl, rfl, Ho  wl wr I _ (fun v wl' hl hm => And.intro (rK (as := []) (sh_get hl h8)) ⟨wl', wr, [.ref 0], hl, rfl, rfl, Or.inl ⟨rfl, rfl, hm _ (fun wr' I2 => And.intro (fun _ => nxt wl' wr' hl I2) (fun cc => absurd rfl cc))⟩⟩)⟩⟩)
set_option maxRecDepth 100000 in
theorem l14_looks (hL : L ≤ 2048) (hZ : ∀ (cuts : List Nat) (k pc : Nat) (ls : List (Option Value)) (st : List Value) (ws : zW), zstepN mL xL 175 (some (L, xs)) zRL (zrunN mL xL 175 (some (L, xs)) zRL Z cuts k) pc ls st ws → Z pc ls st ws) (H0 : zAt0 Inv) (Ho : ∀ a0 a1 : Int32, zBoth Inv mX7_looks mX8_looks 4 4 [.int a0, .int a1]) (i : Nat) (hi : i + 4 ≤ L) (wl wr : zW) (I : Inv wl wr) (nxt : ∀ wl' wr', wl'.length = 162 → zInv2 Inv wl' wr' → Z 18 (zLS (nI i + 4)) [] (wl' ++ sh wr')) : Z 490 (zLS (nI i)) [] (wl ++ sh wr) := by
  obtain ⟨hl0, ⟨f, h7⟩, g, h8⟩ := H0 wl wr I
  have q1 : vp_in (nI i + 1) L := by rw [nI_1]; exact vxL (by omega) hL
  have q2 : vp_in (nI i + 2) L := by rw [show (2 : Int32) = nI 2 by decide, nI_add]; exact vxL (by omega) hL
  have q3 : vp_in (nI i + 3) L := by rw [show (3 : Int32) = nI 3 by decide, nI_add]; exact vxL (by omega) hL
  exact hZ [18] 60 _ _ _ _ (And.intro q1 (And.intro q2 (And.intro (rK (as := []) (r7 hl0 h7)) ⟨wl, sh wr, rfl, Or.inl ⟨rfl, rfl, Ho _ _ wl wr I _ (fun v wl' hl hm => And.intro q1 (And.intro q2 (And.intro (rK (as := []) (sh_get hl h8)) ⟨wl', wr, [.ref 0, .int (xs (nI i + 1).toNatClampNeg), .int (xs (nI i + 2).toNatClampNeg)], hl, rfl, rfl, Or.inl ⟨rfl, rfl, hm _ (fun wr' I2 => And.intro (fun _ => nxt wl' wr' hl I2) (fun cc => absurd rfl cc))⟩⟩)))⟩⟩)))
set_option maxRecDepth 100000 in
theorem l15_mix (hL : L ≤ 2048) (hZ : ∀ (cuts : List Nat) (k pc : Nat) (ls : List (Option Value)) (st : List Value) (ws : zW), zstepN mL xL 175 (some (L, xs)) zRL (zrunN mL xL 175 (some (L, xs)) zRL Z cuts k) pc ls st ws → Z pc ls st ws) (H0 : zAt0 Inv) (Ho : ∀ a0 : Int32, zBoth Inv mX7_mix mX8_mix 7 6 [.int a0]) (i : Nat) (hi : i + 4 ≤ L) (wl wr : zW) (I : Inv wl wr) (nxt : ∀ wl' wr', wl'.length = 162 → zInv2 Inv wl' wr' → Z 18 (zLS (nI i + 4)) [] (wl' ++ sh wr')) : Z 523 (zLS (nI i)) [] (wl ++ sh wr) := by
  obtain ⟨hl0, ⟨f, h7⟩, g, h8⟩ := H0 wl wr I
  have q1 : vp_in (nI i + 1) L := by rw [nI_1]; exact vxL (by omega) hL
  have q2 : vp_in (nI i + 2) L := by rw [show (2 : Int32) = nI 2 by decide, nI_add]; exact vxL (by omega) hL
  have q3 : vp_in (nI i + 3) L := by rw [show (3 : Int32) = nI 3 by decide, nI_add]; exact vxL (by omega) hL
  exact hZ [18] 60 _ _ _ _ (And.intro q1 (And.intro (rK (as := []) (r7 hl0 h7)) ⟨wl, sh wr, rfl, Or.inl ⟨rfl, rfl, Ho _ wl wr I _ (fun v wl' hl hm => And.intro q1 (And.intro (rK (as := []) (sh_get hl h8)) ⟨wl', wr, [.ref 0, .int (xs (nI i + 1).toNatClampNeg)], hl, rfl, rfl, Or.inl ⟨rfl, rfl, hm _ (fun wr' I2 => And.intro (fun _ => nxt wl' wr' hl I2) (fun cc => absurd rfl cc))⟩⟩))⟩⟩))
set_option maxRecDepth 100000 in
theorem l16_fastest (hL : L ≤ 2048) (hZ : ∀ (cuts : List Nat) (k pc : Nat) (ls : List (Option Value)) (st : List Value) (ws : zW), zstepN mL xL 175 (some (L, xs)) zRL (zrunN mL xL 175 (some (L, xs)) zRL Z cuts k) pc ls st ws → Z pc ls st ws) (H0 : zAt0 Inv) (Ho : zBoth Inv mX7_fastest mX8_fastest 2 4 []) (i : Nat) (hi : i + 4 ≤ L) (wl wr : zW) (I : Inv wl wr) (nxt : ∀ wl' wr', wl'.length = 162 → zInv2 Inv wl' wr' → Z 18 (zLS (nI i + 4)) [] (wl' ++ sh wr')) : Z 546 (zLS (nI i)) [] (wl ++ sh wr) := by
  obtain ⟨hl0, ⟨f, h7⟩, g, h8⟩ := H0 wl wr I
  have q1 : vp_in (nI i + 1) L := by rw [nI_1]; exact vxL (by omega) hL
  have q2 : vp_in (nI i + 2) L := by rw [show (2 : Int32) = nI 2 by decide, nI_add]; exact vxL (by omega) hL
  have q3 : vp_in (nI i + 3) L := by rw [show (3 : Int32) = nI 3 by decide, nI_add]; exact vxL (by omega) hL
  exact hZ [18] 60 _ _ _ _ (And.intro (rK (as := []) (r7 hl0 h7)) ⟨wl, sh wr, rfl, Or.inl ⟨rfl, rfl, Ho  wl wr I _ (fun v wl' hl hm => And.intro (rK (as := []) (sh_get hl h8)) ⟨wl', wr, [.ref 0], hl, rfl, rfl, Or.inl ⟨rfl, rfl, hm _ (fun wr' I2 => And.intro (fun _ => nxt wl' wr' hl I2) (fun cc => absurd rfl cc))⟩⟩)⟩⟩)
set_option maxRecDepth 100000 in
theorem l17_order (hL : L ≤ 2048) (hZ : ∀ (cuts : List Nat) (k pc : Nat) (ls : List (Option Value)) (st : List Value) (ws : zW), zstepN mL xL 175 (some (L, xs)) zRL (zrunN mL xL 175 (some (L, xs)) zRL Z cuts k) pc ls st ws → Z pc ls st ws) (H0 : zAt0 Inv) (Ho : ∀ a0 : Int32, zBoth Inv mX7_order mX8_order 2 5 [.int a0]) (i : Nat) (hi : i + 4 ≤ L) (wl wr : zW) (I : Inv wl wr) (nxt : ∀ wl' wr', wl'.length = 162 → zInv2 Inv wl' wr' → Z 18 (zLS (nI i + 4)) [] (wl' ++ sh wr')) : Z 559 (zLS (nI i)) [] (wl ++ sh wr) := by
  obtain ⟨hl0, ⟨f, h7⟩, g, h8⟩ := H0 wl wr I
  have q1 : vp_in (nI i + 1) L := by rw [nI_1]; exact vxL (by omega) hL
  have q2 : vp_in (nI i + 2) L := by rw [show (2 : Int32) = nI 2 by decide, nI_add]; exact vxL (by omega) hL
  have q3 : vp_in (nI i + 3) L := by rw [show (3 : Int32) = nI 3 by decide, nI_add]; exact vxL (by omega) hL
  exact hZ [18] 60 _ _ _ _ (And.intro q1 (And.intro (rK (as := []) (r7 hl0 h7)) ⟨wl, sh wr, rfl, Or.inl ⟨rfl, rfl, Ho _ wl wr I _ (fun v wl' hl hm => And.intro q1 (And.intro (rK (as := []) (sh_get hl h8)) ⟨wl', wr, [.ref 0, .int (xs (nI i + 1).toNatClampNeg)], hl, rfl, rfl, Or.inl ⟨rfl, rfl, hm _ (fun wr' I2 => And.intro (fun _ => nxt wl' wr' hl I2) (fun cc => absurd rfl cc))⟩⟩))⟩⟩))
set_option maxRecDepth 100000 in
theorem l18_inStep (hL : L ≤ 2048) (hZ : ∀ (cuts : List Nat) (k pc : Nat) (ls : List (Option Value)) (st : List Value) (ws : zW), zstepN mL xL 175 (some (L, xs)) zRL (zrunN mL xL 175 (some (L, xs)) zRL Z cuts k) pc ls st ws → Z pc ls st ws) (H0 : zAt0 Inv) (Ho : zBoth Inv mX7_inStep mX8_inStep 2 4 []) (i : Nat) (hi : i + 4 ≤ L) (wl wr : zW) (I : Inv wl wr) (nxt : ∀ wl' wr', wl'.length = 162 → zInv2 Inv wl' wr' → Z 18 (zLS (nI i + 4)) [] (wl' ++ sh wr')) : Z 582 (zLS (nI i)) [] (wl ++ sh wr) := by
  obtain ⟨hl0, ⟨f, h7⟩, g, h8⟩ := H0 wl wr I
  have q1 : vp_in (nI i + 1) L := by rw [nI_1]; exact vxL (by omega) hL
  have q2 : vp_in (nI i + 2) L := by rw [show (2 : Int32) = nI 2 by decide, nI_add]; exact vxL (by omega) hL
  have q3 : vp_in (nI i + 3) L := by rw [show (3 : Int32) = nI 3 by decide, nI_add]; exact vxL (by omega) hL
  exact hZ [18] 60 _ _ _ _ (And.intro (rK (as := []) (r7 hl0 h7)) ⟨wl, sh wr, rfl, Or.inl ⟨rfl, rfl, Ho  wl wr I _ (fun v wl' hl hm => And.intro (rK (as := []) (sh_get hl h8)) ⟨wl', wr, [.ref 0], hl, rfl, rfl, Or.inl ⟨rfl, rfl, hm _ (fun wr' I2 => And.intro (fun _ => nxt wl' wr' hl I2) (fun cc => absurd rfl cc))⟩⟩)⟩⟩)
set_option maxRecDepth 100000 in
theorem l19_behind (hL : L ≤ 2048) (hZ : ∀ (cuts : List Nat) (k pc : Nat) (ls : List (Option Value)) (st : List Value) (ws : zW), zstepN mL xL 175 (some (L, xs)) zRL (zrunN mL xL 175 (some (L, xs)) zRL Z cuts k) pc ls st ws → Z pc ls st ws) (H0 : zAt0 Inv) (Ho : ∀ a0 : Int32, zBoth Inv mX7_behind mX8_behind 4 6 [.int a0]) (i : Nat) (hi : i + 4 ≤ L) (wl wr : zW) (I : Inv wl wr) (nxt : ∀ wl' wr', wl'.length = 162 → zInv2 Inv wl' wr' → Z 18 (zLS (nI i + 4)) [] (wl' ++ sh wr')) : Z 595 (zLS (nI i)) [] (wl ++ sh wr) := by
  obtain ⟨hl0, ⟨f, h7⟩, g, h8⟩ := H0 wl wr I
  have q1 : vp_in (nI i + 1) L := by rw [nI_1]; exact vxL (by omega) hL
  have q2 : vp_in (nI i + 2) L := by rw [show (2 : Int32) = nI 2 by decide, nI_add]; exact vxL (by omega) hL
  have q3 : vp_in (nI i + 3) L := by rw [show (3 : Int32) = nI 3 by decide, nI_add]; exact vxL (by omega) hL
  exact hZ [18] 60 _ _ _ _ (And.intro q1 (And.intro (rK (as := []) (r7 hl0 h7)) ⟨wl, sh wr, rfl, Or.inl ⟨rfl, rfl, Ho _ wl wr I _ (fun v wl' hl hm => And.intro q1 (And.intro (rK (as := []) (sh_get hl h8)) ⟨wl', wr, [.ref 0, .int (xs (nI i + 1).toNatClampNeg)], hl, rfl, rfl, Or.inl ⟨rfl, rfl, hm _ (fun wr' I2 => And.intro (fun _ => nxt wl' wr' hl I2) (fun cc => absurd rfl cc))⟩⟩))⟩⟩))
set_option maxRecDepth 100000 in
theorem l20_post (hL : L ≤ 2048) (hZ : ∀ (cuts : List Nat) (k pc : Nat) (ls : List (Option Value)) (st : List Value) (ws : zW), zstepN mL xL 175 (some (L, xs)) zRL (zrunN mL xL 175 (some (L, xs)) zRL Z cuts k) pc ls st ws → Z pc ls st ws) (H0 : zAt0 Inv) (Ho : ∀ a0 a1 : Int32, zBoth Inv mX7_post mX8_post 3 4 [.int a0, .int a1]) (i : Nat) (hi : i + 4 ≤ L) (wl wr : zW) (I : Inv wl wr) (nxt : ∀ wl' wr', wl'.length = 162 → zInv2 Inv wl' wr' → Z 18 (zLS (nI i + 4)) [] (wl' ++ sh wr')) : Z 618 (zLS (nI i)) [] (wl ++ sh wr) := by
  obtain ⟨hl0, ⟨f, h7⟩, g, h8⟩ := H0 wl wr I
  have q1 : vp_in (nI i + 1) L := by rw [nI_1]; exact vxL (by omega) hL
  have q2 : vp_in (nI i + 2) L := by rw [show (2 : Int32) = nI 2 by decide, nI_add]; exact vxL (by omega) hL
  have q3 : vp_in (nI i + 3) L := by rw [show (3 : Int32) = nI 3 by decide, nI_add]; exact vxL (by omega) hL
  exact hZ [18] 60 _ _ _ _ (And.intro q1 (And.intro q2 (And.intro (rK (as := []) (r7 hl0 h7)) ⟨wl, sh wr, rfl, Or.inl ⟨rfl, rfl, Ho _ _ wl wr I _ (fun v wl' hl hm => And.intro q1 (And.intro q2 (And.intro (rK (as := []) (sh_get hl h8)) ⟨wl', wr, [.ref 0, .int (xs (nI i + 1).toNatClampNeg), .int (xs (nI i + 2).toNatClampNeg)], hl, rfl, rfl, Or.inl ⟨rfl, rfl, hm _ (fun wr' I2 => And.intro (fun _ => nxt wl' wr' hl I2) (fun cc => absurd rfl cc))⟩⟩)))⟩⟩)))
set_option maxRecDepth 100000 in
theorem l21_odds (hL : L ≤ 2048) (hZ : ∀ (cuts : List Nat) (k pc : Nat) (ls : List (Option Value)) (st : List Value) (ws : zW), zstepN mL xL 175 (some (L, xs)) zRL (zrunN mL xL 175 (some (L, xs)) zRL Z cuts k) pc ls st ws → Z pc ls st ws) (H0 : zAt0 Inv) (Ho : ∀ a0 a1 a2 : Int32, zBoth Inv mX7_odds mX8_odds 7 11 [.int a0, .int a1, .int a2]) (i : Nat) (hi : i + 4 ≤ L) (wl wr : zW) (I : Inv wl wr) (nxt : ∀ wl' wr', wl'.length = 162 → zInv2 Inv wl' wr' → Z 18 (zLS (nI i + 4)) [] (wl' ++ sh wr')) : Z 651 (zLS (nI i)) [] (wl ++ sh wr) := by
  obtain ⟨hl0, ⟨f, h7⟩, g, h8⟩ := H0 wl wr I
  have q1 : vp_in (nI i + 1) L := by rw [nI_1]; exact vxL (by omega) hL
  have q2 : vp_in (nI i + 2) L := by rw [show (2 : Int32) = nI 2 by decide, nI_add]; exact vxL (by omega) hL
  have q3 : vp_in (nI i + 3) L := by rw [show (3 : Int32) = nI 3 by decide, nI_add]; exact vxL (by omega) hL
  exact hZ [18] 60 _ _ _ _ (And.intro q1 (And.intro q2 (And.intro q3 (And.intro (rK (as := []) (r7 hl0 h7)) ⟨wl, sh wr, rfl, Or.inl ⟨rfl, rfl, Ho _ _ _ wl wr I _ (fun v wl' hl hm => And.intro q1 (And.intro q2 (And.intro q3 (And.intro (rK (as := []) (sh_get hl h8)) ⟨wl', wr, [.ref 0, .int (xs (nI i + 1).toNatClampNeg), .int (xs (nI i + 2).toNatClampNeg), .int (xs (nI i + 3).toNatClampNeg)], hl, rfl, rfl, Or.inl ⟨rfl, rfl, hm _ (fun wr' I2 => And.intro (fun _ => nxt wl' wr' hl I2) (fun cc => absurd rfl cc))⟩⟩))))⟩⟩))))
set_option maxRecDepth 100000 in
theorem l22_saw (hL : L ≤ 2048) (hZ : ∀ (cuts : List Nat) (k pc : Nat) (ls : List (Option Value)) (st : List Value) (ws : zW), zstepN mL xL 175 (some (L, xs)) zRL (zrunN mL xL 175 (some (L, xs)) zRL Z cuts k) pc ls st ws → Z pc ls st ws) (H0 : zAt0 Inv) (Ho : ∀ a0 a1 a2 : Int32, zBoth Inv mX7_saw mX8_saw 4 4 [.int a0, .int a1, .int a2]) (i : Nat) (hi : i + 4 ≤ L) (wl wr : zW) (I : Inv wl wr) (nxt : ∀ wl' wr', wl'.length = 162 → zInv2 Inv wl' wr' → Z 18 (zLS (nI i + 4)) [] (wl' ++ sh wr')) : Z 694 (zLS (nI i)) [] (wl ++ sh wr) := by
  obtain ⟨hl0, ⟨f, h7⟩, g, h8⟩ := H0 wl wr I
  have q1 : vp_in (nI i + 1) L := by rw [nI_1]; exact vxL (by omega) hL
  have q2 : vp_in (nI i + 2) L := by rw [show (2 : Int32) = nI 2 by decide, nI_add]; exact vxL (by omega) hL
  have q3 : vp_in (nI i + 3) L := by rw [show (3 : Int32) = nI 3 by decide, nI_add]; exact vxL (by omega) hL
  exact hZ [18] 60 _ _ _ _ (And.intro q1 (And.intro q2 (And.intro q3 (And.intro (rK (as := []) (r7 hl0 h7)) ⟨wl, sh wr, rfl, Or.inl ⟨rfl, rfl, Ho _ _ _ wl wr I _ (fun v wl' hl hm => And.intro q1 (And.intro q2 (And.intro q3 (And.intro (rK (as := []) (sh_get hl h8)) ⟨wl', wr, [.ref 0, .int (xs (nI i + 1).toNatClampNeg), .int (xs (nI i + 2).toNatClampNeg), .int (xs (nI i + 3).toNatClampNeg)], hl, rfl, rfl, Or.inl ⟨rfl, rfl, hm _ (fun wr' I2 => And.intro (fun _ => nxt wl' wr' hl I2) (fun cc => absurd rfl cc))⟩⟩))))⟩⟩))))
set_option maxRecDepth 100000 in
theorem l23_forget (hL : L ≤ 2048) (hZ : ∀ (cuts : List Nat) (k pc : Nat) (ls : List (Option Value)) (st : List Value) (ws : zW), zstepN mL xL 175 (some (L, xs)) zRL (zrunN mL xL 175 (some (L, xs)) zRL Z cuts k) pc ls st ws → Z pc ls st ws) (H0 : zAt0 Inv) (Ho : zBoth Inv mX7_forget mX8_forget 2 2 []) (i : Nat) (hi : i + 4 ≤ L) (wl wr : zW) (I : Inv wl wr) (nxt : ∀ wl' wr', wl'.length = 162 → zInv2 Inv wl' wr' → Z 18 (zLS (nI i + 4)) [] (wl' ++ sh wr')) : Z 737 (zLS (nI i)) [] (wl ++ sh wr) := by
  obtain ⟨hl0, ⟨f, h7⟩, g, h8⟩ := H0 wl wr I
  have q1 : vp_in (nI i + 1) L := by rw [nI_1]; exact vxL (by omega) hL
  have q2 : vp_in (nI i + 2) L := by rw [show (2 : Int32) = nI 2 by decide, nI_add]; exact vxL (by omega) hL
  have q3 : vp_in (nI i + 3) L := by rw [show (3 : Int32) = nI 3 by decide, nI_add]; exact vxL (by omega) hL
  exact hZ [18] 60 _ _ _ _ (And.intro (rK (as := []) (r7 hl0 h7)) ⟨wl, sh wr, rfl, Or.inl ⟨rfl, rfl, Ho  wl wr I _ (fun v wl' hl hm => And.intro (rK (as := []) (sh_get hl h8)) ⟨wl', wr, [.ref 0], hl, rfl, rfl, Or.inl ⟨rfl, rfl, hm _ (fun wr' I2 => And.intro (fun _ => nxt wl' wr' hl I2) (fun cc => absurd rfl cc))⟩⟩)⟩⟩)
set_option maxRecDepth 100000 in
theorem l24_whose (hL : L ≤ 2048) (hZ : ∀ (cuts : List Nat) (k pc : Nat) (ls : List (Option Value)) (st : List Value) (ws : zW), zstepN mL xL 175 (some (L, xs)) zRL (zrunN mL xL 175 (some (L, xs)) zRL Z cuts k) pc ls st ws → Z pc ls st ws) (H0 : zAt0 Inv) (Ho : ∀ a0 : Int32, zBoth Inv mX7_whose mX8_whose 7 7 [.int a0]) (i : Nat) (hi : i + 4 ≤ L) (wl wr : zW) (I : Inv wl wr) (nxt : ∀ wl' wr', wl'.length = 162 → zInv2 Inv wl' wr' → Z 18 (zLS (nI i + 4)) [] (wl' ++ sh wr')) : Z 750 (zLS (nI i)) [] (wl ++ sh wr) := by
  obtain ⟨hl0, ⟨f, h7⟩, g, h8⟩ := H0 wl wr I
  have q1 : vp_in (nI i + 1) L := by rw [nI_1]; exact vxL (by omega) hL
  have q2 : vp_in (nI i + 2) L := by rw [show (2 : Int32) = nI 2 by decide, nI_add]; exact vxL (by omega) hL
  have q3 : vp_in (nI i + 3) L := by rw [show (3 : Int32) = nI 3 by decide, nI_add]; exact vxL (by omega) hL
  exact hZ [18] 60 _ _ _ _ (And.intro q1 (And.intro (rK (as := []) (r7 hl0 h7)) ⟨wl, sh wr, rfl, Or.inl ⟨rfl, rfl, Ho _ wl wr I _ (fun v wl' hl hm => And.intro q1 (And.intro (rK (as := []) (sh_get hl h8)) ⟨wl', wr, [.ref 0, .int (xs (nI i + 1).toNatClampNeg)], hl, rfl, rfl, Or.inl ⟨rfl, rfl, hm _ (fun wr' I2 => And.intro (fun _ => nxt wl' wr' hl I2) (fun cc => absurd rfl cc))⟩⟩))⟩⟩))
set_option maxRecDepth 100000 in
theorem l25_rate (hL : L ≤ 2048) (hZ : ∀ (cuts : List Nat) (k pc : Nat) (ls : List (Option Value)) (st : List Value) (ws : zW), zstepN mL xL 175 (some (L, xs)) zRL (zrunN mL xL 175 (some (L, xs)) zRL Z cuts k) pc ls st ws → Z pc ls st ws) (H0 : zAt0 Inv) (Ho : ∀ a0 a1 : Int32, zBoth Inv mX7_rate mX8_rate 3 6 [.int a0, .int a1]) (i : Nat) (hi : i + 4 ≤ L) (wl wr : zW) (I : Inv wl wr) (nxt : ∀ wl' wr', wl'.length = 162 → zInv2 Inv wl' wr' → Z 18 (zLS (nI i + 4)) [] (wl' ++ sh wr')) : Z 773 (zLS (nI i)) [] (wl ++ sh wr) := by
  obtain ⟨hl0, ⟨f, h7⟩, g, h8⟩ := H0 wl wr I
  have q1 : vp_in (nI i + 1) L := by rw [nI_1]; exact vxL (by omega) hL
  have q2 : vp_in (nI i + 2) L := by rw [show (2 : Int32) = nI 2 by decide, nI_add]; exact vxL (by omega) hL
  have q3 : vp_in (nI i + 3) L := by rw [show (3 : Int32) = nI 3 by decide, nI_add]; exact vxL (by omega) hL
  exact hZ [18] 60 _ _ _ _ (And.intro q1 (And.intro q2 (And.intro (rK (as := []) (r7 hl0 h7)) ⟨wl, sh wr, rfl, Or.inl ⟨rfl, rfl, Ho _ _ wl wr I _ (fun v wl' hl hm => And.intro q1 (And.intro q2 (And.intro (rK (as := []) (sh_get hl h8)) ⟨wl', wr, [.ref 0, .int (xs (nI i + 1).toNatClampNeg), .int (xs (nI i + 2).toNatClampNeg)], hl, rfl, rfl, Or.inl ⟨rfl, rfl, hm _ (fun wr' I2 => And.intro (fun _ => nxt wl' wr' hl I2) (fun cc => absurd rfl cc))⟩⟩)))⟩⟩)))
set_option maxRecDepth 100000 in
theorem l26_keep (hL : L ≤ 2048) (hZ : ∀ (cuts : List Nat) (k pc : Nat) (ls : List (Option Value)) (st : List Value) (ws : zW), zstepN mL xL 175 (some (L, xs)) zRL (zrunN mL xL 175 (some (L, xs)) zRL Z cuts k) pc ls st ws → Z pc ls st ws) (H0 : zAt0 Inv) (Ho : ∀ a0 : Int32, zBoth Inv mX7_keep mX8_keep 2 3 [.int a0]) (i : Nat) (hi : i + 4 ≤ L) (wl wr : zW) (I : Inv wl wr) (nxt : ∀ wl' wr', wl'.length = 162 → zInv2 Inv wl' wr' → Z 18 (zLS (nI i + 4)) [] (wl' ++ sh wr')) : Z 806 (zLS (nI i)) [] (wl ++ sh wr) := by
  obtain ⟨hl0, ⟨f, h7⟩, g, h8⟩ := H0 wl wr I
  have q1 : vp_in (nI i + 1) L := by rw [nI_1]; exact vxL (by omega) hL
  have q2 : vp_in (nI i + 2) L := by rw [show (2 : Int32) = nI 2 by decide, nI_add]; exact vxL (by omega) hL
  have q3 : vp_in (nI i + 3) L := by rw [show (3 : Int32) = nI 3 by decide, nI_add]; exact vxL (by omega) hL
  exact hZ [18] 60 _ _ _ _ (And.intro q1 (And.intro (rK (as := []) (r7 hl0 h7)) ⟨wl, sh wr, rfl, Or.inl ⟨rfl, rfl, Ho _ wl wr I _ (fun v wl' hl hm => And.intro q1 (And.intro (rK (as := []) (sh_get hl h8)) ⟨wl', wr, [.ref 0, .int (xs (nI i + 1).toNatClampNeg)], hl, rfl, rfl, Or.inl ⟨rfl, rfl, hm _ (fun wr' I2 => And.intro (fun _ => nxt wl' wr' hl I2) (fun cc => absurd rfl cc))⟩⟩))⟩⟩))
set_option maxRecDepth 100000 in
theorem l27_back (hL : L ≤ 2048) (hZ : ∀ (cuts : List Nat) (k pc : Nat) (ls : List (Option Value)) (st : List Value) (ws : zW), zstepN mL xL 175 (some (L, xs)) zRL (zrunN mL xL 175 (some (L, xs)) zRL Z cuts k) pc ls st ws → Z pc ls st ws) (H0 : zAt0 Inv) (Ho : ∀ a0 : Int32, zBoth Inv mX7_back mX8_back 2 3 [.int a0]) (i : Nat) (hi : i + 4 ≤ L) (wl wr : zW) (I : Inv wl wr) (nxt : ∀ wl' wr', wl'.length = 162 → zInv2 Inv wl' wr' → Z 18 (zLS (nI i + 4)) [] (wl' ++ sh wr')) : Z 829 (zLS (nI i)) [] (wl ++ sh wr) := by
  obtain ⟨hl0, ⟨f, h7⟩, g, h8⟩ := H0 wl wr I
  have q1 : vp_in (nI i + 1) L := by rw [nI_1]; exact vxL (by omega) hL
  have q2 : vp_in (nI i + 2) L := by rw [show (2 : Int32) = nI 2 by decide, nI_add]; exact vxL (by omega) hL
  have q3 : vp_in (nI i + 3) L := by rw [show (3 : Int32) = nI 3 by decide, nI_add]; exact vxL (by omega) hL
  exact hZ [18] 60 _ _ _ _ (And.intro q1 (And.intro (rK (as := []) (r7 hl0 h7)) ⟨wl, sh wr, rfl, Or.inl ⟨rfl, rfl, Ho _ wl wr I _ (fun v wl' hl hm => And.intro q1 (And.intro (rK (as := []) (sh_get hl h8)) ⟨wl', wr, [.ref 0, .int (xs (nI i + 1).toNatClampNeg)], hl, rfl, rfl, Or.inl ⟨rfl, rfl, hm _ (fun wr' I2 => And.intro (fun _ => nxt wl' wr' hl I2) (fun cc => absurd rfl cc))⟩⟩))⟩⟩))
set_option maxRecDepth 100000 in
theorem l28_count (hL : L ≤ 2048) (hZ : ∀ (cuts : List Nat) (k pc : Nat) (ls : List (Option Value)) (st : List Value) (ws : zW), zstepN mL xL 175 (some (L, xs)) zRL (zrunN mL xL 175 (some (L, xs)) zRL Z cuts k) pc ls st ws → Z pc ls st ws) (H0 : zAt0 Inv) (Ho : ∀ a0 : Int32, zBoth Inv mX7_count mX8_count 2 2 [.int a0]) (i : Nat) (hi : i + 4 ≤ L) (wl wr : zW) (I : Inv wl wr) (nxt : ∀ wl' wr', wl'.length = 162 → zInv2 Inv wl' wr' → Z 18 (zLS (nI i + 4)) [] (wl' ++ sh wr')) : Z 852 (zLS (nI i)) [] (wl ++ sh wr) := by
  obtain ⟨hl0, ⟨f, h7⟩, g, h8⟩ := H0 wl wr I
  have q1 : vp_in (nI i + 1) L := by rw [nI_1]; exact vxL (by omega) hL
  have q2 : vp_in (nI i + 2) L := by rw [show (2 : Int32) = nI 2 by decide, nI_add]; exact vxL (by omega) hL
  have q3 : vp_in (nI i + 3) L := by rw [show (3 : Int32) = nI 3 by decide, nI_add]; exact vxL (by omega) hL
  exact hZ [18] 60 _ _ _ _ (And.intro q1 (And.intro (rK (as := []) (r7 hl0 h7)) ⟨wl, sh wr, rfl, Or.inl ⟨rfl, rfl, Ho _ wl wr I _ (fun v wl' hl hm => And.intro q1 (And.intro (rK (as := []) (sh_get hl h8)) ⟨wl', wr, [.ref 0, .int (xs (nI i + 1).toNatClampNeg)], hl, rfl, rfl, Or.inl ⟨rfl, rfl, hm _ (fun wr' I2 => And.intro (fun _ => nxt wl' wr' hl I2) (fun cc => absurd rfl cc))⟩⟩))⟩⟩))
set_option maxRecDepth 100000 in
theorem l29_trace (hL : L ≤ 2048) (hZ : ∀ (cuts : List Nat) (k pc : Nat) (ls : List (Option Value)) (st : List Value) (ws : zW), zstepN mL xL 175 (some (L, xs)) zRL (zrunN mL xL 175 (some (L, xs)) zRL Z cuts k) pc ls st ws → Z pc ls st ws) (H0 : zAt0 Inv) (Ho : zBothL Inv mX7_trace mX8_trace 1 1) (i : Nat) (hi : i + 4 ≤ L) (wl wr : zW) (I : Inv wl wr) (nxt : ∀ wl' wr', wl'.length = 162 → zInv2 Inv wl' wr' → Z 18 (zLS (nI i + 4)) [] (wl' ++ sh wr')) : Z 875 (zLS (nI i)) [] (wl ++ sh wr) := by
  obtain ⟨hl0, ⟨f, h7⟩, g, h8⟩ := H0 wl wr I
  have q1 : vp_in (nI i + 1) L := by rw [nI_1]; exact vxL (by omega) hL
  have q2 : vp_in (nI i + 2) L := by rw [show (2 : Int32) = nI 2 by decide, nI_add]; exact vxL (by omega) hL
  have q3 : vp_in (nI i + 3) L := by rw [show (3 : Int32) = nI 3 by decide, nI_add]; exact vxL (by omega) hL
  exact hZ [18] 60 _ _ _ _ (And.intro (rK (as := []) (r7 hl0 h7)) ⟨wl, sh wr, rfl, Or.inl ⟨rfl, rfl, Ho  wl wr I _ (fun v wl' hl hm => And.intro (rK (as := []) (sh_get hl h8)) ⟨wl', wr, [.ref 0], hl, rfl, rfl, Or.inl ⟨rfl, rfl, hm _ (fun wr' I2 => And.intro (fun _ => nxt wl' wr' hl I2) (fun cc => absurd (lcmp_self v) cc))⟩⟩)⟩⟩)

set_option maxRecDepth 100000 in
set_option maxHeartbeats 4000000 in
theorem law_go (H : zOps Inv) (hL : L ≤ 2048) (hZ : ∀ (cuts : List Nat) (k pc : Nat) (ls : List (Option Value)) (st : List Value) (ws : zW), zstepN mL xL 175 (some (L, xs)) zRL (zrunN mL xL 175 (some (L, xs)) zRL Z cuts k) pc ls st ws → Z pc ls st ws) (hrot : ∀ (i : Int32) (wl wl2 wr : zW), zRot wl wl2 → Z 18 (zLS i) [] (wl2 ++ sh wr) → Z 18 (zLS i) [] (wl ++ sh wr)) : ∀ (d i : Nat) (wl wr : zW), i ≤ L + 4 → L + 5 ≤ i + d → Inv wl wr → Z 18 (zLS (nI i)) [] (wl ++ sh wr) := by
  obtain ⟨H0, g0, g1, g2, g3, g4, g5, g6, g7, g8, g9, g10, g11, g12, g13, g14, g15, g16, g17, g18, g19, g20, g21, g22, g23, g24, g25, g26, g27, g28, g29⟩ := H
  intro d
  induction d with
  | zero => intro i wl wr h1 h2; omega
  | succ d ih =>
    intro i wl wr h1 h2 I
    have e4 : (Int32.ofNat L - 4 : Int32).toInt = (L : Int) - 4 := by
      have e1 : (Int32.ofNat L).toInt = (L : Int) := nI_toInt (n := L) (by omega)
      have e2 : (4 : Int32).toInt = 4 := by decide
      rw [Int32.toInt_sub, e1, e2]
      rw [Int.bmod_eq_of_le (by omega) (by omega)]
    have ei : (nI i).toInt = (i : Int) := nI_toInt (by omega)
    refine hZ [18, 168, 191, 204, 217, 250, 283, 296, 329, 352, 385, 418, 441, 454, 477, 490, 523, 546, 559, 582, 595, 618, 651, 694, 737, 750, 773, 806, 829, 852, 875] 60 _ _ _ _ (And.intro (fun c => rfl) (fun c => ?_))
    have hi : i + 4 ≤ L := by
      have c : ¬ (Int32.ofNat L - 4 : Int32) < nI i := c
      rw [Int32.lt_iff_toInt_lt, e4, ei] at c
      omega
    have nxt : ∀ wl' wr', wl'.length = 162 → zInv2 Inv wl' wr' → Z 18 (zLS (nI i + 4)) [] (wl' ++ sh wr') := by
      intro wl' wr' hl ⟨wl2, h3, I2⟩
      have h4 := ih (i + 4) wl2 wr' (by omega) (by omega) I2
      rw [show nI (i + 4) = nI i + 4 from by rw [show (4 : Int32) = nI 4 by decide, nI_add]] at h4
      rcases h3 with rfl | h3
      · exact h4
      · exact hrot _ _ _ _ h3 h4
    obtain ⟨hl0, -⟩ := H0 wl wr I
    exact And.intro (vxL (by omega) hL) (And.intro (fun _ => nxt wl wr hl0 ⟨wl, Or.inl rfl, I⟩) (And.intro (fun _ => l0_type hL hZ H0 g0 i hi wl wr I nxt) (And.intro (fun _ => l1_clear hL hZ H0 g1 i hi wl wr I nxt) (And.intro (fun _ => l2_rank hL hZ H0 g2 i hi wl wr I nxt) (And.intro (fun _ => l3_man hL hZ H0 g3 i hi wl wr I nxt) (And.intro (fun _ => l4_place hL hZ H0 g4 i hi wl wr I nxt) (And.intro (fun _ => l5_wheels hL hZ H0 g5 i hi wl wr I nxt) (And.intro (fun _ => l6_slips hL hZ H0 g6 i hi wl wr I nxt) (And.intro (fun _ => l7_hops hL hZ H0 g7 i hi wl wr I nxt) (And.intro (fun _ => l8_swaps hL hZ H0 g8 i hi wl wr I nxt) (And.intro (fun _ => l9_minds hL hZ H0 g9 i hi wl wr I nxt) (And.intro (fun _ => l10_speeds hL hZ H0 g10 i hi wl wr I nxt) (And.intro (fun _ => l11_undo hL hZ H0 g11 i hi wl wr I nxt) (And.intro (fun _ => l12_now hL hZ H0 g12 i hi wl wr I nxt) (And.intro (fun _ => l13_dressed hL hZ H0 g13 i hi wl wr I nxt) (And.intro (fun _ => l14_looks hL hZ H0 g14 i hi wl wr I nxt) (And.intro (fun _ => l15_mix hL hZ H0 g15 i hi wl wr I nxt) (And.intro (fun _ => l16_fastest hL hZ H0 g16 i hi wl wr I nxt) (And.intro (fun _ => l17_order hL hZ H0 g17 i hi wl wr I nxt) (And.intro (fun _ => l18_inStep hL hZ H0 g18 i hi wl wr I nxt) (And.intro (fun _ => l19_behind hL hZ H0 g19 i hi wl wr I nxt) (And.intro (fun _ => l20_post hL hZ H0 g20 i hi wl wr I nxt) (And.intro (fun _ => l21_odds hL hZ H0 g21 i hi wl wr I nxt) (And.intro (fun _ => l22_saw hL hZ H0 g22 i hi wl wr I nxt) (And.intro (fun _ => l23_forget hL hZ H0 g23 i hi wl wr I nxt) (And.intro (fun _ => l24_whose hL hZ H0 g24 i hi wl wr I nxt) (And.intro (fun _ => l25_rate hL hZ H0 g25 i hi wl wr I nxt) (And.intro (fun _ => l26_keep hL hZ H0 g26 i hi wl wr I nxt) (And.intro (fun _ => l27_back hL hZ H0 g27 i hi wl wr I nxt) (And.intro (fun _ => l28_count hL hZ H0 g28 i hi wl wr I nxt) (And.intro (fun _ => l29_trace hL hZ H0 g29 i hi wl wr I nxt) (trivial))))))))))))))))))))))))))))))))
end LP
