
theorem mIs_td {F G : Nat → Int32} {x : zLn} (h : mIs F x) (hG : ∀ k, k < 25 → G k = F k) : mIs G x := fun k hk => (hG k hk).trans (h k hk)
theorem mIs_mind {F : Nat → Int32} {x : zLn} (h : mIs F x) (e l : Int32) : mIs (upd (upd F 22 e) 23 l) (sMind e l x) := by
  refine mIs_of (fun k hk => ?_) (fun k hk => ?_) (fun k hk => ?_) ?_ ?_ ?_ ?_
  · rw [pk_un (by omega), pk_un (by omega)]; exact mIs_w h hk
  · rw [pk_un (by omega), pk_un (by omega)]; exact mIs_i h hk
  · rw [pk_un (by omega), pk_un (by omega)]; exact mIs_f h hk
  · rw [pk_un (by omega), pk_un (by omega)]; exact (mIs_21 h :)
  · rw [pk_un (by omega), pk_us]; rfl
  · rw [pk_us]; rfl
  · rw [pk_un (by omega), pk_un (by omega)]; exact (mIs_24 h :)
/-- the steps of the reference count PACES too; what they show is the same -/
def sTk (k : Nat) (y : zLn) : zLn := (y.1, y.2.1, y.2.2.1, y.2.2.2.1, y.2.2.2.2.1, y.2.2.2.2.2.1, y.2.2.2.2.2.2 + nI k)
theorem sTick_step (n : Nat) (lg : Nat → Int32) (q : Int32) (k : Nat) (y : zLn) : sTick (sStep n lg q (sTk k y)) = sTk (k + 1) (sStep n lg q y) := by
  show (_, _, _, _, _, _, y.2.2.2.2.2.2 + nI k + 1) = (_, _, _, _, _, _, y.2.2.2.2.2.2 + nI (k + 1))
  rw [Int32.add_assoc, nI_1]
  rfl
theorem sTk_0 (y : zLn) : sTk 0 y = y := by
  show (_, _, _, _, _, _, y.2.2.2.2.2.2 + nI 0) = _
  rw [show nI 0 = 0 from nI_0, Int32.add_zero]
def sTillM (n : Nat) (lg : Nat → Int32) : Nat → Nat → zLn → Int32
  | 0, _, _ => -1009
  | r + 1, k, y => if sLine y.2.1 n = n then nI k else sTillM n lg r (k + 1) (sStep n lg (-1) y)
theorem sMv_nopost {w i : Nat → Int32} {pc ey el : Int32} {n : Nat} {lg : Nat → Int32} {p : Nat} (hp : p < 1000) : sMv w i pc ey el n lg (-1009) p = sMv w i pc ey el n lg (-1) p := by
  have h1 : ¬ nI p = -1009 := fun e => by
    have := congrArg Int32.toInt e
    rw [nI_toInt (by omega)] at this
    have h2 : (-1009 : Int32).toInt = -1009 := by decide
    omega
  have h2 : ¬ nI p = -1 := fun e => by
    have := congrArg Int32.toInt e
    rw [nI_toInt (by omega)] at this
    have h2 : (-1 : Int32).toInt = -1 := by decide
    omega
  unfold sMv sTakes
  rw [if_neg h1, if_neg h2]
theorem sStep_nopost (n : Nat) (hn : n ≤ 7) (lg : Nat → Int32) (y : zLn) : sStep n lg (-1009) y = sStep n lg (-1) y := by
  unfold sStep
  congr 2
  funext k
  unfold sFill
  by_cases h : k < n
  · rw [if_pos h, if_pos h, sMv_nopost (by omega)]
  · rw [if_neg h, if_neg h]
theorem sLine_all {i : Nat → Int32} : ∀ {n : Nat}, sLine i n = n ↔ ∀ k, k < n → i k = 0
  | 0 => ⟨fun _ k hk => by omega, fun _ => rfl⟩
  | n + 1 => by
    have hle := sLine_le i n
    rw [sLine_1]
    constructor
    · intro h k hk
      by_cases c : i n = 0
      · rw [if_pos c] at h
        rcases Nat.lt_or_ge k n with q | q
        · exact sLine_all.mp (by omega) k q
        · have : k = n := by omega
          subst this; exact c
      · rw [if_neg c] at h
        omega
    · intro h
      rw [if_pos (h n (by omega)), sLine_all.mpr (fun k hk => h k (by omega))]
section MD
variable {tr : Int64} {tx : Nat → Int32} {ty n : Nat} {m1 : Int32} {lg ht la : Nat → Int32} {at_ st_ so_ va_ fa_ to_ : Int32} {nw ik td th : Nat → Int32} {ba bp br : Int32} {sa sb sc : Nat → Int32} {z : Nat}
variable {K : zP} {post : zP}

set_option maxRecDepth 100000 in
theorem u_isDressed {y : zLn} (hy : mIs td y) (hn : n ≤ 7) (h : K (some (.int (zb (decide (sLine y.2.1 n = n))))) (wD tr tx ty n m1 lg ht la at_ st_ so_ va_ fa_ to_ nw ik td th ba bp br sa sb sc z)) : zFV 8 1 (zGoes mX8_isDressed 3 3) [.ref 0] (wD tr tx ty n m1 lg ht la at_ st_ so_ va_ fa_ to_ nw ik td th ba bp br sa sb sc z) K := by
  refine And.intro rfl (Or.inl ⟨rfl, rfl, ?_⟩)
  intro Z hZ
  have loop : ∀ (d p : Nat) (bo : Bool), p + d = n → (bo = true ↔ ∀ k, k < p → y.2.1 k = 0) → Z 4 [some (.ref 0), some (.int (zb bo)), some (.int (nI p))] [] (wD tr tx ty n m1 lg ht la at_ st_ so_ va_ fa_ to_ nw ik td th ba bp br sa sb sc z) := by
    intro d
    induction d with
    | zero =>
      intro p bo hp hbo
      have e : p = n := by omega
      subst e
      have e : bo = decide (sLine y.2.1 p = p) := by
        cases bo with
        | true => exact (decide_eq_true (sLine_all.mpr (hbo.mp rfl))).symm
        | false => exact (decide_eq_false (fun w => by have := hbo.mpr (sLine_all.mp w); cases this)).symm
      rw [← e] at h
      exact hZ.1 [4] 60 _ _ _ _ (And.intro (vpd (by decide)) (And.intro (fun c => And.intro (zb_cases _) h) (fun c => absurd (le_of (n := p) (p := p) (Nat.le_refl _) (by omega)) c)))
    | succ d ih =>
      intro p bo hp hbo
      have ei : td (7 + nI p).toNatClampNeg = y.2.1 p := by rw [cA a7 (by omega)]; exact mIs_i hy (by omega)
      have next : ∀ (b2 : Bool), (b2 = true ↔ (bo = true ∧ y.2.1 p = 0)) → Z 35 [some (.ref 0), some (.int (zb bo)), some (.int (nI p))] [.int (zb b2)] (wD tr tx ty n m1 lg ht la at_ st_ so_ va_ fa_ to_ nw ik td th ba bp br sa sb sc z) := by
        intro b2 hb2
        have := ih (p + 1) b2 (by omega) ⟨fun w k hk => by
          obtain ⟨w1, w2⟩ := hb2.mp w
          rcases Nat.lt_or_ge k p with q | q
          · exact hbo.mp w1 k q
          · have : k = p := by omega
            subst this; exact w2, fun w => hb2.mpr ⟨hbo.mpr (fun k hk => w k (by omega)), w p (by omega)⟩⟩
        rw [← nI_1] at this
        exact hZ.1 [4] 60 _ _ _ _ this
      refine hZ.1 [4, 35] 60 _ _ _ _ (And.intro (vpd (by decide)) (And.intro (fun c => ?_) (fun c => And.intro (fun c2 => ?_) (fun c2 => And.intro (vA a7 (by omega) (by omega)) (And.intro (fun c3 => ?_) (fun c3 => ?_))))))
      · exact absurd (show nI n ≤ nI p from c) (nle_of (by omega) (by omega))
      · exact next false ⟨fun w => (by cases w), fun w => by rw [zb0 c2] at w; exact w.1⟩
      · rw [ei] at c3
        exact next true ⟨fun _ => ⟨zb1 c2, c3⟩, fun _ => rfl⟩
      · rw [ei] at c3
        exact next false ⟨fun w => (by cases w), fun w => absurd w.2 c3⟩
  exact hZ.1 [4] 60 _ _ _ _ (loop n 0 true (by omega) ⟨fun _ k hk => by omega, fun _ => rfl⟩)
set_option maxRecDepth 100000 in
theorem u_dressedBy {x : zLn} (hx : mIs nw x) (hn : n ≤ 7) (hw : ∀ k, k < n → vp_in (x.1 k) 7) (hlg : ∀ k, k < n → 0 ≤ lg (x.1 k).toNatClampNeg) (e l : Int32) (h : ∀ td' th', K (some (.int (sTillM n lg 301 0 (sMind e l x)))) (wD tr tx ty n m1 lg ht la at_ st_ so_ va_ fa_ to_ nw ik td' th' ba bp br sa sb sc z)) : zFV 8 3 (zGoes mX8_dressedBy 1 4) [.ref 0, .int e, .int l] (wD tr tx ty n m1 lg ht la at_ st_ so_ va_ fa_ to_ nw ik td th ba bp br sa sb sc z) K := by
  refine And.intro rfl (Or.inl ⟨rfl, rfl, ?_⟩)
  intro Z hZ
  have loop : ∀ (d k : Nat) (y : zLn) (td th : Nat → Int32), k + d = 301 → y.1 = x.1 → mIs td (sTk k y) → (∀ td' th', K (some (.int (sTillM n lg d k y))) (wD tr tx ty n m1 lg ht la at_ st_ so_ va_ fa_ to_ nw ik td' th' ba bp br sa sb sc z)) → Z 22 [some (.ref 0), some (.int e), some (.int l), some (.int (nI k))] [] (wD tr tx ty n m1 lg ht la at_ st_ so_ va_ fa_ to_ nw ik td th ba bp br sa sb sc z) := by
    intro d
    induction d with
    | zero =>
      intro k y td th hk hyx hy h
      have e2 : k = 301 := by omega
      subst e2
      exact hZ.1 [22] 60 _ _ _ _ (And.intro (fun c => h _ _) (fun c => absurd (by decide) c))
    | succ d ih =>
      intro k y td th hk hyx hy h
      unfold sTillM at h
      refine hZ.1 [22] 60 _ _ _ _ (And.intro (fun c => ?_) (fun c => u_isDressed hy hn (And.intro (fun c2 => ?_) (fun c2 => ?_))))
      · rw [show (300 : Int32) = nI 300 by decide] at c
        exact absurd c (nI_nlt (by omega) (by omega))
      · have c2 : ¬ sLine y.2.1 n = n := of_decide_eq_false (zb0 c2)
        rw [if_neg c2] at h
        refine u_paceT hn hy (by show ∀ k, k < n → vp_in (y.1 k) 7; rw [hyx]; exact hw) (by show ∀ k, k < n → 0 ≤ lg (y.1 k).toNatClampNeg; rw [hyx]; exact hlg) (-1009) (fun F' th' h1 h2 => ?_)
        rw [sTick_step, sStep_nopost n hn] at h1
        have := ih (k + 1) (sStep n lg (-1) y) F' th' (by omega) hyx h1 h
        rw [← nI_1] at this
        exact this
      · have c2 : sLine y.2.1 n = n := of_decide_eq_true (zb1 c2)
        rw [if_pos c2] at h
        exact h _ _
  refine hZ.1 [22] 60 _ _ _ _ (u_take (fun td' htd => And.intro (vpd (by decide)) (And.intro (vpd (by decide)) ?_)))
  refine loop 301 0 (sMind e l x) _ _ (by omega) rfl ?_ h
  rw [sTk_0]
  exact mIs_mind (mIs_td hx htd) e l
set_option maxRecDepth 100000 in
theorem m_dressed {x : zLn} (hx : mIs nw x) (hn : n ≤ 7) (hw : ∀ k, k < n → vp_in (x.1 k) 7) (hlg : ∀ k, k < n → 0 ≤ lg (x.1 k).toNatClampNeg) (h : ∀ td' th', post (some (.int (sTillM n lg 301 0 (sMind x.2.2.2.2.1 x.2.2.2.2.2.1 x)))) (wD tr tx ty n m1 lg ht la at_ st_ so_ va_ fa_ to_ nw ik td' th' ba bp br sa sb sc z)) : zGoes mX8_dressed 1 1 [.ref 0] (wD tr tx ty n m1 lg ht la at_ st_ so_ va_ fa_ to_ nw ik td th ba bp br sa sb sc z) post := by
  intro Z hZ
  have e22 : nw (22 : Int32).toNatClampNeg = x.2.2.2.2.1 := mIs_22 hx
  have e23 : nw (23 : Int32).toNatClampNeg = x.2.2.2.2.2.1 := mIs_23 hx
  rw [← e22, ← e23] at h
  exact hZ.1 [] 60 _ _ _ _ (And.intro (vpd (by decide)) (And.intro (vpd (by decide)) (u_dressedBy hx hn hw hlg _ _ h)))
set_option maxRecDepth 100000 in
theorem m_looks {x : zLn} (hx : mIs nw x) (hn : n ≤ 7) (hw : ∀ k, k < n → vp_in (x.1 k) 7) (hlg : ∀ k, k < n → 0 ≤ lg (x.1 k).toNatClampNeg) (a p : Int32) (h : ∀ td' th', post (some (.int (sLooks n lg x a p))) (wD tr tx ty n m1 lg ht la at_ st_ so_ va_ fa_ to_ nw ik td' th' ba bp br sa sb sc z)) : zGoes mX8_looks 1 4 [.ref 0, .int a, .int p] (wD tr tx ty n m1 lg ht la at_ st_ so_ va_ fa_ to_ nw ik td th ba bp br sa sb sc z) post := by
  intro Z hZ
  have bad : ¬ ((0 ≤ a ∧ a ≤ 60) ∧ (p = -1 ∨ sIn n p)) → Z 23 [some (.ref 0), some (.int a), some (.int p), none] [] (wD tr tx ty n m1 lg ht la at_ st_ so_ va_ fa_ to_ nw ik td th ba bp br sa sb sc z) := by
    intro hb
    have h := h td th
    unfold sLooks at h
    rw [if_neg hb] at h
    exact hZ.1 [] 20 _ _ _ _ h
  have good : 0 ≤ a ∧ a ≤ 60 → (p = -1 ∨ sIn n p) → Z 27 [some (.ref 0), some (.int a), some (.int p), none] [] (wD tr tx ty n m1 lg ht la at_ st_ so_ va_ fa_ to_ nw ik td th ba bp br sa sb sc z) := by
    intro ha hp
    have h : ∀ td' th', post (some (.int (if p = -1 then sBulge (sGo n lg (-1) a.toNatClampNeg x).2.1 (n - 1) else (sGo n lg (-1) a.toNatClampNeg x).2.1 p.toNatClampNeg))) (wD tr tx ty n m1 lg ht la at_ st_ so_ va_ fa_ to_ nw ik td' th' ba bp br sa sb sc z) := fun td' th' => by
      have := h td' th'
      unfold sLooks at this
      rw [if_pos ⟨ha, hp⟩] at this
      exact this
    obtain ⟨r, hr, rfl⟩ := in60 (m := 60) rfl ha
    rw [nI_c0 (by omega)] at h
    have loop : ∀ (d k : Nat) (td th : Nat → Int32), k + d = r → mIs td (sTk k (sGo n lg (-1) k x)) → Z 33 [some (.ref 0), some (.int (nI r)), some (.int p), some (.int (nI k))] [] (wD tr tx ty n m1 lg ht la at_ st_ so_ va_ fa_ to_ nw ik td th ba bp br sa sb sc z) := by
      intro d
      induction d with
      | zero =>
        intro k td th hk hy
        have e : k = r := by omega
        subst e
        refine hZ.1 [33] 60 _ _ _ _ (And.intro (fun c => And.intro (fun c2 => ?_) (fun c2 => ?_)) (fun c => absurd (le_of (Nat.le_refl _) (by omega)) c))
        · have h := h td th
          rw [if_pos c2] at h
          refine u_mbulgeT hn ?_
          rw [mBulge hn hy]
          exact h
        · have h := h td th
          rw [if_neg c2] at h
          obtain ⟨j, hj, rfl⟩ := (sIn_iff hn p).mp (hp.elim (fun w => absurd w c2) id)
          refine And.intro (vA a7 (by omega) (by omega)) ?_
          have e2 : td (7 + nI j).toNatClampNeg = (sGo n lg (-1) k x).2.1 (nI j).toNatClampNeg := by rw [cA a7 (by omega), nI_c0 (by omega)]; exact mIs_i hy (by omega)
          rw [← e2] at h
          exact h
      | succ d ih =>
        intro k td th hk hy
        refine hZ.1 [33] 60 _ _ _ _ (And.intro (fun c => ?_) (fun c => u_paceT hn hy (by show ∀ j, j < n → vp_in ((sGo n lg (-1) k x).1 j) 7; rw [sGo_w]; exact hw) (by show ∀ j, j < n → 0 ≤ lg ((sGo n lg (-1) k x).1 j).toNatClampNeg; rw [sGo_w]; exact hlg) (-1009) (fun F' th' h1 h2 => ?_)))
        · exact absurd c (nle_of (by omega) (by omega))
        · rw [sTick_step, sStep_nopost n hn, ← sGo_1] at h1
          have := ih (k + 1) F' th' (by omega) h1
          rw [← nI_1] at this
          exact this
    exact hZ.1 [33] 60 _ _ _ _ (u_take (fun td' htd => loop r 0 td' _ (by omega) (by rw [sTk_0]; exact mIs_td hx htd)))
  refine hZ.1 [23, 27] 60 _ _ _ _ (u_in a 0 60 (fun q => ?_) (fun q => ?_))
  · refine And.intro (fun e => absurd e (by decide)) (fun _ => And.intro (fun e => good q (Or.inl e)) (fun e => u_misPlace p (fun q2 => ?_) (fun q2 => ?_)))
    · exact And.intro (fun e => absurd e (by decide)) (fun _ => good q (Or.inr q2))
    · exact And.intro (fun _ => bad (fun w => w.2.elim e q2)) (fun e => absurd rfl e)
  · exact And.intro (fun _ => bad (fun w => q w.1)) (fun e => absurd rfl e)
set_option maxRecDepth 100000 in
theorem m_post {x : zLn} (hx : mIs nw x) (hn : n ≤ 7) (hw : ∀ k, k < n → vp_in (x.1 k) 7) (hlg : ∀ k, k < n → 0 ≤ lg (x.1 k).toNatClampNeg) (p a : Int32) (h : ∀ td' th', post (some (.int (sPost n lg x p a))) (wD tr tx ty n m1 lg ht la at_ st_ so_ va_ fa_ to_ nw ik td' th' ba bp br sa sb sc z)) : zGoes mX8_post 1 4 [.ref 0, .int p, .int a] (wD tr tx ty n m1 lg ht la at_ st_ so_ va_ fa_ to_ nw ik td th ba bp br sa sb sc z) post := by
  intro Z hZ
  have bad : ¬ (sIn n p ∧ (1 ≤ a ∧ a ≤ 20)) → Z 18 [some (.ref 0), some (.int p), some (.int a), none] [] (wD tr tx ty n m1 lg ht la at_ st_ so_ va_ fa_ to_ nw ik td th ba bp br sa sb sc z) := by
    intro hb
    have h := h td th
    unfold sPost at h
    rw [if_neg hb] at h
    exact hZ.1 [] 20 _ _ _ _ h
  refine hZ.1 [18, 22] 60 _ _ _ _ (u_misPlace p (fun q => ?_) (fun q => ?_))
  · refine And.intro (fun e => absurd e (by decide)) (fun _ => u_in a 1 20 (fun q2 => ?_) (fun q2 => ?_))
    · refine And.intro (fun e => absurd e (by decide)) (fun _ => ?_)
      have h : ∀ td' th', post (some (.int (sBulge (sGo n lg p a.toNatClampNeg x).2.1 (n - 1)))) (wD tr tx ty n m1 lg ht la at_ st_ so_ va_ fa_ to_ nw ik td' th' ba bp br sa sb sc z) := fun td' th' => by
        have := h td' th'
        unfold sPost at this
        rw [if_pos ⟨q, q2⟩] at this
        exact this
      obtain ⟨r, hr, rfl⟩ := in60 (m := 20) rfl ⟨Int32.le_trans (by decide) q2.1, q2.2⟩
      rw [nI_c0 (by omega)] at h
      have loop : ∀ (d k : Nat) (td th : Nat → Int32), k + d = r → mIs td (sTk k (sGo n lg p k x)) → Z 28 [some (.ref 0), some (.int p), some (.int (nI r)), some (.int (nI k))] [] (wD tr tx ty n m1 lg ht la at_ st_ so_ va_ fa_ to_ nw ik td th ba bp br sa sb sc z) := by
        intro d
        induction d with
        | zero =>
          intro k td th hk hy
          have e : k = r := by omega
          subst e
          refine hZ.1 [28] 60 _ _ _ _ (And.intro (fun c => u_mbulgeT hn ?_) (fun c => absurd (le_of (Nat.le_refl _) (by omega)) c))
          rw [mBulge hn hy]
          exact h td th
        | succ d ih =>
          intro k td th hk hy
          refine hZ.1 [28] 60 _ _ _ _ (And.intro (fun c => ?_) (fun c => u_paceT hn hy (by show ∀ j, j < n → vp_in ((sGo n lg p k x).1 j) 7; rw [sGo_w]; exact hw) (by show ∀ j, j < n → 0 ≤ lg ((sGo n lg p k x).1 j).toNatClampNeg; rw [sGo_w]; exact hlg) p (fun F' th' h1 h2 => ?_)))
          · exact absurd c (nle_of (by omega) (by omega))
          · rw [sTick_step, ← sGo_1] at h1
            have := ih (k + 1) F' th' (by omega) h1
            rw [← nI_1] at this
            exact this
      exact hZ.1 [28] 60 _ _ _ _ (u_take (fun td' htd => loop r 0 td' _ (by omega) (by rw [sTk_0]; exact mIs_td hx htd)))
    · exact And.intro (fun _ => bad (fun w => q2 w.2)) (fun e => absurd rfl e)
  · exact And.intro (fun _ => bad (fun w => q w.1)) (fun e => absurd rfl e)

end MD
