
/-! odds -/
def oW (x n : Nat) : Nat → Nat → Nat → Nat → Nat
  | 0, _, sum, _ => sum
  | d + 1, s, sum, ch => oW x n d (s + 1) (sum + ch * x ^ s * (10 - x) ^ (n - s)) (ch * (n - s) / (s + 1))
def oG : Nat → Nat → Nat → Nat
  | 0, a, _ => a
  | f + 1, a, b => if b = 0 then a else oG f b (a % b)
def oIn (x set : Nat) : Nat → Nat → Nat → Nat → Nat × Nat
  | 0, _, w, c => (w, c)
  | d + 1, m, w, c => oIn x set d (m + 1) (w * (if set / 2 ^ m % 2 = 1 then x else 10 - x)) (c + set / 2 ^ m % 2)
def oOut (x k n : Nat) : Nat → Nat → Nat → Nat
  | 0, _, up => up
  | d + 1, set, up => oOut x k n d (set + 1) (up + (if (oIn x set n 0 1 0).2 ≤ k then (oIn x set n 0 1 0).1 else 0))
def oU (x k n : Nat) : Nat := oOut x k n (2 ^ n) 0 0
def oC (n x k : Nat) : Bool := Nat.beq (oW x n (min k n + 1) 0 0 1) (oU x k n) && (Nat.beq (oG 100 (10 ^ n) (oU x k n)) (Nat.gcd (10 ^ n) (oU x k n)) && Nat.ble (oU x k n) (10 ^ 7))
set_option maxRecDepth 100000 in
theorem oC_all : (List.range 8).all (fun n => (List.range 11).all (fun x => (List.range 8).all (fun k => oC n x k))) = true := by decide +kernel
theorem oC_at {n x k : Nat} (hn : n ≤ 7) (hx : x ≤ 10) (hk : k ≤ 7) : oW x n (min k n + 1) 0 0 1 = oU x k n ∧ oG 100 (10 ^ n) (oU x k n) = Nat.gcd (10 ^ n) (oU x k n) ∧ oU x k n ≤ 10 ^ 7 := by
  have h1 := List.all_eq_true.mp oC_all n (List.mem_range.mpr (by omega))
  have h2 := List.all_eq_true.mp h1 x (List.mem_range.mpr (by omega))
  have h3 := List.all_eq_true.mp h2 k (List.mem_range.mpr (by omega))
  unfold oC at h3
  rw [Bool.and_eq_true, Bool.and_eq_true] at h3
  exact ⟨Nat.eq_of_beq_eq_true h3.1, Nat.eq_of_beq_eq_true h3.2.1, Nat.le_of_ble_eq_true h3.2.2⟩
theorem oIn_c (x set : Nat) : ∀ (d m w c : Nat), (oIn x set d m w c).2 ≤ c + d
  | 0, _, _, _ => Nat.le_refl _
  | d + 1, m, w, c => by
    have := oIn_c x set d (m + 1) (w * (if set / 2 ^ m % 2 = 1 then x else 10 - x)) (c + set / 2 ^ m % 2)
    unfold oIn
    omega
def sOdds (n : Nat) (x k a : Int32) : Int32 := if (0 ≤ x ∧ x ≤ 10) ∧ (0 ≤ k ∧ k ≤ 7) ∧ (0 ≤ a ∧ a ≤ 1) then if a = 0 then nI (oU x.toNatClampNeg k.toNatClampNeg n / Nat.gcd (10 ^ n) (oU x.toNatClampNeg k.toNatClampNeg n)) else nI (10 ^ n / Nat.gcd (10 ^ n) (oU x.toNatClampNeg k.toNatClampNeg n)) else -1001
theorem ten7 {n : Nat} (hn : n ≤ 7) : 10 ^ n ≤ 10 ^ 7 := Nat.pow_le_pow_right (by omega) hn
set_option maxRecDepth 100000 in
theorem t_power {ws : zW} {post : zP} (b t : Nat) (ht : t ≤ 7) (h : post (some (.int (nI (b ^ t)))) ws) : zGoes mX7_power 1 4 [.int (nI b), .int (nI t)] ws post := by
  intro Z hZ
  have loop : ∀ d p : Nat, p + d = t → Z 4 [some (.int (nI b)), some (.int (nI t)), some (.int (nI (b ^ p))), some (.int (nI p))] [] ws := by
    intro d
    induction d with
    | zero =>
      intro p hp
      have e : p = t := by omega
      subst e
      exact hZ.1 [4] 60 _ _ _ _ (And.intro (fun _ => h) (fun c => absurd (le_of (Nat.le_refl p) (by omega)) c))
    | succ d ih =>
      intro p hp
      have := ih (p + 1) (by omega)
      rw [← nI_1, Nat.pow_succ, ← pk_mul] at this
      exact hZ.1 [4] 60 _ _ _ _ (And.intro (fun c => absurd (show nI t ≤ nI p from c) (nle_of (by omega) (by omega))) (fun _ => this))
  exact hZ.1 [4] 60 _ _ _ _ (loop t 0 (by omega))
theorem u_power {ws : zW} {K : zP} (b t : Nat) (ht : t ≤ 7) (B T : Int32) (hB : B = nI b) (hT : T = nI t) (h : K (some (.int (nI (b ^ t)))) ws) : zFr 2 (zGoes mX7_power 1 4) [.int B, .int T] ws K := by
  subst hB; subst hT
  exact Or.inl ⟨rfl, rfl, t_power b t ht h⟩
set_option maxRecDepth 100000 in
theorem t_ways {ws : zW} {post : zP} (x k n : Nat) (hx : x ≤ 10) (hk : k ≤ 7) (hn : n ≤ 7) (h : post (some (.int (nI (oW x n (min k n + 1) 0 0 1)))) ws) : zGoes mX7_waysInTenths 1 6 [.int (nI x), .int (nI k), .int (nI n)] ws post := by
  intro Z hZ
  have loop : ∀ d s sum ch : Nat, s + d = min k n + 1 → ch ≤ 7 ^ s → post (some (.int (nI (oW x n d s sum ch)))) ws → Z 8 [some (.int (nI x)), some (.int (nI k)), some (.int (nI n)), some (.int (nI sum)), some (.int (nI ch)), some (.int (nI s))] [] ws := by
    intro d
    induction d with
    | zero =>
      intro s sum ch hs hc h
      refine hZ.1 [8] 60 _ _ _ _ (And.intro (fun _ => h) (fun c => And.intro (fun _ => h) (fun c2 => ?_)))
      rw [nI_ltI (by omega) (by omega)] at c c2
      omega
    | succ d ih =>
      intro s sum ch hs hc h
      have h7 : 7 ^ s ≤ 7 ^ 7 := Nat.pow_le_pow_right (by omega) (by omega)
      have hc7 : ch * (n - s) ≤ 7 ^ s * 7 := Nat.mul_le_mul hc (by omega)
      have hdv : ch * (n - s) / (s + 1) ≤ ch * (n - s) := Nat.div_le_self _ _
      refine hZ.1 [8] 60 _ _ _ _ (And.intro (fun c => ?_) (fun c => And.intro (fun c2 => ?_) (fun c2 => u_power x s (by omega) _ _ rfl rfl (u_power (10 - x) (n - s) (by omega) _ _ (by rw [i10, pk_sub hx]) (by rw [pk_sub (by omega)]) (And.intro (by rw [nI_1]; exact nI_ne0 (by omega) (by omega)) ?_)))))
      · rw [nI_ltI (by omega) (by omega)] at c
        omega
      · rw [nI_ltI (by omega) (by omega)] at c2
        omega
      · have := ih (s + 1) (sum + ch * x ^ s * (10 - x) ^ (n - s)) (ch * (n - s) / (s + 1)) (by omega) (by rw [Nat.pow_succ]; omega) h
        rw [← nI_add, ← pk_mul, ← pk_mul, ← pk_div (by omega) (by omega) (by omega), ← pk_mul ch (n - s), ← pk_sub (show s ≤ n by omega), ← nI_1] at this
        exact this
  exact hZ.1 [8] 60 _ _ _ _ (loop (min k n + 1) 0 0 1 (by omega) (by decide) h)
set_option maxRecDepth 100000 in
theorem t_gdiv {ws : zW} {post : zP} (a b : Nat) (ha : a < 2 ^ 31) (hb : b < 2 ^ 31) (h : post (some (.int (nI (oG 100 a b)))) ws) : zGoes mX7_greatestDivisor 1 6 [.int (nI a), .int (nI b)] ws post := by
  intro Z hZ
  have loop : ∀ (d p u v : Nat) (o5 : Option Value), p + d = 100 → u < 2 ^ 31 → v < 2 ^ 31 → post (some (.int (nI (oG d u v)))) ws → Z 7 [some (.int (nI a)), some (.int (nI b)), some (.int (nI u)), some (.int (nI v)), some (.int (nI p)), o5] [] ws := by
    intro d
    induction d with
    | zero =>
      intro p u v o5 hp hu hv h
      have e : p = 100 := by omega
      subst e
      exact hZ.1 [7] 60 _ _ _ _ (And.intro (fun _ => h) (fun c => absurd (by decide) c))
    | succ d ih =>
      intro p u v o5 hp hu hv h
      unfold oG at h
      refine hZ.1 [7] 60 _ _ _ _ (And.intro (fun c => ?_) (fun c => And.intro (fun c2 => ?_) (fun c2 => And.intro c2 ?_)))
      · rw [show (100 : Int32) = nI 100 by decide] at c
        exact absurd c (nle_of (by omega) (by omega))
      · rw [← nI_0, nI_eq hv (by omega)] at c2
        rw [if_pos c2] at h
        exact h
      · have hv0 : 0 < v := by
          rcases Nat.eq_zero_or_pos v with e | e
          · subst e; exact absurd rfl c2
          · exact e
        rw [if_neg (by omega)] at h
        have hm : u % v < v := Nat.mod_lt u hv0
        have := ih (p + 1) v (u % v) (some (.int (nI (u % v)))) (by omega) hv (by omega) h
        rw [← pk_rem hu hv0 hv, ← nI_1 p] at this
        exact this
  exact hZ.1 [7] 60 _ _ _ _ (loop 100 0 a b none (by omega) ha hb h)
section RWS
variable {t : Nat → Int32} {b : Nat} {c2 c3 c4 c5 c6 : zCell} {n : Nat} {lg ht : Nat → Int32} {x y : zLn} {sz : Int32} {kn : List (Option Nat)} {k0 k1 : Int32} {z : Nat} {sa sb sc : Nat → Int32} {c7 c8 c9 : zCell} {tr : Int64} {tl : zW}
variable {K : zP} {post : zP}

set_option maxRecDepth 100000 in
theorem c_odds (hn : n ≤ 7) (u v a : Int32) (h : post (some (.int (sOdds n u v a))) (wC t b c2 c3 c4 c5 c6 n lg ht x y sz kn k0 k1 z sa sb sc c7 c8 c9 tr tl)) : zGoes mX7_odds 1 7 [.ref 0, .int u, .int v, .int a] (wC t b c2 c3 c4 c5 c6 n lg ht x y sz kn k0 k1 z sa sb sc c7 c8 c9 tr tl) post := by
  intro Z hZ
  unfold sOdds at h
  have bad : ¬ ((0 ≤ u ∧ u ≤ 10) ∧ (0 ≤ v ∧ v ≤ 7) ∧ (0 ≤ a ∧ a ≤ 1)) → Z 29 [some (.ref 0), some (.int u), some (.int v), some (.int a), none, none, none] [] (wC t b c2 c3 c4 c5 c6 n lg ht x y sz kn k0 k1 z sa sb sc c7 c8 c9 tr tl) := by
    intro hb
    rw [if_neg hb] at h
    exact hZ.1 [] 20 _ _ _ _ h
  refine hZ.1 [29] 60 _ _ _ _ (u_within u 0 10 (fun q1 => ?_) (fun q1 => ?_))
  · refine And.intro (fun e => absurd e (by decide)) (fun _ => u_within v 0 7 (fun q2 => ?_) (fun q2 => ?_))
    · refine And.intro (fun e => absurd e (by decide)) (fun _ => u_within a 0 1 (fun q3 => ?_) (fun q3 => ?_))
      · obtain ⟨i, hi, rfl⟩ := in60 (m := 10) rfl q1
        obtain ⟨k, hk, rfl⟩ := in60 (m := 7) rfl q2
        rw [if_pos ⟨q1, q2, q3⟩, nI_c0 (by omega), nI_c0 (by omega)] at h
        obtain ⟨h1, h2, h3⟩ := oC_at hn hi hk
        have h10 := ten7 hn
        have hg : 0 < Nat.gcd (10 ^ n) (oU i k n) := Nat.gcd_pos_of_pos_left _ (Nat.pow_pos (by omega))
        have hg2 : Nat.gcd (10 ^ n) (oU i k n) ≤ 10 ^ n := Nat.le_of_dvd (Nat.pow_pos (by omega)) (Nat.gcd_dvd_left _ _)
        refine And.intro (fun e => absurd e (by decide)) (fun _ => Or.inl ⟨rfl, rfl, t_ways i k n hi hk hn ?_⟩)
        rw [h1]
        refine u_power 10 n hn _ _ (by decide) rfl (Or.inl ⟨rfl, rfl, t_gdiv _ _ (by omega) (by omega) ?_⟩)
        rw [h2]
        refine And.intro (fun e => absurd e (nI_ne0 hg (by omega))) (fun _ => And.intro (fun e => And.intro (nI_ne0 hg (by omega)) ?_) (fun e => And.intro (nI_ne0 hg (by omega)) ?_))
        · rw [if_pos e, ← pk_div (by omega) hg (by omega)] at h
          exact h
        · rw [if_neg e, ← pk_div (by omega) hg (by omega)] at h
          exact h
      · exact And.intro (fun _ => bad (fun w => q3 w.2.2)) (fun e => absurd rfl e)
    · exact And.intro (fun _ => bad (fun w => q2 w.2.1)) (fun e => absurd rfl e)
  · exact And.intro (fun _ => bad (fun w => q1 w.1)) (fun e => absurd rfl e)

end RWS
section MD
variable {tr : Int64} {tx : Nat → Int32} {ty n : Nat} {m1 : Int32} {lg ht la : Nat → Int32} {at_ st_ so_ va_ fa_ to_ : Int32} {nw ik td th : Nat → Int32} {ba bp br : Int32} {sa sb sc : Nat → Int32} {z : Nat}
variable {K : zP} {post : zP}

set_option maxRecDepth 100000 in
theorem m_odds (hn : n ≤ 7) (u v a : Int32) (h : post (some (.int (sOdds n u v a))) (wD tr tx ty n m1 lg ht la at_ st_ so_ va_ fa_ to_ nw ik td th ba bp br sa sb sc z)) : zGoes mX8_odds 1 11 [.ref 0, .int u, .int v, .int a] (wD tr tx ty n m1 lg ht la at_ st_ so_ va_ fa_ to_ nw ik td th ba bp br sa sb sc z) post := by
  intro Z hZ
  unfold sOdds at h
  have bad : ¬ ((0 ≤ u ∧ u ≤ 10) ∧ (0 ≤ v ∧ v ≤ 7) ∧ (0 ≤ a ∧ a ≤ 1)) → Z 29 [some (.ref 0), some (.int u), some (.int v), some (.int a), none, none, none, none, none, none, none] [] (wD tr tx ty n m1 lg ht la at_ st_ so_ va_ fa_ to_ nw ik td th ba bp br sa sb sc z) := by
    intro hb
    rw [if_neg hb] at h
    exact hZ.1 [] 20 _ _ _ _ h
  refine hZ.1 [29, 42] 60 _ _ _ _ (u_in u 0 10 (fun q1 => ?_) (fun q1 => ?_))
  · refine And.intro (fun e => absurd e (by decide)) (fun _ => u_in v 0 7 (fun q2 => ?_) (fun q2 => ?_))
    · refine And.intro (fun e => absurd e (by decide)) (fun _ => u_in a 0 1 (fun q3 => ?_) (fun q3 => ?_))
      · obtain ⟨i, hi, rfl⟩ := in60 (m := 10) rfl q1
        obtain ⟨k, hk, rfl⟩ := in60 (m := 7) rfl q2
        rw [if_pos ⟨q1, q2, q3⟩, nI_c0 (by omega), nI_c0 (by omega)] at h
        obtain ⟨h1, h2, h3⟩ := oC_at hn hi hk
        have h10 := ten7 hn
        have hg : 0 < Nat.gcd (10 ^ n) (oU i k n) := Nat.gcd_pos_of_pos_left _ (Nat.pow_pos (by omega))
        have hg2 : Nat.gcd (10 ^ n) (oU i k n) ≤ 10 ^ n := Nat.le_of_dvd (Nat.pow_pos (by omega)) (Nat.gcd_dvd_left _ _)
        have hp : 2 ^ n ≤ 2 ^ 7 := Nat.pow_le_pow_right (by omega) hn
        have gcd : ∀ (f c b : Nat) (o8 o9 o10 : Option Value), b ≤ f → c < 2 ^ 31 → b < 2 ^ 31 → Nat.gcd b c = Nat.gcd (10 ^ n) (oU i k n) → Z 174 [some (.ref 0), some (.int (nI i)), some (.int (nI k)), some (.int a), some (.int (nI (oU i k n))), some (.int (nI (10 ^ n))), some (.int (nI c)), some (.int (nI b)), o8, o9, o10] [] (wD tr tx ty n m1 lg ht la at_ st_ so_ va_ fa_ to_ nw ik td th ba bp br sa sb sc z) := by
          intro f
          induction f with
          | zero =>
            intro c b o8 o9 o10 hb hc hb2 hG
            have e : b = 0 := by omega
            subst e
            rw [Nat.gcd_zero_left] at hG
            subst hG
            refine hZ.1 [174] 60 _ _ _ _ (And.intro (fun _ => And.intro (fun e => And.intro (nI_ne0 hg (by omega)) ?_) (fun e => And.intro (nI_ne0 hg (by omega)) ?_)) (fun e => absurd rfl e))
            · rw [if_pos e, ← pk_div (by omega) hg (by omega)] at h
              exact h
            · rw [if_neg e, ← pk_div (by omega) hg (by omega)] at h
              exact h
          | succ f ih =>
            intro c b o8 o9 o10 hb hc hb2 hG
            rcases Nat.eq_zero_or_pos b with e | hb0
            · subst e
              exact ih c 0 o8 o9 o10 (by omega) hc hb2 hG
            · have hm : c % b < b := Nat.mod_lt c hb0
              have := ih b (c % b) (some (.int (nI (c % b)))) o9 o10 (by omega) hb2 (by omega) (by rw [← Nat.gcd_rec]; exact hG)
              rw [← pk_rem hc hb0 hb2] at this
              exact hZ.1 [174] 60 _ _ _ _ (And.intro (fun e => absurd e (nI_ne0 hb0 hb2)) (fun e => And.intro e this))
        have downs : ∀ (d p : Nat) (o7 o8 o9 o10 : Option Value), p + d = n → Z 142 [some (.ref 0), some (.int (nI i)), some (.int (nI k)), some (.int a), some (.int (nI (oU i k n))), some (.int (nI (10 ^ p))), some (.int (nI p)), o7, o8, o9, o10] [] (wD tr tx ty n m1 lg ht la at_ st_ so_ va_ fa_ to_ nw ik td th ba bp br sa sb sc z) := by
          intro d
          induction d with
          | zero =>
            intro p o7 o8 o9 o10 hp
            have e : p = n := by omega
            subst e
            exact hZ.1 [142, 174] 60 _ _ _ _ (And.intro (vpd (by decide)) (And.intro (fun _ => gcd (10 ^ p) (oU i k p) (10 ^ p) o8 o9 o10 (Nat.le_refl _) (by omega) (by omega) rfl) (fun c => absurd (le_of (Nat.le_refl p) (by omega)) c)))
          | succ d ih =>
            intro p o7 o8 o9 o10 hp
            have := ih (p + 1) o7 o8 o9 o10 (by omega)
            rw [← nI_1, Nat.pow_succ, ← pk_mul] at this
            exact hZ.1 [142] 60 _ _ _ _ (And.intro (vpd (by decide)) (And.intro (fun c => absurd (show nI n ≤ nI p from c) (nle_of (by omega) (by omega))) (fun _ => this)))
        have e2n : ((1 : Int32) <<< (nI n &&& 31)) = nI (2 ^ n) := by
          have : ∀ m, m < 8 → ((1 : Int32) <<< (nI m &&& 31)) = nI (2 ^ m) := by decide +kernel
          exact this n (by omega)
        have sets : ∀ (d s up : Nat) (o7 o8 o9 o10 : Option Value), s + d = 2 ^ n → oOut i k n d s up = oU i k n → Z 42 [some (.ref 0), some (.int (nI i)), some (.int (nI k)), some (.int a), some (.int (nI up)), some (.int 1), some (.int (nI s)), o7, o8, o9, o10] [] (wD tr tx ty n m1 lg ht la at_ st_ so_ va_ fa_ to_ nw ik td th ba bp br sa sb sc z) := by
          intro d
          induction d with
          | zero =>
            intro s up o7 o8 o9 o10 hs ho
            have e : s = 2 ^ n := by omega
            subst e
            have ho : up = oU i k n := ho
            subst ho
            exact hZ.1 [42, 142] 60 _ _ _ _ (And.intro (vpd (by decide)) (And.intro (fun _ => downs n 0 o7 o8 o9 o10 (by omega)) (fun c => absurd (by show (1 : Int32) <<< (nI n &&& 31) ≤ nI (2 ^ n); rw [e2n]; exact Int32.le_refl _) c)))
          | succ d ih =>
            intro s up o7 o8 o9 o10 hs ho
            unfold oOut at ho
            have inner : ∀ (d2 m w c : Nat) (o10 : Option Value), m + d2 = n → c ≤ m → oIn i s d2 m w c = oIn i s n 0 1 0 → Z 64 [some (.ref 0), some (.int (nI i)), some (.int (nI k)), some (.int a), some (.int (nI up)), some (.int 1), some (.int (nI s)), some (.int (nI w)), some (.int (nI c)), some (.int (nI m)), o10] [] (wD tr tx ty n m1 lg ht la at_ st_ so_ va_ fa_ to_ nw ik td th ba bp br sa sb sc z) := by
              intro d2
              induction d2 with
              | zero =>
                intro m w c o10 hm hc hI
                have e : n = m := by omega
                have hI : (w, c) = oIn i s n 0 1 0 := hI
                rw [← hI] at ho
                have next : ∀ V : Nat, V = (if c ≤ k then w else 0) → Z 130 [some (.ref 0), some (.int (nI i)), some (.int (nI k)), some (.int a), some (.int (nI up)), some (.int 1), some (.int (nI s)), some (.int (nI w)), some (.int (nI c)), some (.int (nI m)), o10] [.int (nI V), .int (nI up)] (wD tr tx ty n m1 lg ht la at_ st_ so_ va_ fa_ to_ nw ik td th ba bp br sa sb sc z) := by
                  intro V hV
                  have := ih (s + 1) (up + V) (some (.int (nI w))) (some (.int (nI c))) (some (.int (nI m))) o10 (by omega) (by rw [hV]; exact ho)
                  rw [← nI_1 s, ← nI_add] at this
                  exact hZ.1 [42] 60 _ _ _ _ this
                refine hZ.1 [42, 64, 130] 60 _ _ _ _ (And.intro (vpd (by decide)) (And.intro (fun _ => And.intro (fun c2 => ?_) (fun c2 => ?_)) (fun c => absurd (le_of (n := n) (p := m) (by omega) (by omega)) c)))
                · rw [nI_ltI (by omega) (by omega)] at c2
                  exact next 0 (by rw [if_neg (by omega)])
                · rw [nI_ltI (by omega) (by omega)] at c2
                  exact next w (by rw [if_pos (by omega)])
              | succ d2 ih2 =>
                intro m w c o10 hm hc hI
                have hI : oIn i s d2 (m + 1) (w * (if s / 2 ^ m % 2 = 1 then i else 10 - i)) (c + s / 2 ^ m % 2) = oIn i s n 0 1 0 := hI
                have esh : (nI s >>> (nI m &&& 31) : Int32) = nI (s / 2 ^ m) := pk_shrN (by omega) _ m (by
                  have : ∀ m, m < 8 → ((nI m &&& 31).toBitVec.smod 32).toNat = m := by decide +kernel
                  exact this m (by omega))
                have hsd : s / 2 ^ m ≤ s := Nat.div_le_self _ _
                have ebit : ((nI s >>> (nI m &&& 31)) &&& 1 : Int32) = nI (s / 2 ^ m % 2) := by
                  rw [esh]
                  exact pk_andN (by omega) 1 (by decide)
                have hb2 : s / 2 ^ m % 2 < 2 := Nat.mod_lt _ (by omega)
                have next : ∀ V : Nat, V = (if s / 2 ^ m % 2 = 1 then i else 10 - i) → Z 107 [some (.ref 0), some (.int (nI i)), some (.int (nI k)), some (.int a), some (.int (nI up)), some (.int 1), some (.int (nI s)), some (.int (nI w)), some (.int (nI (c + s / 2 ^ m % 2))), some (.int (nI m)), some (.int (nI (s / 2 ^ m % 2)))] [.int (nI V), .int (nI w)] (wD tr tx ty n m1 lg ht la at_ st_ so_ va_ fa_ to_ nw ik td th ba bp br sa sb sc z) := by
                  intro V hV
                  have := ih2 (m + 1) (w * V) (c + s / 2 ^ m % 2) (some (.int (nI (s / 2 ^ m % 2)))) (by omega) (by omega) (by rw [hV]; exact hI)
                  rw [← nI_1 m, ← pk_mul] at this
                  exact hZ.1 [64] 60 _ _ _ _ this
                have j84 : Z 84 [some (.ref 0), some (.int (nI i)), some (.int (nI k)), some (.int a), some (.int (nI up)), some (.int 1), some (.int (nI s)), some (.int (nI w)), some (.int (nI c)), some (.int (nI m)), some (.int (nI (s / 2 ^ m % 2)))] [] (wD tr tx ty n m1 lg ht la at_ st_ so_ va_ fa_ to_ nw ik td th ba bp br sa sb sc z) := by
                  have e3 : nI c + nI (s / 2 ^ m % 2) = nI (c + s / 2 ^ m % 2) := nI_add _ _
                  refine hZ.1 [107] 60 _ _ _ _ ?_
                  refine And.intro (fun c2 => ?_) (fun c2 => ?_)
                  · rw [← n1, nI_eq (by omega) (by omega)] at c2
                    have := next i (by rw [if_pos c2])
                    rw [← e3] at this
                    exact this
                  · rw [← n1, nI_eq (by omega) (by omega)] at c2
                    have := next (10 - i) (by rw [if_neg c2])
                    rw [← e3, ← pk_sub hi] at this
                    exact this
                refine hZ.1 [64, 84] 60 _ _ _ _ (And.intro (vpd (by decide)) (And.intro (fun c2 => absurd (show nI n ≤ nI m from c2) (nle_of (by omega) (by omega))) (fun _ => ?_)))
                rw [← ebit] at j84
                exact j84
            refine hZ.1 [42, 64] 60 _ _ _ _ (And.intro (vpd (by decide)) (And.intro (fun c => ?_) (fun _ => inner n 0 1 0 o10 (by omega) (by omega) rfl)))
            have c : (1 : Int32) <<< (nI n &&& 31) ≤ nI s := c
            rw [e2n, nI_leI (by omega) (by omega)] at c
            omega
        exact And.intro (fun e => absurd e (by decide)) (fun _ => sets (2 ^ n) 0 0 none none none none (by omega) rfl)
      · exact And.intro (fun _ => bad (fun w => q3 w.2.2)) (fun e => absurd rfl e)
    · exact And.intro (fun _ => bad (fun w => q2 w.2.1)) (fun e => absurd rfl e)
  · exact And.intro (fun _ => bad (fun w => q1 w.1)) (fun e => absurd rfl e)

end MD
