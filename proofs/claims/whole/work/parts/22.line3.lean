section LN3
variable {w i f : Nat → Int32} {pc ey el ps : Int32} {n : Nat} {lg : Nat → Int32} {post : zP}
theorem zb0 {b : Bool} (h : zb b = 0) : b = false := by
  cases b
  · rfl
  · exact absurd h (by decide)
theorem zb1 {b : Bool} (h : ¬ zb b = 0) : b = true := by
  cases b
  · exact absurd rfl h
  · rfl
set_option maxRecDepth 100000 in
set_option maxHeartbeats 2000000 in
theorem t_moveAll (hn : n ≤ 7) (hw : ∀ k, k < n → vp_in (w k) 7) (q : Int32) (h : post (some (.int (zb (sMvd w i pc ey el n lg q n)))) (wLn w (sFill (sMv w i pc ey el n lg q) i n) f pc ey el ps n lg)) : zGoes mX1_moveAll 3 11 [.ref 0, .int q] (wLn w i f pc ey el ps n lg) post := by
  intro K hK
  have loop : ∀ (d p : Nat) (o5 o6 o7 o8 o9 o10 : Option Value), p + d = n → K 7 [some (.ref 0), some (.int q), some (.int (zb (sMvd w i pc ey el n lg q p))), some (.int (if 0 < p then i (p - 1) else 0)), some (.int (nI p)), o5, o6, o7, o8, o9, o10] [] (wLn w (sFill (sMv w i pc ey el n lg q) i p) f pc ey el ps n lg) := by
    intro d
    induction d with
    | zero =>
      intro p o5 o6 o7 o8 o9 o10 hp
      have e : p = n := by omega
      subst e
      refine hK.1 [7] 60 _ _ _ _ (And.intro (fun c => And.intro (zb_cases _) h) (fun c => ?_))
      exact absurd (le_of (Nat.le_refl _) (by omega)) c
    | succ d ih =>
      intro p o5 o6 o7 o8 o9 o10 hp
      have ec : (nI p).toNatClampNeg = p := nI_c0 (by omega)
      have eown : (sFill (sMv w i pc ey el n lg q) i p) (nI p).toNatClampNeg = i p := by rw [ec]; exact sFill_ge (Nat.le_refl _)
      have eout : p + 1 < n → (sFill (sMv w i pc ey el n lg q) i p) (nI p + 1).toNatClampNeg = i (p + 1) := fun hlt => by rw [nI_c1 (by omega)]; exact sFill_ge (by omega)
      have hW : upd (sFill (sMv w i pc ey el n lg q) i p) (nI p).toNatClampNeg (sMv w i pc ey el n lg q p) = sFill (sMv w i pc ey el n lg q) i (p + 1) := by rw [ec, sFill_upd]
      have j159 : ∀ (o10 : Option Value), K 159 [some (.ref 0), some (.int q), some (.int (zb (sMvd w i pc ey el n lg q p))), some (.int (if 0 < p then i (p - 1) else 0)), some (.int (nI p)), some (.int (i p)), some (.int (sWant pc n p)), some (.int (sSees i n p)), some (.int (sFeels i p)), some (.int (sTakes w i pc ey el n lg q p)), o10] [.int (zb (sMvd w i pc ey el n lg q (p + 1)))] (wLn w (upd (sFill (sMv w i pc ey el n lg q) i p) (nI p).toNatClampNeg (sMv w i pc ey el n lg q p)) f pc ey el ps n lg) := by
        intro o10
        have := ih (p + 1) (some (.int (i p))) (some (.int (sWant pc n p))) (some (.int (sSees i n p))) (some (.int (sFeels i p))) (some (.int (sTakes w i pc ey el n lg q p))) o10 (by omega)
        rw [if_pos (by omega), Nat.add_sub_cancel, ← nI_1, ← hW] at this
        exact hK.1 [7] 60 _ _ _ _ this
      have j105 : ∀ (o9 o10 : Option Value), K 105 [some (.ref 0), some (.int q), some (.int (zb (sMvd w i pc ey el n lg q p))), some (.int (if 0 < p then i (p - 1) else 0)), some (.int (nI p)), some (.int (i p)), some (.int (sWant pc n p)), some (.int (sSees i n p)), some (.int (sFeels i p)), o9, o10] [.int (sTakes w i pc ey el n lg q p)] (wLn w (sFill (sMv w i pc ey el n lg q) i p) f pc ey el ps n lg) := by
        intro o9 o10
        have j := j159 (some (.int (i p + sTakes w i pc ey el n lg q p - sWant pc n p)))
        refine hK.1 [159] 60 _ _ _ _ (And.intro (vi0 (by omega) (by omega)) (And.intro (fun c => ?_) (fun c => ?_)))
        · refine And.intro (vi0 (by omega) (by omega)) (And.intro (fun c2 => ?_) (fun c2 => ?_))
          · have c3 : sMv w i pc ey el n lg q p = i p := (pk_us).symm.trans c2
            rw [show sMvd w i pc ey el n lg q (p + 1) = false by unfold sMvd; rw [zb0 c, c3]; simp] at j
            exact j
          · have c3 : ¬ sMv w i pc ey el n lg q p = i p := fun z => c2 (pk_us.trans z)
            rw [show sMvd w i pc ey el n lg q (p + 1) = true by unfold sMvd; simp [c3]] at j
            exact j
        · rw [show sMvd w i pc ey el n lg q (p + 1) = true by unfold sMvd; rw [zb1 c]; rfl] at j
          exact j
      have j81 : ∀ (o8 o9 o10 : Option Value), K 81 [some (.ref 0), some (.int q), some (.int (zb (sMvd w i pc ey el n lg q p))), some (.int (if 0 < p then i (p - 1) else 0)), some (.int (nI p)), some (.int (i p)), some (.int (sWant pc n p)), some (.int (sSees i n p)), o8, o9, o10] [.int (sFeels i p)] (wLn w (sFill (sMv w i pc ey el n lg q) i p) f pc ey el ps n lg) := by
        intro o8 o9 o10
        have j := j105 o9 o10
        refine hK.1 [105] 60 _ _ _ _ (And.intro (fun c => ?_) (fun c => ?_))
        · rw [show sTakes w i pc ey el n lg q p = 0 from if_pos c] at j
          exact j
        · rw [show sTakes w i pc ey el n lg q p = zmin (lg (w p).toNatClampNeg) (zmax 0 (sWould i pc ey el n p)) from if_neg c] at j
          exact And.intro rfl (Or.inl ⟨rfl, rfl, t_stepOf p (by omega) (hw p (by omega)) _ _ _ j⟩)
      have j66 : ∀ (o7 o8 o9 o10 : Option Value), K 66 [some (.ref 0), some (.int q), some (.int (zb (sMvd w i pc ey el n lg q p))), some (.int (if 0 < p then i (p - 1) else 0)), some (.int (nI p)), some (.int (i p)), some (.int (sWant pc n p)), o7, o8, o9, o10] [.int (sSees i n p)] (wLn w (sFill (sMv w i pc ey el n lg q) i p) f pc ey el ps n lg) := by
        intro o7 o8 o9 o10
        have j := j81 o8 o9 o10
        refine hK.1 [81] 60 _ _ _ _ (And.intro (fun c => ?_) (fun c => ?_))
        · have e : p = 0 := by
            rcases Nat.eq_zero_or_pos p with z | z
            · exact z
            · exact absurd c (nI_nle z (by omega))
          rw [show sFeels i p = 0 from if_neg (by omega)] at j
          exact j
        · have e : 0 < p := by
            rcases Nat.eq_zero_or_pos p with z | z
            · subst z; exact absurd (by decide) c
            · exact z
          rw [show sFeels i p = i (p - 1) - i p from if_pos e, if_pos e] at j
          rw [if_pos e]
          exact j
      have j := j66 o7 o8 o9 o10
      refine hK.1 [66] 60 _ _ _ _ (And.intro (fun c => ?_) (fun c => ?_))
      · exact absurd c (nle_of (by omega) (by omega))
      · refine And.intro (vi0 (by omega) (by omega)) ?_
        rw [← eown] at j
        refine And.intro rfl (Or.inl ⟨rfl, rfl, t_wants p hn ?_⟩)
        refine And.intro (fun c2 => ?_) (fun c2 => ?_)
        · have e : ¬ p + 1 < n := fun z => by rw [nI_1] at c2; exact absurd c2 (nI_ge z (by omega))
          rw [show sSees i n p = 0 from if_neg e] at j
          exact j
        · have e : p + 1 < n := by
            rcases Nat.lt_or_ge (p + 1) n with z | z
            · exact z
            · exact absurd (by rw [nI_1]; exact nI_le z (by omega)) c2
          refine And.intro (vi1 (by omega) (by omega)) ?_
          rw [show sSees i n p = i (p + 1) - i p from if_pos e, ← eout e] at j
          rw [← eown] at j
          exact j
  have := loop n 0 none none none none none none (by omega)
  rw [sFill_0] at this
  exact hK.1 [7] 60 _ _ _ _ this
end LN3
