section RWS
variable {t : Nat → Int32} {b : Nat} {c2 c3 c4 c5 c6 : zCell} {n : Nat} {lg ht : Nat → Int32} {x y : zLn} {sz : Int32} {kn : List (Option Nat)} {k0 k1 : Int32} {z : Nat} {sa sb sc : Nat → Int32} {c7 c8 c9 : zCell} {tr : Int64} {tl : zW}
variable {K : zP} {post : zP}

variable {P P0 P1 : Nat → zLn} {X0 X1 : zLn} {s0 s1 : Int32} {s : Nat}
set_option maxRecDepth 100000 in
set_option maxHeartbeats 8000000 in
theorem t_pcTo0 (hs : s ≤ 10) (h : post none (wC t b c2 c3 c4 c5 c6 n lg ht x y (nI s) kidC k0 k1 z sa sb sc c7 c8 c9 tr (wPL P (wIM X0 (nI s) (zfl P P0 s) X1 s1 P1 tl)))) : zGoes mX4_copyFrom 0 3 [.ref 74, .ref 18] (wC t b c2 c3 c4 c5 c6 n lg ht x y (nI s) kidC k0 k1 z sa sb sc c7 c8 c9 tr (wPL P (wIM X0 s0 P0 X1 s1 P1 tl))) post := by
  intro Z hZ
  have e10 : 10 ≤ s → Z 10 [some (.ref 74), some (.ref 18), some (.int 10)] [] (wC t b c2 c3 c4 c5 c6 n lg ht x y (nI s) kidC k0 k1 z sa sb sc c7 c8 c9 tr (wPL P (wIM X0 (nI s) (zfl P P0 10) X1 s1 P1 tl))) := by
    intro hp
    refine hZ.1 [10] 60 _ _ _ _ (And.intro (fun c => ?_) (fun c => ?_))
    · rw [show (10 : Int32) = nI 10 by decide, nI_leI (by omega) (by omega)] at c
      have e : s = 10 := by omega
      subst e
      exact h
    · rw [show (10 : Int32) = nI 10 by decide, nI_leI (by omega) (by omega)] at c
      omega
  have e9 : 9 ≤ s → Z 10 [some (.ref 74), some (.ref 18), some (.int 9)] [] (wC t b c2 c3 c4 c5 c6 n lg ht x y (nI s) kidC k0 k1 z sa sb sc c7 c8 c9 tr (wPL P (wIM X0 (nI s) (zfl P P0 9) X1 s1 P1 tl))) := by
    intro hp
    refine hZ.1 [10] 60 _ _ _ _ (And.intro (fun c => ?_) (fun c => ?_))
    · rw [show (9 : Int32) = nI 9 by decide, nI_leI (by omega) (by omega)] at c
      have e : s = 9 := by omega
      subst e
      exact h
    · rw [show (9 : Int32) = nI 9 by decide, nI_leI (by omega) (by omega)] at c
      exact And.intro (vpd (by decide)) (Exists.intro 112 (And.intro rfl (And.intro (vpd (by decide)) (Exists.intro 66 (And.intro rfl (And.intro rfl (Or.inr ⟨[112, 113, 114, 115, 66, 67, 68, 69, 7], [.ref 0, .ref 4], wL2 (P0 9).1 (P0 9).2.1 (P0 9).2.2.1 (P0 9).2.2.2.1 (P0 9).2.2.2.2.1 (P0 9).2.2.2.2.2.1 (P0 9).2.2.2.2.2.2 (P 9).1 (P 9).2.1 (P 9).2.2.1 (P 9).2.2.2.1 (P 9).2.2.2.2.1 (P 9).2.2.2.2.2.1 (P 9).2.2.2.2.2.2, ⟨rfl, rfl, rfl⟩, ⟨Nat.le_of_ble_eq_true rfl, rfl⟩, rfl, t_copyFrom (e10 (by omega))⟩)))))))
  have e8 : 8 ≤ s → Z 10 [some (.ref 74), some (.ref 18), some (.int 8)] [] (wC t b c2 c3 c4 c5 c6 n lg ht x y (nI s) kidC k0 k1 z sa sb sc c7 c8 c9 tr (wPL P (wIM X0 (nI s) (zfl P P0 8) X1 s1 P1 tl))) := by
    intro hp
    refine hZ.1 [10] 60 _ _ _ _ (And.intro (fun c => ?_) (fun c => ?_))
    · rw [show (8 : Int32) = nI 8 by decide, nI_leI (by omega) (by omega)] at c
      have e : s = 8 := by omega
      subst e
      exact h
    · rw [show (8 : Int32) = nI 8 by decide, nI_leI (by omega) (by omega)] at c
      exact And.intro (vpd (by decide)) (Exists.intro 108 (And.intro rfl (And.intro (vpd (by decide)) (Exists.intro 62 (And.intro rfl (And.intro rfl (Or.inr ⟨[108, 109, 110, 111, 62, 63, 64, 65, 7], [.ref 0, .ref 4], wL2 (P0 8).1 (P0 8).2.1 (P0 8).2.2.1 (P0 8).2.2.2.1 (P0 8).2.2.2.2.1 (P0 8).2.2.2.2.2.1 (P0 8).2.2.2.2.2.2 (P 8).1 (P 8).2.1 (P 8).2.2.1 (P 8).2.2.2.1 (P 8).2.2.2.2.1 (P 8).2.2.2.2.2.1 (P 8).2.2.2.2.2.2, ⟨rfl, rfl, rfl⟩, ⟨Nat.le_of_ble_eq_true rfl, rfl⟩, rfl, t_copyFrom (e9 (by omega))⟩)))))))
  have e7 : 7 ≤ s → Z 10 [some (.ref 74), some (.ref 18), some (.int 7)] [] (wC t b c2 c3 c4 c5 c6 n lg ht x y (nI s) kidC k0 k1 z sa sb sc c7 c8 c9 tr (wPL P (wIM X0 (nI s) (zfl P P0 7) X1 s1 P1 tl))) := by
    intro hp
    refine hZ.1 [10] 60 _ _ _ _ (And.intro (fun c => ?_) (fun c => ?_))
    · rw [show (7 : Int32) = nI 7 by decide, nI_leI (by omega) (by omega)] at c
      have e : s = 7 := by omega
      subst e
      exact h
    · rw [show (7 : Int32) = nI 7 by decide, nI_leI (by omega) (by omega)] at c
      exact And.intro (vpd (by decide)) (Exists.intro 104 (And.intro rfl (And.intro (vpd (by decide)) (Exists.intro 58 (And.intro rfl (And.intro rfl (Or.inr ⟨[104, 105, 106, 107, 58, 59, 60, 61, 7], [.ref 0, .ref 4], wL2 (P0 7).1 (P0 7).2.1 (P0 7).2.2.1 (P0 7).2.2.2.1 (P0 7).2.2.2.2.1 (P0 7).2.2.2.2.2.1 (P0 7).2.2.2.2.2.2 (P 7).1 (P 7).2.1 (P 7).2.2.1 (P 7).2.2.2.1 (P 7).2.2.2.2.1 (P 7).2.2.2.2.2.1 (P 7).2.2.2.2.2.2, ⟨rfl, rfl, rfl⟩, ⟨Nat.le_of_ble_eq_true rfl, rfl⟩, rfl, t_copyFrom (e8 (by omega))⟩)))))))
  have e6 : 6 ≤ s → Z 10 [some (.ref 74), some (.ref 18), some (.int 6)] [] (wC t b c2 c3 c4 c5 c6 n lg ht x y (nI s) kidC k0 k1 z sa sb sc c7 c8 c9 tr (wPL P (wIM X0 (nI s) (zfl P P0 6) X1 s1 P1 tl))) := by
    intro hp
    refine hZ.1 [10] 60 _ _ _ _ (And.intro (fun c => ?_) (fun c => ?_))
    · rw [show (6 : Int32) = nI 6 by decide, nI_leI (by omega) (by omega)] at c
      have e : s = 6 := by omega
      subst e
      exact h
    · rw [show (6 : Int32) = nI 6 by decide, nI_leI (by omega) (by omega)] at c
      exact And.intro (vpd (by decide)) (Exists.intro 100 (And.intro rfl (And.intro (vpd (by decide)) (Exists.intro 54 (And.intro rfl (And.intro rfl (Or.inr ⟨[100, 101, 102, 103, 54, 55, 56, 57, 7], [.ref 0, .ref 4], wL2 (P0 6).1 (P0 6).2.1 (P0 6).2.2.1 (P0 6).2.2.2.1 (P0 6).2.2.2.2.1 (P0 6).2.2.2.2.2.1 (P0 6).2.2.2.2.2.2 (P 6).1 (P 6).2.1 (P 6).2.2.1 (P 6).2.2.2.1 (P 6).2.2.2.2.1 (P 6).2.2.2.2.2.1 (P 6).2.2.2.2.2.2, ⟨rfl, rfl, rfl⟩, ⟨Nat.le_of_ble_eq_true rfl, rfl⟩, rfl, t_copyFrom (e7 (by omega))⟩)))))))
  have e5 : 5 ≤ s → Z 10 [some (.ref 74), some (.ref 18), some (.int 5)] [] (wC t b c2 c3 c4 c5 c6 n lg ht x y (nI s) kidC k0 k1 z sa sb sc c7 c8 c9 tr (wPL P (wIM X0 (nI s) (zfl P P0 5) X1 s1 P1 tl))) := by
    intro hp
    refine hZ.1 [10] 60 _ _ _ _ (And.intro (fun c => ?_) (fun c => ?_))
    · rw [show (5 : Int32) = nI 5 by decide, nI_leI (by omega) (by omega)] at c
      have e : s = 5 := by omega
      subst e
      exact h
    · rw [show (5 : Int32) = nI 5 by decide, nI_leI (by omega) (by omega)] at c
      exact And.intro (vpd (by decide)) (Exists.intro 96 (And.intro rfl (And.intro (vpd (by decide)) (Exists.intro 50 (And.intro rfl (And.intro rfl (Or.inr ⟨[96, 97, 98, 99, 50, 51, 52, 53, 7], [.ref 0, .ref 4], wL2 (P0 5).1 (P0 5).2.1 (P0 5).2.2.1 (P0 5).2.2.2.1 (P0 5).2.2.2.2.1 (P0 5).2.2.2.2.2.1 (P0 5).2.2.2.2.2.2 (P 5).1 (P 5).2.1 (P 5).2.2.1 (P 5).2.2.2.1 (P 5).2.2.2.2.1 (P 5).2.2.2.2.2.1 (P 5).2.2.2.2.2.2, ⟨rfl, rfl, rfl⟩, ⟨Nat.le_of_ble_eq_true rfl, rfl⟩, rfl, t_copyFrom (e6 (by omega))⟩)))))))
  have e4 : 4 ≤ s → Z 10 [some (.ref 74), some (.ref 18), some (.int 4)] [] (wC t b c2 c3 c4 c5 c6 n lg ht x y (nI s) kidC k0 k1 z sa sb sc c7 c8 c9 tr (wPL P (wIM X0 (nI s) (zfl P P0 4) X1 s1 P1 tl))) := by
    intro hp
    refine hZ.1 [10] 60 _ _ _ _ (And.intro (fun c => ?_) (fun c => ?_))
    · rw [show (4 : Int32) = nI 4 by decide, nI_leI (by omega) (by omega)] at c
      have e : s = 4 := by omega
      subst e
      exact h
    · rw [show (4 : Int32) = nI 4 by decide, nI_leI (by omega) (by omega)] at c
      exact And.intro (vpd (by decide)) (Exists.intro 92 (And.intro rfl (And.intro (vpd (by decide)) (Exists.intro 46 (And.intro rfl (And.intro rfl (Or.inr ⟨[92, 93, 94, 95, 46, 47, 48, 49, 7], [.ref 0, .ref 4], wL2 (P0 4).1 (P0 4).2.1 (P0 4).2.2.1 (P0 4).2.2.2.1 (P0 4).2.2.2.2.1 (P0 4).2.2.2.2.2.1 (P0 4).2.2.2.2.2.2 (P 4).1 (P 4).2.1 (P 4).2.2.1 (P 4).2.2.2.1 (P 4).2.2.2.2.1 (P 4).2.2.2.2.2.1 (P 4).2.2.2.2.2.2, ⟨rfl, rfl, rfl⟩, ⟨Nat.le_of_ble_eq_true rfl, rfl⟩, rfl, t_copyFrom (e5 (by omega))⟩)))))))
  have e3 : 3 ≤ s → Z 10 [some (.ref 74), some (.ref 18), some (.int 3)] [] (wC t b c2 c3 c4 c5 c6 n lg ht x y (nI s) kidC k0 k1 z sa sb sc c7 c8 c9 tr (wPL P (wIM X0 (nI s) (zfl P P0 3) X1 s1 P1 tl))) := by
    intro hp
    refine hZ.1 [10] 60 _ _ _ _ (And.intro (fun c => ?_) (fun c => ?_))
    · rw [show (3 : Int32) = nI 3 by decide, nI_leI (by omega) (by omega)] at c
      have e : s = 3 := by omega
      subst e
      exact h
    · rw [show (3 : Int32) = nI 3 by decide, nI_leI (by omega) (by omega)] at c
      exact And.intro (vpd (by decide)) (Exists.intro 88 (And.intro rfl (And.intro (vpd (by decide)) (Exists.intro 42 (And.intro rfl (And.intro rfl (Or.inr ⟨[88, 89, 90, 91, 42, 43, 44, 45, 7], [.ref 0, .ref 4], wL2 (P0 3).1 (P0 3).2.1 (P0 3).2.2.1 (P0 3).2.2.2.1 (P0 3).2.2.2.2.1 (P0 3).2.2.2.2.2.1 (P0 3).2.2.2.2.2.2 (P 3).1 (P 3).2.1 (P 3).2.2.1 (P 3).2.2.2.1 (P 3).2.2.2.2.1 (P 3).2.2.2.2.2.1 (P 3).2.2.2.2.2.2, ⟨rfl, rfl, rfl⟩, ⟨Nat.le_of_ble_eq_true rfl, rfl⟩, rfl, t_copyFrom (e4 (by omega))⟩)))))))
  have e2 : 2 ≤ s → Z 10 [some (.ref 74), some (.ref 18), some (.int 2)] [] (wC t b c2 c3 c4 c5 c6 n lg ht x y (nI s) kidC k0 k1 z sa sb sc c7 c8 c9 tr (wPL P (wIM X0 (nI s) (zfl P P0 2) X1 s1 P1 tl))) := by
    intro hp
    refine hZ.1 [10] 60 _ _ _ _ (And.intro (fun c => ?_) (fun c => ?_))
    · rw [show (2 : Int32) = nI 2 by decide, nI_leI (by omega) (by omega)] at c
      have e : s = 2 := by omega
      subst e
      exact h
    · rw [show (2 : Int32) = nI 2 by decide, nI_leI (by omega) (by omega)] at c
      exact And.intro (vpd (by decide)) (Exists.intro 84 (And.intro rfl (And.intro (vpd (by decide)) (Exists.intro 38 (And.intro rfl (And.intro rfl (Or.inr ⟨[84, 85, 86, 87, 38, 39, 40, 41, 7], [.ref 0, .ref 4], wL2 (P0 2).1 (P0 2).2.1 (P0 2).2.2.1 (P0 2).2.2.2.1 (P0 2).2.2.2.2.1 (P0 2).2.2.2.2.2.1 (P0 2).2.2.2.2.2.2 (P 2).1 (P 2).2.1 (P 2).2.2.1 (P 2).2.2.2.1 (P 2).2.2.2.2.1 (P 2).2.2.2.2.2.1 (P 2).2.2.2.2.2.2, ⟨rfl, rfl, rfl⟩, ⟨Nat.le_of_ble_eq_true rfl, rfl⟩, rfl, t_copyFrom (e3 (by omega))⟩)))))))
  have e1 : 1 ≤ s → Z 10 [some (.ref 74), some (.ref 18), some (.int 1)] [] (wC t b c2 c3 c4 c5 c6 n lg ht x y (nI s) kidC k0 k1 z sa sb sc c7 c8 c9 tr (wPL P (wIM X0 (nI s) (zfl P P0 1) X1 s1 P1 tl))) := by
    intro hp
    refine hZ.1 [10] 60 _ _ _ _ (And.intro (fun c => ?_) (fun c => ?_))
    · rw [show (1 : Int32) = nI 1 by decide, nI_leI (by omega) (by omega)] at c
      have e : s = 1 := by omega
      subst e
      exact h
    · rw [show (1 : Int32) = nI 1 by decide, nI_leI (by omega) (by omega)] at c
      exact And.intro (vpd (by decide)) (Exists.intro 80 (And.intro rfl (And.intro (vpd (by decide)) (Exists.intro 34 (And.intro rfl (And.intro rfl (Or.inr ⟨[80, 81, 82, 83, 34, 35, 36, 37, 7], [.ref 0, .ref 4], wL2 (P0 1).1 (P0 1).2.1 (P0 1).2.2.1 (P0 1).2.2.2.1 (P0 1).2.2.2.2.1 (P0 1).2.2.2.2.2.1 (P0 1).2.2.2.2.2.2 (P 1).1 (P 1).2.1 (P 1).2.2.1 (P 1).2.2.2.1 (P 1).2.2.2.2.1 (P 1).2.2.2.2.2.1 (P 1).2.2.2.2.2.2, ⟨rfl, rfl, rfl⟩, ⟨Nat.le_of_ble_eq_true rfl, rfl⟩, rfl, t_copyFrom (e2 (by omega))⟩)))))))
  have e0 : 0 ≤ s → Z 10 [some (.ref 74), some (.ref 18), some (.int 0)] [] (wC t b c2 c3 c4 c5 c6 n lg ht x y (nI s) kidC k0 k1 z sa sb sc c7 c8 c9 tr (wPL P (wIM X0 (nI s) (zfl P P0 0) X1 s1 P1 tl))) := by
    intro hp
    refine hZ.1 [10] 60 _ _ _ _ (And.intro (fun c => ?_) (fun c => ?_))
    · rw [show (0 : Int32) = nI 0 by decide, nI_leI (by omega) (by omega)] at c
      have e : s = 0 := by omega
      subst e
      exact h
    · rw [show (0 : Int32) = nI 0 by decide, nI_leI (by omega) (by omega)] at c
      exact And.intro (vpd (by decide)) (Exists.intro 76 (And.intro rfl (And.intro (vpd (by decide)) (Exists.intro 30 (And.intro rfl (And.intro rfl (Or.inr ⟨[76, 77, 78, 79, 30, 31, 32, 33, 7], [.ref 0, .ref 4], wL2 (P0 0).1 (P0 0).2.1 (P0 0).2.2.1 (P0 0).2.2.2.1 (P0 0).2.2.2.2.1 (P0 0).2.2.2.2.2.1 (P0 0).2.2.2.2.2.2 (P 0).1 (P 0).2.1 (P 0).2.2.1 (P 0).2.2.2.1 (P 0).2.2.2.2.1 (P 0).2.2.2.2.2.1 (P 0).2.2.2.2.2.2, ⟨rfl, rfl, rfl⟩, ⟨Nat.le_of_ble_eq_true rfl, rfl⟩, rfl, t_copyFrom (e1 (by omega))⟩)))))))
  exact hZ.1 [10] 60 _ _ _ _ (e0 (by omega))
set_option maxRecDepth 100000 in
set_option maxHeartbeats 8000000 in
theorem t_pcFrom0 (hs : s ≤ 10) (h : post none (wC t b c2 c3 c4 c5 c6 n lg ht x y (nI s) kidC k0 k1 z sa sb sc c7 c8 c9 tr (wPL (zfl P0 P s) (wIM X0 (nI s) P0 X1 s1 P1 tl)))) : zGoes mX4_copyFrom 0 3 [.ref 18, .ref 74] (wC t b c2 c3 c4 c5 c6 n lg ht x y sz kidC k0 k1 z sa sb sc c7 c8 c9 tr (wPL P (wIM X0 (nI s) P0 X1 s1 P1 tl))) post := by
  intro Z hZ
  have e10 : 10 ≤ s → Z 10 [some (.ref 18), some (.ref 74), some (.int 10)] [] (wC t b c2 c3 c4 c5 c6 n lg ht x y (nI s) kidC k0 k1 z sa sb sc c7 c8 c9 tr (wPL (zfl P0 P 10) (wIM X0 (nI s) P0 X1 s1 P1 tl))) := by
    intro hp
    refine hZ.1 [10] 60 _ _ _ _ (And.intro (fun c => ?_) (fun c => ?_))
    · rw [show (10 : Int32) = nI 10 by decide, nI_leI (by omega) (by omega)] at c
      have e : s = 10 := by omega
      subst e
      exact h
    · rw [show (10 : Int32) = nI 10 by decide, nI_leI (by omega) (by omega)] at c
      omega
  have e9 : 9 ≤ s → Z 10 [some (.ref 18), some (.ref 74), some (.int 9)] [] (wC t b c2 c3 c4 c5 c6 n lg ht x y (nI s) kidC k0 k1 z sa sb sc c7 c8 c9 tr (wPL (zfl P0 P 9) (wIM X0 (nI s) P0 X1 s1 P1 tl))) := by
    intro hp
    refine hZ.1 [10] 60 _ _ _ _ (And.intro (fun c => ?_) (fun c => ?_))
    · rw [show (9 : Int32) = nI 9 by decide, nI_leI (by omega) (by omega)] at c
      have e : s = 9 := by omega
      subst e
      exact h
    · rw [show (9 : Int32) = nI 9 by decide, nI_leI (by omega) (by omega)] at c
      exact And.intro (vpd (by decide)) (Exists.intro 66 (And.intro rfl (And.intro (vpd (by decide)) (Exists.intro 112 (And.intro rfl (And.intro rfl (Or.inr ⟨[66, 67, 68, 69, 112, 113, 114, 115, 7], [.ref 0, .ref 4], wL2 (P 9).1 (P 9).2.1 (P 9).2.2.1 (P 9).2.2.2.1 (P 9).2.2.2.2.1 (P 9).2.2.2.2.2.1 (P 9).2.2.2.2.2.2 (P0 9).1 (P0 9).2.1 (P0 9).2.2.1 (P0 9).2.2.2.1 (P0 9).2.2.2.2.1 (P0 9).2.2.2.2.2.1 (P0 9).2.2.2.2.2.2, ⟨rfl, rfl, rfl⟩, ⟨Nat.le_of_ble_eq_true rfl, rfl⟩, rfl, t_copyFrom (e10 (by omega))⟩)))))))
  have e8 : 8 ≤ s → Z 10 [some (.ref 18), some (.ref 74), some (.int 8)] [] (wC t b c2 c3 c4 c5 c6 n lg ht x y (nI s) kidC k0 k1 z sa sb sc c7 c8 c9 tr (wPL (zfl P0 P 8) (wIM X0 (nI s) P0 X1 s1 P1 tl))) := by
    intro hp
    refine hZ.1 [10] 60 _ _ _ _ (And.intro (fun c => ?_) (fun c => ?_))
    · rw [show (8 : Int32) = nI 8 by decide, nI_leI (by omega) (by omega)] at c
      have e : s = 8 := by omega
      subst e
      exact h
    · rw [show (8 : Int32) = nI 8 by decide, nI_leI (by omega) (by omega)] at c
      exact And.intro (vpd (by decide)) (Exists.intro 62 (And.intro rfl (And.intro (vpd (by decide)) (Exists.intro 108 (And.intro rfl (And.intro rfl (Or.inr ⟨[62, 63, 64, 65, 108, 109, 110, 111, 7], [.ref 0, .ref 4], wL2 (P 8).1 (P 8).2.1 (P 8).2.2.1 (P 8).2.2.2.1 (P 8).2.2.2.2.1 (P 8).2.2.2.2.2.1 (P 8).2.2.2.2.2.2 (P0 8).1 (P0 8).2.1 (P0 8).2.2.1 (P0 8).2.2.2.1 (P0 8).2.2.2.2.1 (P0 8).2.2.2.2.2.1 (P0 8).2.2.2.2.2.2, ⟨rfl, rfl, rfl⟩, ⟨Nat.le_of_ble_eq_true rfl, rfl⟩, rfl, t_copyFrom (e9 (by omega))⟩)))))))
  have e7 : 7 ≤ s → Z 10 [some (.ref 18), some (.ref 74), some (.int 7)] [] (wC t b c2 c3 c4 c5 c6 n lg ht x y (nI s) kidC k0 k1 z sa sb sc c7 c8 c9 tr (wPL (zfl P0 P 7) (wIM X0 (nI s) P0 X1 s1 P1 tl))) := by
    intro hp
    refine hZ.1 [10] 60 _ _ _ _ (And.intro (fun c => ?_) (fun c => ?_))
    · rw [show (7 : Int32) = nI 7 by decide, nI_leI (by omega) (by omega)] at c
      have e : s = 7 := by omega
      subst e
      exact h
    · rw [show (7 : Int32) = nI 7 by decide, nI_leI (by omega) (by omega)] at c
      exact And.intro (vpd (by decide)) (Exists.intro 58 (And.intro rfl (And.intro (vpd (by decide)) (Exists.intro 104 (And.intro rfl (And.intro rfl (Or.inr ⟨[58, 59, 60, 61, 104, 105, 106, 107, 7], [.ref 0, .ref 4], wL2 (P 7).1 (P 7).2.1 (P 7).2.2.1 (P 7).2.2.2.1 (P 7).2.2.2.2.1 (P 7).2.2.2.2.2.1 (P 7).2.2.2.2.2.2 (P0 7).1 (P0 7).2.1 (P0 7).2.2.1 (P0 7).2.2.2.1 (P0 7).2.2.2.2.1 (P0 7).2.2.2.2.2.1 (P0 7).2.2.2.2.2.2, ⟨rfl, rfl, rfl⟩, ⟨Nat.le_of_ble_eq_true rfl, rfl⟩, rfl, t_copyFrom (e8 (by omega))⟩)))))))
  have e6 : 6 ≤ s → Z 10 [some (.ref 18), some (.ref 74), some (.int 6)] [] (wC t b c2 c3 c4 c5 c6 n lg ht x y (nI s) kidC k0 k1 z sa sb sc c7 c8 c9 tr (wPL (zfl P0 P 6) (wIM X0 (nI s) P0 X1 s1 P1 tl))) := by
    intro hp
    refine hZ.1 [10] 60 _ _ _ _ (And.intro (fun c => ?_) (fun c => ?_))
    · rw [show (6 : Int32) = nI 6 by decide, nI_leI (by omega) (by omega)] at c
      have e : s = 6 := by omega
      subst e
      exact h
    · rw [show (6 : Int32) = nI 6 by decide, nI_leI (by omega) (by omega)] at c
      exact And.intro (vpd (by decide)) (Exists.intro 54 (And.intro rfl (And.intro (vpd (by decide)) (Exists.intro 100 (And.intro rfl (And.intro rfl (Or.inr ⟨[54, 55, 56, 57, 100, 101, 102, 103, 7], [.ref 0, .ref 4], wL2 (P 6).1 (P 6).2.1 (P 6).2.2.1 (P 6).2.2.2.1 (P 6).2.2.2.2.1 (P 6).2.2.2.2.2.1 (P 6).2.2.2.2.2.2 (P0 6).1 (P0 6).2.1 (P0 6).2.2.1 (P0 6).2.2.2.1 (P0 6).2.2.2.2.1 (P0 6).2.2.2.2.2.1 (P0 6).2.2.2.2.2.2, ⟨rfl, rfl, rfl⟩, ⟨Nat.le_of_ble_eq_true rfl, rfl⟩, rfl, t_copyFrom (e7 (by omega))⟩)))))))
  have e5 : 5 ≤ s → Z 10 [some (.ref 18), some (.ref 74), some (.int 5)] [] (wC t b c2 c3 c4 c5 c6 n lg ht x y (nI s) kidC k0 k1 z sa sb sc c7 c8 c9 tr (wPL (zfl P0 P 5) (wIM X0 (nI s) P0 X1 s1 P1 tl))) := by
    intro hp
    refine hZ.1 [10] 60 _ _ _ _ (And.intro (fun c => ?_) (fun c => ?_))
    · rw [show (5 : Int32) = nI 5 by decide, nI_leI (by omega) (by omega)] at c
      have e : s = 5 := by omega
      subst e
      exact h
    · rw [show (5 : Int32) = nI 5 by decide, nI_leI (by omega) (by omega)] at c
      exact And.intro (vpd (by decide)) (Exists.intro 50 (And.intro rfl (And.intro (vpd (by decide)) (Exists.intro 96 (And.intro rfl (And.intro rfl (Or.inr ⟨[50, 51, 52, 53, 96, 97, 98, 99, 7], [.ref 0, .ref 4], wL2 (P 5).1 (P 5).2.1 (P 5).2.2.1 (P 5).2.2.2.1 (P 5).2.2.2.2.1 (P 5).2.2.2.2.2.1 (P 5).2.2.2.2.2.2 (P0 5).1 (P0 5).2.1 (P0 5).2.2.1 (P0 5).2.2.2.1 (P0 5).2.2.2.2.1 (P0 5).2.2.2.2.2.1 (P0 5).2.2.2.2.2.2, ⟨rfl, rfl, rfl⟩, ⟨Nat.le_of_ble_eq_true rfl, rfl⟩, rfl, t_copyFrom (e6 (by omega))⟩)))))))
  have e4 : 4 ≤ s → Z 10 [some (.ref 18), some (.ref 74), some (.int 4)] [] (wC t b c2 c3 c4 c5 c6 n lg ht x y (nI s) kidC k0 k1 z sa sb sc c7 c8 c9 tr (wPL (zfl P0 P 4) (wIM X0 (nI s) P0 X1 s1 P1 tl))) := by
    intro hp
    refine hZ.1 [10] 60 _ _ _ _ (And.intro (fun c => ?_) (fun c => ?_))
    · rw [show (4 : Int32) = nI 4 by decide, nI_leI (by omega) (by omega)] at c
      have e : s = 4 := by omega
      subst e
      exact h
    · rw [show (4 : Int32) = nI 4 by decide, nI_leI (by omega) (by omega)] at c
      exact And.intro (vpd (by decide)) (Exists.intro 46 (And.intro rfl (And.intro (vpd (by decide)) (Exists.intro 92 (And.intro rfl (And.intro rfl (Or.inr ⟨[46, 47, 48, 49, 92, 93, 94, 95, 7], [.ref 0, .ref 4], wL2 (P 4).1 (P 4).2.1 (P 4).2.2.1 (P 4).2.2.2.1 (P 4).2.2.2.2.1 (P 4).2.2.2.2.2.1 (P 4).2.2.2.2.2.2 (P0 4).1 (P0 4).2.1 (P0 4).2.2.1 (P0 4).2.2.2.1 (P0 4).2.2.2.2.1 (P0 4).2.2.2.2.2.1 (P0 4).2.2.2.2.2.2, ⟨rfl, rfl, rfl⟩, ⟨Nat.le_of_ble_eq_true rfl, rfl⟩, rfl, t_copyFrom (e5 (by omega))⟩)))))))
  have e3 : 3 ≤ s → Z 10 [some (.ref 18), some (.ref 74), some (.int 3)] [] (wC t b c2 c3 c4 c5 c6 n lg ht x y (nI s) kidC k0 k1 z sa sb sc c7 c8 c9 tr (wPL (zfl P0 P 3) (wIM X0 (nI s) P0 X1 s1 P1 tl))) := by
    intro hp
    refine hZ.1 [10] 60 _ _ _ _ (And.intro (fun c => ?_) (fun c => ?_))
    · rw [show (3 : Int32) = nI 3 by decide, nI_leI (by omega) (by omega)] at c
      have e : s = 3 := by omega
      subst e
      exact h
    · rw [show (3 : Int32) = nI 3 by decide, nI_leI (by omega) (by omega)] at c
      exact And.intro (vpd (by decide)) (Exists.intro 42 (And.intro rfl (And.intro (vpd (by decide)) (Exists.intro 88 (And.intro rfl (And.intro rfl (Or.inr ⟨[42, 43, 44, 45, 88, 89, 90, 91, 7], [.ref 0, .ref 4], wL2 (P 3).1 (P 3).2.1 (P 3).2.2.1 (P 3).2.2.2.1 (P 3).2.2.2.2.1 (P 3).2.2.2.2.2.1 (P 3).2.2.2.2.2.2 (P0 3).1 (P0 3).2.1 (P0 3).2.2.1 (P0 3).2.2.2.1 (P0 3).2.2.2.2.1 (P0 3).2.2.2.2.2.1 (P0 3).2.2.2.2.2.2, ⟨rfl, rfl, rfl⟩, ⟨Nat.le_of_ble_eq_true rfl, rfl⟩, rfl, t_copyFrom (e4 (by omega))⟩)))))))
  have e2 : 2 ≤ s → Z 10 [some (.ref 18), some (.ref 74), some (.int 2)] [] (wC t b c2 c3 c4 c5 c6 n lg ht x y (nI s) kidC k0 k1 z sa sb sc c7 c8 c9 tr (wPL (zfl P0 P 2) (wIM X0 (nI s) P0 X1 s1 P1 tl))) := by
    intro hp
    refine hZ.1 [10] 60 _ _ _ _ (And.intro (fun c => ?_) (fun c => ?_))
    · rw [show (2 : Int32) = nI 2 by decide, nI_leI (by omega) (by omega)] at c
      have e : s = 2 := by omega
      subst e
      exact h
    · rw [show (2 : Int32) = nI 2 by decide, nI_leI (by omega) (by omega)] at c
      exact And.intro (vpd (by decide)) (Exists.intro 38 (And.intro rfl (And.intro (vpd (by decide)) (Exists.intro 84 (And.intro rfl (And.intro rfl (Or.inr ⟨[38, 39, 40, 41, 84, 85, 86, 87, 7], [.ref 0, .ref 4], wL2 (P 2).1 (P 2).2.1 (P 2).2.2.1 (P 2).2.2.2.1 (P 2).2.2.2.2.1 (P 2).2.2.2.2.2.1 (P 2).2.2.2.2.2.2 (P0 2).1 (P0 2).2.1 (P0 2).2.2.1 (P0 2).2.2.2.1 (P0 2).2.2.2.2.1 (P0 2).2.2.2.2.2.1 (P0 2).2.2.2.2.2.2, ⟨rfl, rfl, rfl⟩, ⟨Nat.le_of_ble_eq_true rfl, rfl⟩, rfl, t_copyFrom (e3 (by omega))⟩)))))))
  have e1 : 1 ≤ s → Z 10 [some (.ref 18), some (.ref 74), some (.int 1)] [] (wC t b c2 c3 c4 c5 c6 n lg ht x y (nI s) kidC k0 k1 z sa sb sc c7 c8 c9 tr (wPL (zfl P0 P 1) (wIM X0 (nI s) P0 X1 s1 P1 tl))) := by
    intro hp
    refine hZ.1 [10] 60 _ _ _ _ (And.intro (fun c => ?_) (fun c => ?_))
    · rw [show (1 : Int32) = nI 1 by decide, nI_leI (by omega) (by omega)] at c
      have e : s = 1 := by omega
      subst e
      exact h
    · rw [show (1 : Int32) = nI 1 by decide, nI_leI (by omega) (by omega)] at c
      exact And.intro (vpd (by decide)) (Exists.intro 34 (And.intro rfl (And.intro (vpd (by decide)) (Exists.intro 80 (And.intro rfl (And.intro rfl (Or.inr ⟨[34, 35, 36, 37, 80, 81, 82, 83, 7], [.ref 0, .ref 4], wL2 (P 1).1 (P 1).2.1 (P 1).2.2.1 (P 1).2.2.2.1 (P 1).2.2.2.2.1 (P 1).2.2.2.2.2.1 (P 1).2.2.2.2.2.2 (P0 1).1 (P0 1).2.1 (P0 1).2.2.1 (P0 1).2.2.2.1 (P0 1).2.2.2.2.1 (P0 1).2.2.2.2.2.1 (P0 1).2.2.2.2.2.2, ⟨rfl, rfl, rfl⟩, ⟨Nat.le_of_ble_eq_true rfl, rfl⟩, rfl, t_copyFrom (e2 (by omega))⟩)))))))
  have e0 : 0 ≤ s → Z 10 [some (.ref 18), some (.ref 74), some (.int 0)] [] (wC t b c2 c3 c4 c5 c6 n lg ht x y (nI s) kidC k0 k1 z sa sb sc c7 c8 c9 tr (wPL (zfl P0 P 0) (wIM X0 (nI s) P0 X1 s1 P1 tl))) := by
    intro hp
    refine hZ.1 [10] 60 _ _ _ _ (And.intro (fun c => ?_) (fun c => ?_))
    · rw [show (0 : Int32) = nI 0 by decide, nI_leI (by omega) (by omega)] at c
      have e : s = 0 := by omega
      subst e
      exact h
    · rw [show (0 : Int32) = nI 0 by decide, nI_leI (by omega) (by omega)] at c
      exact And.intro (vpd (by decide)) (Exists.intro 30 (And.intro rfl (And.intro (vpd (by decide)) (Exists.intro 76 (And.intro rfl (And.intro rfl (Or.inr ⟨[30, 31, 32, 33, 76, 77, 78, 79, 7], [.ref 0, .ref 4], wL2 (P 0).1 (P 0).2.1 (P 0).2.2.1 (P 0).2.2.2.1 (P 0).2.2.2.2.1 (P 0).2.2.2.2.2.1 (P 0).2.2.2.2.2.2 (P0 0).1 (P0 0).2.1 (P0 0).2.2.1 (P0 0).2.2.2.1 (P0 0).2.2.2.2.1 (P0 0).2.2.2.2.2.1 (P0 0).2.2.2.2.2.2, ⟨rfl, rfl, rfl⟩, ⟨Nat.le_of_ble_eq_true rfl, rfl⟩, rfl, t_copyFrom (e1 (by omega))⟩)))))))
  exact hZ.1 [10] 60 _ _ _ _ (e0 (by omega))
set_option maxRecDepth 100000 in
set_option maxHeartbeats 8000000 in
theorem t_pcTo1 (hs : s ≤ 10) (h : post none (wC t b c2 c3 c4 c5 c6 n lg ht x y (nI s) kidC k0 k1 z sa sb sc c7 c8 c9 tr (wPL P (wIM X0 s0 P0 X1 (nI s) (zfl P P1 s) tl)))) : zGoes mX4_copyFrom 0 3 [.ref 120, .ref 18] (wC t b c2 c3 c4 c5 c6 n lg ht x y (nI s) kidC k0 k1 z sa sb sc c7 c8 c9 tr (wPL P (wIM X0 s0 P0 X1 s1 P1 tl))) post := by
  intro Z hZ
  have e10 : 10 ≤ s → Z 10 [some (.ref 120), some (.ref 18), some (.int 10)] [] (wC t b c2 c3 c4 c5 c6 n lg ht x y (nI s) kidC k0 k1 z sa sb sc c7 c8 c9 tr (wPL P (wIM X0 s0 P0 X1 (nI s) (zfl P P1 10) tl))) := by
    intro hp
    refine hZ.1 [10] 60 _ _ _ _ (And.intro (fun c => ?_) (fun c => ?_))
    · rw [show (10 : Int32) = nI 10 by decide, nI_leI (by omega) (by omega)] at c
      have e : s = 10 := by omega
      subst e
      exact h
    · rw [show (10 : Int32) = nI 10 by decide, nI_leI (by omega) (by omega)] at c
      omega
  have e9 : 9 ≤ s → Z 10 [some (.ref 120), some (.ref 18), some (.int 9)] [] (wC t b c2 c3 c4 c5 c6 n lg ht x y (nI s) kidC k0 k1 z sa sb sc c7 c8 c9 tr (wPL P (wIM X0 s0 P0 X1 (nI s) (zfl P P1 9) tl))) := by
    intro hp
    refine hZ.1 [10] 60 _ _ _ _ (And.intro (fun c => ?_) (fun c => ?_))
    · rw [show (9 : Int32) = nI 9 by decide, nI_leI (by omega) (by omega)] at c
      have e : s = 9 := by omega
      subst e
      exact h
    · rw [show (9 : Int32) = nI 9 by decide, nI_leI (by omega) (by omega)] at c
      exact And.intro (vpd (by decide)) (Exists.intro 158 (And.intro rfl (And.intro (vpd (by decide)) (Exists.intro 66 (And.intro rfl (And.intro rfl (Or.inr ⟨[158, 159, 160, 161, 66, 67, 68, 69, 7], [.ref 0, .ref 4], wL2 (P1 9).1 (P1 9).2.1 (P1 9).2.2.1 (P1 9).2.2.2.1 (P1 9).2.2.2.2.1 (P1 9).2.2.2.2.2.1 (P1 9).2.2.2.2.2.2 (P 9).1 (P 9).2.1 (P 9).2.2.1 (P 9).2.2.2.1 (P 9).2.2.2.2.1 (P 9).2.2.2.2.2.1 (P 9).2.2.2.2.2.2, ⟨rfl, rfl, rfl⟩, ⟨Nat.le_of_ble_eq_true rfl, rfl⟩, rfl, t_copyFrom (e10 (by omega))⟩)))))))
  have e8 : 8 ≤ s → Z 10 [some (.ref 120), some (.ref 18), some (.int 8)] [] (wC t b c2 c3 c4 c5 c6 n lg ht x y (nI s) kidC k0 k1 z sa sb sc c7 c8 c9 tr (wPL P (wIM X0 s0 P0 X1 (nI s) (zfl P P1 8) tl))) := by
    intro hp
    refine hZ.1 [10] 60 _ _ _ _ (And.intro (fun c => ?_) (fun c => ?_))
    · rw [show (8 : Int32) = nI 8 by decide, nI_leI (by omega) (by omega)] at c
      have e : s = 8 := by omega
      subst e
      exact h
    · rw [show (8 : Int32) = nI 8 by decide, nI_leI (by omega) (by omega)] at c
      exact And.intro (vpd (by decide)) (Exists.intro 154 (And.intro rfl (And.intro (vpd (by decide)) (Exists.intro 62 (And.intro rfl (And.intro rfl (Or.inr ⟨[154, 155, 156, 157, 62, 63, 64, 65, 7], [.ref 0, .ref 4], wL2 (P1 8).1 (P1 8).2.1 (P1 8).2.2.1 (P1 8).2.2.2.1 (P1 8).2.2.2.2.1 (P1 8).2.2.2.2.2.1 (P1 8).2.2.2.2.2.2 (P 8).1 (P 8).2.1 (P 8).2.2.1 (P 8).2.2.2.1 (P 8).2.2.2.2.1 (P 8).2.2.2.2.2.1 (P 8).2.2.2.2.2.2, ⟨rfl, rfl, rfl⟩, ⟨Nat.le_of_ble_eq_true rfl, rfl⟩, rfl, t_copyFrom (e9 (by omega))⟩)))))))
  have e7 : 7 ≤ s → Z 10 [some (.ref 120), some (.ref 18), some (.int 7)] [] (wC t b c2 c3 c4 c5 c6 n lg ht x y (nI s) kidC k0 k1 z sa sb sc c7 c8 c9 tr (wPL P (wIM X0 s0 P0 X1 (nI s) (zfl P P1 7) tl))) := by
    intro hp
    refine hZ.1 [10] 60 _ _ _ _ (And.intro (fun c => ?_) (fun c => ?_))
    · rw [show (7 : Int32) = nI 7 by decide, nI_leI (by omega) (by omega)] at c
      have e : s = 7 := by omega
      subst e
      exact h
    · rw [show (7 : Int32) = nI 7 by decide, nI_leI (by omega) (by omega)] at c
      exact And.intro (vpd (by decide)) (Exists.intro 150 (And.intro rfl (And.intro (vpd (by decide)) (Exists.intro 58 (And.intro rfl (And.intro rfl (Or.inr ⟨[150, 151, 152, 153, 58, 59, 60, 61, 7], [.ref 0, .ref 4], wL2 (P1 7).1 (P1 7).2.1 (P1 7).2.2.1 (P1 7).2.2.2.1 (P1 7).2.2.2.2.1 (P1 7).2.2.2.2.2.1 (P1 7).2.2.2.2.2.2 (P 7).1 (P 7).2.1 (P 7).2.2.1 (P 7).2.2.2.1 (P 7).2.2.2.2.1 (P 7).2.2.2.2.2.1 (P 7).2.2.2.2.2.2, ⟨rfl, rfl, rfl⟩, ⟨Nat.le_of_ble_eq_true rfl, rfl⟩, rfl, t_copyFrom (e8 (by omega))⟩)))))))
  have e6 : 6 ≤ s → Z 10 [some (.ref 120), some (.ref 18), some (.int 6)] [] (wC t b c2 c3 c4 c5 c6 n lg ht x y (nI s) kidC k0 k1 z sa sb sc c7 c8 c9 tr (wPL P (wIM X0 s0 P0 X1 (nI s) (zfl P P1 6) tl))) := by
    intro hp
    refine hZ.1 [10] 60 _ _ _ _ (And.intro (fun c => ?_) (fun c => ?_))
    · rw [show (6 : Int32) = nI 6 by decide, nI_leI (by omega) (by omega)] at c
      have e : s = 6 := by omega
      subst e
      exact h
    · rw [show (6 : Int32) = nI 6 by decide, nI_leI (by omega) (by omega)] at c
      exact And.intro (vpd (by decide)) (Exists.intro 146 (And.intro rfl (And.intro (vpd (by decide)) (Exists.intro 54 (And.intro rfl (And.intro rfl (Or.inr ⟨[146, 147, 148, 149, 54, 55, 56, 57, 7], [.ref 0, .ref 4], wL2 (P1 6).1 (P1 6).2.1 (P1 6).2.2.1 (P1 6).2.2.2.1 (P1 6).2.2.2.2.1 (P1 6).2.2.2.2.2.1 (P1 6).2.2.2.2.2.2 (P 6).1 (P 6).2.1 (P 6).2.2.1 (P 6).2.2.2.1 (P 6).2.2.2.2.1 (P 6).2.2.2.2.2.1 (P 6).2.2.2.2.2.2, ⟨rfl, rfl, rfl⟩, ⟨Nat.le_of_ble_eq_true rfl, rfl⟩, rfl, t_copyFrom (e7 (by omega))⟩)))))))
  have e5 : 5 ≤ s → Z 10 [some (.ref 120), some (.ref 18), some (.int 5)] [] (wC t b c2 c3 c4 c5 c6 n lg ht x y (nI s) kidC k0 k1 z sa sb sc c7 c8 c9 tr (wPL P (wIM X0 s0 P0 X1 (nI s) (zfl P P1 5) tl))) := by
    intro hp
    refine hZ.1 [10] 60 _ _ _ _ (And.intro (fun c => ?_) (fun c => ?_))
    · rw [show (5 : Int32) = nI 5 by decide, nI_leI (by omega) (by omega)] at c
      have e : s = 5 := by omega
      subst e
      exact h
    · rw [show (5 : Int32) = nI 5 by decide, nI_leI (by omega) (by omega)] at c
      exact And.intro (vpd (by decide)) (Exists.intro 142 (And.intro rfl (And.intro (vpd (by decide)) (Exists.intro 50 (And.intro rfl (And.intro rfl (Or.inr ⟨[142, 143, 144, 145, 50, 51, 52, 53, 7], [.ref 0, .ref 4], wL2 (P1 5).1 (P1 5).2.1 (P1 5).2.2.1 (P1 5).2.2.2.1 (P1 5).2.2.2.2.1 (P1 5).2.2.2.2.2.1 (P1 5).2.2.2.2.2.2 (P 5).1 (P 5).2.1 (P 5).2.2.1 (P 5).2.2.2.1 (P 5).2.2.2.2.1 (P 5).2.2.2.2.2.1 (P 5).2.2.2.2.2.2, ⟨rfl, rfl, rfl⟩, ⟨Nat.le_of_ble_eq_true rfl, rfl⟩, rfl, t_copyFrom (e6 (by omega))⟩)))))))
  have e4 : 4 ≤ s → Z 10 [some (.ref 120), some (.ref 18), some (.int 4)] [] (wC t b c2 c3 c4 c5 c6 n lg ht x y (nI s) kidC k0 k1 z sa sb sc c7 c8 c9 tr (wPL P (wIM X0 s0 P0 X1 (nI s) (zfl P P1 4) tl))) := by
    intro hp
    refine hZ.1 [10] 60 _ _ _ _ (And.intro (fun c => ?_) (fun c => ?_))
    · rw [show (4 : Int32) = nI 4 by decide, nI_leI (by omega) (by omega)] at c
      have e : s = 4 := by omega
      subst e
      exact h
    · rw [show (4 : Int32) = nI 4 by decide, nI_leI (by omega) (by omega)] at c
      exact And.intro (vpd (by decide)) (Exists.intro 138 (And.intro rfl (And.intro (vpd (by decide)) (Exists.intro 46 (And.intro rfl (And.intro rfl (Or.inr ⟨[138, 139, 140, 141, 46, 47, 48, 49, 7], [.ref 0, .ref 4], wL2 (P1 4).1 (P1 4).2.1 (P1 4).2.2.1 (P1 4).2.2.2.1 (P1 4).2.2.2.2.1 (P1 4).2.2.2.2.2.1 (P1 4).2.2.2.2.2.2 (P 4).1 (P 4).2.1 (P 4).2.2.1 (P 4).2.2.2.1 (P 4).2.2.2.2.1 (P 4).2.2.2.2.2.1 (P 4).2.2.2.2.2.2, ⟨rfl, rfl, rfl⟩, ⟨Nat.le_of_ble_eq_true rfl, rfl⟩, rfl, t_copyFrom (e5 (by omega))⟩)))))))
  have e3 : 3 ≤ s → Z 10 [some (.ref 120), some (.ref 18), some (.int 3)] [] (wC t b c2 c3 c4 c5 c6 n lg ht x y (nI s) kidC k0 k1 z sa sb sc c7 c8 c9 tr (wPL P (wIM X0 s0 P0 X1 (nI s) (zfl P P1 3) tl))) := by
    intro hp
    refine hZ.1 [10] 60 _ _ _ _ (And.intro (fun c => ?_) (fun c => ?_))
    · rw [show (3 : Int32) = nI 3 by decide, nI_leI (by omega) (by omega)] at c
      have e : s = 3 := by omega
      subst e
      exact h
    · rw [show (3 : Int32) = nI 3 by decide, nI_leI (by omega) (by omega)] at c
      exact And.intro (vpd (by decide)) (Exists.intro 134 (And.intro rfl (And.intro (vpd (by decide)) (Exists.intro 42 (And.intro rfl (And.intro rfl (Or.inr ⟨[134, 135, 136, 137, 42, 43, 44, 45, 7], [.ref 0, .ref 4], wL2 (P1 3).1 (P1 3).2.1 (P1 3).2.2.1 (P1 3).2.2.2.1 (P1 3).2.2.2.2.1 (P1 3).2.2.2.2.2.1 (P1 3).2.2.2.2.2.2 (P 3).1 (P 3).2.1 (P 3).2.2.1 (P 3).2.2.2.1 (P 3).2.2.2.2.1 (P 3).2.2.2.2.2.1 (P 3).2.2.2.2.2.2, ⟨rfl, rfl, rfl⟩, ⟨Nat.le_of_ble_eq_true rfl, rfl⟩, rfl, t_copyFrom (e4 (by omega))⟩)))))))
  have e2 : 2 ≤ s → Z 10 [some (.ref 120), some (.ref 18), some (.int 2)] [] (wC t b c2 c3 c4 c5 c6 n lg ht x y (nI s) kidC k0 k1 z sa sb sc c7 c8 c9 tr (wPL P (wIM X0 s0 P0 X1 (nI s) (zfl P P1 2) tl))) := by
    intro hp
    refine hZ.1 [10] 60 _ _ _ _ (And.intro (fun c => ?_) (fun c => ?_))
    · rw [show (2 : Int32) = nI 2 by decide, nI_leI (by omega) (by omega)] at c
      have e : s = 2 := by omega
      subst e
      exact h
    · rw [show (2 : Int32) = nI 2 by decide, nI_leI (by omega) (by omega)] at c
      exact And.intro (vpd (by decide)) (Exists.intro 130 (And.intro rfl (And.intro (vpd (by decide)) (Exists.intro 38 (And.intro rfl (And.intro rfl (Or.inr ⟨[130, 131, 132, 133, 38, 39, 40, 41, 7], [.ref 0, .ref 4], wL2 (P1 2).1 (P1 2).2.1 (P1 2).2.2.1 (P1 2).2.2.2.1 (P1 2).2.2.2.2.1 (P1 2).2.2.2.2.2.1 (P1 2).2.2.2.2.2.2 (P 2).1 (P 2).2.1 (P 2).2.2.1 (P 2).2.2.2.1 (P 2).2.2.2.2.1 (P 2).2.2.2.2.2.1 (P 2).2.2.2.2.2.2, ⟨rfl, rfl, rfl⟩, ⟨Nat.le_of_ble_eq_true rfl, rfl⟩, rfl, t_copyFrom (e3 (by omega))⟩)))))))
  have e1 : 1 ≤ s → Z 10 [some (.ref 120), some (.ref 18), some (.int 1)] [] (wC t b c2 c3 c4 c5 c6 n lg ht x y (nI s) kidC k0 k1 z sa sb sc c7 c8 c9 tr (wPL P (wIM X0 s0 P0 X1 (nI s) (zfl P P1 1) tl))) := by
    intro hp
    refine hZ.1 [10] 60 _ _ _ _ (And.intro (fun c => ?_) (fun c => ?_))
    · rw [show (1 : Int32) = nI 1 by decide, nI_leI (by omega) (by omega)] at c
      have e : s = 1 := by omega
      subst e
      exact h
    · rw [show (1 : Int32) = nI 1 by decide, nI_leI (by omega) (by omega)] at c
      exact And.intro (vpd (by decide)) (Exists.intro 126 (And.intro rfl (And.intro (vpd (by decide)) (Exists.intro 34 (And.intro rfl (And.intro rfl (Or.inr ⟨[126, 127, 128, 129, 34, 35, 36, 37, 7], [.ref 0, .ref 4], wL2 (P1 1).1 (P1 1).2.1 (P1 1).2.2.1 (P1 1).2.2.2.1 (P1 1).2.2.2.2.1 (P1 1).2.2.2.2.2.1 (P1 1).2.2.2.2.2.2 (P 1).1 (P 1).2.1 (P 1).2.2.1 (P 1).2.2.2.1 (P 1).2.2.2.2.1 (P 1).2.2.2.2.2.1 (P 1).2.2.2.2.2.2, ⟨rfl, rfl, rfl⟩, ⟨Nat.le_of_ble_eq_true rfl, rfl⟩, rfl, t_copyFrom (e2 (by omega))⟩)))))))
  have e0 : 0 ≤ s → Z 10 [some (.ref 120), some (.ref 18), some (.int 0)] [] (wC t b c2 c3 c4 c5 c6 n lg ht x y (nI s) kidC k0 k1 z sa sb sc c7 c8 c9 tr (wPL P (wIM X0 s0 P0 X1 (nI s) (zfl P P1 0) tl))) := by
    intro hp
    refine hZ.1 [10] 60 _ _ _ _ (And.intro (fun c => ?_) (fun c => ?_))
    · rw [show (0 : Int32) = nI 0 by decide, nI_leI (by omega) (by omega)] at c
      have e : s = 0 := by omega
      subst e
      exact h
    · rw [show (0 : Int32) = nI 0 by decide, nI_leI (by omega) (by omega)] at c
      exact And.intro (vpd (by decide)) (Exists.intro 122 (And.intro rfl (And.intro (vpd (by decide)) (Exists.intro 30 (And.intro rfl (And.intro rfl (Or.inr ⟨[122, 123, 124, 125, 30, 31, 32, 33, 7], [.ref 0, .ref 4], wL2 (P1 0).1 (P1 0).2.1 (P1 0).2.2.1 (P1 0).2.2.2.1 (P1 0).2.2.2.2.1 (P1 0).2.2.2.2.2.1 (P1 0).2.2.2.2.2.2 (P 0).1 (P 0).2.1 (P 0).2.2.1 (P 0).2.2.2.1 (P 0).2.2.2.2.1 (P 0).2.2.2.2.2.1 (P 0).2.2.2.2.2.2, ⟨rfl, rfl, rfl⟩, ⟨Nat.le_of_ble_eq_true rfl, rfl⟩, rfl, t_copyFrom (e1 (by omega))⟩)))))))
  exact hZ.1 [10] 60 _ _ _ _ (e0 (by omega))
set_option maxRecDepth 100000 in
set_option maxHeartbeats 8000000 in
theorem t_pcFrom1 (hs : s ≤ 10) (h : post none (wC t b c2 c3 c4 c5 c6 n lg ht x y (nI s) kidC k0 k1 z sa sb sc c7 c8 c9 tr (wPL (zfl P1 P s) (wIM X0 s0 P0 X1 (nI s) P1 tl)))) : zGoes mX4_copyFrom 0 3 [.ref 18, .ref 120] (wC t b c2 c3 c4 c5 c6 n lg ht x y sz kidC k0 k1 z sa sb sc c7 c8 c9 tr (wPL P (wIM X0 s0 P0 X1 (nI s) P1 tl))) post := by
  intro Z hZ
  have e10 : 10 ≤ s → Z 10 [some (.ref 18), some (.ref 120), some (.int 10)] [] (wC t b c2 c3 c4 c5 c6 n lg ht x y (nI s) kidC k0 k1 z sa sb sc c7 c8 c9 tr (wPL (zfl P1 P 10) (wIM X0 s0 P0 X1 (nI s) P1 tl))) := by
    intro hp
    refine hZ.1 [10] 60 _ _ _ _ (And.intro (fun c => ?_) (fun c => ?_))
    · rw [show (10 : Int32) = nI 10 by decide, nI_leI (by omega) (by omega)] at c
      have e : s = 10 := by omega
      subst e
      exact h
    · rw [show (10 : Int32) = nI 10 by decide, nI_leI (by omega) (by omega)] at c
      omega
  have e9 : 9 ≤ s → Z 10 [some (.ref 18), some (.ref 120), some (.int 9)] [] (wC t b c2 c3 c4 c5 c6 n lg ht x y (nI s) kidC k0 k1 z sa sb sc c7 c8 c9 tr (wPL (zfl P1 P 9) (wIM X0 s0 P0 X1 (nI s) P1 tl))) := by
    intro hp
    refine hZ.1 [10] 60 _ _ _ _ (And.intro (fun c => ?_) (fun c => ?_))
    · rw [show (9 : Int32) = nI 9 by decide, nI_leI (by omega) (by omega)] at c
      have e : s = 9 := by omega
      subst e
      exact h
    · rw [show (9 : Int32) = nI 9 by decide, nI_leI (by omega) (by omega)] at c
      exact And.intro (vpd (by decide)) (Exists.intro 66 (And.intro rfl (And.intro (vpd (by decide)) (Exists.intro 158 (And.intro rfl (And.intro rfl (Or.inr ⟨[66, 67, 68, 69, 158, 159, 160, 161, 7], [.ref 0, .ref 4], wL2 (P 9).1 (P 9).2.1 (P 9).2.2.1 (P 9).2.2.2.1 (P 9).2.2.2.2.1 (P 9).2.2.2.2.2.1 (P 9).2.2.2.2.2.2 (P1 9).1 (P1 9).2.1 (P1 9).2.2.1 (P1 9).2.2.2.1 (P1 9).2.2.2.2.1 (P1 9).2.2.2.2.2.1 (P1 9).2.2.2.2.2.2, ⟨rfl, rfl, rfl⟩, ⟨Nat.le_of_ble_eq_true rfl, rfl⟩, rfl, t_copyFrom (e10 (by omega))⟩)))))))
  have e8 : 8 ≤ s → Z 10 [some (.ref 18), some (.ref 120), some (.int 8)] [] (wC t b c2 c3 c4 c5 c6 n lg ht x y (nI s) kidC k0 k1 z sa sb sc c7 c8 c9 tr (wPL (zfl P1 P 8) (wIM X0 s0 P0 X1 (nI s) P1 tl))) := by
    intro hp
    refine hZ.1 [10] 60 _ _ _ _ (And.intro (fun c => ?_) (fun c => ?_))
    · rw [show (8 : Int32) = nI 8 by decide, nI_leI (by omega) (by omega)] at c
      have e : s = 8 := by omega
      subst e
      exact h
    · rw [show (8 : Int32) = nI 8 by decide, nI_leI (by omega) (by omega)] at c
      exact And.intro (vpd (by decide)) (Exists.intro 62 (And.intro rfl (And.intro (vpd (by decide)) (Exists.intro 154 (And.intro rfl (And.intro rfl (Or.inr ⟨[62, 63, 64, 65, 154, 155, 156, 157, 7], [.ref 0, .ref 4], wL2 (P 8).1 (P 8).2.1 (P 8).2.2.1 (P 8).2.2.2.1 (P 8).2.2.2.2.1 (P 8).2.2.2.2.2.1 (P 8).2.2.2.2.2.2 (P1 8).1 (P1 8).2.1 (P1 8).2.2.1 (P1 8).2.2.2.1 (P1 8).2.2.2.2.1 (P1 8).2.2.2.2.2.1 (P1 8).2.2.2.2.2.2, ⟨rfl, rfl, rfl⟩, ⟨Nat.le_of_ble_eq_true rfl, rfl⟩, rfl, t_copyFrom (e9 (by omega))⟩)))))))
  have e7 : 7 ≤ s → Z 10 [some (.ref 18), some (.ref 120), some (.int 7)] [] (wC t b c2 c3 c4 c5 c6 n lg ht x y (nI s) kidC k0 k1 z sa sb sc c7 c8 c9 tr (wPL (zfl P1 P 7) (wIM X0 s0 P0 X1 (nI s) P1 tl))) := by
    intro hp
    refine hZ.1 [10] 60 _ _ _ _ (And.intro (fun c => ?_) (fun c => ?_))
    · rw [show (7 : Int32) = nI 7 by decide, nI_leI (by omega) (by omega)] at c
      have e : s = 7 := by omega
      subst e
      exact h
    · rw [show (7 : Int32) = nI 7 by decide, nI_leI (by omega) (by omega)] at c
      exact And.intro (vpd (by decide)) (Exists.intro 58 (And.intro rfl (And.intro (vpd (by decide)) (Exists.intro 150 (And.intro rfl (And.intro rfl (Or.inr ⟨[58, 59, 60, 61, 150, 151, 152, 153, 7], [.ref 0, .ref 4], wL2 (P 7).1 (P 7).2.1 (P 7).2.2.1 (P 7).2.2.2.1 (P 7).2.2.2.2.1 (P 7).2.2.2.2.2.1 (P 7).2.2.2.2.2.2 (P1 7).1 (P1 7).2.1 (P1 7).2.2.1 (P1 7).2.2.2.1 (P1 7).2.2.2.2.1 (P1 7).2.2.2.2.2.1 (P1 7).2.2.2.2.2.2, ⟨rfl, rfl, rfl⟩, ⟨Nat.le_of_ble_eq_true rfl, rfl⟩, rfl, t_copyFrom (e8 (by omega))⟩)))))))
  have e6 : 6 ≤ s → Z 10 [some (.ref 18), some (.ref 120), some (.int 6)] [] (wC t b c2 c3 c4 c5 c6 n lg ht x y (nI s) kidC k0 k1 z sa sb sc c7 c8 c9 tr (wPL (zfl P1 P 6) (wIM X0 s0 P0 X1 (nI s) P1 tl))) := by
    intro hp
    refine hZ.1 [10] 60 _ _ _ _ (And.intro (fun c => ?_) (fun c => ?_))
    · rw [show (6 : Int32) = nI 6 by decide, nI_leI (by omega) (by omega)] at c
      have e : s = 6 := by omega
      subst e
      exact h
    · rw [show (6 : Int32) = nI 6 by decide, nI_leI (by omega) (by omega)] at c
      exact And.intro (vpd (by decide)) (Exists.intro 54 (And.intro rfl (And.intro (vpd (by decide)) (Exists.intro 146 (And.intro rfl (And.intro rfl (Or.inr ⟨[54, 55, 56, 57, 146, 147, 148, 149, 7], [.ref 0, .ref 4], wL2 (P 6).1 (P 6).2.1 (P 6).2.2.1 (P 6).2.2.2.1 (P 6).2.2.2.2.1 (P 6).2.2.2.2.2.1 (P 6).2.2.2.2.2.2 (P1 6).1 (P1 6).2.1 (P1 6).2.2.1 (P1 6).2.2.2.1 (P1 6).2.2.2.2.1 (P1 6).2.2.2.2.2.1 (P1 6).2.2.2.2.2.2, ⟨rfl, rfl, rfl⟩, ⟨Nat.le_of_ble_eq_true rfl, rfl⟩, rfl, t_copyFrom (e7 (by omega))⟩)))))))
  have e5 : 5 ≤ s → Z 10 [some (.ref 18), some (.ref 120), some (.int 5)] [] (wC t b c2 c3 c4 c5 c6 n lg ht x y (nI s) kidC k0 k1 z sa sb sc c7 c8 c9 tr (wPL (zfl P1 P 5) (wIM X0 s0 P0 X1 (nI s) P1 tl))) := by
    intro hp
    refine hZ.1 [10] 60 _ _ _ _ (And.intro (fun c => ?_) (fun c => ?_))
    · rw [show (5 : Int32) = nI 5 by decide, nI_leI (by omega) (by omega)] at c
      have e : s = 5 := by omega
      subst e
      exact h
    · rw [show (5 : Int32) = nI 5 by decide, nI_leI (by omega) (by omega)] at c
      exact And.intro (vpd (by decide)) (Exists.intro 50 (And.intro rfl (And.intro (vpd (by decide)) (Exists.intro 142 (And.intro rfl (And.intro rfl (Or.inr ⟨[50, 51, 52, 53, 142, 143, 144, 145, 7], [.ref 0, .ref 4], wL2 (P 5).1 (P 5).2.1 (P 5).2.2.1 (P 5).2.2.2.1 (P 5).2.2.2.2.1 (P 5).2.2.2.2.2.1 (P 5).2.2.2.2.2.2 (P1 5).1 (P1 5).2.1 (P1 5).2.2.1 (P1 5).2.2.2.1 (P1 5).2.2.2.2.1 (P1 5).2.2.2.2.2.1 (P1 5).2.2.2.2.2.2, ⟨rfl, rfl, rfl⟩, ⟨Nat.le_of_ble_eq_true rfl, rfl⟩, rfl, t_copyFrom (e6 (by omega))⟩)))))))
  have e4 : 4 ≤ s → Z 10 [some (.ref 18), some (.ref 120), some (.int 4)] [] (wC t b c2 c3 c4 c5 c6 n lg ht x y (nI s) kidC k0 k1 z sa sb sc c7 c8 c9 tr (wPL (zfl P1 P 4) (wIM X0 s0 P0 X1 (nI s) P1 tl))) := by
    intro hp
    refine hZ.1 [10] 60 _ _ _ _ (And.intro (fun c => ?_) (fun c => ?_))
    · rw [show (4 : Int32) = nI 4 by decide, nI_leI (by omega) (by omega)] at c
      have e : s = 4 := by omega
      subst e
      exact h
    · rw [show (4 : Int32) = nI 4 by decide, nI_leI (by omega) (by omega)] at c
      exact And.intro (vpd (by decide)) (Exists.intro 46 (And.intro rfl (And.intro (vpd (by decide)) (Exists.intro 138 (And.intro rfl (And.intro rfl (Or.inr ⟨[46, 47, 48, 49, 138, 139, 140, 141, 7], [.ref 0, .ref 4], wL2 (P 4).1 (P 4).2.1 (P 4).2.2.1 (P 4).2.2.2.1 (P 4).2.2.2.2.1 (P 4).2.2.2.2.2.1 (P 4).2.2.2.2.2.2 (P1 4).1 (P1 4).2.1 (P1 4).2.2.1 (P1 4).2.2.2.1 (P1 4).2.2.2.2.1 (P1 4).2.2.2.2.2.1 (P1 4).2.2.2.2.2.2, ⟨rfl, rfl, rfl⟩, ⟨Nat.le_of_ble_eq_true rfl, rfl⟩, rfl, t_copyFrom (e5 (by omega))⟩)))))))
  have e3 : 3 ≤ s → Z 10 [some (.ref 18), some (.ref 120), some (.int 3)] [] (wC t b c2 c3 c4 c5 c6 n lg ht x y (nI s) kidC k0 k1 z sa sb sc c7 c8 c9 tr (wPL (zfl P1 P 3) (wIM X0 s0 P0 X1 (nI s) P1 tl))) := by
    intro hp
    refine hZ.1 [10] 60 _ _ _ _ (And.intro (fun c => ?_) (fun c => ?_))
    · rw [show (3 : Int32) = nI 3 by decide, nI_leI (by omega) (by omega)] at c
      have e : s = 3 := by omega
      subst e
      exact h
    · rw [show (3 : Int32) = nI 3 by decide, nI_leI (by omega) (by omega)] at c
      exact And.intro (vpd (by decide)) (Exists.intro 42 (And.intro rfl (And.intro (vpd (by decide)) (Exists.intro 134 (And.intro rfl (And.intro rfl (Or.inr ⟨[42, 43, 44, 45, 134, 135, 136, 137, 7], [.ref 0, .ref 4], wL2 (P 3).1 (P 3).2.1 (P 3).2.2.1 (P 3).2.2.2.1 (P 3).2.2.2.2.1 (P 3).2.2.2.2.2.1 (P 3).2.2.2.2.2.2 (P1 3).1 (P1 3).2.1 (P1 3).2.2.1 (P1 3).2.2.2.1 (P1 3).2.2.2.2.1 (P1 3).2.2.2.2.2.1 (P1 3).2.2.2.2.2.2, ⟨rfl, rfl, rfl⟩, ⟨Nat.le_of_ble_eq_true rfl, rfl⟩, rfl, t_copyFrom (e4 (by omega))⟩)))))))
  have e2 : 2 ≤ s → Z 10 [some (.ref 18), some (.ref 120), some (.int 2)] [] (wC t b c2 c3 c4 c5 c6 n lg ht x y (nI s) kidC k0 k1 z sa sb sc c7 c8 c9 tr (wPL (zfl P1 P 2) (wIM X0 s0 P0 X1 (nI s) P1 tl))) := by
    intro hp
    refine hZ.1 [10] 60 _ _ _ _ (And.intro (fun c => ?_) (fun c => ?_))
    · rw [show (2 : Int32) = nI 2 by decide, nI_leI (by omega) (by omega)] at c
      have e : s = 2 := by omega
      subst e
      exact h
    · rw [show (2 : Int32) = nI 2 by decide, nI_leI (by omega) (by omega)] at c
      exact And.intro (vpd (by decide)) (Exists.intro 38 (And.intro rfl (And.intro (vpd (by decide)) (Exists.intro 130 (And.intro rfl (And.intro rfl (Or.inr ⟨[38, 39, 40, 41, 130, 131, 132, 133, 7], [.ref 0, .ref 4], wL2 (P 2).1 (P 2).2.1 (P 2).2.2.1 (P 2).2.2.2.1 (P 2).2.2.2.2.1 (P 2).2.2.2.2.2.1 (P 2).2.2.2.2.2.2 (P1 2).1 (P1 2).2.1 (P1 2).2.2.1 (P1 2).2.2.2.1 (P1 2).2.2.2.2.1 (P1 2).2.2.2.2.2.1 (P1 2).2.2.2.2.2.2, ⟨rfl, rfl, rfl⟩, ⟨Nat.le_of_ble_eq_true rfl, rfl⟩, rfl, t_copyFrom (e3 (by omega))⟩)))))))
  have e1 : 1 ≤ s → Z 10 [some (.ref 18), some (.ref 120), some (.int 1)] [] (wC t b c2 c3 c4 c5 c6 n lg ht x y (nI s) kidC k0 k1 z sa sb sc c7 c8 c9 tr (wPL (zfl P1 P 1) (wIM X0 s0 P0 X1 (nI s) P1 tl))) := by
    intro hp
    refine hZ.1 [10] 60 _ _ _ _ (And.intro (fun c => ?_) (fun c => ?_))
    · rw [show (1 : Int32) = nI 1 by decide, nI_leI (by omega) (by omega)] at c
      have e : s = 1 := by omega
      subst e
      exact h
    · rw [show (1 : Int32) = nI 1 by decide, nI_leI (by omega) (by omega)] at c
      exact And.intro (vpd (by decide)) (Exists.intro 34 (And.intro rfl (And.intro (vpd (by decide)) (Exists.intro 126 (And.intro rfl (And.intro rfl (Or.inr ⟨[34, 35, 36, 37, 126, 127, 128, 129, 7], [.ref 0, .ref 4], wL2 (P 1).1 (P 1).2.1 (P 1).2.2.1 (P 1).2.2.2.1 (P 1).2.2.2.2.1 (P 1).2.2.2.2.2.1 (P 1).2.2.2.2.2.2 (P1 1).1 (P1 1).2.1 (P1 1).2.2.1 (P1 1).2.2.2.1 (P1 1).2.2.2.2.1 (P1 1).2.2.2.2.2.1 (P1 1).2.2.2.2.2.2, ⟨rfl, rfl, rfl⟩, ⟨Nat.le_of_ble_eq_true rfl, rfl⟩, rfl, t_copyFrom (e2 (by omega))⟩)))))))
  have e0 : 0 ≤ s → Z 10 [some (.ref 18), some (.ref 120), some (.int 0)] [] (wC t b c2 c3 c4 c5 c6 n lg ht x y (nI s) kidC k0 k1 z sa sb sc c7 c8 c9 tr (wPL (zfl P1 P 0) (wIM X0 s0 P0 X1 (nI s) P1 tl))) := by
    intro hp
    refine hZ.1 [10] 60 _ _ _ _ (And.intro (fun c => ?_) (fun c => ?_))
    · rw [show (0 : Int32) = nI 0 by decide, nI_leI (by omega) (by omega)] at c
      have e : s = 0 := by omega
      subst e
      exact h
    · rw [show (0 : Int32) = nI 0 by decide, nI_leI (by omega) (by omega)] at c
      exact And.intro (vpd (by decide)) (Exists.intro 30 (And.intro rfl (And.intro (vpd (by decide)) (Exists.intro 122 (And.intro rfl (And.intro rfl (Or.inr ⟨[30, 31, 32, 33, 122, 123, 124, 125, 7], [.ref 0, .ref 4], wL2 (P 0).1 (P 0).2.1 (P 0).2.2.1 (P 0).2.2.2.1 (P 0).2.2.2.2.1 (P 0).2.2.2.2.2.1 (P 0).2.2.2.2.2.2 (P1 0).1 (P1 0).2.1 (P1 0).2.2.1 (P1 0).2.2.2.1 (P1 0).2.2.2.2.1 (P1 0).2.2.2.2.2.1 (P1 0).2.2.2.2.2.2, ⟨rfl, rfl, rfl⟩, ⟨Nat.le_of_ble_eq_true rfl, rfl⟩, rfl, t_copyFrom (e1 (by omega))⟩)))))))
  exact hZ.1 [10] 60 _ _ _ _ (e0 (by omega))
set_option maxRecDepth 100000 in
set_option maxHeartbeats 8000000 in
theorem c_keep (hs : s ≤ 10) (a : Int32) (h0 : a = 0 → post (some (.int x.2.2.2.2.2.2)) (wC t b c2 c3 c4 c5 c6 n lg ht x y (nI s) kidC 1 k1 z sa sb sc c7 c8 c9 tr (wPL P (wIM x (nI s) (zfl P P0 s) X1 s1 P1 tl)))) (h1 : a = 1 → post (some (.int x.2.2.2.2.2.2)) (wC t b c2 c3 c4 c5 c6 n lg ht x y (nI s) kidC k0 1 z sa sb sc c7 c8 c9 tr (wPL P (wIM X0 s0 P0 x (nI s) (zfl P P1 s) tl)))) (hb : ¬ (0 ≤ a ∧ a ≤ 1) → post (some (.int (-1001))) (wC t b c2 c3 c4 c5 c6 n lg ht x y (nI s) kidC k0 k1 z sa sb sc c7 c8 c9 tr (wPL P (wIM X0 s0 P0 X1 s1 P1 tl)))) : zGoes mX7_keep 1 2 [.ref 0, .int a] (wC t b c2 c3 c4 c5 c6 n lg ht x y (nI s) kidC k0 k1 z sa sb sc c7 c8 c9 tr (wPL P (wIM X0 s0 P0 X1 s1 P1 tl))) post := by
  intro Z hZ
  refine hZ.1 [] 90 _ _ _ _ (u_within a 0 1 (fun q => ?_) (fun q => ?_))
  · obtain ⟨k, hk, rfl⟩ := in60 (m := 1) rfl q
    rcases (show k = 0 ∨ k = 1 by omega) with rfl | rfl
    · exact And.intro (fun e => absurd e (by decide)) (fun _ => And.intro (vpd (by decide)) (Exists.intro 21 (And.intro rfl (And.intro rfl (Or.inr ⟨[70, 71, 72, 73, 10, 11, 12, 13, 7], [.ref 0, .ref 4], wL2 X0.1 X0.2.1 X0.2.2.1 X0.2.2.2.1 X0.2.2.2.2.1 X0.2.2.2.2.2.1 X0.2.2.2.2.2.2 x.1 x.2.1 x.2.2.1 x.2.2.2.1 x.2.2.2.2.1 x.2.2.2.2.2.1 x.2.2.2.2.2.2, ⟨rfl, rfl, rfl⟩, ⟨Nat.le_of_ble_eq_true rfl, rfl⟩, rfl, t_copyFrom (And.intro (vpd (by decide)) (Exists.intro 21 (And.intro rfl (And.intro rfl (Or.inl ⟨rfl, rfl, t_pcTo0 hs (And.intro (vpd (by decide)) (Exists.intro 21 (And.intro rfl (And.intro (Or.inr rfl) (h0 rfl)))))⟩)))))⟩)))))
    · exact And.intro (fun e => absurd e (by decide)) (fun _ => And.intro (vpd (by decide)) (Exists.intro 22 (And.intro rfl (And.intro rfl (Or.inr ⟨[116, 117, 118, 119, 10, 11, 12, 13, 7], [.ref 0, .ref 4], wL2 X1.1 X1.2.1 X1.2.2.1 X1.2.2.2.1 X1.2.2.2.2.1 X1.2.2.2.2.2.1 X1.2.2.2.2.2.2 x.1 x.2.1 x.2.2.1 x.2.2.2.1 x.2.2.2.2.1 x.2.2.2.2.2.1 x.2.2.2.2.2.2, ⟨rfl, rfl, rfl⟩, ⟨Nat.le_of_ble_eq_true rfl, rfl⟩, rfl, t_copyFrom (And.intro (vpd (by decide)) (Exists.intro 22 (And.intro rfl (And.intro rfl (Or.inl ⟨rfl, rfl, t_pcTo1 hs (And.intro (vpd (by decide)) (Exists.intro 22 (And.intro rfl (And.intro (Or.inr rfl) (h1 rfl)))))⟩)))))⟩)))))
  · exact And.intro (fun _ => hb q) (fun e => absurd rfl e)
set_option maxRecDepth 100000 in
set_option maxHeartbeats 8000000 in
theorem c_backBad (a : Int32) (hb : ¬ (0 ≤ a ∧ a ≤ 1)) (h : post (some (.int (-1001))) (wC t b c2 c3 c4 c5 c6 n lg ht x y sz kn k0 k1 z sa sb sc c7 c8 c9 tr tl)) : zGoes mX7_back 1 2 [.ref 0, .int a] (wC t b c2 c3 c4 c5 c6 n lg ht x y sz kn k0 k1 z sa sb sc c7 c8 c9 tr tl) post := fun Z hZ => hZ.1 [] 90 _ _ _ _ (u_within a 0 1 (fun q => absurd q hb) (fun _ => And.intro (fun _ => h) (fun e => absurd rfl e)))
set_option maxRecDepth 100000 in
set_option maxHeartbeats 8000000 in
theorem c_back0 (hs : s ≤ 10) (h1 : ¬ k0 = 0 → post (some (.int X0.2.2.2.2.2.2)) (wC t b c2 c3 c4 c5 c6 n lg ht X0 y (nI s) kidC k0 k1 z sa sb sc c7 c8 c9 tr (wPL (zfl P0 P s) (wIM X0 (nI s) P0 X1 s1 P1 tl)))) (h0 : k0 = 0 → post (some (.int (-1002))) (wC t b c2 c3 c4 c5 c6 n lg ht x y sz kidC k0 k1 z sa sb sc c7 c8 c9 tr (wPL P (wIM X0 (nI s) P0 X1 s1 P1 tl)))) : zGoes mX7_back 1 2 [.ref 0, .int 0] (wC t b c2 c3 c4 c5 c6 n lg ht x y sz kidC k0 k1 z sa sb sc c7 c8 c9 tr (wPL P (wIM X0 (nI s) P0 X1 s1 P1 tl))) post := by
  intro Z hZ
  refine hZ.1 [] 90 _ _ _ _ (u_within 0 0 1 (fun q => ?_) (fun q => absurd (by decide) q))
  refine And.intro (fun e => absurd e (by decide)) (fun _ => And.intro (vpd (by decide)) (Exists.intro 21 (And.intro rfl (And.intro (fun c => h0 c) (fun c => ?_)))))
  exact And.intro (vpd (by decide)) (Exists.intro 21 (And.intro rfl (And.intro rfl (Or.inr ⟨[10, 11, 12, 13, 70, 71, 72, 73, 7], [.ref 0, .ref 4], wL2 x.1 x.2.1 x.2.2.1 x.2.2.2.1 x.2.2.2.2.1 x.2.2.2.2.2.1 x.2.2.2.2.2.2 X0.1 X0.2.1 X0.2.2.1 X0.2.2.2.1 X0.2.2.2.2.1 X0.2.2.2.2.2.1 X0.2.2.2.2.2.2, ⟨rfl, rfl, rfl⟩, ⟨Nat.le_of_ble_eq_true rfl, rfl⟩, rfl, t_copyFrom (And.intro (vpd (by decide)) (Exists.intro 21 (And.intro rfl (And.intro rfl (Or.inl ⟨rfl, rfl, t_pcFrom0 hs (h1 c)⟩)))))⟩))))
set_option maxRecDepth 100000 in
set_option maxHeartbeats 8000000 in
theorem c_back1 (hs : s ≤ 10) (h1 : ¬ k1 = 0 → post (some (.int X1.2.2.2.2.2.2)) (wC t b c2 c3 c4 c5 c6 n lg ht X1 y (nI s) kidC k0 k1 z sa sb sc c7 c8 c9 tr (wPL (zfl P1 P s) (wIM X0 s0 P0 X1 (nI s) P1 tl)))) (h0 : k1 = 0 → post (some (.int (-1002))) (wC t b c2 c3 c4 c5 c6 n lg ht x y sz kidC k0 k1 z sa sb sc c7 c8 c9 tr (wPL P (wIM X0 s0 P0 X1 (nI s) P1 tl)))) : zGoes mX7_back 1 2 [.ref 0, .int 1] (wC t b c2 c3 c4 c5 c6 n lg ht x y sz kidC k0 k1 z sa sb sc c7 c8 c9 tr (wPL P (wIM X0 s0 P0 X1 (nI s) P1 tl))) post := by
  intro Z hZ
  refine hZ.1 [] 90 _ _ _ _ (u_within 1 0 1 (fun q => ?_) (fun q => absurd (by decide) q))
  refine And.intro (fun e => absurd e (by decide)) (fun _ => And.intro (vpd (by decide)) (Exists.intro 22 (And.intro rfl (And.intro (fun c => h0 c) (fun c => ?_)))))
  exact And.intro (vpd (by decide)) (Exists.intro 22 (And.intro rfl (And.intro rfl (Or.inr ⟨[10, 11, 12, 13, 116, 117, 118, 119, 7], [.ref 0, .ref 4], wL2 x.1 x.2.1 x.2.2.1 x.2.2.2.1 x.2.2.2.2.1 x.2.2.2.2.2.1 x.2.2.2.2.2.2 X1.1 X1.2.1 X1.2.2.1 X1.2.2.2.1 X1.2.2.2.2.1 X1.2.2.2.2.2.1 X1.2.2.2.2.2.2, ⟨rfl, rfl, rfl⟩, ⟨Nat.le_of_ble_eq_true rfl, rfl⟩, rfl, t_copyFrom (And.intro (vpd (by decide)) (Exists.intro 22 (And.intro rfl (And.intro rfl (Or.inl ⟨rfl, rfl, t_pcFrom1 hs (h1 c)⟩)))))⟩))))
end RWS
