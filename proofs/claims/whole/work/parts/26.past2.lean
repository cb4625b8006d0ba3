def zfl (Q P : Nat → zLn) (p : Nat) : Nat → zLn := fun j => if j < p then Q j else P j
def kid2 : List (Option Nat) := [some 44, some 48, some 52, some 56, some 60, some 64, some 68, some 72, some 76, some 80]
/-- two Pasts (0 and 42), of the same men (84) -/
def wP2 (sz : Int32) (P : Nat → zLn) (sz2 : Int32) (Q : Nat → zLn) : zW := [.inr (.inr (4, [.ref 1, .int sz])), .inr (.inl (4, kid)), .inr (.inr (1, [.ref 84, .ref 3, .ref 4, .ref 5, .int (P 0).2.2.2.1, .int (P 0).2.2.2.2.1, .int (P 0).2.2.2.2.2.1, .int (P 0).2.2.2.2.2.2])), .inl (0, 7, (P 0).1), .inl (0, 7, (P 0).2.1), .inl (0, 7, (P 0).2.2.1), .inr (.inr (1, [.ref 84, .ref 7, .ref 8, .ref 9, .int (P 1).2.2.2.1, .int (P 1).2.2.2.2.1, .int (P 1).2.2.2.2.2.1, .int (P 1).2.2.2.2.2.2])), .inl (0, 7, (P 1).1), .inl (0, 7, (P 1).2.1), .inl (0, 7, (P 1).2.2.1), .inr (.inr (1, [.ref 84, .ref 11, .ref 12, .ref 13, .int (P 2).2.2.2.1, .int (P 2).2.2.2.2.1, .int (P 2).2.2.2.2.2.1, .int (P 2).2.2.2.2.2.2])), .inl (0, 7, (P 2).1), .inl (0, 7, (P 2).2.1), .inl (0, 7, (P 2).2.2.1), .inr (.inr (1, [.ref 84, .ref 15, .ref 16, .ref 17, .int (P 3).2.2.2.1, .int (P 3).2.2.2.2.1, .int (P 3).2.2.2.2.2.1, .int (P 3).2.2.2.2.2.2])), .inl (0, 7, (P 3).1), .inl (0, 7, (P 3).2.1), .inl (0, 7, (P 3).2.2.1), .inr (.inr (1, [.ref 84, .ref 19, .ref 20, .ref 21, .int (P 4).2.2.2.1, .int (P 4).2.2.2.2.1, .int (P 4).2.2.2.2.2.1, .int (P 4).2.2.2.2.2.2])), .inl (0, 7, (P 4).1), .inl (0, 7, (P 4).2.1), .inl (0, 7, (P 4).2.2.1), .inr (.inr (1, [.ref 84, .ref 23, .ref 24, .ref 25, .int (P 5).2.2.2.1, .int (P 5).2.2.2.2.1, .int (P 5).2.2.2.2.2.1, .int (P 5).2.2.2.2.2.2])), .inl (0, 7, (P 5).1), .inl (0, 7, (P 5).2.1), .inl (0, 7, (P 5).2.2.1), .inr (.inr (1, [.ref 84, .ref 27, .ref 28, .ref 29, .int (P 6).2.2.2.1, .int (P 6).2.2.2.2.1, .int (P 6).2.2.2.2.2.1, .int (P 6).2.2.2.2.2.2])), .inl (0, 7, (P 6).1), .inl (0, 7, (P 6).2.1), .inl (0, 7, (P 6).2.2.1), .inr (.inr (1, [.ref 84, .ref 31, .ref 32, .ref 33, .int (P 7).2.2.2.1, .int (P 7).2.2.2.2.1, .int (P 7).2.2.2.2.2.1, .int (P 7).2.2.2.2.2.2])), .inl (0, 7, (P 7).1), .inl (0, 7, (P 7).2.1), .inl (0, 7, (P 7).2.2.1), .inr (.inr (1, [.ref 84, .ref 35, .ref 36, .ref 37, .int (P 8).2.2.2.1, .int (P 8).2.2.2.2.1, .int (P 8).2.2.2.2.2.1, .int (P 8).2.2.2.2.2.2])), .inl (0, 7, (P 8).1), .inl (0, 7, (P 8).2.1), .inl (0, 7, (P 8).2.2.1), .inr (.inr (1, [.ref 84, .ref 39, .ref 40, .ref 41, .int (P 9).2.2.2.1, .int (P 9).2.2.2.2.1, .int (P 9).2.2.2.2.2.1, .int (P 9).2.2.2.2.2.2])), .inl (0, 7, (P 9).1), .inl (0, 7, (P 9).2.1), .inl (0, 7, (P 9).2.2.1), .inr (.inr (4, [.ref 43, .int sz2])), .inr (.inl (4, kid2)), .inr (.inr (1, [.ref 84, .ref 45, .ref 46, .ref 47, .int (Q 0).2.2.2.1, .int (Q 0).2.2.2.2.1, .int (Q 0).2.2.2.2.2.1, .int (Q 0).2.2.2.2.2.2])), .inl (0, 7, (Q 0).1), .inl (0, 7, (Q 0).2.1), .inl (0, 7, (Q 0).2.2.1), .inr (.inr (1, [.ref 84, .ref 49, .ref 50, .ref 51, .int (Q 1).2.2.2.1, .int (Q 1).2.2.2.2.1, .int (Q 1).2.2.2.2.2.1, .int (Q 1).2.2.2.2.2.2])), .inl (0, 7, (Q 1).1), .inl (0, 7, (Q 1).2.1), .inl (0, 7, (Q 1).2.2.1), .inr (.inr (1, [.ref 84, .ref 53, .ref 54, .ref 55, .int (Q 2).2.2.2.1, .int (Q 2).2.2.2.2.1, .int (Q 2).2.2.2.2.2.1, .int (Q 2).2.2.2.2.2.2])), .inl (0, 7, (Q 2).1), .inl (0, 7, (Q 2).2.1), .inl (0, 7, (Q 2).2.2.1), .inr (.inr (1, [.ref 84, .ref 57, .ref 58, .ref 59, .int (Q 3).2.2.2.1, .int (Q 3).2.2.2.2.1, .int (Q 3).2.2.2.2.2.1, .int (Q 3).2.2.2.2.2.2])), .inl (0, 7, (Q 3).1), .inl (0, 7, (Q 3).2.1), .inl (0, 7, (Q 3).2.2.1), .inr (.inr (1, [.ref 84, .ref 61, .ref 62, .ref 63, .int (Q 4).2.2.2.1, .int (Q 4).2.2.2.2.1, .int (Q 4).2.2.2.2.2.1, .int (Q 4).2.2.2.2.2.2])), .inl (0, 7, (Q 4).1), .inl (0, 7, (Q 4).2.1), .inl (0, 7, (Q 4).2.2.1), .inr (.inr (1, [.ref 84, .ref 65, .ref 66, .ref 67, .int (Q 5).2.2.2.1, .int (Q 5).2.2.2.2.1, .int (Q 5).2.2.2.2.2.1, .int (Q 5).2.2.2.2.2.2])), .inl (0, 7, (Q 5).1), .inl (0, 7, (Q 5).2.1), .inl (0, 7, (Q 5).2.2.1), .inr (.inr (1, [.ref 84, .ref 69, .ref 70, .ref 71, .int (Q 6).2.2.2.1, .int (Q 6).2.2.2.2.1, .int (Q 6).2.2.2.2.2.1, .int (Q 6).2.2.2.2.2.2])), .inl (0, 7, (Q 6).1), .inl (0, 7, (Q 6).2.1), .inl (0, 7, (Q 6).2.2.1), .inr (.inr (1, [.ref 84, .ref 73, .ref 74, .ref 75, .int (Q 7).2.2.2.1, .int (Q 7).2.2.2.2.1, .int (Q 7).2.2.2.2.2.1, .int (Q 7).2.2.2.2.2.2])), .inl (0, 7, (Q 7).1), .inl (0, 7, (Q 7).2.1), .inl (0, 7, (Q 7).2.2.1), .inr (.inr (1, [.ref 84, .ref 77, .ref 78, .ref 79, .int (Q 8).2.2.2.1, .int (Q 8).2.2.2.2.1, .int (Q 8).2.2.2.2.2.1, .int (Q 8).2.2.2.2.2.2])), .inl (0, 7, (Q 8).1), .inl (0, 7, (Q 8).2.1), .inl (0, 7, (Q 8).2.2.1), .inr (.inr (1, [.ref 84, .ref 81, .ref 82, .ref 83, .int (Q 9).2.2.2.1, .int (Q 9).2.2.2.2.1, .int (Q 9).2.2.2.2.2.1, .int (Q 9).2.2.2.2.2.2])), .inl (0, 7, (Q 9).1), .inl (0, 7, (Q 9).2.1), .inl (0, 7, (Q 9).2.2.1)]
set_option maxRecDepth 100000 in
set_option maxHeartbeats 8000000 in
theorem t_pastCopy {P Q : Nat → zLn} {sz : Int32} {post : zP} (s : Nat) (hs : s ≤ 10) (h : post none (wP2 (nI s) (zfl Q P s) (nI s) Q)) : zGoes mX4_copyFrom 0 3 [.ref 0, .ref 42] (wP2 sz P (nI s) Q) post := by
  intro K hK
  have e10 : 10 ≤ s → K 10 [some (.ref 0), some (.ref 42), some (.int 10)] [] (wP2 (nI s) (zfl Q P 10) (nI s) Q) := by
    intro hp
    refine hK.1 [10] 60 _ _ _ _ (And.intro (fun c => ?_) (fun c => ?_))
    · rw [show (10 : Int32) = nI 10 by decide, nI_leI (by omega) (by omega)] at c
      have e : s = 10 := by omega
      subst e
      exact h
    · rw [show (10 : Int32) = nI 10 by decide, nI_leI (by omega) (by omega)] at c
      omega
  have e9 : 9 ≤ s → K 10 [some (.ref 0), some (.ref 42), some (.int 9)] [] (wP2 (nI s) (zfl Q P 9) (nI s) Q) := by
    intro hp
    refine hK.1 [10] 60 _ _ _ _ (And.intro (fun c => ?_) (fun c => ?_))
    · rw [show (9 : Int32) = nI 9 by decide, nI_leI (by omega) (by omega)] at c
      have e : s = 9 := by omega
      subst e
      exact h
    · rw [show (9 : Int32) = nI 9 by decide, nI_leI (by omega) (by omega)] at c
      exact And.intro (vpd (by decide)) (Exists.intro 38 (And.intro rfl (And.intro (vpd (by decide)) (Exists.intro 80 (And.intro rfl (And.intro rfl (Or.inr ⟨[38, 39, 40, 41, 80, 81, 82, 83, 84], [.ref 0, .ref 4], wL2 (P 9).1 (P 9).2.1 (P 9).2.2.1 (P 9).2.2.2.1 (P 9).2.2.2.2.1 (P 9).2.2.2.2.2.1 (P 9).2.2.2.2.2.2 (Q 9).1 (Q 9).2.1 (Q 9).2.2.1 (Q 9).2.2.2.1 (Q 9).2.2.2.2.1 (Q 9).2.2.2.2.2.1 (Q 9).2.2.2.2.2.2, ⟨rfl, rfl, rfl⟩, ⟨Nat.le_of_ble_eq_true rfl, rfl⟩, rfl, t_copyFrom (e10 (by omega))⟩)))))))
  have e8 : 8 ≤ s → K 10 [some (.ref 0), some (.ref 42), some (.int 8)] [] (wP2 (nI s) (zfl Q P 8) (nI s) Q) := by
    intro hp
    refine hK.1 [10] 60 _ _ _ _ (And.intro (fun c => ?_) (fun c => ?_))
    · rw [show (8 : Int32) = nI 8 by decide, nI_leI (by omega) (by omega)] at c
      have e : s = 8 := by omega
      subst e
      exact h
    · rw [show (8 : Int32) = nI 8 by decide, nI_leI (by omega) (by omega)] at c
      exact And.intro (vpd (by decide)) (Exists.intro 34 (And.intro rfl (And.intro (vpd (by decide)) (Exists.intro 76 (And.intro rfl (And.intro rfl (Or.inr ⟨[34, 35, 36, 37, 76, 77, 78, 79, 84], [.ref 0, .ref 4], wL2 (P 8).1 (P 8).2.1 (P 8).2.2.1 (P 8).2.2.2.1 (P 8).2.2.2.2.1 (P 8).2.2.2.2.2.1 (P 8).2.2.2.2.2.2 (Q 8).1 (Q 8).2.1 (Q 8).2.2.1 (Q 8).2.2.2.1 (Q 8).2.2.2.2.1 (Q 8).2.2.2.2.2.1 (Q 8).2.2.2.2.2.2, ⟨rfl, rfl, rfl⟩, ⟨Nat.le_of_ble_eq_true rfl, rfl⟩, rfl, t_copyFrom (e9 (by omega))⟩)))))))
  have e7 : 7 ≤ s → K 10 [some (.ref 0), some (.ref 42), some (.int 7)] [] (wP2 (nI s) (zfl Q P 7) (nI s) Q) := by
    intro hp
    refine hK.1 [10] 60 _ _ _ _ (And.intro (fun c => ?_) (fun c => ?_))
    · rw [show (7 : Int32) = nI 7 by decide, nI_leI (by omega) (by omega)] at c
      have e : s = 7 := by omega
      subst e
      exact h
    · rw [show (7 : Int32) = nI 7 by decide, nI_leI (by omega) (by omega)] at c
      exact And.intro (vpd (by decide)) (Exists.intro 30 (And.intro rfl (And.intro (vpd (by decide)) (Exists.intro 72 (And.intro rfl (And.intro rfl (Or.inr ⟨[30, 31, 32, 33, 72, 73, 74, 75, 84], [.ref 0, .ref 4], wL2 (P 7).1 (P 7).2.1 (P 7).2.2.1 (P 7).2.2.2.1 (P 7).2.2.2.2.1 (P 7).2.2.2.2.2.1 (P 7).2.2.2.2.2.2 (Q 7).1 (Q 7).2.1 (Q 7).2.2.1 (Q 7).2.2.2.1 (Q 7).2.2.2.2.1 (Q 7).2.2.2.2.2.1 (Q 7).2.2.2.2.2.2, ⟨rfl, rfl, rfl⟩, ⟨Nat.le_of_ble_eq_true rfl, rfl⟩, rfl, t_copyFrom (e8 (by omega))⟩)))))))
  have e6 : 6 ≤ s → K 10 [some (.ref 0), some (.ref 42), some (.int 6)] [] (wP2 (nI s) (zfl Q P 6) (nI s) Q) := by
    intro hp
    refine hK.1 [10] 60 _ _ _ _ (And.intro (fun c => ?_) (fun c => ?_))
    · rw [show (6 : Int32) = nI 6 by decide, nI_leI (by omega) (by omega)] at c
      have e : s = 6 := by omega
      subst e
      exact h
    · rw [show (6 : Int32) = nI 6 by decide, nI_leI (by omega) (by omega)] at c
      exact And.intro (vpd (by decide)) (Exists.intro 26 (And.intro rfl (And.intro (vpd (by decide)) (Exists.intro 68 (And.intro rfl (And.intro rfl (Or.inr ⟨[26, 27, 28, 29, 68, 69, 70, 71, 84], [.ref 0, .ref 4], wL2 (P 6).1 (P 6).2.1 (P 6).2.2.1 (P 6).2.2.2.1 (P 6).2.2.2.2.1 (P 6).2.2.2.2.2.1 (P 6).2.2.2.2.2.2 (Q 6).1 (Q 6).2.1 (Q 6).2.2.1 (Q 6).2.2.2.1 (Q 6).2.2.2.2.1 (Q 6).2.2.2.2.2.1 (Q 6).2.2.2.2.2.2, ⟨rfl, rfl, rfl⟩, ⟨Nat.le_of_ble_eq_true rfl, rfl⟩, rfl, t_copyFrom (e7 (by omega))⟩)))))))
  have e5 : 5 ≤ s → K 10 [some (.ref 0), some (.ref 42), some (.int 5)] [] (wP2 (nI s) (zfl Q P 5) (nI s) Q) := by
    intro hp
    refine hK.1 [10] 60 _ _ _ _ (And.intro (fun c => ?_) (fun c => ?_))
    · rw [show (5 : Int32) = nI 5 by decide, nI_leI (by omega) (by omega)] at c
      have e : s = 5 := by omega
      subst e
      exact h
    · rw [show (5 : Int32) = nI 5 by decide, nI_leI (by omega) (by omega)] at c
      exact And.intro (vpd (by decide)) (Exists.intro 22 (And.intro rfl (And.intro (vpd (by decide)) (Exists.intro 64 (And.intro rfl (And.intro rfl (Or.inr ⟨[22, 23, 24, 25, 64, 65, 66, 67, 84], [.ref 0, .ref 4], wL2 (P 5).1 (P 5).2.1 (P 5).2.2.1 (P 5).2.2.2.1 (P 5).2.2.2.2.1 (P 5).2.2.2.2.2.1 (P 5).2.2.2.2.2.2 (Q 5).1 (Q 5).2.1 (Q 5).2.2.1 (Q 5).2.2.2.1 (Q 5).2.2.2.2.1 (Q 5).2.2.2.2.2.1 (Q 5).2.2.2.2.2.2, ⟨rfl, rfl, rfl⟩, ⟨Nat.le_of_ble_eq_true rfl, rfl⟩, rfl, t_copyFrom (e6 (by omega))⟩)))))))
  have e4 : 4 ≤ s → K 10 [some (.ref 0), some (.ref 42), some (.int 4)] [] (wP2 (nI s) (zfl Q P 4) (nI s) Q) := by
    intro hp
    refine hK.1 [10] 60 _ _ _ _ (And.intro (fun c => ?_) (fun c => ?_))
    · rw [show (4 : Int32) = nI 4 by decide, nI_leI (by omega) (by omega)] at c
      have e : s = 4 := by omega
      subst e
      exact h
    · rw [show (4 : Int32) = nI 4 by decide, nI_leI (by omega) (by omega)] at c
      exact And.intro (vpd (by decide)) (Exists.intro 18 (And.intro rfl (And.intro (vpd (by decide)) (Exists.intro 60 (And.intro rfl (And.intro rfl (Or.inr ⟨[18, 19, 20, 21, 60, 61, 62, 63, 84], [.ref 0, .ref 4], wL2 (P 4).1 (P 4).2.1 (P 4).2.2.1 (P 4).2.2.2.1 (P 4).2.2.2.2.1 (P 4).2.2.2.2.2.1 (P 4).2.2.2.2.2.2 (Q 4).1 (Q 4).2.1 (Q 4).2.2.1 (Q 4).2.2.2.1 (Q 4).2.2.2.2.1 (Q 4).2.2.2.2.2.1 (Q 4).2.2.2.2.2.2, ⟨rfl, rfl, rfl⟩, ⟨Nat.le_of_ble_eq_true rfl, rfl⟩, rfl, t_copyFrom (e5 (by omega))⟩)))))))
  have e3 : 3 ≤ s → K 10 [some (.ref 0), some (.ref 42), some (.int 3)] [] (wP2 (nI s) (zfl Q P 3) (nI s) Q) := by
    intro hp
    refine hK.1 [10] 60 _ _ _ _ (And.intro (fun c => ?_) (fun c => ?_))
    · rw [show (3 : Int32) = nI 3 by decide, nI_leI (by omega) (by omega)] at c
      have e : s = 3 := by omega
      subst e
      exact h
    · rw [show (3 : Int32) = nI 3 by decide, nI_leI (by omega) (by omega)] at c
      exact And.intro (vpd (by decide)) (Exists.intro 14 (And.intro rfl (And.intro (vpd (by decide)) (Exists.intro 56 (And.intro rfl (And.intro rfl (Or.inr ⟨[14, 15, 16, 17, 56, 57, 58, 59, 84], [.ref 0, .ref 4], wL2 (P 3).1 (P 3).2.1 (P 3).2.2.1 (P 3).2.2.2.1 (P 3).2.2.2.2.1 (P 3).2.2.2.2.2.1 (P 3).2.2.2.2.2.2 (Q 3).1 (Q 3).2.1 (Q 3).2.2.1 (Q 3).2.2.2.1 (Q 3).2.2.2.2.1 (Q 3).2.2.2.2.2.1 (Q 3).2.2.2.2.2.2, ⟨rfl, rfl, rfl⟩, ⟨Nat.le_of_ble_eq_true rfl, rfl⟩, rfl, t_copyFrom (e4 (by omega))⟩)))))))
  have e2 : 2 ≤ s → K 10 [some (.ref 0), some (.ref 42), some (.int 2)] [] (wP2 (nI s) (zfl Q P 2) (nI s) Q) := by
    intro hp
    refine hK.1 [10] 60 _ _ _ _ (And.intro (fun c => ?_) (fun c => ?_))
    · rw [show (2 : Int32) = nI 2 by decide, nI_leI (by omega) (by omega)] at c
      have e : s = 2 := by omega
      subst e
      exact h
    · rw [show (2 : Int32) = nI 2 by decide, nI_leI (by omega) (by omega)] at c
      exact And.intro (vpd (by decide)) (Exists.intro 10 (And.intro rfl (And.intro (vpd (by decide)) (Exists.intro 52 (And.intro rfl (And.intro rfl (Or.inr ⟨[10, 11, 12, 13, 52, 53, 54, 55, 84], [.ref 0, .ref 4], wL2 (P 2).1 (P 2).2.1 (P 2).2.2.1 (P 2).2.2.2.1 (P 2).2.2.2.2.1 (P 2).2.2.2.2.2.1 (P 2).2.2.2.2.2.2 (Q 2).1 (Q 2).2.1 (Q 2).2.2.1 (Q 2).2.2.2.1 (Q 2).2.2.2.2.1 (Q 2).2.2.2.2.2.1 (Q 2).2.2.2.2.2.2, ⟨rfl, rfl, rfl⟩, ⟨Nat.le_of_ble_eq_true rfl, rfl⟩, rfl, t_copyFrom (e3 (by omega))⟩)))))))
  have e1 : 1 ≤ s → K 10 [some (.ref 0), some (.ref 42), some (.int 1)] [] (wP2 (nI s) (zfl Q P 1) (nI s) Q) := by
    intro hp
    refine hK.1 [10] 60 _ _ _ _ (And.intro (fun c => ?_) (fun c => ?_))
    · rw [show (1 : Int32) = nI 1 by decide, nI_leI (by omega) (by omega)] at c
      have e : s = 1 := by omega
      subst e
      exact h
    · rw [show (1 : Int32) = nI 1 by decide, nI_leI (by omega) (by omega)] at c
      exact And.intro (vpd (by decide)) (Exists.intro 6 (And.intro rfl (And.intro (vpd (by decide)) (Exists.intro 48 (And.intro rfl (And.intro rfl (Or.inr ⟨[6, 7, 8, 9, 48, 49, 50, 51, 84], [.ref 0, .ref 4], wL2 (P 1).1 (P 1).2.1 (P 1).2.2.1 (P 1).2.2.2.1 (P 1).2.2.2.2.1 (P 1).2.2.2.2.2.1 (P 1).2.2.2.2.2.2 (Q 1).1 (Q 1).2.1 (Q 1).2.2.1 (Q 1).2.2.2.1 (Q 1).2.2.2.2.1 (Q 1).2.2.2.2.2.1 (Q 1).2.2.2.2.2.2, ⟨rfl, rfl, rfl⟩, ⟨Nat.le_of_ble_eq_true rfl, rfl⟩, rfl, t_copyFrom (e2 (by omega))⟩)))))))
  have e0 : 0 ≤ s → K 10 [some (.ref 0), some (.ref 42), some (.int 0)] [] (wP2 (nI s) (zfl Q P 0) (nI s) Q) := by
    intro hp
    refine hK.1 [10] 60 _ _ _ _ (And.intro (fun c => ?_) (fun c => ?_))
    · rw [show (0 : Int32) = nI 0 by decide, nI_leI (by omega) (by omega)] at c
      have e : s = 0 := by omega
      subst e
      exact h
    · rw [show (0 : Int32) = nI 0 by decide, nI_leI (by omega) (by omega)] at c
      exact And.intro (vpd (by decide)) (Exists.intro 2 (And.intro rfl (And.intro (vpd (by decide)) (Exists.intro 44 (And.intro rfl (And.intro rfl (Or.inr ⟨[2, 3, 4, 5, 44, 45, 46, 47, 84], [.ref 0, .ref 4], wL2 (P 0).1 (P 0).2.1 (P 0).2.2.1 (P 0).2.2.2.1 (P 0).2.2.2.2.1 (P 0).2.2.2.2.2.1 (P 0).2.2.2.2.2.2 (Q 0).1 (Q 0).2.1 (Q 0).2.2.1 (Q 0).2.2.2.1 (Q 0).2.2.2.2.1 (Q 0).2.2.2.2.2.1 (Q 0).2.2.2.2.2.2, ⟨rfl, rfl, rfl⟩, ⟨Nat.le_of_ble_eq_true rfl, rfl⟩, rfl, t_copyFrom (e1 (by omega))⟩)))))))
  exact hK.1 [10] 60 _ _ _ _ (e0 (by omega))
