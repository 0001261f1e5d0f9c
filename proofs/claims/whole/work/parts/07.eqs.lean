theorem e_A_keep (X : pm_XT)  (I : pm_I) : f_A_keep X  I =
  if 0 ≤ (I 43 1) ∧ (I 43 1) < 8 then
  bif true && true && Nat.beq (pm_kd (pm_R 44 (Int.toNat (I 43 1)))) 8 && true then
  if (0 ≤ 0 ∧ 0 ≤ 0 ∧ 0 ≤ 10) ∧ 0 + 10 ≤ 10 ∧ 0 + 10 ≤ pm_ln X.2 (pm_R 44 (Int.toNat (I 43 1))) then
  if pm_r32 (((pm_cp I 13 0 (pm_R 44 (Int.toNat (I 43 1))) 0 10) 43 1) + 1) then
  if (((pm_cp I 13 0 (pm_R 44 (Int.toNat (I 43 1))) 0 10) 43 1) + 1) < 8 then
  if pm_r32 (((pm_cp I 13 0 (pm_R 44 (Int.toNat (I 43 1))) 0 10) 43 1) + 1) then
  if pm_r32 (((pm_up (pm_cp I 13 0 (pm_R 44 (Int.toNat (I 43 1))) 0 10) 43 1 (((pm_cp I 13 0 (pm_R 44 (Int.toNat (I 43 1))) 0 10) 43 1) + 1)) 43 0) + 1) then
  some (0, (pm_up (pm_up (pm_cp I 13 0 (pm_R 44 (Int.toNat (I 43 1))) 0 10) 43 1 (((pm_cp I 13 0 (pm_R 44 (Int.toNat (I 43 1))) 0 10) 43 1) + 1)) 43 0 (min (((pm_up (pm_cp I 13 0 (pm_R 44 (Int.toNat (I 43 1))) 0 10) 43 1 (((pm_cp I 13 0 (pm_R 44 (Int.toNat (I 43 1))) 0 10) 43 1) + 1)) 43 0) + 1) 8)))
  else none
  else none
  else if pm_r32 (((pm_up (pm_cp I 13 0 (pm_R 44 (Int.toNat (I 43 1))) 0 10) 43 1 0) 43 0) + 1) then
  some (0, (pm_up (pm_up (pm_cp I 13 0 (pm_R 44 (Int.toNat (I 43 1))) 0 10) 43 1 0) 43 0 (min (((pm_up (pm_cp I 13 0 (pm_R 44 (Int.toNat (I 43 1))) 0 10) 43 1 0) 43 0) + 1) 8)))
  else none
  else none
  else none
  else none
  else none := (pm_seg pm_T_ct (pm_env X) [0] 33 0 1 0 [some (.inr (.inr 43)), some (.inr (.inr 13))] [] I).trans rfl
theorem e_A_giveBack (X : pm_XT)  (I : pm_I) : f_A_giveBack X  I =
  if 0 < (I 43 0) then
  if 0 < (I 43 1) then
  if pm_r32 ((I 43 1) - 1) then
  if 0 ≤ ((pm_up I 43 1 ((I 43 1) - 1)) 43 1) ∧ ((pm_up I 43 1 ((I 43 1) - 1)) 43 1) < 8 then
  bif true && true && true && Nat.beq (pm_kd (pm_R 44 (Int.toNat ((pm_up I 43 1 ((I 43 1) - 1)) 43 1)))) 8 then
  if (0 ≤ 0 ∧ 0 ≤ 0 ∧ 0 ≤ 10) ∧ 0 + 10 ≤ pm_ln X.2 (pm_R 44 (Int.toNat ((pm_up I 43 1 ((I 43 1) - 1)) 43 1))) ∧ 0 + 10 ≤ 10 then
  if pm_r32 (((pm_cp (pm_up I 43 1 ((I 43 1) - 1)) (pm_R 44 (Int.toNat ((pm_up I 43 1 ((I 43 1) - 1)) 43 1))) 0 13 0 10) 43 0) - 1) then
  some (1, (pm_up (pm_cp (pm_up I 43 1 ((I 43 1) - 1)) (pm_R 44 (Int.toNat ((pm_up I 43 1 ((I 43 1) - 1)) 43 1))) 0 13 0 10) 43 0 (((pm_cp (pm_up I 43 1 ((I 43 1) - 1)) (pm_R 44 (Int.toNat ((pm_up I 43 1 ((I 43 1) - 1)) 43 1))) 0 13 0 10) 43 0) - 1)))
  else none
  else none
  else none
  else none
  else none
  else if 0 ≤ ((pm_up I 43 1 7) 43 1) ∧ ((pm_up I 43 1 7) 43 1) < 8 then
  bif true && true && true && Nat.beq (pm_kd (pm_R 44 (Int.toNat ((pm_up I 43 1 7) 43 1)))) 8 then
  if (0 ≤ 0 ∧ 0 ≤ 0 ∧ 0 ≤ 10) ∧ 0 + 10 ≤ pm_ln X.2 (pm_R 44 (Int.toNat ((pm_up I 43 1 7) 43 1))) ∧ 0 + 10 ≤ 10 then
  if pm_r32 (((pm_cp (pm_up I 43 1 7) (pm_R 44 (Int.toNat ((pm_up I 43 1 7) 43 1))) 0 13 0 10) 43 0) - 1) then
  some (1, (pm_up (pm_cp (pm_up I 43 1 7) (pm_R 44 (Int.toNat ((pm_up I 43 1 7) 43 1))) 0 13 0 10) 43 0 (((pm_cp (pm_up I 43 1 7) (pm_R 44 (Int.toNat ((pm_up I 43 1 7) 43 1))) 0 13 0 10) 43 0) - 1)))
  else none
  else none
  else none
  else none
  else some (0, I) := (pm_seg pm_T_ct (pm_env X) [0] 32 1 1 0 [some (.inr (.inr 43)), some (.inr (.inr 13))] [] I).trans rfl
theorem e_A_forget (X : pm_XT)  (I : pm_I) : f_A_forget X  I =
  some (0, (pm_up I 43 0 0)) := (pm_seg pm_T_ct (pm_env X) [0] 5 2 0 0 [some (.inr (.inr 43))] [] I).trans rfl
theorem e_B_addPoint (X : pm_XT)  (I : pm_I) : f_B_addPoint X  I =
  if 0 ≤ (I 10 0) ∧ (I 10 0) < 6 then
  if pm_r32 (((pm_up I 15 (I 10 0) (I 10 0)) 10 0) + 1) then
  if pm_r32 (((pm_up (pm_up I 15 (I 10 0) (I 10 0)) 10 0 (((pm_up I 15 (I 10 0) (I 10 0)) 10 0) + 1)) 10 0) - 1) then
  some ((((pm_up (pm_up I 15 (I 10 0) (I 10 0)) 10 0 (((pm_up I 15 (I 10 0) (I 10 0)) 10 0) + 1)) 10 0) - 1), (pm_up (pm_up I 15 (I 10 0) (I 10 0)) 10 0 (((pm_up I 15 (I 10 0) (I 10 0)) 10 0) + 1)))
  else none
  else none
  else none := (pm_seg pm_T_ct (pm_env X) [0] 19 3 0 0 [some (.inr (.inr 10))] [] I).trans rfl
theorem e_B_addLine (X : pm_XT) (v1 : Int) (v2 : Int) (I : pm_I) : f_B_addLine X v1 v2 I =
  if 0 ≤ (I 10 1) ∧ (I 10 1) < 10 then
  if 0 ≤ ((pm_up I 11 (I 10 1) v1) 10 1) ∧ ((pm_up I 11 (I 10 1) v1) 10 1) < 10 then
  if 0 ≤ ((pm_up (pm_up I 11 (I 10 1) v1) 12 ((pm_up I 11 (I 10 1) v1) 10 1) v2) 10 1) ∧ ((pm_up (pm_up I 11 (I 10 1) v1) 12 ((pm_up I 11 (I 10 1) v1) 10 1) v2) 10 1) < 10 then
  if 0 ≤ v1 ∧ v1 < 6 then
  if 0 ≤ v2 ∧ v2 < 6 then
  if ((pm_up (pm_up (pm_up I 11 (I 10 1) v1) 12 ((pm_up I 11 (I 10 1) v1) 10 1) v2) 13 ((pm_up (pm_up I 11 (I 10 1) v1) 12 ((pm_up I 11 (I 10 1) v1) 10 1) v2) 10 1) 0) 15 v1) = ((pm_up (pm_up (pm_up I 11 (I 10 1) v1) 12 ((pm_up I 11 (I 10 1) v1) 10 1) v2) 13 ((pm_up (pm_up I 11 (I 10 1) v1) 12 ((pm_up I 11 (I 10 1) v1) 10 1) v2) 10 1) 0) 15 v2) then
  if (0 ≤ ((pm_up (pm_up (pm_up I 11 (I 10 1) v1) 12 ((pm_up I 11 (I 10 1) v1) 10 1) v2) 13 ((pm_up (pm_up I 11 (I 10 1) v1) 12 ((pm_up I 11 (I 10 1) v1) 10 1) v2) 10 1) 0) 10 1) ∧ ((pm_up (pm_up (pm_up I 11 (I 10 1) v1) 12 ((pm_up I 11 (I 10 1) v1) 10 1) v2) 13 ((pm_up (pm_up I 11 (I 10 1) v1) 12 ((pm_up I 11 (I 10 1) v1) 10 1) v2) 10 1) 0) 10 1) < 10) ∧ (0 = 0 ∨ 0 = 1) then
  if 0 ≤ ((pm_up (pm_up (pm_up (pm_up I 11 (I 10 1) v1) 12 ((pm_up I 11 (I 10 1) v1) 10 1) v2) 13 ((pm_up (pm_up I 11 (I 10 1) v1) 12 ((pm_up I 11 (I 10 1) v1) 10 1) v2) 10 1) 0) 14 ((pm_up (pm_up (pm_up I 11 (I 10 1) v1) 12 ((pm_up I 11 (I 10 1) v1) 10 1) v2) 13 ((pm_up (pm_up I 11 (I 10 1) v1) 12 ((pm_up I 11 (I 10 1) v1) 10 1) v2) 10 1) 0) 10 1) 0) 10 1) ∧ ((pm_up (pm_up (pm_up (pm_up I 11 (I 10 1) v1) 12 ((pm_up I 11 (I 10 1) v1) 10 1) v2) 13 ((pm_up (pm_up I 11 (I 10 1) v1) 12 ((pm_up I 11 (I 10 1) v1) 10 1) v2) 10 1) 0) 14 ((pm_up (pm_up (pm_up I 11 (I 10 1) v1) 12 ((pm_up I 11 (I 10 1) v1) 10 1) v2) 13 ((pm_up (pm_up I 11 (I 10 1) v1) 12 ((pm_up I 11 (I 10 1) v1) 10 1) v2) 10 1) 0) 10 1) 0) 10 1) < 10 then
  if ((pm_up (pm_up (pm_up (pm_up I 11 (I 10 1) v1) 12 ((pm_up I 11 (I 10 1) v1) 10 1) v2) 13 ((pm_up (pm_up I 11 (I 10 1) v1) 12 ((pm_up I 11 (I 10 1) v1) 10 1) v2) 10 1) 0) 14 ((pm_up (pm_up (pm_up I 11 (I 10 1) v1) 12 ((pm_up I 11 (I 10 1) v1) 10 1) v2) 13 ((pm_up (pm_up I 11 (I 10 1) v1) 12 ((pm_up I 11 (I 10 1) v1) 10 1) v2) 10 1) 0) 10 1) 0) 14 ((pm_up (pm_up (pm_up (pm_up I 11 (I 10 1) v1) 12 ((pm_up I 11 (I 10 1) v1) 10 1) v2) 13 ((pm_up (pm_up I 11 (I 10 1) v1) 12 ((pm_up I 11 (I 10 1) v1) 10 1) v2) 10 1) 0) 14 ((pm_up (pm_up (pm_up I 11 (I 10 1) v1) 12 ((pm_up I 11 (I 10 1) v1) 10 1) v2) 13 ((pm_up (pm_up I 11 (I 10 1) v1) 12 ((pm_up I 11 (I 10 1) v1) 10 1) v2) 10 1) 0) 10 1) 0) 10 1)) = 0 then
  if pm_r32 (((pm_up (pm_up (pm_up (pm_up I 11 (I 10 1) v1) 12 ((pm_up I 11 (I 10 1) v1) 10 1) v2) 13 ((pm_up (pm_up I 11 (I 10 1) v1) 12 ((pm_up I 11 (I 10 1) v1) 10 1) v2) 10 1) 0) 14 ((pm_up (pm_up (pm_up I 11 (I 10 1) v1) 12 ((pm_up I 11 (I 10 1) v1) 10 1) v2) 13 ((pm_up (pm_up I 11 (I 10 1) v1) 12 ((pm_up I 11 (I 10 1) v1) 10 1) v2) 10 1) 0) 10 1) 0) 10 1) + 1) then
  if pm_r32 (((pm_up (pm_up (pm_up (pm_up (pm_up I 11 (I 10 1) v1) 12 ((pm_up I 11 (I 10 1) v1) 10 1) v2) 13 ((pm_up (pm_up I 11 (I 10 1) v1) 12 ((pm_up I 11 (I 10 1) v1) 10 1) v2) 10 1) 0) 14 ((pm_up (pm_up (pm_up I 11 (I 10 1) v1) 12 ((pm_up I 11 (I 10 1) v1) 10 1) v2) 13 ((pm_up (pm_up I 11 (I 10 1) v1) 12 ((pm_up I 11 (I 10 1) v1) 10 1) v2) 10 1) 0) 10 1) 0) 10 1 (((pm_up (pm_up (pm_up (pm_up I 11 (I 10 1) v1) 12 ((pm_up I 11 (I 10 1) v1) 10 1) v2) 13 ((pm_up (pm_up I 11 (I 10 1) v1) 12 ((pm_up I 11 (I 10 1) v1) 10 1) v2) 10 1) 0) 14 ((pm_up (pm_up (pm_up I 11 (I 10 1) v1) 12 ((pm_up I 11 (I 10 1) v1) 10 1) v2) 13 ((pm_up (pm_up I 11 (I 10 1) v1) 12 ((pm_up I 11 (I 10 1) v1) 10 1) v2) 10 1) 0) 10 1) 0) 10 1) + 1)) 10 1) - 1) then
  some ((((pm_up (pm_up (pm_up (pm_up (pm_up I 11 (I 10 1) v1) 12 ((pm_up I 11 (I 10 1) v1) 10 1) v2) 13 ((pm_up (pm_up I 11 (I 10 1) v1) 12 ((pm_up I 11 (I 10 1) v1) 10 1) v2) 10 1) 0) 14 ((pm_up (pm_up (pm_up I 11 (I 10 1) v1) 12 ((pm_up I 11 (I 10 1) v1) 10 1) v2) 13 ((pm_up (pm_up I 11 (I 10 1) v1) 12 ((pm_up I 11 (I 10 1) v1) 10 1) v2) 10 1) 0) 10 1) 0) 10 1 (((pm_up (pm_up (pm_up (pm_up I 11 (I 10 1) v1) 12 ((pm_up I 11 (I 10 1) v1) 10 1) v2) 13 ((pm_up (pm_up I 11 (I 10 1) v1) 12 ((pm_up I 11 (I 10 1) v1) 10 1) v2) 10 1) 0) 14 ((pm_up (pm_up (pm_up I 11 (I 10 1) v1) 12 ((pm_up I 11 (I 10 1) v1) 10 1) v2) 13 ((pm_up (pm_up I 11 (I 10 1) v1) 12 ((pm_up I 11 (I 10 1) v1) 10 1) v2) 10 1) 0) 10 1) 0) 10 1) + 1)) 10 1) - 1), (pm_up (pm_up (pm_up (pm_up (pm_up I 11 (I 10 1) v1) 12 ((pm_up I 11 (I 10 1) v1) 10 1) v2) 13 ((pm_up (pm_up I 11 (I 10 1) v1) 12 ((pm_up I 11 (I 10 1) v1) 10 1) v2) 10 1) 0) 14 ((pm_up (pm_up (pm_up I 11 (I 10 1) v1) 12 ((pm_up I 11 (I 10 1) v1) 10 1) v2) 13 ((pm_up (pm_up I 11 (I 10 1) v1) 12 ((pm_up I 11 (I 10 1) v1) 10 1) v2) 10 1) 0) 10 1) 0) 10 1 (((pm_up (pm_up (pm_up (pm_up I 11 (I 10 1) v1) 12 ((pm_up I 11 (I 10 1) v1) 10 1) v2) 13 ((pm_up (pm_up I 11 (I 10 1) v1) 12 ((pm_up I 11 (I 10 1) v1) 10 1) v2) 10 1) 0) 14 ((pm_up (pm_up (pm_up I 11 (I 10 1) v1) 12 ((pm_up I 11 (I 10 1) v1) 10 1) v2) 13 ((pm_up (pm_up I 11 (I 10 1) v1) 12 ((pm_up I 11 (I 10 1) v1) 10 1) v2) 10 1) 0) 10 1) 0) 10 1) + 1)))
  else none
  else none
  else if pm_r32 (((pm_up (pm_up (pm_up (pm_up I 11 (I 10 1) v1) 12 ((pm_up I 11 (I 10 1) v1) 10 1) v2) 13 ((pm_up (pm_up I 11 (I 10 1) v1) 12 ((pm_up I 11 (I 10 1) v1) 10 1) v2) 10 1) 0) 14 ((pm_up (pm_up (pm_up I 11 (I 10 1) v1) 12 ((pm_up I 11 (I 10 1) v1) 10 1) v2) 13 ((pm_up (pm_up I 11 (I 10 1) v1) 12 ((pm_up I 11 (I 10 1) v1) 10 1) v2) 10 1) 0) 10 1) 0) 10 2) + 1) then
  if 0 ≤ v1 ∧ v1 < 6 then
  if 0 ≤ v2 ∧ v2 < 6 then
  (f_B_joinParts X ((pm_up (pm_up (pm_up (pm_up (pm_up I 11 (I 10 1) v1) 12 ((pm_up I 11 (I 10 1) v1) 10 1) v2) 13 ((pm_up (pm_up I 11 (I 10 1) v1) 12 ((pm_up I 11 (I 10 1) v1) 10 1) v2) 10 1) 0) 14 ((pm_up (pm_up (pm_up I 11 (I 10 1) v1) 12 ((pm_up I 11 (I 10 1) v1) 10 1) v2) 13 ((pm_up (pm_up I 11 (I 10 1) v1) 12 ((pm_up I 11 (I 10 1) v1) 10 1) v2) 10 1) 0) 10 1) 0) 10 2 (((pm_up (pm_up (pm_up (pm_up I 11 (I 10 1) v1) 12 ((pm_up I 11 (I 10 1) v1) 10 1) v2) 13 ((pm_up (pm_up I 11 (I 10 1) v1) 12 ((pm_up I 11 (I 10 1) v1) 10 1) v2) 10 1) 0) 14 ((pm_up (pm_up (pm_up I 11 (I 10 1) v1) 12 ((pm_up I 11 (I 10 1) v1) 10 1) v2) 13 ((pm_up (pm_up I 11 (I 10 1) v1) 12 ((pm_up I 11 (I 10 1) v1) 10 1) v2) 10 1) 0) 10 1) 0) 10 2) + 1)) 15 v1) ((pm_up (pm_up (pm_up (pm_up (pm_up I 11 (I 10 1) v1) 12 ((pm_up I 11 (I 10 1) v1) 10 1) v2) 13 ((pm_up (pm_up I 11 (I 10 1) v1) 12 ((pm_up I 11 (I 10 1) v1) 10 1) v2) 10 1) 0) 14 ((pm_up (pm_up (pm_up I 11 (I 10 1) v1) 12 ((pm_up I 11 (I 10 1) v1) 10 1) v2) 13 ((pm_up (pm_up I 11 (I 10 1) v1) 12 ((pm_up I 11 (I 10 1) v1) 10 1) v2) 10 1) 0) 10 1) 0) 10 2 (((pm_up (pm_up (pm_up (pm_up I 11 (I 10 1) v1) 12 ((pm_up I 11 (I 10 1) v1) 10 1) v2) 13 ((pm_up (pm_up I 11 (I 10 1) v1) 12 ((pm_up I 11 (I 10 1) v1) 10 1) v2) 10 1) 0) 14 ((pm_up (pm_up (pm_up I 11 (I 10 1) v1) 12 ((pm_up I 11 (I 10 1) v1) 10 1) v2) 13 ((pm_up (pm_up I 11 (I 10 1) v1) 12 ((pm_up I 11 (I 10 1) v1) 10 1) v2) 10 1) 0) 10 1) 0) 10 2) + 1)) 15 v2) (pm_up (pm_up (pm_up (pm_up (pm_up I 11 (I 10 1) v1) 12 ((pm_up I 11 (I 10 1) v1) 10 1) v2) 13 ((pm_up (pm_up I 11 (I 10 1) v1) 12 ((pm_up I 11 (I 10 1) v1) 10 1) v2) 10 1) 0) 14 ((pm_up (pm_up (pm_up I 11 (I 10 1) v1) 12 ((pm_up I 11 (I 10 1) v1) 10 1) v2) 13 ((pm_up (pm_up I 11 (I 10 1) v1) 12 ((pm_up I 11 (I 10 1) v1) 10 1) v2) 10 1) 0) 10 1) 0) 10 2 (((pm_up (pm_up (pm_up (pm_up I 11 (I 10 1) v1) 12 ((pm_up I 11 (I 10 1) v1) 10 1) v2) 13 ((pm_up (pm_up I 11 (I 10 1) v1) 12 ((pm_up I 11 (I 10 1) v1) 10 1) v2) 10 1) 0) 14 ((pm_up (pm_up (pm_up I 11 (I 10 1) v1) 12 ((pm_up I 11 (I 10 1) v1) 10 1) v2) 13 ((pm_up (pm_up I 11 (I 10 1) v1) 12 ((pm_up I 11 (I 10 1) v1) 10 1) v2) 10 1) 0) 10 1) 0) 10 2) + 1))).bind (fun x1 =>
  if pm_r32 ((x1.2 10 1) + 1) then
  if pm_r32 (((pm_up x1.2 10 1 ((x1.2 10 1) + 1)) 10 1) - 1) then
  some ((((pm_up x1.2 10 1 ((x1.2 10 1) + 1)) 10 1) - 1), (pm_up x1.2 10 1 ((x1.2 10 1) + 1)))
  else none
  else none)
  else none
  else none
  else none
  else none
  else none
  else if (0 ≤ ((pm_up (pm_up (pm_up I 11 (I 10 1) v1) 12 ((pm_up I 11 (I 10 1) v1) 10 1) v2) 13 ((pm_up (pm_up I 11 (I 10 1) v1) 12 ((pm_up I 11 (I 10 1) v1) 10 1) v2) 10 1) 0) 10 1) ∧ ((pm_up (pm_up (pm_up I 11 (I 10 1) v1) 12 ((pm_up I 11 (I 10 1) v1) 10 1) v2) 13 ((pm_up (pm_up I 11 (I 10 1) v1) 12 ((pm_up I 11 (I 10 1) v1) 10 1) v2) 10 1) 0) 10 1) < 10) ∧ (1 = 0 ∨ 1 = 1) then
  if 0 ≤ ((pm_up (pm_up (pm_up (pm_up I 11 (I 10 1) v1) 12 ((pm_up I 11 (I 10 1) v1) 10 1) v2) 13 ((pm_up (pm_up I 11 (I 10 1) v1) 12 ((pm_up I 11 (I 10 1) v1) 10 1) v2) 10 1) 0) 14 ((pm_up (pm_up (pm_up I 11 (I 10 1) v1) 12 ((pm_up I 11 (I 10 1) v1) 10 1) v2) 13 ((pm_up (pm_up I 11 (I 10 1) v1) 12 ((pm_up I 11 (I 10 1) v1) 10 1) v2) 10 1) 0) 10 1) 1) 10 1) ∧ ((pm_up (pm_up (pm_up (pm_up I 11 (I 10 1) v1) 12 ((pm_up I 11 (I 10 1) v1) 10 1) v2) 13 ((pm_up (pm_up I 11 (I 10 1) v1) 12 ((pm_up I 11 (I 10 1) v1) 10 1) v2) 10 1) 0) 14 ((pm_up (pm_up (pm_up I 11 (I 10 1) v1) 12 ((pm_up I 11 (I 10 1) v1) 10 1) v2) 13 ((pm_up (pm_up I 11 (I 10 1) v1) 12 ((pm_up I 11 (I 10 1) v1) 10 1) v2) 10 1) 0) 10 1) 1) 10 1) < 10 then
  if ((pm_up (pm_up (pm_up (pm_up I 11 (I 10 1) v1) 12 ((pm_up I 11 (I 10 1) v1) 10 1) v2) 13 ((pm_up (pm_up I 11 (I 10 1) v1) 12 ((pm_up I 11 (I 10 1) v1) 10 1) v2) 10 1) 0) 14 ((pm_up (pm_up (pm_up I 11 (I 10 1) v1) 12 ((pm_up I 11 (I 10 1) v1) 10 1) v2) 13 ((pm_up (pm_up I 11 (I 10 1) v1) 12 ((pm_up I 11 (I 10 1) v1) 10 1) v2) 10 1) 0) 10 1) 1) 14 ((pm_up (pm_up (pm_up (pm_up I 11 (I 10 1) v1) 12 ((pm_up I 11 (I 10 1) v1) 10 1) v2) 13 ((pm_up (pm_up I 11 (I 10 1) v1) 12 ((pm_up I 11 (I 10 1) v1) 10 1) v2) 10 1) 0) 14 ((pm_up (pm_up (pm_up I 11 (I 10 1) v1) 12 ((pm_up I 11 (I 10 1) v1) 10 1) v2) 13 ((pm_up (pm_up I 11 (I 10 1) v1) 12 ((pm_up I 11 (I 10 1) v1) 10 1) v2) 10 1) 0) 10 1) 1) 10 1)) = 0 then
  if pm_r32 (((pm_up (pm_up (pm_up (pm_up I 11 (I 10 1) v1) 12 ((pm_up I 11 (I 10 1) v1) 10 1) v2) 13 ((pm_up (pm_up I 11 (I 10 1) v1) 12 ((pm_up I 11 (I 10 1) v1) 10 1) v2) 10 1) 0) 14 ((pm_up (pm_up (pm_up I 11 (I 10 1) v1) 12 ((pm_up I 11 (I 10 1) v1) 10 1) v2) 13 ((pm_up (pm_up I 11 (I 10 1) v1) 12 ((pm_up I 11 (I 10 1) v1) 10 1) v2) 10 1) 0) 10 1) 1) 10 1) + 1) then
  if pm_r32 (((pm_up (pm_up (pm_up (pm_up (pm_up I 11 (I 10 1) v1) 12 ((pm_up I 11 (I 10 1) v1) 10 1) v2) 13 ((pm_up (pm_up I 11 (I 10 1) v1) 12 ((pm_up I 11 (I 10 1) v1) 10 1) v2) 10 1) 0) 14 ((pm_up (pm_up (pm_up I 11 (I 10 1) v1) 12 ((pm_up I 11 (I 10 1) v1) 10 1) v2) 13 ((pm_up (pm_up I 11 (I 10 1) v1) 12 ((pm_up I 11 (I 10 1) v1) 10 1) v2) 10 1) 0) 10 1) 1) 10 1 (((pm_up (pm_up (pm_up (pm_up I 11 (I 10 1) v1) 12 ((pm_up I 11 (I 10 1) v1) 10 1) v2) 13 ((pm_up (pm_up I 11 (I 10 1) v1) 12 ((pm_up I 11 (I 10 1) v1) 10 1) v2) 10 1) 0) 14 ((pm_up (pm_up (pm_up I 11 (I 10 1) v1) 12 ((pm_up I 11 (I 10 1) v1) 10 1) v2) 13 ((pm_up (pm_up I 11 (I 10 1) v1) 12 ((pm_up I 11 (I 10 1) v1) 10 1) v2) 10 1) 0) 10 1) 1) 10 1) + 1)) 10 1) - 1) then
  some ((((pm_up (pm_up (pm_up (pm_up (pm_up I 11 (I 10 1) v1) 12 ((pm_up I 11 (I 10 1) v1) 10 1) v2) 13 ((pm_up (pm_up I 11 (I 10 1) v1) 12 ((pm_up I 11 (I 10 1) v1) 10 1) v2) 10 1) 0) 14 ((pm_up (pm_up (pm_up I 11 (I 10 1) v1) 12 ((pm_up I 11 (I 10 1) v1) 10 1) v2) 13 ((pm_up (pm_up I 11 (I 10 1) v1) 12 ((pm_up I 11 (I 10 1) v1) 10 1) v2) 10 1) 0) 10 1) 1) 10 1 (((pm_up (pm_up (pm_up (pm_up I 11 (I 10 1) v1) 12 ((pm_up I 11 (I 10 1) v1) 10 1) v2) 13 ((pm_up (pm_up I 11 (I 10 1) v1) 12 ((pm_up I 11 (I 10 1) v1) 10 1) v2) 10 1) 0) 14 ((pm_up (pm_up (pm_up I 11 (I 10 1) v1) 12 ((pm_up I 11 (I 10 1) v1) 10 1) v2) 13 ((pm_up (pm_up I 11 (I 10 1) v1) 12 ((pm_up I 11 (I 10 1) v1) 10 1) v2) 10 1) 0) 10 1) 1) 10 1) + 1)) 10 1) - 1), (pm_up (pm_up (pm_up (pm_up (pm_up I 11 (I 10 1) v1) 12 ((pm_up I 11 (I 10 1) v1) 10 1) v2) 13 ((pm_up (pm_up I 11 (I 10 1) v1) 12 ((pm_up I 11 (I 10 1) v1) 10 1) v2) 10 1) 0) 14 ((pm_up (pm_up (pm_up I 11 (I 10 1) v1) 12 ((pm_up I 11 (I 10 1) v1) 10 1) v2) 13 ((pm_up (pm_up I 11 (I 10 1) v1) 12 ((pm_up I 11 (I 10 1) v1) 10 1) v2) 10 1) 0) 10 1) 1) 10 1 (((pm_up (pm_up (pm_up (pm_up I 11 (I 10 1) v1) 12 ((pm_up I 11 (I 10 1) v1) 10 1) v2) 13 ((pm_up (pm_up I 11 (I 10 1) v1) 12 ((pm_up I 11 (I 10 1) v1) 10 1) v2) 10 1) 0) 14 ((pm_up (pm_up (pm_up I 11 (I 10 1) v1) 12 ((pm_up I 11 (I 10 1) v1) 10 1) v2) 13 ((pm_up (pm_up I 11 (I 10 1) v1) 12 ((pm_up I 11 (I 10 1) v1) 10 1) v2) 10 1) 0) 10 1) 1) 10 1) + 1)))
  else none
  else none
  else if pm_r32 (((pm_up (pm_up (pm_up (pm_up I 11 (I 10 1) v1) 12 ((pm_up I 11 (I 10 1) v1) 10 1) v2) 13 ((pm_up (pm_up I 11 (I 10 1) v1) 12 ((pm_up I 11 (I 10 1) v1) 10 1) v2) 10 1) 0) 14 ((pm_up (pm_up (pm_up I 11 (I 10 1) v1) 12 ((pm_up I 11 (I 10 1) v1) 10 1) v2) 13 ((pm_up (pm_up I 11 (I 10 1) v1) 12 ((pm_up I 11 (I 10 1) v1) 10 1) v2) 10 1) 0) 10 1) 1) 10 2) + 1) then
  if 0 ≤ v1 ∧ v1 < 6 then
  if 0 ≤ v2 ∧ v2 < 6 then
  (f_B_joinParts X ((pm_up (pm_up (pm_up (pm_up (pm_up I 11 (I 10 1) v1) 12 ((pm_up I 11 (I 10 1) v1) 10 1) v2) 13 ((pm_up (pm_up I 11 (I 10 1) v1) 12 ((pm_up I 11 (I 10 1) v1) 10 1) v2) 10 1) 0) 14 ((pm_up (pm_up (pm_up I 11 (I 10 1) v1) 12 ((pm_up I 11 (I 10 1) v1) 10 1) v2) 13 ((pm_up (pm_up I 11 (I 10 1) v1) 12 ((pm_up I 11 (I 10 1) v1) 10 1) v2) 10 1) 0) 10 1) 1) 10 2 (((pm_up (pm_up (pm_up (pm_up I 11 (I 10 1) v1) 12 ((pm_up I 11 (I 10 1) v1) 10 1) v2) 13 ((pm_up (pm_up I 11 (I 10 1) v1) 12 ((pm_up I 11 (I 10 1) v1) 10 1) v2) 10 1) 0) 14 ((pm_up (pm_up (pm_up I 11 (I 10 1) v1) 12 ((pm_up I 11 (I 10 1) v1) 10 1) v2) 13 ((pm_up (pm_up I 11 (I 10 1) v1) 12 ((pm_up I 11 (I 10 1) v1) 10 1) v2) 10 1) 0) 10 1) 1) 10 2) + 1)) 15 v1) ((pm_up (pm_up (pm_up (pm_up (pm_up I 11 (I 10 1) v1) 12 ((pm_up I 11 (I 10 1) v1) 10 1) v2) 13 ((pm_up (pm_up I 11 (I 10 1) v1) 12 ((pm_up I 11 (I 10 1) v1) 10 1) v2) 10 1) 0) 14 ((pm_up (pm_up (pm_up I 11 (I 10 1) v1) 12 ((pm_up I 11 (I 10 1) v1) 10 1) v2) 13 ((pm_up (pm_up I 11 (I 10 1) v1) 12 ((pm_up I 11 (I 10 1) v1) 10 1) v2) 10 1) 0) 10 1) 1) 10 2 (((pm_up (pm_up (pm_up (pm_up I 11 (I 10 1) v1) 12 ((pm_up I 11 (I 10 1) v1) 10 1) v2) 13 ((pm_up (pm_up I 11 (I 10 1) v1) 12 ((pm_up I 11 (I 10 1) v1) 10 1) v2) 10 1) 0) 14 ((pm_up (pm_up (pm_up I 11 (I 10 1) v1) 12 ((pm_up I 11 (I 10 1) v1) 10 1) v2) 13 ((pm_up (pm_up I 11 (I 10 1) v1) 12 ((pm_up I 11 (I 10 1) v1) 10 1) v2) 10 1) 0) 10 1) 1) 10 2) + 1)) 15 v2) (pm_up (pm_up (pm_up (pm_up (pm_up I 11 (I 10 1) v1) 12 ((pm_up I 11 (I 10 1) v1) 10 1) v2) 13 ((pm_up (pm_up I 11 (I 10 1) v1) 12 ((pm_up I 11 (I 10 1) v1) 10 1) v2) 10 1) 0) 14 ((pm_up (pm_up (pm_up I 11 (I 10 1) v1) 12 ((pm_up I 11 (I 10 1) v1) 10 1) v2) 13 ((pm_up (pm_up I 11 (I 10 1) v1) 12 ((pm_up I 11 (I 10 1) v1) 10 1) v2) 10 1) 0) 10 1) 1) 10 2 (((pm_up (pm_up (pm_up (pm_up I 11 (I 10 1) v1) 12 ((pm_up I 11 (I 10 1) v1) 10 1) v2) 13 ((pm_up (pm_up I 11 (I 10 1) v1) 12 ((pm_up I 11 (I 10 1) v1) 10 1) v2) 10 1) 0) 14 ((pm_up (pm_up (pm_up I 11 (I 10 1) v1) 12 ((pm_up I 11 (I 10 1) v1) 10 1) v2) 13 ((pm_up (pm_up I 11 (I 10 1) v1) 12 ((pm_up I 11 (I 10 1) v1) 10 1) v2) 10 1) 0) 10 1) 1) 10 2) + 1))).bind (fun x2 =>
  if pm_r32 ((x2.2 10 1) + 1) then
  if pm_r32 (((pm_up x2.2 10 1 ((x2.2 10 1) + 1)) 10 1) - 1) then
  some ((((pm_up x2.2 10 1 ((x2.2 10 1) + 1)) 10 1) - 1), (pm_up x2.2 10 1 ((x2.2 10 1) + 1)))
  else none
  else none)
  else none
  else none
  else none
  else none
  else none
  else none
  else none
  else none
  else none
  else none := (pm_seg pm_T_ct (pm_env X) [0] 68 4 2 0 [some (.inr (.inr 10)), some (.inl v1), some (.inl v2)] [] I).trans rfl
theorem e_B_joinParts (X : pm_XT) (v1 : Int) (v2 : Int) (I : pm_I) : f_B_joinParts X v1 v2 I =
  f_B_joinParts_9 X v1 v2 (min v1 v2) 0 I := (pm_seg pm_T_ct (pm_env X) [0, 9] 8 5 1 0 [some (.inr (.inr 10)), some (.inl v1), some (.inl v2), none, none] [] I).trans rfl
theorem e_B_joinParts_9 (X : pm_XT) (v1 : Int) (v2 : Int) (v3 : Int) (v4 : Int) (I : pm_I) : f_B_joinParts_9 X v1 v2 v3 v4 I =
  if v4 < (I 10 0) then
  if 0 ≤ v4 ∧ v4 < 6 then
  if (I 15 v4) = v1 then
  if 0 ≤ v4 ∧ v4 < 6 then
  if pm_r32 (v4 + 1) then
  f_B_joinParts_9 X v1 v2 v3 (v4 + 1) (pm_up I 15 v4 v3)
  else none
  else none
  else if 0 ≤ v4 ∧ v4 < 6 then
  if (I 15 v4) = v2 then
  if 0 ≤ v4 ∧ v4 < 6 then
  if pm_r32 (v4 + 1) then
  f_B_joinParts_9 X v1 v2 v3 (v4 + 1) (pm_up I 15 v4 v3)
  else none
  else none
  else if pm_r32 (v4 + 1) then
  f_B_joinParts_9 X v1 v2 v3 (v4 + 1) I
  else none
  else none
  else none
  else some (0, I) := (pm_seg pm_T_ct (pm_env X) [0, 9] 25 5 1 9 [some (.inr (.inr 10)), some (.inl v1), some (.inl v2), some (.inl v3), some (.inl v4)] [] I).trans rfl
theorem e_B_clearTurns (X : pm_XT)  (I : pm_I) : f_B_clearTurns X  I =
  f_B_clearTurns_2 X 0 I := (pm_seg pm_T_ct (pm_env X) [0, 2] 4 6 0 0 [some (.inr (.inr 10)), none] [] I).trans rfl
theorem e_B_clearTurns_2 (X : pm_XT) (v1 : Int) (I : pm_I) : f_B_clearTurns_2 X v1 I =
  if v1 < (I 10 1) then
  if 0 ≤ v1 ∧ v1 < 10 then
  if pm_r32 (v1 + 1) then
  f_B_clearTurns_2 X (v1 + 1) (pm_up I 13 v1 0)
  else none
  else none
  else some (0, I) := (pm_seg pm_T_ct (pm_env X) [0, 2] 13 6 0 2 [some (.inr (.inr 10)), some (.inl v1)] [] I).trans rfl
theorem e_B_shiftOnly (X : pm_XT) (v1 : Int) (v2 : Int) (I : pm_I) : f_B_shiftOnly X v1 v2 I =
  f_B_shiftOnly_2 X v1 v2 0 I := (pm_seg pm_T_ct (pm_env X) [0, 2] 4 7 0 0 [some (.inr (.inr 10)), some (.inl v1), some (.inl v2), none] [] I).trans rfl
theorem e_B_shiftOnly_2 (X : pm_XT) (v1 : Int) (v2 : Int) (v3 : Int) (I : pm_I) : f_B_shiftOnly_2 X v1 v2 v3 I =
  if v3 < (I 10 0) then
  if v3 = v1 then
  if 0 ≤ v3 ∧ v3 < 6 then
  if pm_r32 (v3 + 1) then
  f_B_shiftOnly_2 X v1 v2 (v3 + 1) (pm_up I 16 v3 v2)
  else none
  else none
  else if 0 ≤ v3 ∧ v3 < 6 then
  if pm_r32 (v3 + 1) then
  f_B_shiftOnly_2 X v1 v2 (v3 + 1) (pm_up I 16 v3 0)
  else none
  else none
  else some (0, I) := (pm_seg pm_T_ct (pm_env X) [0, 2] 17 7 0 2 [some (.inr (.inr 10)), some (.inl v1), some (.inl v2), some (.inl v3)] [] I).trans rfl
theorem e_B_shiftToStill (X : pm_XT)  (I : pm_I) : f_B_shiftToStill X  I =
  f_B_shiftToStill_2 X 0 I := (pm_seg pm_T_ct (pm_env X) [0, 2, 46, 56] 4 8 2 0 [some (.inr (.inr 10)), some (.inr (.inr 4)), none, none] [] I).trans rfl
theorem e_B_shiftToStill_2 (X : pm_XT) (v2 : Int) (I : pm_I) : f_B_shiftToStill_2 X v2 I =
  if v2 < (I 10 0) then
  if 0 ≤ v2 ∧ v2 < 6 then
  if (I 15 v2) = v2 then
  if (0 ≤ v2 ∧ v2 < 6) ∧ (1 = 0 ∨ 1 = 1) then
  if 0 ≤ v2 ∧ v2 < 6 then
  if pm_r32 (v2 + 1) then
  f_B_shiftToStill_2 X (v2 + 1) (pm_up (pm_up I 17 v2 1) 16 v2 0)
  else none
  else none
  else none
  else if (0 ≤ v2 ∧ v2 < 6) ∧ (0 = 0 ∨ 0 = 1) then
  if 0 ≤ v2 ∧ v2 < 6 then
  if pm_r32 (v2 + 1) then
  f_B_shiftToStill_2 X (v2 + 1) (pm_up (pm_up I 17 v2 0) 16 v2 0)
  else none
  else none
  else none
  else none
  else f_B_shiftToStill_46 X 1 I := (pm_seg pm_T_ct (pm_env X) [0, 2, 46, 56] 25 8 2 2 [some (.inr (.inr 10)), some (.inr (.inr 4)), some (.inl v2), none] [] I).trans rfl
theorem e_B_shiftToStill_46 (X : pm_XT) (v2 : Int) (I : pm_I) : f_B_shiftToStill_46 X v2 I =
  if v2 < (I 10 0) then
  f_B_shiftToStill_56 X v2 0 I
  else some (0, I) := (pm_seg pm_T_ct (pm_env X) [0, 2, 46, 56] 8 8 2 46 [some (.inr (.inr 10)), some (.inr (.inr 4)), some (.inl v2), none] [] I).trans rfl
theorem e_B_shiftToStill_56 (X : pm_XT) (v2 : Int) (v3 : Int) (I : pm_I) : f_B_shiftToStill_56 X v2 v3 I =
  if v3 < (I 10 1) then
  if 0 ≤ v3 ∧ v3 < 10 then
  if (I 14 v3) = 0 then
  if pm_r32 (v3 + 1) then
  f_B_shiftToStill_56 X v2 (v3 + 1) I
  else none
  else (f_B_reachAlong X v3 I).bind (fun x1 =>
  if pm_r32 (v3 + 1) then
  f_B_shiftToStill_56 X v2 (v3 + 1) x1.2
  else none)
  else none
  else if pm_r32 (v2 + 1) then
  f_B_shiftToStill_46 X (v2 + 1) I
  else none := (pm_seg pm_T_ct (pm_env X) [0, 2, 46, 56] 17 8 2 56 [some (.inr (.inr 10)), some (.inr (.inr 4)), some (.inl v2), some (.inl v3)] [] I).trans rfl
theorem e_B_reachAlong (X : pm_XT) (v1 : Int) (I : pm_I) : f_B_reachAlong X v1 I =
  if 0 ≤ v1 ∧ v1 < 10 then
  if 0 ≤ v1 ∧ v1 < 10 then
  if 0 ≤ v1 ∧ v1 < 10 then
  if 0 ≤ (I 11 v1) ∧ (I 11 v1) < 6 then
  if (I 17 (I 11 v1)) = 0 then
  if 0 ≤ (I 12 v1) ∧ (I 12 v1) < 6 then
  if (I 17 (I 12 v1)) = 0 then
  some (0, I)
  else if 0 ≤ (I 11 v1) ∧ (I 11 v1) < 6 then
  if (I 17 (I 11 v1)) = 0 then
  if 0 ≤ (I 12 v1) ∧ (I 12 v1) < 6 then
  if 0 ≤ (I 13 v1) ∧ (I 13 v1) < 8 then
  (f_G_product X (I 16 (I 12 v1)) (I 7 (I 13 v1)) I).bind (fun x1 =>
  if 0 ≤ (I 11 v1) ∧ (I 11 v1) < 6 then
  if (0 ≤ (I 11 v1) ∧ (I 11 v1) < 6) ∧ (1 = 0 ∨ 1 = 1) then
  some (0, (pm_up (pm_up x1.2 16 (I 11 v1) x1.1) 17 (I 11 v1) 1))
  else none
  else none)
  else none
  else none
  else some (0, I)
  else none
  else none
  else if 0 ≤ (I 12 v1) ∧ (I 12 v1) < 6 then
  if (I 17 (I 12 v1)) = 0 then
  if 0 ≤ (I 11 v1) ∧ (I 11 v1) < 6 then
  (f_G_product X (I 16 (I 11 v1)) (I 13 v1) I).bind (fun x2 =>
  if 0 ≤ (I 12 v1) ∧ (I 12 v1) < 6 then
  if (0 ≤ (I 12 v1) ∧ (I 12 v1) < 6) ∧ (1 = 0 ∨ 1 = 1) then
  some (0, (pm_up (pm_up x2.2 16 (I 12 v1) x2.1) 17 (I 12 v1) 1))
  else none
  else none)
  else none
  else if 0 ≤ (I 12 v1) ∧ (I 12 v1) < 6 then
  if (I 17 (I 12 v1)) = 0 then
  some (0, I)
  else if 0 ≤ (I 11 v1) ∧ (I 11 v1) < 6 then
  if (I 17 (I 11 v1)) = 0 then
  if 0 ≤ (I 12 v1) ∧ (I 12 v1) < 6 then
  if 0 ≤ (I 13 v1) ∧ (I 13 v1) < 8 then
  (f_G_product X (I 16 (I 12 v1)) (I 7 (I 13 v1)) I).bind (fun x3 =>
  if 0 ≤ (I 11 v1) ∧ (I 11 v1) < 6 then
  if (0 ≤ (I 11 v1) ∧ (I 11 v1) < 6) ∧ (1 = 0 ∨ 1 = 1) then
  some (0, (pm_up (pm_up x3.2 16 (I 11 v1) x3.1) 17 (I 11 v1) 1))
  else none
  else none)
  else none
  else none
  else some (0, I)
  else none
  else none
  else none
  else none
  else none
  else none
  else none := (pm_seg pm_T_ct (pm_env X) [0] 56 9 1 0 [some (.inr (.inr 10)), some (.inl v1), some (.inr (.inr 4)), none, none, none] [] I).trans rfl
theorem e_B_turnPoints (X : pm_XT)  (I : pm_I) : f_B_turnPoints X  I =
  f_B_turnPoints_4 X 0 0 I := (pm_seg pm_T_ct (pm_env X) [0, 4] 6 10 1 0 [some (.inr (.inr 10)), some (.inr (.inr 4)), none, none, none, none] [] I).trans rfl
theorem e_B_turnPoints_4 (X : pm_XT) (v2 : Int) (v3 : Int) (I : pm_I) : f_B_turnPoints_4 X v2 v3 I =
  if v3 < (I 10 1) then
  if 0 ≤ v3 ∧ v3 < 10 then
  if 0 ≤ v3 ∧ v3 < 10 then
  if 0 ≤ (I 11 v3) ∧ (I 11 v3) < 6 then
  (f_G_product X (I 16 (I 11 v3)) (I 13 v3) I).bind (fun x1 =>
  if 0 ≤ v3 ∧ v3 < 10 then
  if 0 ≤ (x1.2 12 v3) ∧ (x1.2 12 v3) < 6 then
  if 0 ≤ (x1.2 16 (x1.2 12 v3)) ∧ (x1.2 16 (x1.2 12 v3)) < 8 then
  (f_G_product X x1.1 (x1.2 7 (x1.2 16 (x1.2 12 v3))) x1.2).bind (fun x2 =>
  if 0 ≤ v3 ∧ v3 < 10 then
  if 0 ≤ v3 ∧ v3 < 10 then
  if ((pm_up x2.2 13 v3 x2.1) 13 v3) = (I 13 v3) then
  if pm_r32 (v3 + 1) then
  f_B_turnPoints_4 X v2 (v3 + 1) (pm_up x2.2 13 v3 x2.1)
  else none
  else if pm_r32 (v2 + 1) then
  if pm_r32 (v3 + 1) then
  f_B_turnPoints_4 X (v2 + 1) (v3 + 1) (pm_up x2.2 13 v3 x2.1)
  else none
  else none
  else none
  else none)
  else none
  else none
  else none)
  else none
  else none
  else none
  else some (v2, I) := (pm_seg pm_T_ct (pm_env X) [0, 4] 48 10 1 4 [some (.inr (.inr 10)), some (.inr (.inr 4)), some (.inl v2), some (.inl v3), none, none] [] I).trans rfl
theorem e_G_draftRing (X : pm_XT) (v1 : Int) (I : pm_I) : f_G_draftRing X v1 I =
  f_G_draftRing_2 X v1 0 I := (pm_seg pm_T_ct (pm_env X) [0, 2, 9] 4 11 0 0 [some (.inr (.inr 4)), some (.inl v1), none, none] [] I).trans rfl
theorem e_G_draftRing_2 (X : pm_XT) (v1 : Int) (v2 : Int) (I : pm_I) : f_G_draftRing_2 X v1 v2 I =
  if v2 < v1 then
  f_G_draftRing_9 X v1 v2 0 I
  else some (0, I) := (pm_seg pm_T_ct (pm_env X) [0, 2, 9] 7 11 0 2 [some (.inr (.inr 4)), some (.inl v1), some (.inl v2), none] [] I).trans rfl
theorem e_G_draftRing_9 (X : pm_XT) (v1 : Int) (v2 : Int) (v3 : Int) (I : pm_I) : f_G_draftRing_9 X v1 v2 v3 I =
  if v3 < v1 then
  if pm_r32 (8 * v2) then
  if pm_r32 ((8 * v2) + v3) then
  if pm_r32 (v2 + v3) then
  if (v2 + v3) < v1 then
  if pm_r32 (v2 + v3) then
  if 0 ≤ ((8 * v2) + v3) ∧ ((8 * v2) + v3) < 64 then
  if pm_r32 (v3 + 1) then
  f_G_draftRing_9 X v1 v2 (v3 + 1) (pm_up I 5 ((8 * v2) + v3) (v2 + v3))
  else none
  else none
  else none
  else if pm_r32 (v2 + v3) then
  if pm_r32 ((v2 + v3) - v1) then
  if 0 ≤ ((8 * v2) + v3) ∧ ((8 * v2) + v3) < 64 then
  if pm_r32 (v3 + 1) then
  f_G_draftRing_9 X v1 v2 (v3 + 1) (pm_up I 5 ((8 * v2) + v3) ((v2 + v3) - v1))
  else none
  else none
  else none
  else none
  else none
  else none
  else none
  else if pm_r32 (v2 + 1) then
  f_G_draftRing_2 X v1 (v2 + 1) I
  else none := (pm_seg pm_T_ct (pm_env X) [0, 2, 9] 25 11 0 9 [some (.inr (.inr 4)), some (.inl v1), some (.inl v2), some (.inl v3)] [] I).trans rfl
theorem e_G_draftFlips (X : pm_XT) (v1 : Int) (I : pm_I) : f_G_draftFlips X v1 I =
  f_G_draftFlips_2 X v1 0 I := (pm_seg pm_T_ct (pm_env X) [0, 2, 9] 4 12 0 0 [some (.inr (.inr 4)), some (.inl v1), none, none, none, none] [] I).trans rfl
theorem e_G_draftFlips_2 (X : pm_XT) (v1 : Int) (v2 : Int) (I : pm_I) : f_G_draftFlips_2 X v1 v2 I =
  if v2 < v1 then
  f_G_draftFlips_9 X v1 v2 0 I
  else some (0, I) := (pm_seg pm_T_ct (pm_env X) [0, 2, 9] 7 12 0 2 [some (.inr (.inr 4)), some (.inl v1), some (.inl v2), none, none, none] [] I).trans rfl
theorem e_G_draftFlips_9 (X : pm_XT) (v1 : Int) (v2 : Int) (v3 : Int) (I : pm_I) : f_G_draftFlips_9 X v1 v2 v3 I =
  if v3 < v1 then
  if pm_r32 (v2 + v3) then
  if (v2 + v3) < v1 then
  if pm_r32 (v2 + v3) then
  if v2 < v3 then
  if pm_r32 (v2 - v3) then
  if pm_r32 ((v2 - v3) + v1) then
  if pm_r32 (8 * v2) then
  if pm_r32 ((8 * v2) + v3) then
  if 0 ≤ ((8 * v2) + v3) ∧ ((8 * v2) + v3) < 64 then
  if pm_r32 (8 * v2) then
  if pm_r32 ((8 * v2) + v1) then
  if pm_r32 (((8 * v2) + v1) + v3) then
  if pm_r32 (v1 + (v2 + v3)) then
  if 0 ≤ (((8 * v2) + v1) + v3) ∧ (((8 * v2) + v1) + v3) < 64 then
  if pm_r32 (v1 + v2) then
  if pm_r32 (8 * (v1 + v2)) then
  if pm_r32 ((8 * (v1 + v2)) + v3) then
  if pm_r32 (v1 + ((v2 - v3) + v1)) then
  if 0 ≤ ((8 * (v1 + v2)) + v3) ∧ ((8 * (v1 + v2)) + v3) < 64 then
  if pm_r32 (v1 + v2) then
  if pm_r32 (8 * (v1 + v2)) then
  if pm_r32 ((8 * (v1 + v2)) + v1) then
  if pm_r32 (((8 * (v1 + v2)) + v1) + v3) then
  if 0 ≤ (((8 * (v1 + v2)) + v1) + v3) ∧ (((8 * (v1 + v2)) + v1) + v3) < 64 then
  if pm_r32 (v3 + 1) then
  f_G_draftFlips_9 X v1 v2 (v3 + 1) (pm_up (pm_up (pm_up (pm_up I 5 ((8 * v2) + v3) (v2 + v3)) 5 (((8 * v2) + v1) + v3) (v1 + (v2 + v3))) 5 ((8 * (v1 + v2)) + v3) (v1 + ((v2 - v3) + v1))) 5 (((8 * (v1 + v2)) + v1) + v3) ((v2 - v3) + v1))
  else none
  else none
  else none
  else none
  else none
  else none
  else none
  else none
  else none
  else none
  else none
  else none
  else none
  else none
  else none
  else none
  else none
  else none
  else none
  else none
  else none
  else if pm_r32 (v2 - v3) then
  if pm_r32 (8 * v2) then
  if pm_r32 ((8 * v2) + v3) then
  if 0 ≤ ((8 * v2) + v3) ∧ ((8 * v2) + v3) < 64 then
  if pm_r32 (8 * v2) then
  if pm_r32 ((8 * v2) + v1) then
  if pm_r32 (((8 * v2) + v1) + v3) then
  if pm_r32 (v1 + (v2 + v3)) then
  if 0 ≤ (((8 * v2) + v1) + v3) ∧ (((8 * v2) + v1) + v3) < 64 then
  if pm_r32 (v1 + v2) then
  if pm_r32 (8 * (v1 + v2)) then
  if pm_r32 ((8 * (v1 + v2)) + v3) then
  if pm_r32 (v1 + (v2 - v3)) then
  if 0 ≤ ((8 * (v1 + v2)) + v3) ∧ ((8 * (v1 + v2)) + v3) < 64 then
  if pm_r32 (v1 + v2) then
  if pm_r32 (8 * (v1 + v2)) then
  if pm_r32 ((8 * (v1 + v2)) + v1) then
  if pm_r32 (((8 * (v1 + v2)) + v1) + v3) then
  if 0 ≤ (((8 * (v1 + v2)) + v1) + v3) ∧ (((8 * (v1 + v2)) + v1) + v3) < 64 then
  if pm_r32 (v3 + 1) then
  f_G_draftFlips_9 X v1 v2 (v3 + 1) (pm_up (pm_up (pm_up (pm_up I 5 ((8 * v2) + v3) (v2 + v3)) 5 (((8 * v2) + v1) + v3) (v1 + (v2 + v3))) 5 ((8 * (v1 + v2)) + v3) (v1 + (v2 - v3))) 5 (((8 * (v1 + v2)) + v1) + v3) (v2 - v3))
  else none
  else none
  else none
  else none
  else none
  else none
  else none
  else none
  else none
  else none
  else none
  else none
  else none
  else none
  else none
  else none
  else none
  else none
  else none
  else none
  else none
  else if pm_r32 (v2 + v3) then
  if pm_r32 ((v2 + v3) - v1) then
  if v2 < v3 then
  if pm_r32 (v2 - v3) then
  if pm_r32 ((v2 - v3) + v1) then
  if pm_r32 (8 * v2) then
  if pm_r32 ((8 * v2) + v3) then
  if 0 ≤ ((8 * v2) + v3) ∧ ((8 * v2) + v3) < 64 then
  if pm_r32 (8 * v2) then
  if pm_r32 ((8 * v2) + v1) then
  if pm_r32 (((8 * v2) + v1) + v3) then
  if pm_r32 (v1 + ((v2 + v3) - v1)) then
  if 0 ≤ (((8 * v2) + v1) + v3) ∧ (((8 * v2) + v1) + v3) < 64 then
  if pm_r32 (v1 + v2) then
  if pm_r32 (8 * (v1 + v2)) then
  if pm_r32 ((8 * (v1 + v2)) + v3) then
  if pm_r32 (v1 + ((v2 - v3) + v1)) then
  if 0 ≤ ((8 * (v1 + v2)) + v3) ∧ ((8 * (v1 + v2)) + v3) < 64 then
  if pm_r32 (v1 + v2) then
  if pm_r32 (8 * (v1 + v2)) then
  if pm_r32 ((8 * (v1 + v2)) + v1) then
  if pm_r32 (((8 * (v1 + v2)) + v1) + v3) then
  if 0 ≤ (((8 * (v1 + v2)) + v1) + v3) ∧ (((8 * (v1 + v2)) + v1) + v3) < 64 then
  if pm_r32 (v3 + 1) then
  f_G_draftFlips_9 X v1 v2 (v3 + 1) (pm_up (pm_up (pm_up (pm_up I 5 ((8 * v2) + v3) ((v2 + v3) - v1)) 5 (((8 * v2) + v1) + v3) (v1 + ((v2 + v3) - v1))) 5 ((8 * (v1 + v2)) + v3) (v1 + ((v2 - v3) + v1))) 5 (((8 * (v1 + v2)) + v1) + v3) ((v2 - v3) + v1))
  else none
  else none
  else none
  else none
  else none
  else none
  else none
  else none
  else none
  else none
  else none
  else none
  else none
  else none
  else none
  else none
  else none
  else none
  else none
  else none
  else none
  else if pm_r32 (v2 - v3) then
  if pm_r32 (8 * v2) then
  if pm_r32 ((8 * v2) + v3) then
  if 0 ≤ ((8 * v2) + v3) ∧ ((8 * v2) + v3) < 64 then
  if pm_r32 (8 * v2) then
  if pm_r32 ((8 * v2) + v1) then
  if pm_r32 (((8 * v2) + v1) + v3) then
  if pm_r32 (v1 + ((v2 + v3) - v1)) then
  if 0 ≤ (((8 * v2) + v1) + v3) ∧ (((8 * v2) + v1) + v3) < 64 then
  if pm_r32 (v1 + v2) then
  if pm_r32 (8 * (v1 + v2)) then
  if pm_r32 ((8 * (v1 + v2)) + v3) then
  if pm_r32 (v1 + (v2 - v3)) then
  if 0 ≤ ((8 * (v1 + v2)) + v3) ∧ ((8 * (v1 + v2)) + v3) < 64 then
  if pm_r32 (v1 + v2) then
  if pm_r32 (8 * (v1 + v2)) then
  if pm_r32 ((8 * (v1 + v2)) + v1) then
  if pm_r32 (((8 * (v1 + v2)) + v1) + v3) then
  if 0 ≤ (((8 * (v1 + v2)) + v1) + v3) ∧ (((8 * (v1 + v2)) + v1) + v3) < 64 then
  if pm_r32 (v3 + 1) then
  f_G_draftFlips_9 X v1 v2 (v3 + 1) (pm_up (pm_up (pm_up (pm_up I 5 ((8 * v2) + v3) ((v2 + v3) - v1)) 5 (((8 * v2) + v1) + v3) (v1 + ((v2 + v3) - v1))) 5 ((8 * (v1 + v2)) + v3) (v1 + (v2 - v3))) 5 (((8 * (v1 + v2)) + v1) + v3) (v2 - v3))
  else none
  else none
  else none
  else none
  else none
  else none
  else none
  else none
  else none
  else none
  else none
  else none
  else none
  else none
  else none
  else none
  else none
  else none
  else none
  else none
  else none
  else none
  else none
  else if pm_r32 (v2 + 1) then
  f_G_draftFlips_2 X v1 (v2 + 1) I
  else none := (pm_seg pm_T_ct (pm_env X) [0, 2, 9] 75 12 0 9 [some (.inr (.inr 4)), some (.inl v1), some (.inl v2), some (.inl v3), none, none] [] I).trans rfl
theorem e_G_draftCrossed (X : pm_XT)  (I : pm_I) : f_G_draftCrossed X  I =
  f_G_draftCrossed_2 X 0 I := (pm_seg pm_T_ct (pm_env X) [0, 2, 10] 4 13 0 0 [some (.inr (.inr 4)), none, none, none] [] I).trans rfl
theorem e_G_draftCrossed_2 (X : pm_XT) (v1 : Int) (I : pm_I) : f_G_draftCrossed_2 X v1 I =
  if v1 < 8 then
  f_G_draftCrossed_10 X v1 0 I
  else some (0, I) := (pm_seg pm_T_ct (pm_env X) [0, 2, 10] 7 13 0 2 [some (.inr (.inr 4)), some (.inl v1), none, none] [] I).trans rfl
theorem e_G_draftCrossed_10 (X : pm_XT) (v1 : Int) (v2 : Int) (I : pm_I) : f_G_draftCrossed_10 X v1 v2 I =
  if v2 < 8 then
  if pm_r32 (4 * (pm_and v1 3)) then
  if pm_r32 ((4 * (pm_and v1 3)) + (pm_and v2 3)) then
  if 0 ≤ ((4 * (pm_and v1 3)) + (pm_and v2 3)) ∧ ((4 * (pm_and v1 3)) + (pm_and v2 3)) < 16 then
  if pm_r32 (8 * v1) then
  if pm_r32 ((8 * v1) + v2) then
  if 0 ≤ ((8 * v1) + v2) ∧ ((8 * v1) + v2) < 64 then
  if pm_r32 (v2 + 1) then
  f_G_draftCrossed_10 X v1 (v2 + 1) (pm_up I 5 ((8 * v1) + v2) (pm_xor (pm_xor (pm_xv X.1 1 ((4 * (pm_and v1 3)) + (pm_and v2 3))) (pm_and v1 4)) (pm_and v2 4)))
  else none
  else none
  else none
  else none
  else none
  else none
  else none
  else if pm_r32 (v1 + 1) then
  f_G_draftCrossed_2 X (v1 + 1) I
  else none := (pm_seg pm_T_ct (pm_env X) [0, 2, 10] 36 13 0 10 [some (.inr (.inr 4)), some (.inl v1), some (.inl v2), none] [] I).trans rfl
theorem e_G_draftFault (X : pm_XT) (v1 : Int) (I : pm_I) : f_G_draftFault X v1 I =
  f_G_draftFault_2 X v1 0 I := (pm_seg pm_T_ct (pm_env X) [0, 2, 41] 4 14 2 0 [some (.inr (.inr 4)), some (.inl v1), none] [] I).trans rfl
theorem e_G_draftFault_2 (X : pm_XT) (v1 : Int) (v2 : Int) (I : pm_I) : f_G_draftFault_2 X v1 v2 I =
  if v2 < v1 then
  (f_G_drafted X 0 v2 I).bind (fun x1 =>
  if x1.1 = v2 then
  (f_G_drafted X v2 0 x1.2).bind (fun x2 =>
  if x2.1 = v2 then
  if pm_r32 (v2 + 1) then
  f_G_draftFault_2 X v1 (v2 + 1) x2.2
  else none
  else if pm_r32 ((-200) - v2) then
  some (((-200) - v2), x2.2)
  else none)
  else if pm_r32 ((-200) - v2) then
  some (((-200) - v2), x1.2)
  else none)
  else f_G_draftFault_41 X v1 0 I := (pm_seg pm_T_ct (pm_env X) [0, 2, 41] 20 14 2 2 [some (.inr (.inr 4)), some (.inl v1), some (.inl v2)] [] I).trans rfl
theorem e_G_draftFault_41 (X : pm_XT) (v1 : Int) (v2 : Int) (I : pm_I) : f_G_draftFault_41 X v1 v2 I =
  if v2 < v1 then
  (f_G_draftHasBack X v2 v1 I).bind (fun x1 =>
  if x1.1 = 0 then
  if pm_r32 ((-300) - v2) then
  some (((-300) - v2), x1.2)
  else none
  else if pm_r32 (v2 + 1) then
  f_G_draftFault_41 X v1 (v2 + 1) x1.2
  else none)
  else (f_G_draftJoinFault X v1 I).bind (fun x2 =>
  some (x2.1, x2.2)) := (pm_seg pm_T_ct (pm_env X) [0, 2, 41] 13 14 2 41 [some (.inr (.inr 4)), some (.inl v1), some (.inl v2)] [] I).trans rfl
theorem e_G_drafted (X : pm_XT) (v1 : Int) (v2 : Int) (I : pm_I) : f_G_drafted X v1 v2 I =
  if pm_r32 (8 * v1) then
  if pm_r32 ((8 * v1) + v2) then
  if 0 ≤ ((8 * v1) + v2) ∧ ((8 * v1) + v2) < 64 then
  some ((I 5 ((8 * v1) + v2)), I)
  else none
  else none
  else none := (pm_seg pm_T_ct (pm_env X) [0] 10 15 0 0 [some (.inr (.inr 4)), some (.inl v1), some (.inl v2)] [] I).trans rfl
theorem e_G_draftHasBack (X : pm_XT) (v1 : Int) (v2 : Int) (I : pm_I) : f_G_draftHasBack X v1 v2 I =
  f_G_draftHasBack_2 X v1 v2 0 I := (pm_seg pm_T_ct (pm_env X) [0, 2] 4 16 1 0 [some (.inr (.inr 4)), some (.inl v1), some (.inl v2), none] [] I).trans rfl
theorem e_G_draftHasBack_2 (X : pm_XT) (v1 : Int) (v2 : Int) (v3 : Int) (I : pm_I) : f_G_draftHasBack_2 X v1 v2 v3 I =
  if v3 < v2 then
  (f_G_drafted X v1 v3 I).bind (fun x1 =>
  if x1.1 = 0 then
  (f_G_drafted X v3 v1 x1.2).bind (fun x2 =>
  if x2.1 = 0 then
  some (1, x2.2)
  else if pm_r32 (v3 + 1) then
  f_G_draftHasBack_2 X v1 v2 (v3 + 1) x2.2
  else none)
  else if pm_r32 (v3 + 1) then
  f_G_draftHasBack_2 X v1 v2 (v3 + 1) x1.2
  else none)
  else some (0, I) := (pm_seg pm_T_ct (pm_env X) [0, 2] 17 16 1 2 [some (.inr (.inr 4)), some (.inl v1), some (.inl v2), some (.inl v3)] [] I).trans rfl
theorem e_G_draftJoinFault (X : pm_XT) (v1 : Int) (I : pm_I) : f_G_draftJoinFault X v1 I =
  f_G_draftJoinFault_2 X v1 0 I := (pm_seg pm_T_ct (pm_env X) [0, 2, 9, 17] 4 17 1 0 [some (.inr (.inr 4)), some (.inl v1), none, none, none] [] I).trans rfl
theorem e_G_draftJoinFault_2 (X : pm_XT) (v1 : Int) (v2 : Int) (I : pm_I) : f_G_draftJoinFault_2 X v1 v2 I =
  if v2 < v1 then
  f_G_draftJoinFault_9 X v1 v2 0 I
  else some (0, I) := (pm_seg pm_T_ct (pm_env X) [0, 2, 9, 17] 7 17 1 2 [some (.inr (.inr 4)), some (.inl v1), some (.inl v2), none, none] [] I).trans rfl
theorem e_G_draftJoinFault_9 (X : pm_XT) (v1 : Int) (v2 : Int) (v3 : Int) (I : pm_I) : f_G_draftJoinFault_9 X v1 v2 v3 I =
  if v3 < v1 then
  f_G_draftJoinFault_17 X v1 v2 v3 0 I
  else if pm_r32 (v2 + 1) then
  f_G_draftJoinFault_2 X v1 (v2 + 1) I
  else none := (pm_seg pm_T_ct (pm_env X) [0, 2, 9, 17] 7 17 1 9 [some (.inr (.inr 4)), some (.inl v1), some (.inl v2), some (.inl v3), none] [] I).trans rfl
theorem e_G_draftJoinFault_17 (X : pm_XT) (v1 : Int) (v2 : Int) (v3 : Int) (v4 : Int) (I : pm_I) : f_G_draftJoinFault_17 X v1 v2 v3 v4 I =
  if v4 < v1 then
  (f_G_drafted X v2 v3 I).bind (fun x1 =>
  (f_G_drafted X x1.1 v4 x1.2).bind (fun x2 =>
  (f_G_drafted X v3 v4 x2.2).bind (fun x3 =>
  (f_G_drafted X v2 x3.1 x3.2).bind (fun x4 =>
  if x2.1 = x4.1 then
  if pm_r32 (v4 + 1) then
  f_G_draftJoinFault_17 X v1 v2 v3 (v4 + 1) x4.2
  else none
  else if pm_r32 (64 * v2) then
  if pm_r32 (8 * v3) then
  if pm_r32 ((64 * v2) + (8 * v3)) then
  if pm_r32 (((64 * v2) + (8 * v3)) + v4) then
  if pm_r32 ((-1000) - (((64 * v2) + (8 * v3)) + v4)) then
  some (((-1000) - (((64 * v2) + (8 * v3)) + v4)), x4.2)
  else none
  else none
  else none
  else none
  else none))))
  else if pm_r32 (v3 + 1) then
  f_G_draftJoinFault_9 X v1 v2 (v3 + 1) I
  else none := (pm_seg pm_T_ct (pm_env X) [0, 2, 9, 17] 31 17 1 17 [some (.inr (.inr 4)), some (.inl v1), some (.inl v2), some (.inl v3), some (.inl v4)] [] I).trans rfl
theorem e_G_adopt (X : pm_XT) (v1 : Int) (I : pm_I) : f_G_adopt X v1 I =
  f_G_adopt_25 X v1 0 (pm_cp (pm_up I 4 0 v1) 5 0 6 0 64) := (pm_seg pm_T_ct (pm_env X) [0, 25, 56] 17 18 2 0 [some (.inr (.inr 4)), some (.inl v1), none] [] I).trans rfl
theorem e_G_adopt_25 (X : pm_XT) (v1 : Int) (v2 : Int) (I : pm_I) : f_G_adopt_25 X v1 v2 I =
  if v2 < v1 then
  if 0 ≤ v2 ∧ v2 < 8 then
  (f_G_findBack X v2 (pm_up I 9 v2 1)).bind (fun x1 =>
  if 0 ≤ v2 ∧ v2 < 8 then
  if pm_r32 (v2 + 1) then
  f_G_adopt_25 X v1 (v2 + 1) (pm_up x1.2 7 v2 x1.1)
  else none
  else none)
  else none
  else f_G_adopt_56 X v1 0 I := (pm_seg pm_T_ct (pm_env X) [0, 25, 56] 19 18 2 25 [some (.inr (.inr 4)), some (.inl v1), some (.inl v2)] [] I).trans rfl
theorem e_G_adopt_56 (X : pm_XT) (v1 : Int) (v2 : Int) (I : pm_I) : f_G_adopt_56 X v1 v2 I =
  if v2 < v1 then
  (f_G_findClass X v2 I).bind (fun x1 =>
  if 0 ≤ v2 ∧ v2 < 8 then
  if pm_r32 (v2 + 1) then
  f_G_adopt_56 X v1 (v2 + 1) (pm_up x1.2 8 v2 x1.1)
  else none
  else none)
  else some (0, I) := (pm_seg pm_T_ct (pm_env X) [0, 25, 56] 14 18 2 56 [some (.inr (.inr 4)), some (.inl v1), some (.inl v2)] [] I).trans rfl
theorem e_G_product (X : pm_XT) (v1 : Int) (v2 : Int) (I : pm_I) : f_G_product X v1 v2 I =
  if pm_r32 (8 * v1) then
  if pm_r32 ((8 * v1) + v2) then
  if 0 ≤ ((8 * v1) + v2) ∧ ((8 * v1) + v2) < 64 then
  some ((I 6 ((8 * v1) + v2)), I)
  else none
  else none
  else none := (pm_seg pm_T_ct (pm_env X) [0] 10 19 0 0 [some (.inr (.inr 4)), some (.inl v1), some (.inl v2)] [] I).trans rfl
theorem e_G_findBack (X : pm_XT) (v1 : Int) (I : pm_I) : f_G_findBack X v1 I =
  f_G_findBack_2 X v1 0 I := (pm_seg pm_T_ct (pm_env X) [0, 2] 4 20 1 0 [some (.inr (.inr 4)), some (.inl v1), none] [] I).trans rfl
theorem e_G_findBack_2 (X : pm_XT) (v1 : Int) (v2 : Int) (I : pm_I) : f_G_findBack_2 X v1 v2 I =
  if v2 < (I 4 0) then
  (f_G_product X v1 v2 I).bind (fun x1 =>
  if x1.1 = 0 then
  some (v2, x1.2)
  else if pm_r32 (v2 + 1) then
  f_G_findBack_2 X v1 (v2 + 1) x1.2
  else none)
  else some (0, I) := (pm_seg pm_T_ct (pm_env X) [0, 2] 13 20 1 2 [some (.inr (.inr 4)), some (.inl v1), some (.inl v2)] [] I).trans rfl
theorem e_G_findClass (X : pm_XT) (v1 : Int) (I : pm_I) : f_G_findClass X v1 I =
  f_G_findClass_4 X v1 v1 0 I := (pm_seg pm_T_ct (pm_env X) [0, 4] 6 21 1 0 [some (.inr (.inr 4)), some (.inl v1), none, none] [] I).trans rfl
theorem e_G_findClass_4 (X : pm_XT) (v1 : Int) (v2 : Int) (v3 : Int) (I : pm_I) : f_G_findClass_4 X v1 v2 v3 I =
  if v3 < (I 4 0) then
  (f_G_product X v3 v1 I).bind (fun x1 =>
  if 0 ≤ v3 ∧ v3 < 8 then
  (f_G_product X x1.1 (x1.2 7 v3) x1.2).bind (fun x2 =>
  if pm_r32 (v3 + 1) then
  f_G_findClass_4 X v1 (min v2 x2.1) (v3 + 1) x2.2
  else none)
  else none)
  else some (v2, I) := (pm_seg pm_T_ct (pm_env X) [0, 4] 21 21 1 4 [some (.inr (.inr 4)), some (.inl v1), some (.inl v2), some (.inl v3)] [] I).trans rfl
theorem e_G_orderOf (X : pm_XT) (v1 : Int) (I : pm_I) : f_G_orderOf X v1 I =
  f_G_orderOf_4 X v1 v1 1 I := (pm_seg pm_T_ct (pm_env X) [0, 4] 6 22 1 0 [some (.inr (.inr 4)), some (.inl v1), none, none] [] I).trans rfl
theorem e_G_orderOf_4 (X : pm_XT) (v1 : Int) (v2 : Int) (v3 : Int) (I : pm_I) : f_G_orderOf_4 X v1 v2 v3 I =
  if v2 = 0 then
  some (v3, I)
  else if v3 < (I 4 0) then
  (f_G_product X v2 v1 I).bind (fun x1 =>
  if pm_r32 (v3 + 1) then
  f_G_orderOf_4 X v1 x1.1 (v3 + 1) x1.2
  else none)
  else some (v3, I) := (pm_seg pm_T_ct (pm_env X) [0, 4] 15 22 1 4 [some (.inr (.inr 4)), some (.inl v1), some (.inl v2), some (.inl v3)] [] I).trans rfl
theorem e_G_classSize (X : pm_XT) (v1 : Int) (I : pm_I) : f_G_classSize X v1 I =
  f_G_classSize_4 X v1 0 0 I := (pm_seg pm_T_ct (pm_env X) [0, 4] 6 23 0 0 [some (.inr (.inr 4)), some (.inl v1), none, none] [] I).trans rfl
theorem e_G_classSize_4 (X : pm_XT) (v1 : Int) (v2 : Int) (v3 : Int) (I : pm_I) : f_G_classSize_4 X v1 v2 v3 I =
  if v3 < (I 4 0) then
  if 0 ≤ v3 ∧ v3 < 8 then
  if 0 ≤ v1 ∧ v1 < 8 then
  if (I 8 v3) = (I 8 v1) then
  if pm_r32 (v2 + 1) then
  if pm_r32 (v3 + 1) then
  f_G_classSize_4 X v1 (v2 + 1) (v3 + 1) I
  else none
  else none
  else if pm_r32 (v3 + 1) then
  f_G_classSize_4 X v1 v2 (v3 + 1) I
  else none
  else none
  else none
  else some (v2, I) := (pm_seg pm_T_ct (pm_env X) [0, 4] 18 23 0 4 [some (.inr (.inr 4)), some (.inl v1), some (.inl v2), some (.inl v3)] [] I).trans rfl
theorem e_G_classesMany (X : pm_XT)  (I : pm_I) : f_G_classesMany X  I =
  f_G_classesMany_4 X 0 0 I := (pm_seg pm_T_ct (pm_env X) [0, 4] 6 24 0 0 [some (.inr (.inr 4)), none, none] [] I).trans rfl
theorem e_G_classesMany_4 (X : pm_XT) (v1 : Int) (v2 : Int) (I : pm_I) : f_G_classesMany_4 X v1 v2 I =
  if v2 < (I 4 0) then
  if 0 ≤ v2 ∧ v2 < 8 then
  if (I 8 v2) = v2 then
  if pm_r32 (v1 + 1) then
  if pm_r32 (v2 + 1) then
  f_G_classesMany_4 X (v1 + 1) (v2 + 1) I
  else none
  else none
  else if pm_r32 (v2 + 1) then
  f_G_classesMany_4 X v1 (v2 + 1) I
  else none
  else none
  else some (v1, I) := (pm_seg pm_T_ct (pm_env X) [0, 4] 15 24 0 4 [some (.inr (.inr 4)), some (.inl v1), some (.inl v2)] [] I).trans rfl
theorem e_G_alikeWith (X : pm_XT) (v1 : Int) (I : pm_I) : f_G_alikeWith X v1 I =
  f_G_alikeWith_4 X v1 0 0 I := (pm_seg pm_T_ct (pm_env X) [0, 4] 6 25 1 0 [some (.inr (.inr 4)), some (.inl v1), none, none] [] I).trans rfl
theorem e_G_alikeWith_4 (X : pm_XT) (v1 : Int) (v2 : Int) (v3 : Int) (I : pm_I) : f_G_alikeWith_4 X v1 v2 v3 I =
  if v3 < (I 4 0) then
  (f_G_product X v1 v3 I).bind (fun x1 =>
  (f_G_product X v3 v1 x1.2).bind (fun x2 =>
  if x1.1 = x2.1 then
  if pm_r32 (v2 + 1) then
  if pm_r32 (v3 + 1) then
  f_G_alikeWith_4 X v1 (v2 + 1) (v3 + 1) x2.2
  else none
  else none
  else if pm_r32 (v3 + 1) then
  f_G_alikeWith_4 X v1 v2 (v3 + 1) x2.2
  else none))
  else some (v2, I) := (pm_seg pm_T_ct (pm_env X) [0, 4] 18 25 1 4 [some (.inr (.inr 4)), some (.inl v1), some (.inl v2), some (.inl v3)] [] I).trans rfl
theorem e_G_alikeWithAll (X : pm_XT)  (I : pm_I) : f_G_alikeWithAll X  I =
  f_G_alikeWithAll_4 X 0 0 I := (pm_seg pm_T_ct (pm_env X) [0, 4] 6 26 2 0 [some (.inr (.inr 4)), none, none] [] I).trans rfl
theorem e_G_alikeWithAll_4 (X : pm_XT) (v1 : Int) (v2 : Int) (I : pm_I) : f_G_alikeWithAll_4 X v1 v2 I =
  if v2 < (I 4 0) then
  (f_G_alikeWith X v2 I).bind (fun x1 =>
  if x1.1 = (x1.2 4 0) then
  if pm_r32 (v1 + 1) then
  if pm_r32 (v2 + 1) then
  f_G_alikeWithAll_4 X (v1 + 1) (v2 + 1) x1.2
  else none
  else none
  else if pm_r32 (v2 + 1) then
  f_G_alikeWithAll_4 X v1 (v2 + 1) x1.2
  else none)
  else some (v1, I) := (pm_seg pm_T_ct (pm_env X) [0, 4] 15 26 2 4 [some (.inr (.inr 4)), some (.inl v1), some (.inl v2)] [] I).trans rfl
theorem e_G_alikePairs (X : pm_XT)  (I : pm_I) : f_G_alikePairs X  I =
  f_G_alikePairs_4 X 0 0 I := (pm_seg pm_T_ct (pm_env X) [0, 4] 6 27 2 0 [some (.inr (.inr 4)), none, none] [] I).trans rfl
theorem e_G_alikePairs_4 (X : pm_XT) (v1 : Int) (v2 : Int) (I : pm_I) : f_G_alikePairs_4 X v1 v2 I =
  if v2 < (I 4 0) then
  (f_G_alikeWith X v2 I).bind (fun x1 =>
  if pm_r32 (v1 + x1.1) then
  if pm_r32 (v2 + 1) then
  f_G_alikePairs_4 X (v1 + x1.1) (v2 + 1) x1.2
  else none
  else none)
  else some (v1, I) := (pm_seg pm_T_ct (pm_env X) [0, 4] 14 27 2 4 [some (.inr (.inr 4)), some (.inl v1), some (.inl v2)] [] I).trans rfl
theorem e_G_giveWorth (X : pm_XT) (v1 : Int) (v2 : Int) (I : pm_I) : f_G_giveWorth X v1 v2 I =
  f_G_giveWorth_2 X v1 v2 0 I := (pm_seg pm_T_ct (pm_env X) [0, 2] 4 28 0 0 [some (.inr (.inr 4)), some (.inl v1), some (.inl v2), none] [] I).trans rfl
theorem e_G_giveWorth_2 (X : pm_XT) (v1 : Int) (v2 : Int) (v3 : Int) (I : pm_I) : f_G_giveWorth_2 X v1 v2 v3 I =
  if v3 < (I 4 0) then
  if 0 ≤ v3 ∧ v3 < 8 then
  if 0 ≤ v1 ∧ v1 < 8 then
  if (I 8 v3) = (I 8 v1) then
  if 0 ≤ v3 ∧ v3 < 8 then
  if pm_r32 (v3 + 1) then
  f_G_giveWorth_2 X v1 v2 (v3 + 1) (pm_up I 9 v3 v2)
  else none
  else none
  else if pm_r32 (v3 + 1) then
  f_G_giveWorth_2 X v1 v2 (v3 + 1) I
  else none
  else none
  else none
  else some (0, I) := (pm_seg pm_T_ct (pm_env X) [0, 2] 22 28 0 2 [some (.inr (.inr 4)), some (.inl v1), some (.inl v2), some (.inl v3)] [] I).trans rfl
theorem e_S_renew (X : pm_XT) (r0 : Nat) (v1 : Int) (v2 : Int) (I : pm_I) : f_S_renew X r0 v1 v2 I =
  bif Nat.beq (pm_kd r0) 3 then
  bif Nat.beq (pm_kd r0) 3 then
  bif Nat.beq (pm_kd r0) 3 then
  f_S_renew_17 X r0 0 (pm_up (pm_up (pm_up I r0 0 1) r0 2 v1) r0 1 v2)
  else none
  else none
  else none := (pm_seg pm_T_ct (pm_env X) [0, 17] 13 29 0 0 [some (.inr (.inr r0)), some (.inl v1), some (.inl v2), none] [] I).trans rfl
theorem e_S_renew_17 (X : pm_XT) (r0 : Nat) (v3 : Int) (I : pm_I) : f_S_renew_17 X r0 v3 I =
  if v3 < 64 then
  bif Nat.beq (pm_kd r0) 3 then
  bif Nat.beq (pm_kd (pm_R r0 3)) 8 then
  if 0 ≤ v3 ∧ v3 < pm_ln X.2 (pm_R r0 3) then
  if pm_r32 (v3 + 1) then
  f_S_renew_17 X r0 (v3 + 1) (pm_up I (pm_R r0 3) v3 0)
  else none
  else none
  else none
  else none
  else some (0, I) := (pm_seg pm_T_ct (pm_env X) [0, 17] 12 29 0 17 [some (.inr (.inr r0)), none, none, some (.inl v3)] [] I).trans rfl
theorem e_S_hasCell (X : pm_XT) (r0 : Nat) (v1 : Int) (I : pm_I) : f_S_hasCell X r0 v1 I =
  if v1 < 0 then
  some (0, I)
  else bif Nat.beq (pm_kd r0) 3 then
  if v1 < (I r0 1) then
  some (1, I)
  else some (0, I)
  else none := (pm_seg pm_T_ct (pm_env X) [0] 10 30 0 0 [some (.inr (.inr r0)), some (.inl v1)] [] I).trans rfl
theorem e_S_faultAs (X : pm_XT) (r0 : Nat) (v1 : Int) (I : pm_I) : f_S_faultAs X r0 v1 I =
  bif Nat.beq (pm_kd r0) 3 then
  if (I r0 0) = 0 then
  some ((-11), I)
  else bif Nat.beq (pm_kd r0) 3 then
  if (I r0 2) = v1 then
  some (0, I)
  else some ((-13), I)
  else none
  else none := (pm_seg pm_T_ct (pm_env X) [0] 11 31 0 0 [some (.inr (.inr r0)), some (.inl v1)] [] I).trans rfl
theorem e_S_put (X : pm_XT) (r0 : Nat) (v1 : Int) (v2 : Int) (I : pm_I) : f_S_put X r0 v1 v2 I =
  bif Nat.beq (pm_kd r0) 3 then
  if (I r0 2) = 0 then
  bif Nat.beq (pm_kd r0) 3 then
  bif Nat.beq (pm_kd (pm_R r0 3)) 8 then
  if 0 ≤ v1 ∧ v1 < pm_ln X.2 (pm_R r0 3) then
  some (0, (pm_up I (pm_R r0 3) v1 (pm_i2b v2)))
  else none
  else none
  else none
  else bif Nat.beq (pm_kd r0) 3 then
  if (I r0 2) = 1 then
  bif Nat.beq (pm_kd r0) 3 then
  bif Nat.beq (pm_kd (pm_R r0 3)) 8 then
  if 0 ≤ v1 ∧ v1 < pm_ln X.2 (pm_R r0 3) then
  some (0, (pm_up I (pm_R r0 3) v1 (pm_i2s v2)))
  else none
  else none
  else none
  else bif Nat.beq (pm_kd r0) 3 then
  bif Nat.beq (pm_kd (pm_R r0 3)) 8 then
  if 0 ≤ v1 ∧ v1 < pm_ln X.2 (pm_R r0 3) then
  some (0, (pm_up I (pm_R r0 3) v1 v2))
  else none
  else none
  else none
  else none
  else none := (pm_seg pm_T_ct (pm_env X) [0] 16 32 0 0 [some (.inr (.inr r0)), some (.inl v1), some (.inl v2)] [] I).trans rfl
theorem e_U_clear (X : pm_XT)  (I : pm_I) : f_U_clear X  I =
  f_U_clear_2 X 0 I := (pm_seg pm_T_ct (pm_env X) [0, 2, 17] 4 33 0 0 [some (.inr (.inr 62)), none, none] [] I).trans rfl
theorem e_U_clear_2 (X : pm_XT) (v1 : Int) (I : pm_I) : f_U_clear_2 X v1 I =
  if v1 < 8 then
  if (0 ≤ v1 ∧ v1 < 8) ∧ (0 = 0 ∨ 0 = 1) then
  f_U_clear_17 X v1 0 (pm_up I 63 v1 0)
  else none
  else some (0, I) := (pm_seg pm_T_ct (pm_env X) [0, 2, 17] 12 33 0 2 [some (.inr (.inr 62)), some (.inl v1), none] [] I).trans rfl
theorem e_U_clear_17 (X : pm_XT) (v1 : Int) (v2 : Int) (I : pm_I) : f_U_clear_17 X v1 v2 I =
  if v2 < 8 then
  if 0 ≤ v1 ∧ v1 < 8 then
  bif Nat.beq (pm_kd (pm_R 64 (Int.toNat v1))) 8 then
  if 0 ≤ v2 ∧ v2 < pm_ln X.2 (pm_R 64 (Int.toNat v1)) then
  if pm_r32 (v2 + 1) then
  f_U_clear_17 X v1 (v2 + 1) (pm_up I (pm_R 64 (Int.toNat v1)) v2 1)
  else none
  else none
  else none
  else none
  else if pm_r32 (v1 + 1) then
  f_U_clear_2 X (v1 + 1) I
  else none := (pm_seg pm_T_ct (pm_env X) [0, 2, 17] 14 33 0 17 [some (.inr (.inr 62)), some (.inl v1), some (.inl v2)] [] I).trans rfl
theorem e_U_lookForWorth (X : pm_XT) (v1 : Int) (I : pm_I) : f_U_lookForWorth X v1 I =
  if (0 ≤ v1 ∧ v1 < 8) ∧ (1 = 0 ∨ 1 = 1) then
  f_U_lookForWorth_9 X v1 0 (pm_up I 63 v1 1)
  else none := (pm_seg pm_T_ct (pm_env X) [0, 9] 9 34 0 0 [some (.inr (.inr 62)), some (.inl v1), some (.inr (.inr 4)), none] [] I).trans rfl
theorem e_U_lookForWorth_9 (X : pm_XT) (v1 : Int) (v3 : Int) (I : pm_I) : f_U_lookForWorth_9 X v1 v3 I =
  if v3 < (I 4 0) then
  if 0 ≤ v1 ∧ v1 < 8 then
  if 0 ≤ v3 ∧ v3 < 8 then
  bif Nat.beq (pm_kd (pm_R 64 (Int.toNat v1))) 8 then
  if 0 ≤ v3 ∧ v3 < pm_ln X.2 (pm_R 64 (Int.toNat v1)) then
  if pm_r32 (v3 + 1) then
  f_U_lookForWorth_9 X v1 (v3 + 1) (pm_up I (pm_R 64 (Int.toNat v1)) v3 (I 9 v3))
  else none
  else none
  else none
  else none
  else none
  else some (0, I) := (pm_seg pm_T_ct (pm_env X) [0, 9] 18 34 0 9 [some (.inr (.inr 62)), some (.inl v1), some (.inr (.inr 4)), some (.inl v3)] [] I).trans rfl
theorem e_U_lookForClass (X : pm_XT) (v1 : Int) (v2 : Int) (I : pm_I) : f_U_lookForClass X v1 v2 I =
  if (0 ≤ v1 ∧ v1 < 8) ∧ (1 = 0 ∨ 1 = 1) then
  f_U_lookForClass_10 X v1 v2 0 (pm_up I 63 v1 1)
  else none := (pm_seg pm_T_ct (pm_env X) [0, 10] 9 35 0 0 [some (.inr (.inr 62)), some (.inl v1), some (.inl v2), some (.inr (.inr 4)), none] [] I).trans rfl
theorem e_U_lookForClass_10 (X : pm_XT) (v1 : Int) (v2 : Int) (v4 : Int) (I : pm_I) : f_U_lookForClass_10 X v1 v2 v4 I =
  if v4 < (I 4 0) then
  if 0 ≤ v4 ∧ v4 < 8 then
  if 0 ≤ v2 ∧ v2 < 8 then
  if (I 8 v4) = (I 8 v2) then
  if pm_r32 (v4 + 1) then
  f_U_lookForClass_10 X v1 v2 (v4 + 1) I
  else none
  else if 0 ≤ v1 ∧ v1 < 8 then
  bif Nat.beq (pm_kd (pm_R 64 (Int.toNat v1))) 8 then
  if 0 ≤ v4 ∧ v4 < pm_ln X.2 (pm_R 64 (Int.toNat v1)) then
  if pm_r32 (v4 + 1) then
  f_U_lookForClass_10 X v1 v2 (v4 + 1) (pm_up I (pm_R 64 (Int.toNat v1)) v4 0)
  else none
  else none
  else none
  else none
  else none
  else none
  else some (0, I) := (pm_seg pm_T_ct (pm_env X) [0, 10] 24 35 0 10 [some (.inr (.inr 62)), some (.inl v1), some (.inl v2), some (.inr (.inr 4)), some (.inl v4)] [] I).trans rfl
theorem e_U_lookForStill (X : pm_XT) (v1 : Int) (I : pm_I) : f_U_lookForStill X v1 I =
  if (0 ≤ v1 ∧ v1 < 8) ∧ (1 = 0 ∨ 1 = 1) then
  f_U_lookForStill_9 X v1 1 (pm_up I 63 v1 1)
  else none := (pm_seg pm_T_ct (pm_env X) [0, 9] 9 36 0 0 [some (.inr (.inr 62)), some (.inl v1), none] [] I).trans rfl
theorem e_U_lookForStill_9 (X : pm_XT) (v1 : Int) (v2 : Int) (I : pm_I) : f_U_lookForStill_9 X v1 v2 I =
  if v2 < 8 then
  if 0 ≤ v1 ∧ v1 < 8 then
  bif Nat.beq (pm_kd (pm_R 64 (Int.toNat v1))) 8 then
  if 0 ≤ v2 ∧ v2 < pm_ln X.2 (pm_R 64 (Int.toNat v1)) then
  if pm_r32 (v2 + 1) then
  f_U_lookForStill_9 X v1 (v2 + 1) (pm_up I (pm_R 64 (Int.toNat v1)) v2 0)
  else none
  else none
  else none
  else none
  else some (0, I) := (pm_seg pm_T_ct (pm_env X) [0, 9] 14 36 0 9 [some (.inr (.inr 62)), some (.inl v1), some (.inl v2)] [] I).trans rfl
theorem e_U_markLines (X : pm_XT)  (I : pm_I) : f_U_markLines X  I =
  f_U_markLines_2 X 0 I := (pm_seg pm_T_ct (pm_env X) [0, 2, 23, 62] 4 37 2 0 [some (.inr (.inr 62)), some (.inr (.inr 18)), some (.inr (.inr 10)), none] [] I).trans rfl
theorem e_U_markLines_2 (X : pm_XT) (v3 : Int) (I : pm_I) : f_U_markLines_2 X v3 I =
  if v3 < 10 then
  if (0 ≤ v3 ∧ v3 < 10) ∧ (0 = 0 ∨ 0 = 1) then
  if pm_r32 (v3 + 1) then
  f_U_markLines_2 X (v3 + 1) (pm_up I 74 v3 0)
  else none
  else none
  else f_U_markLines_23 X 0 I := (pm_seg pm_T_ct (pm_env X) [0, 2, 23, 62] 12 37 2 2 [some (.inr (.inr 62)), some (.inr (.inr 18)), some (.inr (.inr 10)), some (.inl v3)] [] I).trans rfl
theorem e_U_markLines_23 (X : pm_XT) (v3 : Int) (I : pm_I) : f_U_markLines_23 X v3 I =
  if v3 < 8 then
  if 0 ≤ v3 ∧ v3 < 8 then
  if (I 63 v3) = 0 then
  if pm_r32 (v3 + 1) then
  f_U_markLines_23 X (v3 + 1) I
  else none
  else if 0 ≤ v3 ∧ v3 < 8 then
  bif Nat.beq (pm_kd (pm_R 18 (Int.toNat v3))) 5 then
  (f_W_markLines X (pm_R 18 (Int.toNat v3)) I).bind (fun x1 =>
  if 0 ≤ v3 ∧ v3 < 8 then
  if pm_r32 (v3 + 1) then
  f_U_markLines_23 X (v3 + 1) (pm_up x1.2 73 v3 x1.1)
  else none
  else none)
  else none
  else none
  else none
  else f_U_markLines_62 X 0 I := (pm_seg pm_T_ct (pm_env X) [0, 2, 23, 62] 22 37 2 23 [some (.inr (.inr 62)), some (.inr (.inr 18)), some (.inr (.inr 10)), some (.inl v3)] [] I).trans rfl
theorem e_U_markLines_62 (X : pm_XT) (v3 : Int) (I : pm_I) : f_U_markLines_62 X v3 I =
  if v3 < 10 then
  if 0 ≤ v3 ∧ v3 < 10 then
  if (I 14 v3) = 0 then
  if 0 ≤ v3 ∧ v3 < 10 then
  if (I 74 v3) = 0 then
  if (0 ≤ v3 ∧ v3 < 10) ∧ (1 = 0 ∨ 1 = 1) then
  if pm_r32 (v3 + 1) then
  f_U_markLines_62 X (v3 + 1) (pm_up I 75 v3 1)
  else none
  else none
  else if (0 ≤ v3 ∧ v3 < 10) ∧ (0 = 0 ∨ 0 = 1) then
  if pm_r32 (v3 + 1) then
  f_U_markLines_62 X (v3 + 1) (pm_up I 75 v3 0)
  else none
  else none
  else none
  else if (0 ≤ v3 ∧ v3 < 10) ∧ (1 = 0 ∨ 1 = 1) then
  if pm_r32 (v3 + 1) then
  f_U_markLines_62 X (v3 + 1) (pm_up I 75 v3 1)
  else none
  else none
  else none
  else some (0, I) := (pm_seg pm_T_ct (pm_env X) [0, 2, 23, 62] 23 37 2 62 [some (.inr (.inr 62)), none, some (.inr (.inr 10)), some (.inl v3)] [] I).trans rfl
theorem e_U_sumFrom (X : pm_XT) (d : Nat) (v0 : Int) (w1 : Int) (v5 : Int) (I : pm_I) : f_U_sumFrom X d v0 w1 v5 I =
  if v0 < v5 then
  if v0 < 10 then
  if 0 ≤ v0 ∧ v0 < 10 then
  if (I 75 v0) = 0 then
  f_U_sumFrom_40 X d v0 w1 v5 (I 4 0) 0 0 I
  else f_U_sumFrom_40 X d v0 w1 v5 1 0 0 I
  else none
  else some (w1, I)
  else some (w1, I) := (pm_seg pm_T_ct (pm_env X) [0, 40] 20 38 d 0 [some (.inl v0), some (.inr (.inl w1)), none, some (.inr (.inr 62)), some (.inr (.inr 18)), some (.inl v5), some (.inr (.inr 4)), none, none, none, none, none, none] [] I).trans rfl
theorem e_U_sumFrom_40 (X : pm_XT) (d : Nat) (v0 : Int) (w1 : Int) (v5 : Int) (v7 : Int) (w8 : Int) (v10 : Int) (I : pm_I) : f_U_sumFrom_40 X d v0 w1 v5 v7 w8 v10 I =
  if v10 < v7 then
  if 0 ≤ v0 ∧ v0 < 10 then
  bif Nat.blt 2 d && true then
  (f_U_factorBehind X v0 (pm_up I 76 v0 v10)).bind (fun x1 =>
  if 0 < (pm_w64 (w1 * x1.1)) then
  if pm_r32 (v0 + 1) then
  bif Nat.blt (3 + (10 - (v0 + 1)).toNat) d && true then
  (f_U_sumFrom X (3 + (10 - (v0 + 1)).toNat) (v0 + 1) (pm_w64 (w1 * x1.1)) v5 x1.2).bind (fun x2 =>
  if pm_r32 (v10 + 1) then
  f_U_sumFrom_40 X d v0 w1 v5 v7 (pm_w64 (w8 + x2.1)) (v10 + 1) x2.2
  else none)
  else none
  else none
  else if (pm_w64 (w1 * x1.1)) = 0 then
  if pm_r32 (v10 + 1) then
  f_U_sumFrom_40 X d v0 w1 v5 v7 w8 (v10 + 1) x1.2
  else none
  else if pm_r32 (v0 + 1) then
  bif Nat.blt (3 + (10 - (v0 + 1)).toNat) d && true then
  (f_U_sumFrom X (3 + (10 - (v0 + 1)).toNat) (v0 + 1) (pm_w64 (w1 * x1.1)) v5 x1.2).bind (fun x3 =>
  if pm_r32 (v10 + 1) then
  f_U_sumFrom_40 X d v0 w1 v5 v7 (pm_w64 (w8 + x3.1)) (v10 + 1) x3.2
  else none)
  else none
  else none)
  else none
  else none
  else if 0 ≤ v0 ∧ v0 < 10 then
  if (I 75 v0) = 0 then
  some (w8, I)
  else some ((pm_w64 (w8 * (I 4 0))), I)
  else none := (pm_seg pm_T_ct (pm_env X) [0, 40] 36 38 d 40 [some (.inl v0), some (.inr (.inl w1)), none, some (.inr (.inr 62)), some (.inr (.inr 18)), some (.inl v5), some (.inr (.inr 4)), some (.inl v7), some (.inr (.inl w8)), none, some (.inl v10), none, none] [] I).trans rfl
theorem e_U_factorBehind (X : pm_XT) (v1 : Int) (I : pm_I) : f_U_factorBehind X v1 I =
  f_U_factorBehind_6 X v1 1 0 I := (pm_seg pm_T_ct (pm_env X) [0, 6] 6 39 2 0 [some (.inr (.inr 62)), some (.inl v1), some (.inr (.inr 18)), some (.inr (.inr 4)), none, none, none] [] I).trans rfl
theorem e_U_factorBehind_6 (X : pm_XT) (v1 : Int) (w4 : Int) (v6 : Int) (I : pm_I) : f_U_factorBehind_6 X v1 w4 v6 I =
  if v6 < 8 then
  if 0 ≤ v6 ∧ v6 < 8 then
  if (I 63 v6) = 0 then
  if pm_r32 (v6 + 1) then
  f_U_factorBehind_6 X v1 w4 (v6 + 1) I
  else none
  else if 0 ≤ v6 ∧ v6 < 8 then
  if (I 73 v6) = v1 then
  if 0 ≤ v6 ∧ v6 < 8 then
  if 0 ≤ v6 ∧ v6 < 8 then
  bif Nat.beq (pm_kd (pm_R 18 (Int.toNat v6))) 5 then
  (f_W_turnWith X (pm_R 18 (Int.toNat v6)) 76 I).bind (fun x1 =>
  bif Nat.beq (pm_kd (pm_R 64 (Int.toNat v6))) 8 then
  if 0 ≤ x1.1 ∧ x1.1 < pm_ln X.2 (pm_R 64 (Int.toNat v6)) then
  if pm_r32 (v6 + 1) then
  f_U_factorBehind_6 X v1 (pm_w64 (w4 * (x1.2 (pm_R 64 (Int.toNat v6)) x1.1))) (v6 + 1) x1.2
  else none
  else none
  else bif Nat.beq (pm_kd (pm_R 64 (Int.toNat v6))) 50 then
  if 0 ≤ x1.1 ∧ x1.1 < pm_ln X.2 (pm_R 64 (Int.toNat v6)) then
  if pm_r32 (v6 + 1) then
  f_U_factorBehind_6 X v1 (pm_w64 (w4 * (pm_xv X.1 (pm_R 64 (Int.toNat v6)) x1.1))) (v6 + 1) x1.2
  else none
  else none
  else none)
  else none
  else none
  else none
  else if pm_r32 (v6 + 1) then
  f_U_factorBehind_6 X v1 w4 (v6 + 1) I
  else none
  else none
  else none
  else some (w4, I) := (pm_seg pm_T_ct (pm_env X) [0, 6] 34 39 2 6 [some (.inr (.inr 62)), some (.inl v1), some (.inr (.inr 18)), some (.inr (.inr 4)), some (.inr (.inl w4)), none, some (.inl v6)] [] I).trans rfl
theorem e_W_begin (X : pm_XT) (r0 : Nat) (v1 : Int) (I : pm_I) : f_W_begin X r0 v1 I =
  bif Nat.beq (pm_kd r0) 5 then
  bif Nat.beq (pm_kd r0) 5 then
  bif Nat.beq (pm_kd r0) 5 then
  bif Nat.beq (pm_kd r0) 5 then
  some (0, (pm_up (pm_up (pm_up (pm_up I r0 0 v1) r0 1 v1) r0 2 0) r0 3 1))
  else none
  else none
  else none
  else none := (pm_seg pm_T_ct (pm_env X) [0] 14 40 0 0 [some (.inr (.inr r0)), some (.inl v1)] [] I).trans rfl
theorem e_W_go (X : pm_XT) (r0 : Nat) (v1 : Int) (v2 : Int) (v3 : Int) (I : pm_I) : f_W_go X r0 v1 v2 v3 I =
  bif Nat.beq (pm_kd r0) 5 then
  if (I r0 2) < 6 then
  bif Nat.beq (pm_kd r0) 5 then
  bif Nat.beq (pm_kd r0) 5 then
  bif Nat.beq (pm_kd (pm_R r0 4)) 8 then
  if 0 ≤ (I r0 2) ∧ (I r0 2) < pm_ln X.2 (pm_R r0 4) then
  bif Nat.beq (pm_kd r0) 5 then
  bif Nat.beq (pm_kd r0) 5 then
  bif Nat.beq (pm_kd (pm_R r0 5)) 9 then
  if (0 ≤ ((pm_up I (pm_R r0 4) (I r0 2) v1) r0 2) ∧ ((pm_up I (pm_R r0 4) (I r0 2) v1) r0 2) < pm_ln X.2 (pm_R r0 5)) ∧ (v2 = 0 ∨ v2 = 1) then
  bif Nat.beq (pm_kd r0) 5 then
  bif Nat.beq (pm_kd r0) 5 then
  if pm_r32 (((pm_up (pm_up (pm_up I (pm_R r0 4) (I r0 2) v1) (pm_R r0 5) ((pm_up I (pm_R r0 4) (I r0 2) v1) r0 2) v2) r0 1 v3) r0 2) + 1) then
  bif Nat.beq (pm_kd r0) 5 then
  some (0, (pm_up (pm_up (pm_up (pm_up I (pm_R r0 4) (I r0 2) v1) (pm_R r0 5) ((pm_up I (pm_R r0 4) (I r0 2) v1) r0 2) v2) r0 1 v3) r0 2 (((pm_up (pm_up (pm_up I (pm_R r0 4) (I r0 2) v1) (pm_R r0 5) ((pm_up I (pm_R r0 4) (I r0 2) v1) r0 2) v2) r0 1 v3) r0 2) + 1)))
  else none
  else none
  else none
  else none
  else none
  else none
  else none
  else none
  else none
  else none
  else none
  else none
  else some (0, I)
  else none := (pm_seg pm_T_ct (pm_env X) [0] 27 41 0 0 [some (.inr (.inr r0)), some (.inl v1), some (.inl v2), some (.inl v3)] [] I).trans rfl
theorem e_W_isClosed (X : pm_XT) (r0 : Nat) (I : pm_I) : f_W_isClosed X r0 I =
  bif Nat.beq (pm_kd r0) 5 then
  if 0 < (I r0 2) then
  bif Nat.beq (pm_kd r0) 5 then
  bif Nat.beq (pm_kd r0) 5 then
  if (I r0 0) = (I r0 1) then
  some (1, I)
  else some (0, I)
  else none
  else none
  else some (0, I)
  else none := (pm_seg pm_T_ct (pm_env X) [0] 12 42 0 0 [some (.inr (.inr r0))] [] I).trans rfl
theorem e_W_weighs (X : pm_XT) (r0 : Nat) (I : pm_I) : f_W_weighs X r0 I =
  bif Nat.beq (pm_kd r0) 5 then
  if (I r0 3) = 0 then
  some (0, I)
  else bif Nat.beq (pm_kd r0) 5 then
  (f_W_isClosed X r0 I).bind (fun x1 =>
  if x1.1 = 0 then
  some (0, x1.2)
  else some (1, x1.2))
  else none
  else none := (pm_seg pm_T_ct (pm_env X) [0] 10 43 1 0 [some (.inr (.inr r0))] [] I).trans rfl
theorem e_W_turnWith (X : pm_XT) (r0 : Nat) (r1 : Nat) (I : pm_I) : f_W_turnWith X r0 r1 I =
  f_W_turnWith_5 X r0 r1 0 0 I := (pm_seg pm_T_ct (pm_env X) [0, 5] 6 44 1 0 [some (.inr (.inr r0)), some (.inr (.inr r1)), some (.inr (.inr 4)), none, none, none] [] I).trans rfl
theorem e_W_turnWith_5 (X : pm_XT) (r0 : Nat) (r1 : Nat) (v3 : Int) (v4 : Int) (I : pm_I) : f_W_turnWith_5 X r0 r1 v3 v4 I =
  bif Nat.beq (pm_kd r0) 5 then
  if v4 < (I r0 2) then
  bif Nat.beq (pm_kd r0) 5 then
  bif Nat.beq (pm_kd (pm_R r0 4)) 8 then
  if 0 ≤ v4 ∧ v4 < pm_ln X.2 (pm_R r0 4) then
  bif Nat.beq (pm_kd r1) 8 then
  if 0 ≤ (I (pm_R r0 4) v4) ∧ (I (pm_R r0 4) v4) < pm_ln X.2 r1 then
  bif Nat.beq (pm_kd r0) 5 then
  bif Nat.beq (pm_kd (pm_R r0 5)) 9 then
  if 0 ≤ v4 ∧ v4 < pm_ln X.2 (pm_R r0 5) then
  if (I (pm_R r0 5) v4) = 0 then
  (f_G_product X v3 (I r1 (I (pm_R r0 4) v4)) I).bind (fun x1 =>
  if pm_r32 (v4 + 1) then
  f_W_turnWith_5 X r0 r1 x1.1 (v4 + 1) x1.2
  else none)
  else if 0 ≤ (I r1 (I (pm_R r0 4) v4)) ∧ (I r1 (I (pm_R r0 4) v4)) < 8 then
  (f_G_product X v3 (I 7 (I r1 (I (pm_R r0 4) v4))) I).bind (fun x2 =>
  if pm_r32 (v4 + 1) then
  f_W_turnWith_5 X r0 r1 x2.1 (v4 + 1) x2.2
  else none)
  else none
  else none
  else none
  else none
  else none
  else bif Nat.beq (pm_kd r1) 50 then
  if 0 ≤ (I (pm_R r0 4) v4) ∧ (I (pm_R r0 4) v4) < pm_ln X.2 r1 then
  bif Nat.beq (pm_kd r0) 5 then
  bif Nat.beq (pm_kd (pm_R r0 5)) 9 then
  if 0 ≤ v4 ∧ v4 < pm_ln X.2 (pm_R r0 5) then
  if (I (pm_R r0 5) v4) = 0 then
  (f_G_product X v3 (pm_xv X.1 r1 (I (pm_R r0 4) v4)) I).bind (fun x3 =>
  if pm_r32 (v4 + 1) then
  f_W_turnWith_5 X r0 r1 x3.1 (v4 + 1) x3.2
  else none)
  else if 0 ≤ (pm_xv X.1 r1 (I (pm_R r0 4) v4)) ∧ (pm_xv X.1 r1 (I (pm_R r0 4) v4)) < 8 then
  (f_G_product X v3 (I 7 (pm_xv X.1 r1 (I (pm_R r0 4) v4))) I).bind (fun x4 =>
  if pm_r32 (v4 + 1) then
  f_W_turnWith_5 X r0 r1 x4.1 (v4 + 1) x4.2
  else none)
  else none
  else none
  else none
  else none
  else none
  else none
  else none
  else bif Nat.beq (pm_kd (pm_R r0 4)) 50 then
  if 0 ≤ v4 ∧ v4 < pm_ln X.2 (pm_R r0 4) then
  bif Nat.beq (pm_kd r1) 8 then
  if 0 ≤ (pm_xv X.1 (pm_R r0 4) v4) ∧ (pm_xv X.1 (pm_R r0 4) v4) < pm_ln X.2 r1 then
  bif Nat.beq (pm_kd r0) 5 then
  bif Nat.beq (pm_kd (pm_R r0 5)) 9 then
  if 0 ≤ v4 ∧ v4 < pm_ln X.2 (pm_R r0 5) then
  if (I (pm_R r0 5) v4) = 0 then
  (f_G_product X v3 (I r1 (pm_xv X.1 (pm_R r0 4) v4)) I).bind (fun x5 =>
  if pm_r32 (v4 + 1) then
  f_W_turnWith_5 X r0 r1 x5.1 (v4 + 1) x5.2
  else none)
  else if 0 ≤ (I r1 (pm_xv X.1 (pm_R r0 4) v4)) ∧ (I r1 (pm_xv X.1 (pm_R r0 4) v4)) < 8 then
  (f_G_product X v3 (I 7 (I r1 (pm_xv X.1 (pm_R r0 4) v4))) I).bind (fun x6 =>
  if pm_r32 (v4 + 1) then
  f_W_turnWith_5 X r0 r1 x6.1 (v4 + 1) x6.2
  else none)
  else none
  else none
  else none
  else none
  else none
  else bif Nat.beq (pm_kd r1) 50 then
  if 0 ≤ (pm_xv X.1 (pm_R r0 4) v4) ∧ (pm_xv X.1 (pm_R r0 4) v4) < pm_ln X.2 r1 then
  bif Nat.beq (pm_kd r0) 5 then
  bif Nat.beq (pm_kd (pm_R r0 5)) 9 then
  if 0 ≤ v4 ∧ v4 < pm_ln X.2 (pm_R r0 5) then
  if (I (pm_R r0 5) v4) = 0 then
  (f_G_product X v3 (pm_xv X.1 r1 (pm_xv X.1 (pm_R r0 4) v4)) I).bind (fun x7 =>
  if pm_r32 (v4 + 1) then
  f_W_turnWith_5 X r0 r1 x7.1 (v4 + 1) x7.2
  else none)
  else if 0 ≤ (pm_xv X.1 r1 (pm_xv X.1 (pm_R r0 4) v4)) ∧ (pm_xv X.1 r1 (pm_xv X.1 (pm_R r0 4) v4)) < 8 then
  (f_G_product X v3 (I 7 (pm_xv X.1 r1 (pm_xv X.1 (pm_R r0 4) v4))) I).bind (fun x8 =>
  if pm_r32 (v4 + 1) then
  f_W_turnWith_5 X r0 r1 x8.1 (v4 + 1) x8.2
  else none)
  else none
  else none
  else none
  else none
  else none
  else none
  else none
  else none
  else none
  else some (v3, I)
  else none := (pm_seg pm_T_ct (pm_env X) [0, 5] 29 44 1 5 [some (.inr (.inr r0)), some (.inr (.inr r1)), some (.inr (.inr 4)), some (.inl v3), some (.inl v4), none] [] I).trans rfl
theorem e_W_markLines (X : pm_XT) (r0 : Nat) (I : pm_I) : f_W_markLines X r0 I =
  f_W_markLines_4 X r0 0 0 I := (pm_seg pm_T_ct (pm_env X) [0, 4] 6 45 1 0 [some (.inr (.inr r0)), some (.inr (.inr 74)), none, none] [] I).trans rfl
theorem e_W_markLines_4 (X : pm_XT) (r0 : Nat) (v2 : Int) (v3 : Int) (I : pm_I) : f_W_markLines_4 X r0 v2 v3 I =
  bif Nat.beq (pm_kd r0) 5 then
  if v3 < (I r0 2) then
  bif Nat.beq (pm_kd r0) 5 then
  bif Nat.beq (pm_kd (pm_R r0 4)) 8 then
  if 0 ≤ v3 ∧ v3 < pm_ln X.2 (pm_R r0 4) then
  if (0 ≤ (I (pm_R r0 4) v3) ∧ (I (pm_R r0 4) v3) < 10) ∧ (1 = 0 ∨ 1 = 1) then
  bif Nat.beq (pm_kd r0) 5 then
  bif Nat.beq (pm_kd (pm_R r0 4)) 8 then
  if 0 ≤ v3 ∧ v3 < pm_ln X.2 (pm_R r0 4) then
  if pm_r32 (v3 + 1) then
  f_W_markLines_4 X r0 (max v2 ((pm_up I 74 (I (pm_R r0 4) v3) 1) (pm_R r0 4) v3)) (v3 + 1) (pm_up I 74 (I (pm_R r0 4) v3) 1)
  else none
  else none
  else bif Nat.beq (pm_kd (pm_R r0 4)) 50 then
  if 0 ≤ v3 ∧ v3 < pm_ln X.2 (pm_R r0 4) then
  if pm_r32 (v3 + 1) then
  f_W_markLines_4 X r0 (max v2 (pm_xv X.1 (pm_R r0 4) v3)) (v3 + 1) (pm_up I 74 (I (pm_R r0 4) v3) 1)
  else none
  else none
  else none
  else none
  else none
  else none
  else bif Nat.beq (pm_kd (pm_R r0 4)) 50 then
  if 0 ≤ v3 ∧ v3 < pm_ln X.2 (pm_R r0 4) then
  if (0 ≤ (pm_xv X.1 (pm_R r0 4) v3) ∧ (pm_xv X.1 (pm_R r0 4) v3) < 10) ∧ (1 = 0 ∨ 1 = 1) then
  bif Nat.beq (pm_kd r0) 5 then
  bif Nat.beq (pm_kd (pm_R r0 4)) 8 then
  if 0 ≤ v3 ∧ v3 < pm_ln X.2 (pm_R r0 4) then
  if pm_r32 (v3 + 1) then
  f_W_markLines_4 X r0 (max v2 ((pm_up I 74 (pm_xv X.1 (pm_R r0 4) v3) 1) (pm_R r0 4) v3)) (v3 + 1) (pm_up I 74 (pm_xv X.1 (pm_R r0 4) v3) 1)
  else none
  else none
  else bif Nat.beq (pm_kd (pm_R r0 4)) 50 then
  if 0 ≤ v3 ∧ v3 < pm_ln X.2 (pm_R r0 4) then
  if pm_r32 (v3 + 1) then
  f_W_markLines_4 X r0 (max v2 (pm_xv X.1 (pm_R r0 4) v3)) (v3 + 1) (pm_up I 74 (pm_xv X.1 (pm_R r0 4) v3) 1)
  else none
  else none
  else none
  else none
  else none
  else none
  else none
  else none
  else some (v2, I)
  else none := (pm_seg pm_T_ct (pm_env X) [0, 4] 22 45 1 4 [some (.inr (.inr r0)), some (.inr (.inr 74)), some (.inl v2), some (.inl v3)] [] I).trans rfl
theorem e_T_group (X : pm_XT) (v1 : Int) (v2 : Int) (I : pm_I) : f_T_group X v1 v2 I =
  if v1 = 0 then
  if v2 < 1 then
  if v1 = 1 then
  if v2 = 3 then
  (f_G_draftFlips X v2 I).bind (fun x1 =>
  if pm_r32 (2 * v2) then
  (f_T_takeDraft X (2 * v2) x1.2).bind (fun x2 =>
  some (x2.1, x2.2))
  else none)
  else if v2 = 4 then
  (f_G_draftFlips X v2 I).bind (fun x3 =>
  if pm_r32 (2 * v2) then
  (f_T_takeDraft X (2 * v2) x3.2).bind (fun x4 =>
  some (x4.1, x4.2))
  else none)
  else if v1 = 2 then
  if v2 = 8 then
  (f_G_draftCrossed X I).bind (fun x5 =>
  (f_T_takeDraft X v2 x5.2).bind (fun x6 =>
  some (x6.1, x6.2)))
  else some ((-1), I)
  else some ((-1), I)
  else if v1 = 2 then
  if v2 = 8 then
  (f_G_draftCrossed X I).bind (fun x7 =>
  (f_T_takeDraft X v2 x7.2).bind (fun x8 =>
  some (x8.1, x8.2)))
  else some ((-1), I)
  else some ((-1), I)
  else if 8 < v2 then
  if v1 = 1 then
  if v2 = 3 then
  (f_G_draftFlips X v2 I).bind (fun x9 =>
  if pm_r32 (2 * v2) then
  (f_T_takeDraft X (2 * v2) x9.2).bind (fun x10 =>
  some (x10.1, x10.2))
  else none)
  else if v2 = 4 then
  (f_G_draftFlips X v2 I).bind (fun x11 =>
  if pm_r32 (2 * v2) then
  (f_T_takeDraft X (2 * v2) x11.2).bind (fun x12 =>
  some (x12.1, x12.2))
  else none)
  else if v1 = 2 then
  if v2 = 8 then
  (f_G_draftCrossed X I).bind (fun x13 =>
  (f_T_takeDraft X v2 x13.2).bind (fun x14 =>
  some (x14.1, x14.2)))
  else some ((-1), I)
  else some ((-1), I)
  else if v1 = 2 then
  if v2 = 8 then
  (f_G_draftCrossed X I).bind (fun x15 =>
  (f_T_takeDraft X v2 x15.2).bind (fun x16 =>
  some (x16.1, x16.2)))
  else some ((-1), I)
  else some ((-1), I)
  else (f_G_draftRing X v2 I).bind (fun x17 =>
  (f_T_takeDraft X v2 x17.2).bind (fun x18 =>
  some (x18.1, x18.2)))
  else if v1 = 1 then
  if v2 = 3 then
  (f_G_draftFlips X v2 I).bind (fun x19 =>
  if pm_r32 (2 * v2) then
  (f_T_takeDraft X (2 * v2) x19.2).bind (fun x20 =>
  some (x20.1, x20.2))
  else none)
  else if v2 = 4 then
  (f_G_draftFlips X v2 I).bind (fun x21 =>
  if pm_r32 (2 * v2) then
  (f_T_takeDraft X (2 * v2) x21.2).bind (fun x22 =>
  some (x22.1, x22.2))
  else none)
  else if v1 = 2 then
  if v2 = 8 then
  (f_G_draftCrossed X I).bind (fun x23 =>
  (f_T_takeDraft X v2 x23.2).bind (fun x24 =>
  some (x24.1, x24.2)))
  else some ((-1), I)
  else some ((-1), I)
  else if v1 = 2 then
  if v2 = 8 then
  (f_G_draftCrossed X I).bind (fun x25 =>
  (f_T_takeDraft X v2 x25.2).bind (fun x26 =>
  some (x26.1, x26.2)))
  else some ((-1), I)
  else some ((-1), I) := (pm_seg pm_T_ct (pm_env X) [0] 31 46 4 0 [some (.inr (.inr 3)), some (.inl v1), some (.inl v2)] [] I).trans rfl
theorem e_T_read (X : pm_XT) (v1 : Int) (v2 : Int) (v3 : Int) (v4 : Int) (I : pm_I) : f_T_read X v1 v2 v3 v4 I =
  (f_T_isSheet X v1 I).bind (fun x1 =>
  if x1.1 = 0 then
  some ((-1), x1.2)
  else (f_T_isLane X v2 x1.2).bind (fun x2 =>
  if x2.1 = 0 then
  some ((-1), x2.2)
  else if v4 < 1 then
  some ((-1), x2.2)
  else if 8 < v4 then
  some ((-1), x2.2)
  else if 0 ≤ v1 ∧ v1 < 4 then
  bif Nat.beq (pm_kd (pm_R 53 (Int.toNat v1))) 3 then
  (f_S_faultAs X (pm_R 53 (Int.toNat v1)) v2 x2.2).bind (fun x3 =>
  if x3.1 = 0 then
  if 0 ≤ v1 ∧ v1 < 4 then
  (f_T_draftFrom X (pm_R 53 (Int.toNat v1)) v3 v4 x3.2).bind (fun x4 =>
  if x4.1 = 0 then
  (f_G_draftFault X v4 x4.2).bind (fun x5 =>
  if x5.1 = 0 then
  (f_T_takeDraft X v4 x5.2).bind (fun x6 =>
  some (x6.1, x6.2))
  else some (x5.1, x5.2))
  else if x4.1 = 0 then
  (f_T_takeDraft X v4 x4.2).bind (fun x7 =>
  some (x7.1, x7.2))
  else some (x4.1, x4.2))
  else none
  else if x3.1 = 0 then
  (f_G_draftFault X v4 x3.2).bind (fun x8 =>
  if x8.1 = 0 then
  (f_T_takeDraft X v4 x8.2).bind (fun x9 =>
  some (x9.1, x9.2))
  else some (x8.1, x8.2))
  else if x3.1 = 0 then
  (f_T_takeDraft X v4 x3.2).bind (fun x10 =>
  some (x10.1, x10.2))
  else some (x3.1, x3.2))
  else none
  else none)) := (pm_seg pm_T_ct (pm_env X) [0] 45 47 4 0 [some (.inr (.inr 3)), some (.inl v1), some (.inl v2), some (.inl v3), some (.inl v4), none] [] I).trans rfl
theorem e_T_times (X : pm_XT) (v1 : Int) (v2 : Int) (I : pm_I) : f_T_times X v1 v2 I =
  (f_T_isTurn X v1 I).bind (fun x1 =>
  if x1.1 = 0 then
  some ((-1), x1.2)
  else (f_T_isTurn X v2 x1.2).bind (fun x2 =>
  if x2.1 = 0 then
  some ((-1), x2.2)
  else (f_G_product X v1 v2 x2.2).bind (fun x3 =>
  some (x3.1, x3.2)))) := (pm_seg pm_T_ct (pm_env X) [0] 16 48 1 0 [some (.inr (.inr 3)), some (.inl v1), some (.inl v2)] [] I).trans rfl
theorem e_T_turn (X : pm_XT) (v1 : Int) (v2 : Int) (I : pm_I) : f_T_turn X v1 v2 I =
  (f_T_isTurn X v1 I).bind (fun x1 =>
  if x1.1 = 0 then
  some ((-1), x1.2)
  else if v2 = 0 then
  if 0 ≤ v1 ∧ v1 < 8 then
  some ((x1.2 7 v1), x1.2)
  else none
  else if v2 = 1 then
  (f_G_orderOf X v1 x1.2).bind (fun x2 =>
  some (x2.1, x2.2))
  else if v2 = 2 then
  if 0 ≤ v1 ∧ v1 < 8 then
  some ((x1.2 8 v1), x1.2)
  else none
  else if v2 = 3 then
  (f_G_classSize X v1 x1.2).bind (fun x3 =>
  some (x3.1, x3.2))
  else if v2 = 4 then
  if 0 ≤ v1 ∧ v1 < 8 then
  some ((x1.2 9 v1), x1.2)
  else none
  else if v2 = 5 then
  (f_G_alikeWith X v1 x1.2).bind (fun x4 =>
  some (x4.1, x4.2))
  else some ((-1), x1.2)) := (pm_seg pm_T_ct (pm_env X) [0] 13 49 2 0 [some (.inr (.inr 3)), some (.inl v1), some (.inl v2)] [] I).trans rfl
theorem e_T_about (X : pm_XT) (v1 : Int) (I : pm_I) : f_T_about X v1 I =
  if v1 = 0 then
  some ((I 4 0), I)
  else if v1 = 1 then
  (f_G_classesMany X I).bind (fun x1 =>
  some (x1.1, x1.2))
  else if v1 = 2 then
  (f_G_alikeWithAll X I).bind (fun x2 =>
  some (x2.1, x2.2))
  else if v1 = 3 then
  (f_G_alikePairs X I).bind (fun x3 =>
  some (x3.1, x3.2))
  else if v1 = 4 then
  (f_G_alikeWithAll X I).bind (fun x4 =>
  if x4.1 = (x4.2 4 0) then
  some (1, x4.2)
  else some (0, x4.2))
  else some ((-1), I) := (pm_seg pm_T_ct (pm_env X) [0] 13 50 3 0 [some (.inr (.inr 3)), some (.inl v1)] [] I).trans rfl
theorem e_T_worth (X : pm_XT) (v1 : Int) (v2 : Int) (I : pm_I) : f_T_worth X v1 v2 I =
  (f_T_isTurn X v1 I).bind (fun x1 =>
  if x1.1 = 0 then
  some ((-1), x1.2)
  else if v2 < 0 then
  some ((-1), x1.2)
  else if 9 < v2 then
  some ((-1), x1.2)
  else if 0 ≤ v1 ∧ v1 < 8 then
  (f_G_giveWorth X v1 v2 x1.2).bind (fun x2 =>
  some ((x1.2 9 v1), x2.2))
  else none) := (pm_seg pm_T_ct (pm_env X) [0] 23 51 1 0 [some (.inr (.inr 3)), some (.inl v1), some (.inl v2), none] [] I).trans rfl
theorem e_T_point (X : pm_XT)  (I : pm_I) : f_T_point X  I =
  if (I 10 0) < 6 then
  (f_B_addPoint X I).bind (fun x1 =>
  some (x1.1, x1.2))
  else some ((-3), I) := (pm_seg pm_T_ct (pm_env X) [0] 11 52 1 0 [some (.inr (.inr 3))] [] I).trans rfl
theorem e_T_line (X : pm_XT) (v1 : Int) (v2 : Int) (I : pm_I) : f_T_line X v1 v2 I =
  (f_T_isPoint X v1 I).bind (fun x1 =>
  if x1.1 = 0 then
  some ((-1), x1.2)
  else (f_T_isPoint X v2 x1.2).bind (fun x2 =>
  if x2.1 = 0 then
  some ((-1), x2.2)
  else if (x2.2 10 1) < 10 then
  (f_B_addLine X v1 v2 x2.2).bind (fun x3 =>
  some (x3.1, x3.2))
  else some ((-3), x2.2))) := (pm_seg pm_T_ct (pm_env X) [0] 21 53 3 0 [some (.inr (.inr 3)), some (.inl v1), some (.inl v2)] [] I).trans rfl
theorem e_T_walk (X : pm_XT) (v1 : Int) (I : pm_I) : f_T_walk X v1 I =
  (f_T_isPoint X v1 I).bind (fun x1 =>
  if x1.1 = 0 then
  some ((-1), x1.2)
  else if (x1.2 3 3) < 8 then
  if 0 ≤ (x1.2 3 3) ∧ (x1.2 3 3) < 8 then
  bif Nat.beq (pm_kd (pm_R 18 (Int.toNat (x1.2 3 3)))) 5 then
  (f_W_begin X (pm_R 18 (Int.toNat (x1.2 3 3))) v1 x1.2).bind (fun x2 =>
  if pm_r32 ((x2.2 3 3) + 1) then
  if pm_r32 (((pm_up x2.2 3 3 ((x2.2 3 3) + 1)) 3 3) - 1) then
  some ((((pm_up x2.2 3 3 ((x2.2 3 3) + 1)) 3 3) - 1), (pm_up x2.2 3 3 ((x2.2 3 3) + 1)))
  else none
  else none)
  else none
  else none
  else some ((-3), x1.2)) := (pm_seg pm_T_ct (pm_env X) [0] 27 54 1 0 [some (.inr (.inr 3)), some (.inl v1)] [] I).trans rfl
theorem e_T_step (X : pm_XT) (v1 : Int) (v2 : Int) (v3 : Int) (I : pm_I) : f_T_step X v1 v2 v3 I =
  (f_T_isWalk X v1 I).bind (fun x1 =>
  if x1.1 = 0 then
  some ((-1), x1.2)
  else (f_T_isLine X v2 x1.2).bind (fun x2 =>
  if x2.1 = 0 then
  some ((-1), x2.2)
  else if 0 ≤ v1 ∧ v1 < 8 then
  if v3 = 0 then
  if 0 ≤ v2 ∧ v2 < 10 then
  if v3 = 0 then
  if 0 ≤ v2 ∧ v2 < 10 then
  bif Nat.beq (pm_kd (pm_R 18 (Int.toNat v1))) 5 then
  if (x2.2 11 v2) = (x2.2 (pm_R 18 (Int.toNat v1)) 1) then
  bif Nat.beq (pm_kd (pm_R 18 (Int.toNat v1))) 5 then
  if (x2.2 (pm_R 18 (Int.toNat v1)) 2) < 6 then
  bif Nat.beq (pm_kd (pm_R 18 (Int.toNat v1))) 5 then
  (f_W_go X (pm_R 18 (Int.toNat v1)) v2 v3 (x2.2 12 v2) x2.2).bind (fun x3 =>
  bif Nat.beq (pm_kd (pm_R 18 (Int.toNat v1))) 5 then
  some ((x3.2 (pm_R 18 (Int.toNat v1)) 2), x3.2)
  else none)
  else none
  else some ((-3), x2.2)
  else none
  else some ((-2), x2.2)
  else none
  else none
  else if 0 ≤ v2 ∧ v2 < 10 then
  bif Nat.beq (pm_kd (pm_R 18 (Int.toNat v1))) 5 then
  if (x2.2 11 v2) = (x2.2 (pm_R 18 (Int.toNat v1)) 1) then
  bif Nat.beq (pm_kd (pm_R 18 (Int.toNat v1))) 5 then
  if (x2.2 (pm_R 18 (Int.toNat v1)) 2) < 6 then
  bif Nat.beq (pm_kd (pm_R 18 (Int.toNat v1))) 5 then
  (f_W_go X (pm_R 18 (Int.toNat v1)) v2 v3 (x2.2 11 v2) x2.2).bind (fun x4 =>
  bif Nat.beq (pm_kd (pm_R 18 (Int.toNat v1))) 5 then
  some ((x4.2 (pm_R 18 (Int.toNat v1)) 2), x4.2)
  else none)
  else none
  else some ((-3), x2.2)
  else none
  else some ((-2), x2.2)
  else none
  else none
  else none
  else if 0 ≤ v2 ∧ v2 < 10 then
  if v3 = 0 then
  if 0 ≤ v2 ∧ v2 < 10 then
  bif Nat.beq (pm_kd (pm_R 18 (Int.toNat v1))) 5 then
  if (x2.2 12 v2) = (x2.2 (pm_R 18 (Int.toNat v1)) 1) then
  bif Nat.beq (pm_kd (pm_R 18 (Int.toNat v1))) 5 then
  if (x2.2 (pm_R 18 (Int.toNat v1)) 2) < 6 then
  bif Nat.beq (pm_kd (pm_R 18 (Int.toNat v1))) 5 then
  (f_W_go X (pm_R 18 (Int.toNat v1)) v2 v3 (x2.2 12 v2) x2.2).bind (fun x5 =>
  bif Nat.beq (pm_kd (pm_R 18 (Int.toNat v1))) 5 then
  some ((x5.2 (pm_R 18 (Int.toNat v1)) 2), x5.2)
  else none)
  else none
  else some ((-3), x2.2)
  else none
  else some ((-2), x2.2)
  else none
  else none
  else if 0 ≤ v2 ∧ v2 < 10 then
  bif Nat.beq (pm_kd (pm_R 18 (Int.toNat v1))) 5 then
  if (x2.2 12 v2) = (x2.2 (pm_R 18 (Int.toNat v1)) 1) then
  bif Nat.beq (pm_kd (pm_R 18 (Int.toNat v1))) 5 then
  if (x2.2 (pm_R 18 (Int.toNat v1)) 2) < 6 then
  bif Nat.beq (pm_kd (pm_R 18 (Int.toNat v1))) 5 then
  (f_W_go X (pm_R 18 (Int.toNat v1)) v2 v3 (x2.2 11 v2) x2.2).bind (fun x6 =>
  bif Nat.beq (pm_kd (pm_R 18 (Int.toNat v1))) 5 then
  some ((x6.2 (pm_R 18 (Int.toNat v1)) 2), x6.2)
  else none)
  else none
  else some ((-3), x2.2)
  else none
  else some ((-2), x2.2)
  else none
  else none
  else none
  else none)) := (pm_seg pm_T_ct (pm_env X) [0] 48 55 1 0 [some (.inr (.inr 3)), some (.inl v1), some (.inl v2), some (.inl v3), none, none, none] [] I).trans rfl
theorem e_T_counts (X : pm_XT) (v1 : Int) (v2 : Int) (I : pm_I) : f_T_counts X v1 v2 I =
  (f_T_isWalk X v1 I).bind (fun x1 =>
  if x1.1 = 0 then
  some ((-1), x1.2)
  else if 0 ≤ v1 ∧ v1 < 8 then
  bif Nat.beq (pm_kd (pm_R 18 (Int.toNat v1))) 5 then
  if (x1.2 (pm_R 18 (Int.toNat v1)) 3) = 0 then
  if 0 ≤ v1 ∧ v1 < 8 then
  bif Nat.beq (pm_kd (pm_R 18 (Int.toNat v1))) 5 then
  if v2 = 0 ∨ v2 = 1 then
  some (0, (pm_up x1.2 (pm_R 18 (Int.toNat v1)) 3 v2))
  else none
  else none
  else none
  else if 0 ≤ v1 ∧ v1 < 8 then
  bif Nat.beq (pm_kd (pm_R 18 (Int.toNat v1))) 5 then
  if v2 = 0 ∨ v2 = 1 then
  some (1, (pm_up x1.2 (pm_R 18 (Int.toNat v1)) 3 v2))
  else none
  else none
  else none
  else none
  else none) := (pm_seg pm_T_ct (pm_env X) [0] 22 56 1 0 [some (.inr (.inr 3)), some (.inl v1), some (.inl v2), none] [] I).trans rfl
theorem e_T_told (X : pm_XT) (v1 : Int) (v2 : Int) (I : pm_I) : f_T_told X v1 v2 I =
  (f_T_isWalk X v1 I).bind (fun x1 =>
  if x1.1 = 0 then
  some ((-1), x1.2)
  else if 0 ≤ v1 ∧ v1 < 8 then
  if v2 = 0 then
  bif Nat.beq (pm_kd (pm_R 18 (Int.toNat v1))) 5 then
  some ((x1.2 (pm_R 18 (Int.toNat v1)) 2), x1.2)
  else none
  else if v2 = 1 then
  bif Nat.beq (pm_kd (pm_R 18 (Int.toNat v1))) 5 then
  some ((x1.2 (pm_R 18 (Int.toNat v1)) 1), x1.2)
  else none
  else if v2 = 2 then
  bif Nat.beq (pm_kd (pm_R 18 (Int.toNat v1))) 5 then
  (f_W_isClosed X (pm_R 18 (Int.toNat v1)) x1.2).bind (fun x2 =>
  if x2.1 = 0 then
  some (0, x2.2)
  else some (1, x2.2))
  else none
  else if v2 = 3 then
  bif Nat.beq (pm_kd (pm_R 18 (Int.toNat v1))) 5 then
  (f_W_turnWith X (pm_R 18 (Int.toNat v1)) 13 x1.2).bind (fun x3 =>
  some (x3.1, x3.2))
  else none
  else if v2 = 4 then
  bif Nat.beq (pm_kd (pm_R 18 (Int.toNat v1))) 5 then
  if (x1.2 (pm_R 18 (Int.toNat v1)) 3) = 0 then
  some (0, x1.2)
  else some (1, x1.2)
  else none
  else some ((-1), x1.2)
  else none) := (pm_seg pm_T_ct (pm_env X) [0] 20 57 2 0 [some (.inr (.inr 3)), some (.inl v1), some (.inl v2), none] [] I).trans rfl
theorem e_T_drop (X : pm_XT)  (I : pm_I) : f_T_drop X  I =
  if 0 < (I 3 3) then
  if pm_r32 ((I 3 3) - 1) then
  some (((pm_up I 3 3 ((I 3 3) - 1)) 3 3), (pm_up I 3 3 ((I 3 3) - 1)))
  else none
  else some ((-4), I) := (pm_seg pm_T_ct (pm_env X) [0] 13 58 0 0 [some (.inr (.inr 3))] [] I).trans rfl
theorem e_T_set (X : pm_XT) (v1 : Int) (v2 : Int) (I : pm_I) : f_T_set X v1 v2 I =
  (f_T_isLine X v1 I).bind (fun x1 =>
  if x1.1 = 0 then
  some ((-1), x1.2)
  else (f_T_isTurn X v2 x1.2).bind (fun x2 =>
  if x2.1 = 0 then
  some ((-1), x2.2)
  else if 0 ≤ v1 ∧ v1 < 10 then
  (f_A_keep X x2.2).bind (fun x3 =>
  if 0 ≤ v1 ∧ v1 < 10 then
  some ((x2.2 13 v1), (pm_up x3.2 13 v1 v2))
  else none)
  else none)) := (pm_seg pm_T_ct (pm_env X) [0] 29 59 2 0 [some (.inr (.inr 3)), some (.inl v1), some (.inl v2), none] [] I).trans rfl
theorem e_T_at (X : pm_XT) (v1 : Int) (I : pm_I) : f_T_at X v1 I =
  (f_T_isLine X v1 I).bind (fun x1 =>
  if x1.1 = 0 then
  some ((-1), x1.2)
  else if 0 ≤ v1 ∧ v1 < 10 then
  some ((x1.2 13 v1), x1.2)
  else none) := (pm_seg pm_T_ct (pm_env X) [0] 12 60 1 0 [some (.inr (.inr 3)), some (.inl v1)] [] I).trans rfl
theorem e_T_weight (X : pm_XT)  (I : pm_I) : f_T_weight X  I =
  f_T_weight_4 X 1 0 I := (pm_seg pm_T_ct (pm_env X) [0, 4] 6 61 2 0 [some (.inr (.inr 3)), none, none, none] [] I).trans rfl
theorem e_T_weight_4 (X : pm_XT) (w1 : Int) (v3 : Int) (I : pm_I) : f_T_weight_4 X w1 v3 I =
  if v3 < (I 3 3) then
  if 0 ≤ v3 ∧ v3 < 8 then
  bif Nat.beq (pm_kd (pm_R 18 (Int.toNat v3))) 5 then
  (f_W_weighs X (pm_R 18 (Int.toNat v3)) I).bind (fun x1 =>
  if x1.1 = 0 then
  if pm_r32 (v3 + 1) then
  f_T_weight_4 X w1 (v3 + 1) x1.2
  else none
  else if 0 ≤ v3 ∧ v3 < 8 then
  bif Nat.beq (pm_kd (pm_R 18 (Int.toNat v3))) 5 then
  (f_W_turnWith X (pm_R 18 (Int.toNat v3)) 13 x1.2).bind (fun x2 =>
  if 0 ≤ x2.1 ∧ x2.1 < 8 then
  if pm_r32 (v3 + 1) then
  f_T_weight_4 X (pm_w64 (w1 * (x2.2 9 x2.1))) (v3 + 1) x2.2
  else none
  else none)
  else none
  else none)
  else none
  else none
  else some (w1, I) := (pm_seg pm_T_ct (pm_env X) [0, 4] 32 61 2 4 [some (.inr (.inr 3)), some (.inr (.inl w1)), none, some (.inl v3)] [] I).trans rfl
theorem e_T_twist (X : pm_XT) (v1 : Int) (v2 : Int) (I : pm_I) : f_T_twist X v1 v2 I =
  (f_T_isPoint X v1 I).bind (fun x1 =>
  if x1.1 = 0 then
  some ((-1), x1.2)
  else (f_T_isTurn X v2 x1.2).bind (fun x2 =>
  if x2.1 = 0 then
  some ((-1), x2.2)
  else (f_A_keep X x2.2).bind (fun x3 =>
  (f_B_shiftOnly X v1 v2 x3.2).bind (fun x4 =>
  (f_B_turnPoints X x4.2).bind (fun x5 =>
  some (x5.1, x5.2)))))) := (pm_seg pm_T_ct (pm_env X) [0] 26 62 2 0 [some (.inr (.inr 3)), some (.inl v1), some (.inl v2)] [] I).trans rfl
theorem e_T_still (X : pm_XT)  (I : pm_I) : f_T_still X  I =
  (f_A_keep X I).bind (fun x1 =>
  (f_B_shiftToStill X x1.2).bind (fun x2 =>
  (f_B_turnPoints X x2.2).bind (fun x3 =>
  some (x3.1, x3.2)))) := (pm_seg pm_T_ct (pm_env X) [0] 18 63 3 0 [some (.inr (.inr 3))] [] I).trans rfl
theorem e_T_undo (X : pm_XT)  (I : pm_I) : f_T_undo X  I =
  (f_A_giveBack X I).bind (fun x1 =>
  if x1.1 = 0 then
  some ((-4), x1.2)
  else some ((x1.2 43 0), x1.2)) := (pm_seg pm_T_ct (pm_env X) [0] 13 64 2 0 [some (.inr (.inr 3))] [] I).trans rfl
theorem e_T_tree (X : pm_XT) (v1 : Int) (I : pm_I) : f_T_tree X v1 I =
  (f_T_isLine X v1 I).bind (fun x1 =>
  if x1.1 = 0 then
  some ((-1), x1.2)
  else if 0 ≤ v1 ∧ v1 < 10 then
  if (x1.2 14 v1) = 0 then
  some (0, x1.2)
  else some (1, x1.2)
  else none) := (pm_seg pm_T_ct (pm_env X) [0] 14 65 1 0 [some (.inr (.inr 3)), some (.inl v1)] [] I).trans rfl
theorem e_T_sum (X : pm_XT)  (I : pm_I) : f_T_sum X  I =
  (f_T_isSpent X I).bind (fun x1 =>
  if x1.1 = 0 then
  (f_T_sumOfWeights X x1.2).bind (fun x2 =>
  some (x2.1, x2.2))
  else some ((-6), x1.2)) := (pm_seg pm_T_ct (pm_env X) [0] 7 66 16 0 [some (.inr (.inr 3))] [] I).trans rfl
theorem e_T_sumBy (X : pm_XT) (v1 : Int) (v2 : Int) (I : pm_I) : f_T_sumBy X v1 v2 I =
  (f_T_isClosedWalk X v1 I).bind (fun x1 =>
  if x1.1 = 0 then
  some ((-1), x1.2)
  else (f_T_isTurn X v2 x1.2).bind (fun x2 =>
  if x2.1 = 0 then
  some ((-1), x2.2)
  else (f_T_isSpent X x2.2).bind (fun x3 =>
  if x3.1 = 0 then
  (f_T_sumHeld X v1 v2 x3.2).bind (fun x4 =>
  some (x4.1, x4.2))
  else some ((-6), x3.2)))) := (pm_seg pm_T_ct (pm_env X) [0] 17 67 16 0 [some (.inr (.inr 3)), some (.inl v1), some (.inl v2)] [] I).trans rfl
theorem e_T_mean (X : pm_XT) (v1 : Int) (v2 : Int) (v3 : Int) (I : pm_I) : f_T_mean X v1 v2 v3 I =
  (f_T_isClosedWalk X v1 I).bind (fun x1 =>
  if x1.1 = 0 then
  some ((-1), x1.2)
  else (f_T_isTurn X v2 x1.2).bind (fun x2 =>
  if x2.1 = 0 then
  some ((-1), x2.2)
  else if v3 < 0 then
  some ((-1), x2.2)
  else if 1 < v3 then
  some ((-1), x2.2)
  else (f_T_isSpent X x2.2).bind (fun x3 =>
  if x3.1 = 0 then
  (f_T_sumOfWeights X x3.2).bind (fun x4 =>
  if 0 < x4.1 then
  (f_T_sumHeld X v1 v2 x4.2).bind (fun x5 =>
  (f_T_commonDivisor X x4.1 x5.1 x5.2).bind (fun x6 =>
  if 0 < x6.1 then
  if v3 = 0 then
  if 0 ≤ x5.1 ∧ 0 < x6.1 then
  some ((x5.1 / x6.1), x6.2)
  else none
  else if 0 ≤ x4.1 ∧ 0 < x6.1 then
  some ((x4.1 / x6.1), x6.2)
  else none
  else if x6.1 = 0 then
  some ((-2), x6.2)
  else if v3 = 0 then
  if 0 ≤ x5.1 ∧ 0 < x6.1 then
  some ((x5.1 / x6.1), x6.2)
  else none
  else if 0 ≤ x4.1 ∧ 0 < x6.1 then
  some ((x4.1 / x6.1), x6.2)
  else none))
  else if x4.1 = 0 then
  some ((-2), x4.2)
  else (f_T_sumHeld X v1 v2 x4.2).bind (fun x7 =>
  (f_T_commonDivisor X x4.1 x7.1 x7.2).bind (fun x8 =>
  if 0 < x8.1 then
  if v3 = 0 then
  if 0 ≤ x7.1 ∧ 0 < x8.1 then
  some ((x7.1 / x8.1), x8.2)
  else none
  else if 0 ≤ x4.1 ∧ 0 < x8.1 then
  some ((x4.1 / x8.1), x8.2)
  else none
  else if x8.1 = 0 then
  some ((-2), x8.2)
  else if v3 = 0 then
  if 0 ≤ x7.1 ∧ 0 < x8.1 then
  some ((x7.1 / x8.1), x8.2)
  else none
  else if 0 ≤ x4.1 ∧ 0 < x8.1 then
  some ((x4.1 / x8.1), x8.2)
  else none)))
  else some ((-6), x3.2)))) := (pm_seg pm_T_ct (pm_env X) [0] 44 68 16 0 [some (.inr (.inr 3)), some (.inl v1), some (.inl v2), some (.inl v3), none, none, none, none, none, none] [] I).trans rfl
theorem e_T_flat (X : pm_XT)  (I : pm_I) : f_T_flat X  I =
  (f_T_isSpent X I).bind (fun x1 =>
  if x1.1 = 0 then
  (f_U_clear X x1.2).bind (fun x2 =>
  f_T_flat_20 X 0 x2.2)
  else some ((-6), x1.2)) := (pm_seg pm_T_ct (pm_env X) [0, 20] 10 69 15 0 [some (.inr (.inr 3)), none] [] I).trans rfl
theorem e_T_flat_20 (X : pm_XT) (v1 : Int) (I : pm_I) : f_T_flat_20 X v1 I =
  if v1 < (I 3 3) then
  if 0 ≤ v1 ∧ v1 < 8 then
  bif Nat.beq (pm_kd (pm_R 18 (Int.toNat v1))) 5 then
  (f_W_weighs X (pm_R 18 (Int.toNat v1)) I).bind (fun x1 =>
  if x1.1 = 0 then
  if pm_r32 (v1 + 1) then
  f_T_flat_20 X (v1 + 1) x1.2
  else none
  else (f_U_lookForStill X v1 x1.2).bind (fun x2 =>
  if pm_r32 (v1 + 1) then
  f_T_flat_20 X (v1 + 1) x2.2
  else none))
  else none
  else none
  else (f_T_sumLooked X I).bind (fun x3 =>
  some (x3.1, x3.2)) := (pm_seg pm_T_ct (pm_env X) [0, 20] 18 69 15 20 [some (.inr (.inr 3)), some (.inl v1)] [] I).trans rfl
theorem e_T_sheet (X : pm_XT) (v1 : Int) (v2 : Int) (v3 : Int) (I : pm_I) : f_T_sheet X v1 v2 v3 I =
  (f_T_isSheet X v1 I).bind (fun x1 =>
  if x1.1 = 0 then
  some ((-1), x1.2)
  else (f_T_isLane X v2 x1.2).bind (fun x2 =>
  if x2.1 = 0 then
  some ((-1), x2.2)
  else if 64 < v3 then
  some ((-1), x2.2)
  else if v3 < 0 then
  some ((-14), x2.2)
  else if 0 ≤ v1 ∧ v1 < 4 then
  bif Nat.beq (pm_kd (pm_R 53 (Int.toNat v1))) 3 then
  (f_S_renew X (pm_R 53 (Int.toNat v1)) v2 v3 x2.2).bind (fun x3 =>
  some (1, x3.2))
  else none
  else none)) := (pm_seg pm_T_ct (pm_env X) [0] 21 70 1 0 [some (.inr (.inr 3)), some (.inl v1), some (.inl v2), some (.inl v3)] [] I).trans rfl
theorem e_T_lay (X : pm_XT) (v1 : Int) (v2 : Int) (v3 : Int) (I : pm_I) : f_T_lay X v1 v2 v3 I =
  (f_T_isSheet X v1 I).bind (fun x1 =>
  if x1.1 = 0 then
  some ((-1), x1.2)
  else if 0 ≤ v1 ∧ v1 < 4 then
  bif Nat.beq (pm_kd (pm_R 53 (Int.toNat v1))) 3 then
  if (x1.2 (pm_R 53 (Int.toNat v1)) 0) = 0 then
  some ((-11), x1.2)
  else bif Nat.beq (pm_kd (pm_R 53 (Int.toNat v1))) 3 then
  (f_S_hasCell X (pm_R 53 (Int.toNat v1)) v2 x1.2).bind (fun x2 =>
  if x2.1 = 0 then
  some ((-12), x2.2)
  else bif Nat.beq (pm_kd (pm_R 53 (Int.toNat v1))) 3 then
  (f_S_put X (pm_R 53 (Int.toNat v1)) v2 v3 x2.2).bind (fun x3 =>
  some (1, x3.2))
  else none)
  else none
  else none
  else none) := (pm_seg pm_T_ct (pm_env X) [0] 22 71 1 0 [some (.inr (.inr 3)), some (.inl v1), some (.inl v2), some (.inl v3), none] [] I).trans rfl
theorem e_T_fill (X : pm_XT) (v1 : Int) (v2 : Int) (v3 : Int) (I : pm_I) : f_T_fill X v1 v2 v3 I =
  (f_T_isSheet X v1 I).bind (fun x1 =>
  if x1.1 = 0 then
  some ((-1), x1.2)
  else (f_T_isLane X v2 x1.2).bind (fun x2 =>
  if x2.1 = 0 then
  some ((-1), x2.2)
  else if 0 ≤ v1 ∧ v1 < 4 then
  bif Nat.beq (pm_kd (pm_R 53 (Int.toNat v1))) 3 then
  (f_S_faultAs X (pm_R 53 (Int.toNat v1)) v2 x2.2).bind (fun x3 =>
  if x3.1 = 0 then
  (f_T_linesFault X (pm_R 53 (Int.toNat v1)) v3 x3.2).bind (fun x4 =>
  if x4.1 = 0 then
  (f_T_fillLines X (pm_R 53 (Int.toNat v1)) v3 x4.2).bind (fun x5 =>
  some (x5.1, x5.2))
  else some (x4.1, x4.2))
  else if x3.1 = 0 then
  (f_T_fillLines X (pm_R 53 (Int.toNat v1)) v3 x3.2).bind (fun x6 =>
  some (x6.1, x6.2))
  else some (x3.1, x3.2))
  else none
  else none)) := (pm_seg pm_T_ct (pm_env X) [0] 31 72 3 0 [some (.inr (.inr 3)), some (.inl v1), some (.inl v2), some (.inl v3), none, none] [] I).trans rfl
theorem e_T_many (X : pm_XT) (v1 : Int) (I : pm_I) : f_T_many X v1 I =
  if v1 = 0 then
  some ((I 10 0), I)
  else if v1 = 1 then
  some ((I 10 1), I)
  else if v1 = 2 then
  some ((I 3 3), I)
  else if v1 = 3 then
  (f_T_walksThatWeigh X I).bind (fun x1 =>
  some (x1.1, x1.2))
  else if v1 = 4 then
  if pm_r32 ((I 10 0) - (I 10 2)) then
  some (((I 10 0) - (I 10 2)), I)
  else none
  else if v1 = 5 then
  some ((I 10 2), I)
  else if v1 = 6 then
  some ((I 43 0), I)
  else if v1 = 7 then
  if (I 54 0) = 0 then
  some ((-4), I)
  else some ((I 54 1), I)
  else some ((-1), I) := (pm_seg pm_T_ct (pm_env X) [0] 16 73 3 0 [some (.inr (.inr 3)), some (.inl v1)] [] I).trans rfl
theorem e_T_isTurn (X : pm_XT) (v1 : Int) (I : pm_I) : f_T_isTurn X v1 I =
  if v1 < 0 then
  some (0, I)
  else if v1 < (I 4 0) then
  some (1, I)
  else some (0, I) := (pm_seg pm_T_ct (pm_env X) [0] 11 74 0 0 [some (.inr (.inr 3)), some (.inl v1)] [] I).trans rfl
theorem e_T_isPoint (X : pm_XT) (v1 : Int) (I : pm_I) : f_T_isPoint X v1 I =
  if v1 < 0 then
  some (0, I)
  else if v1 < (I 10 0) then
  some (1, I)
  else some (0, I) := (pm_seg pm_T_ct (pm_env X) [0] 11 75 0 0 [some (.inr (.inr 3)), some (.inl v1)] [] I).trans rfl
theorem e_T_isLine (X : pm_XT) (v1 : Int) (I : pm_I) : f_T_isLine X v1 I =
  if v1 < 0 then
  some (0, I)
  else if v1 < (I 10 1) then
  some (1, I)
  else some (0, I) := (pm_seg pm_T_ct (pm_env X) [0] 11 76 0 0 [some (.inr (.inr 3)), some (.inl v1)] [] I).trans rfl
theorem e_T_isWalk (X : pm_XT) (v1 : Int) (I : pm_I) : f_T_isWalk X v1 I =
  if v1 < 0 then
  some (0, I)
  else if v1 < (I 3 3) then
  some (1, I)
  else some (0, I) := (pm_seg pm_T_ct (pm_env X) [0] 10 77 0 0 [some (.inr (.inr 3)), some (.inl v1)] [] I).trans rfl
theorem e_T_isClosedWalk (X : pm_XT) (v1 : Int) (I : pm_I) : f_T_isClosedWalk X v1 I =
  (f_T_isWalk X v1 I).bind (fun x1 =>
  if x1.1 = 0 then
  some (0, x1.2)
  else if 0 ≤ v1 ∧ v1 < 8 then
  bif Nat.beq (pm_kd (pm_R 18 (Int.toNat v1))) 5 then
  (f_W_isClosed X (pm_R 18 (Int.toNat v1)) x1.2).bind (fun x2 =>
  if x2.1 = 0 then
  some (0, x2.2)
  else some (1, x2.2))
  else none
  else none) := (pm_seg pm_T_ct (pm_env X) [0] 14 78 1 0 [some (.inr (.inr 3)), some (.inl v1)] [] I).trans rfl
theorem e_T_isSheet (X : pm_XT) (v0 : Int) (I : pm_I) : f_T_isSheet X v0 I =
  if v0 < 0 then
  some (0, I)
  else if v0 < 4 then
  some (1, I)
  else some (0, I) := (pm_seg pm_T_ct (pm_env X) [0] 9 79 0 0 [some (.inl v0)] [] I).trans rfl
theorem e_T_isLane (X : pm_XT) (v0 : Int) (I : pm_I) : f_T_isLane X v0 I =
  if v0 < 0 then
  some (0, I)
  else if v0 < 3 then
  some (1, I)
  else some (0, I) := (pm_seg pm_T_ct (pm_env X) [0] 9 80 0 0 [some (.inl v0)] [] I).trans rfl
theorem e_T_walksThatWeigh (X : pm_XT)  (I : pm_I) : f_T_walksThatWeigh X  I =
  f_T_walksThatWeigh_4 X 0 0 I := (pm_seg pm_T_ct (pm_env X) [0, 4] 6 81 2 0 [some (.inr (.inr 3)), none, none] [] I).trans rfl
theorem e_T_walksThatWeigh_4 (X : pm_XT) (v1 : Int) (v2 : Int) (I : pm_I) : f_T_walksThatWeigh_4 X v1 v2 I =
  if v2 < (I 3 3) then
  if 0 ≤ v2 ∧ v2 < 8 then
  bif Nat.beq (pm_kd (pm_R 18 (Int.toNat v2))) 5 then
  (f_W_weighs X (pm_R 18 (Int.toNat v2)) I).bind (fun x1 =>
  if x1.1 = 0 then
  if pm_r32 (v2 + 1) then
  f_T_walksThatWeigh_4 X v1 (v2 + 1) x1.2
  else none
  else if pm_r32 (v1 + 1) then
  if pm_r32 (v2 + 1) then
  f_T_walksThatWeigh_4 X (v1 + 1) (v2 + 1) x1.2
  else none
  else none)
  else none
  else none
  else some (v1, I) := (pm_seg pm_T_ct (pm_env X) [0, 4] 15 81 2 4 [some (.inr (.inr 3)), some (.inl v1), some (.inl v2)] [] I).trans rfl
theorem e_T_takeDraft (X : pm_XT) (v1 : Int) (I : pm_I) : f_T_takeDraft X v1 I =
  (f_G_adopt X v1 I).bind (fun x1 =>
  (f_B_clearTurns X x1.2).bind (fun x2 =>
  (f_A_forget X x2.2).bind (fun x3 =>
  some (v1, x3.2)))) := (pm_seg pm_T_ct (pm_env X) [0] 13 82 3 0 [some (.inr (.inr 3)), some (.inl v1)] [] I).trans rfl
theorem e_T_draftFrom (X : pm_XT) (r1 : Nat) (v2 : Int) (v3 : Int) (I : pm_I) : f_T_draftFrom X r1 v2 v3 I =
  f_T_draftFrom_3 X r1 v2 v3 0 I := (pm_seg pm_T_ct (pm_env X) [0, 3, 12] 4 83 1 0 [some (.inr (.inr 3)), some (.inr (.inr r1)), some (.inl v2), some (.inl v3), none, none, none, none] [] I).trans rfl
theorem e_T_draftFrom_3 (X : pm_XT) (r1 : Nat) (v2 : Int) (v3 : Int) (v4 : Int) (I : pm_I) : f_T_draftFrom_3 X r1 v2 v3 v4 I =
  if v4 < v3 then
  f_T_draftFrom_12 X r1 v2 v3 v4 0 I
  else some (0, I) := (pm_seg pm_T_ct (pm_env X) [0, 3, 12] 7 83 1 3 [some (.inr (.inr 3)), some (.inr (.inr r1)), some (.inl v2), some (.inl v3), some (.inl v4), none, none, none] [] I).trans rfl
theorem e_T_draftFrom_12 (X : pm_XT) (r1 : Nat) (v2 : Int) (v3 : Int) (v4 : Int) (v5 : Int) (I : pm_I) : f_T_draftFrom_12 X r1 v2 v3 v4 v5 I =
  if v5 < v3 then
  if pm_r32 (v3 * v4) then
  if pm_r32 ((v3 * v4) + v5) then
  if pm_r32 (v2 + ((v3 * v4) + v5)) then
  bif Nat.beq (pm_kd r1) 3 then
  (f_S_hasCell X r1 (v2 + ((v3 * v4) + v5)) I).bind (fun x1 =>
  if x1.1 = 0 then
  some ((-12), x1.2)
  else bif Nat.beq (pm_kd r1) 3 then
  if pm_r32 (v2 + ((v3 * v4) + v5)) then
  bif Nat.beq (pm_kd (pm_R r1 3)) 8 then
  if 0 ≤ (v2 + ((v3 * v4) + v5)) ∧ (v2 + ((v3 * v4) + v5)) < pm_ln X.2 (pm_R r1 3) then
  if (x1.2 (pm_R r1 3) (v2 + ((v3 * v4) + v5))) < 0 then
  if pm_r32 ((-100) - ((v3 * v4) + v5)) then
  some (((-100) - ((v3 * v4) + v5)), x1.2)
  else none
  else if (x1.2 (pm_R r1 3) (v2 + ((v3 * v4) + v5))) < v3 then
  if pm_r32 (8 * v4) then
  if pm_r32 ((8 * v4) + v5) then
  if 0 ≤ ((8 * v4) + v5) ∧ ((8 * v4) + v5) < 64 then
  if pm_r32 (v5 + 1) then
  f_T_draftFrom_12 X r1 v2 v3 v4 (v5 + 1) (pm_up x1.2 5 ((8 * v4) + v5) (x1.2 (pm_R r1 3) (v2 + ((v3 * v4) + v5))))
  else none
  else none
  else none
  else none
  else if pm_r32 ((-100) - ((v3 * v4) + v5)) then
  some (((-100) - ((v3 * v4) + v5)), x1.2)
  else none
  else none
  else bif Nat.beq (pm_kd (pm_R r1 3)) 50 then
  if 0 ≤ (v2 + ((v3 * v4) + v5)) ∧ (v2 + ((v3 * v4) + v5)) < pm_ln X.2 (pm_R r1 3) then
  if (pm_xv X.1 (pm_R r1 3) (v2 + ((v3 * v4) + v5))) < 0 then
  if pm_r32 ((-100) - ((v3 * v4) + v5)) then
  some (((-100) - ((v3 * v4) + v5)), x1.2)
  else none
  else if (pm_xv X.1 (pm_R r1 3) (v2 + ((v3 * v4) + v5))) < v3 then
  if pm_r32 (8 * v4) then
  if pm_r32 ((8 * v4) + v5) then
  if 0 ≤ ((8 * v4) + v5) ∧ ((8 * v4) + v5) < 64 then
  if pm_r32 (v5 + 1) then
  f_T_draftFrom_12 X r1 v2 v3 v4 (v5 + 1) (pm_up x1.2 5 ((8 * v4) + v5) (pm_xv X.1 (pm_R r1 3) (v2 + ((v3 * v4) + v5))))
  else none
  else none
  else none
  else none
  else if pm_r32 ((-100) - ((v3 * v4) + v5)) then
  some (((-100) - ((v3 * v4) + v5)), x1.2)
  else none
  else none
  else none
  else none
  else none)
  else none
  else none
  else none
  else none
  else if pm_r32 (v4 + 1) then
  f_T_draftFrom_3 X r1 v2 v3 (v4 + 1) I
  else none := (pm_seg pm_T_ct (pm_env X) [0, 3, 12] 41 83 1 12 [some (.inr (.inr 3)), some (.inr (.inr r1)), some (.inl v2), some (.inl v3), some (.inl v4), some (.inl v5), none, none] [] I).trans rfl
theorem e_T_isSpent (X : pm_XT)  (I : pm_I) : f_T_isSpent X  I =
  f_T_isSpent_10 X 1 (I 10 2) I := (pm_seg pm_T_ct (pm_env X) [0, 10] 8 84 0 0 [some (.inr (.inr 3)), none, none, none] [] I).trans rfl
theorem e_T_isSpent_10 (X : pm_XT) (w1 : Int) (v3 : Int) (I : pm_I) : f_T_isSpent_10 X w1 v3 I =
  if v3 < (I 10 1) then
  if pm_r32 (v3 + 1) then
  f_T_isSpent_10 X (pm_w64 (w1 * (I 4 0))) (v3 + 1) I
  else none
  else if 40000 < w1 then
  some (1, I)
  else if w1 = 40000 then
  some (0, I)
  else some (0, I) := (pm_seg pm_T_ct (pm_env X) [0, 10] 16 84 0 10 [some (.inr (.inr 3)), some (.inr (.inl w1)), none, some (.inl v3)] [] I).trans rfl
theorem e_T_sumOfWeights (X : pm_XT)  (I : pm_I) : f_T_sumOfWeights X  I =
  (f_U_clear X I).bind (fun x1 =>
  (f_T_lookForWeights X x1.2).bind (fun x2 =>
  (f_T_sumLooked X x2.2).bind (fun x3 =>
  some (x3.1, x3.2)))) := (pm_seg pm_T_ct (pm_env X) [0] 9 85 15 0 [some (.inr (.inr 3))] [] I).trans rfl
theorem e_T_sumHeld (X : pm_XT) (v1 : Int) (v2 : Int) (I : pm_I) : f_T_sumHeld X v1 v2 I =
  (f_U_clear X I).bind (fun x1 =>
  (f_T_lookForWeights X x1.2).bind (fun x2 =>
  (f_U_lookForClass X v1 v2 x2.2).bind (fun x3 =>
  (f_T_sumLooked X x3.2).bind (fun x4 =>
  some (x4.1, x4.2))))) := (pm_seg pm_T_ct (pm_env X) [0] 16 86 15 0 [some (.inr (.inr 3)), some (.inl v1), some (.inl v2)] [] I).trans rfl
theorem e_T_lookForWeights (X : pm_XT)  (I : pm_I) : f_T_lookForWeights X  I =
  f_T_lookForWeights_2 X 0 I := (pm_seg pm_T_ct (pm_env X) [0, 2] 4 87 2 0 [some (.inr (.inr 3)), none] [] I).trans rfl
theorem e_T_lookForWeights_2 (X : pm_XT) (v1 : Int) (I : pm_I) : f_T_lookForWeights_2 X v1 I =
  if v1 < (I 3 3) then
  if 0 ≤ v1 ∧ v1 < 8 then
  bif Nat.beq (pm_kd (pm_R 18 (Int.toNat v1))) 5 then
  (f_W_weighs X (pm_R 18 (Int.toNat v1)) I).bind (fun x1 =>
  if x1.1 = 0 then
  if pm_r32 (v1 + 1) then
  f_T_lookForWeights_2 X (v1 + 1) x1.2
  else none
  else (f_U_lookForWorth X v1 x1.2).bind (fun x2 =>
  if pm_r32 (v1 + 1) then
  f_T_lookForWeights_2 X (v1 + 1) x2.2
  else none))
  else none
  else none
  else some (0, I) := (pm_seg pm_T_ct (pm_env X) [0, 2] 20 87 2 2 [some (.inr (.inr 3)), some (.inl v1)] [] I).trans rfl
theorem e_T_sumLooked (X : pm_XT)  (I : pm_I) : f_T_sumLooked X  I =
  (f_U_markLines X I).bind (fun x1 =>
  (f_U_sumFrom X (3 + (10 - 0).toNat) 0 1 (x1.2 10 1) x1.2).bind (fun x2 =>
  some (x2.1, x2.2))) := (pm_seg pm_T_ct (pm_env X) [0] 21 88 14 0 [some (.inr (.inr 3))] [] I).trans rfl
theorem e_T_commonDivisor (X : pm_XT) (w0 : Int) (w2 : Int) (I : pm_I) : f_T_commonDivisor X w0 w2 I =
  f_T_commonDivisor_9 X w0 w2 0 I := (pm_seg pm_T_ct (pm_env X) [0, 9] 8 89 0 0 [some (.inr (.inl w0)), none, some (.inr (.inl w2)), none, none, none, none, none, none, none, none] [] I).trans rfl
theorem e_T_commonDivisor_9 (X : pm_XT) (w4 : Int) (w6 : Int) (v8 : Int) (I : pm_I) : f_T_commonDivisor_9 X w4 w6 v8 I =
  if v8 < 200 then
  if 0 < w6 then
  if 0 ≤ w4 ∧ 0 < w6 then
  if pm_r32 (v8 + 1) then
  f_T_commonDivisor_9 X w6 (w4 % w6) (v8 + 1) I
  else none
  else none
  else if w6 = 0 then
  some (w4, I)
  else if 0 ≤ w4 ∧ 0 < w6 then
  if pm_r32 (v8 + 1) then
  f_T_commonDivisor_9 X w6 (w4 % w6) (v8 + 1) I
  else none
  else none
  else some (w4, I) := (pm_seg pm_T_ct (pm_env X) [0, 9] 19 89 0 9 [none, none, none, none, some (.inr (.inl w4)), none, some (.inr (.inl w6)), none, some (.inl v8), none, none] [] I).trans rfl
theorem e_T_linesFault (X : pm_XT) (r1 : Nat) (v2 : Int) (I : pm_I) : f_T_linesFault X r1 v2 I =
  f_T_linesFault_2 X r1 v2 0 I := (pm_seg pm_T_ct (pm_env X) [0, 2] 4 90 1 0 [some (.inr (.inr 3)), some (.inr (.inr r1)), some (.inl v2), none] [] I).trans rfl
theorem e_T_linesFault_2 (X : pm_XT) (r1 : Nat) (v2 : Int) (v3 : Int) (I : pm_I) : f_T_linesFault_2 X r1 v2 v3 I =
  if v3 < (I 10 1) then
  if pm_r32 (v2 + v3) then
  bif Nat.beq (pm_kd r1) 3 then
  (f_S_hasCell X r1 (v2 + v3) I).bind (fun x1 =>
  if x1.1 = 0 then
  some ((-12), x1.2)
  else bif Nat.beq (pm_kd r1) 3 then
  if pm_r32 (v2 + v3) then
  bif Nat.beq (pm_kd (pm_R r1 3)) 8 then
  if 0 ≤ (v2 + v3) ∧ (v2 + v3) < pm_ln X.2 (pm_R r1 3) then
  (f_T_isTurn X (x1.2 (pm_R r1 3) (v2 + v3)) x1.2).bind (fun x2 =>
  if x2.1 = 0 then
  if pm_r32 ((-20) - v3) then
  some (((-20) - v3), x2.2)
  else none
  else if pm_r32 (v3 + 1) then
  f_T_linesFault_2 X r1 v2 (v3 + 1) x2.2
  else none)
  else none
  else bif Nat.beq (pm_kd (pm_R r1 3)) 50 then
  if 0 ≤ (v2 + v3) ∧ (v2 + v3) < pm_ln X.2 (pm_R r1 3) then
  (f_T_isTurn X (pm_xv X.1 (pm_R r1 3) (v2 + v3)) x1.2).bind (fun x3 =>
  if x3.1 = 0 then
  if pm_r32 ((-20) - v3) then
  some (((-20) - v3), x3.2)
  else none
  else if pm_r32 (v3 + 1) then
  f_T_linesFault_2 X r1 v2 (v3 + 1) x3.2
  else none)
  else none
  else none
  else none
  else none)
  else none
  else none
  else some (0, I) := (pm_seg pm_T_ct (pm_env X) [0, 2] 25 90 1 2 [some (.inr (.inr 3)), some (.inr (.inr r1)), some (.inl v2), some (.inl v3)] [] I).trans rfl
theorem e_T_fillLines (X : pm_XT) (r1 : Nat) (v2 : Int) (I : pm_I) : f_T_fillLines X r1 v2 I =
  f_T_fillLines_5 X r1 v2 0 0 I := (pm_seg pm_T_ct (pm_env X) [0, 5] 6 91 2 0 [some (.inr (.inr 3)), some (.inr (.inr r1)), some (.inl v2), none, none, none] [] I).trans rfl
theorem e_T_fillLines_5 (X : pm_XT) (r1 : Nat) (v2 : Int) (v3 : Int) (v4 : Int) (I : pm_I) : f_T_fillLines_5 X r1 v2 v3 v4 I =
  if v4 < (I 10 1) then
  bif Nat.beq (pm_kd r1) 3 then
  if pm_r32 (v2 + v4) then
  bif Nat.beq (pm_kd (pm_R r1 3)) 8 then
  if 0 ≤ (v2 + v4) ∧ (v2 + v4) < pm_ln X.2 (pm_R r1 3) then
  if 0 ≤ v4 ∧ v4 < 10 then
  if (I (pm_R r1 3) (v2 + v4)) = (I 13 v4) then
  if pm_r32 (v4 + 1) then
  f_T_fillLines_5 X r1 v2 v3 (v4 + 1) I
  else none
  else (f_A_keep X I).bind (fun x1 =>
  if 0 ≤ v4 ∧ v4 < 10 then
  if pm_r32 (v3 + 1) then
  if pm_r32 (v4 + 1) then
  f_T_fillLines_5 X r1 v2 (v3 + 1) (v4 + 1) (pm_up x1.2 13 v4 (I (pm_R r1 3) (v2 + v4)))
  else none
  else none
  else none)
  else none
  else none
  else bif Nat.beq (pm_kd (pm_R r1 3)) 50 then
  if 0 ≤ (v2 + v4) ∧ (v2 + v4) < pm_ln X.2 (pm_R r1 3) then
  if 0 ≤ v4 ∧ v4 < 10 then
  if (pm_xv X.1 (pm_R r1 3) (v2 + v4)) = (I 13 v4) then
  if pm_r32 (v4 + 1) then
  f_T_fillLines_5 X r1 v2 v3 (v4 + 1) I
  else none
  else (f_A_keep X I).bind (fun x2 =>
  if 0 ≤ v4 ∧ v4 < 10 then
  if pm_r32 (v3 + 1) then
  if pm_r32 (v4 + 1) then
  f_T_fillLines_5 X r1 v2 (v3 + 1) (v4 + 1) (pm_up x2.2 13 v4 (pm_xv X.1 (pm_R r1 3) (v2 + v4)))
  else none
  else none
  else none)
  else none
  else none
  else none
  else none
  else none
  else some (v3, I) := (pm_seg pm_T_ct (pm_env X) [0, 5] 36 91 2 5 [some (.inr (.inr 3)), some (.inr (.inr r1)), some (.inl v2), some (.inl v3), some (.inl v4), none] [] I).trans rfl
theorem e_M_in (X : pm_XT) (w0 : Int) (w2 : Int) (w4 : Int) (I : pm_I) : f_M_in X w0 w2 w4 I =
  if w2 < w0 then
  if w4 < w0 then
  some (0, I)
  else if w0 = w4 then
  some (1, I)
  else some (1, I)
  else if w0 = w2 then
  if w4 < w0 then
  some (0, I)
  else if w0 = w4 then
  some (1, I)
  else some (1, I)
  else some (0, I) := (pm_seg pm_T_ct (pm_env X) [0] 12 92 0 0 [some (.inr (.inl w0)), none, some (.inr (.inl w2)), none, some (.inr (.inl w4)), none] [] I).trans rfl
theorem e_M_isTurn (X : pm_XT) (v1 : Int) (I : pm_I) : f_M_isTurn X v1 I =
  if pm_r32 ((I 77 0) - 1) then
  (f_M_in X v1 0 ((I 77 0) - 1) I).bind (fun x1 =>
  if x1.1 = 0 ∨ x1.1 = 1 then some (x1.1, x1.2) else none)
  else none := (pm_seg pm_T_ct (pm_env X) [0] 11 93 1 0 [some (.inr (.inr 77)), some (.inl v1)] [] I).trans rfl
theorem e_M_product (X : pm_XT) (v1 : Int) (v2 : Int) (I : pm_I) : f_M_product X v1 v2 I =
  if pm_r32 (8 * v1) then
  if pm_r32 ((8 * v1) + v2) then
  if 0 ≤ ((8 * v1) + v2) ∧ ((8 * v1) + v2) < 64 then
  some ((I 78 ((8 * v1) + v2)), I)
  else none
  else none
  else none := (pm_seg pm_T_ct (pm_env X) [0] 10 94 0 0 [some (.inr (.inr 77)), some (.inl v1), some (.inl v2)] [] I).trans rfl
theorem e_M_backOf (X : pm_XT) (v1 : Int) (I : pm_I) : f_M_backOf X v1 I =
  f_M_backOf_2 X v1 0 I := (pm_seg pm_T_ct (pm_env X) [0, 2] 4 95 1 0 [some (.inr (.inr 77)), some (.inl v1), none] [] I).trans rfl
theorem e_M_backOf_2 (X : pm_XT) (v1 : Int) (v2 : Int) (I : pm_I) : f_M_backOf_2 X v1 v2 I =
  (f_M_product X v1 v2 I).bind (fun x1 =>
  if x1.1 = 0 then
  some (v2, x1.2)
  else if pm_r32 (v2 + 1) then
  f_M_backOf_2 X v1 (v2 + 1) x1.2
  else none) := (pm_seg pm_T_ct (pm_env X) [0, 2] 9 95 1 2 [some (.inr (.inr 77)), some (.inl v1), some (.inl v2)] [] I).trans rfl
theorem e_M_begin (X : pm_XT) (v1 : Int) (I : pm_I) : f_M_begin X v1 I =
  f_M_begin_12 X 0 (pm_up (pm_up I 77 0 v1) 77 14 0) := (pm_seg pm_T_ct (pm_env X) [0, 12, 33] 10 96 0 0 [some (.inr (.inr 77)), some (.inl v1), none] [] I).trans rfl
theorem e_M_begin_12 (X : pm_XT) (v2 : Int) (I : pm_I) : f_M_begin_12 X v2 I =
  if v2 < 10 then
  if 0 ≤ v2 ∧ v2 < 10 then
  if pm_r32 (v2 + 1) then
  f_M_begin_12 X (v2 + 1) (pm_up I 82 v2 0)
  else none
  else none
  else f_M_begin_33 X 0 I := (pm_seg pm_T_ct (pm_env X) [0, 12, 33] 12 96 0 12 [some (.inr (.inr 77)), none, some (.inl v2)] [] I).trans rfl
theorem e_M_begin_33 (X : pm_XT) (v2 : Int) (I : pm_I) : f_M_begin_33 X v2 I =
  if v2 < 8 then
  if 0 ≤ v2 ∧ v2 < 8 then
  if pm_r32 (v2 + 1) then
  f_M_begin_33 X (v2 + 1) (pm_up I 79 v2 1)
  else none
  else none
  else some (0, I) := (pm_seg pm_T_ct (pm_env X) [0, 12, 33] 12 96 0 33 [some (.inr (.inr 77)), none, some (.inl v2)] [] I).trans rfl
theorem e_M_crossed (X : pm_XT) (v0 : Int) (v1 : Int) (I : pm_I) : f_M_crossed X v0 v1 I =
  if 0 ≤ v0 ∧ 0 < 4 then
  if 0 ≤ v1 ∧ 0 < 4 then
  if 0 ≤ v0 ∧ 0 < 4 then
  if 0 ≤ v1 ∧ 0 < 4 then
  if pm_r32 ((v0 / 4) + (v1 / 4)) then
  if (v0 % 4) = 0 then
  if pm_r32 ((v0 % 4) + (v1 % 4)) then
  if 0 ≤ ((v0 / 4) + (v1 / 4)) ∧ 0 < 2 then
  if pm_r32 (4 * (((v0 / 4) + (v1 / 4)) % 2)) then
  if pm_r32 (((v0 % 4) + (v1 % 4)) + (4 * (((v0 / 4) + (v1 / 4)) % 2))) then
  some ((((v0 % 4) + (v1 % 4)) + (4 * (((v0 / 4) + (v1 / 4)) % 2))), I)
  else none
  else none
  else none
  else none
  else if (v1 % 4) = 0 then
  if pm_r32 ((v0 % 4) + (v1 % 4)) then
  if 0 ≤ ((v0 / 4) + (v1 / 4)) ∧ 0 < 2 then
  if pm_r32 (4 * (((v0 / 4) + (v1 / 4)) % 2)) then
  if pm_r32 (((v0 % 4) + (v1 % 4)) + (4 * (((v0 / 4) + (v1 / 4)) % 2))) then
  some ((((v0 % 4) + (v1 % 4)) + (4 * (((v0 / 4) + (v1 / 4)) % 2))), I)
  else none
  else none
  else none
  else none
  else if (v0 % 4) = (v1 % 4) then
  if pm_r32 (((v0 / 4) + (v1 / 4)) + 1) then
  if 0 ≤ (((v0 / 4) + (v1 / 4)) + 1) ∧ 0 < 2 then
  if pm_r32 (4 * ((((v0 / 4) + (v1 / 4)) + 1) % 2)) then
  if pm_r32 (0 + (4 * ((((v0 / 4) + (v1 / 4)) + 1) % 2))) then
  some ((0 + (4 * ((((v0 / 4) + (v1 / 4)) + 1) % 2))), I)
  else none
  else none
  else none
  else none
  else if pm_r32 (6 - (v0 % 4)) then
  if pm_r32 ((6 - (v0 % 4)) - (v1 % 4)) then
  if 0 ≤ (v0 % 4) ∧ 0 < 3 then
  if pm_r32 (((v0 % 4) % 3) + 1) then
  if (v1 % 4) = (((v0 % 4) % 3) + 1) then
  if pm_r32 (((v0 / 4) + (v1 / 4)) + 0) then
  if 0 ≤ (((v0 / 4) + (v1 / 4)) + 0) ∧ 0 < 2 then
  if pm_r32 (4 * ((((v0 / 4) + (v1 / 4)) + 0) % 2)) then
  if pm_r32 (((6 - (v0 % 4)) - (v1 % 4)) + (4 * ((((v0 / 4) + (v1 / 4)) + 0) % 2))) then
  some ((((6 - (v0 % 4)) - (v1 % 4)) + (4 * ((((v0 / 4) + (v1 / 4)) + 0) % 2))), I)
  else none
  else none
  else none
  else none
  else if pm_r32 (((v0 / 4) + (v1 / 4)) + 1) then
  if 0 ≤ (((v0 / 4) + (v1 / 4)) + 1) ∧ 0 < 2 then
  if pm_r32 (4 * ((((v0 / 4) + (v1 / 4)) + 1) % 2)) then
  if pm_r32 (((6 - (v0 % 4)) - (v1 % 4)) + (4 * ((((v0 / 4) + (v1 / 4)) + 1) % 2))) then
  some ((((6 - (v0 % 4)) - (v1 % 4)) + (4 * ((((v0 / 4) + (v1 / 4)) + 1) % 2))), I)
  else none
  else none
  else none
  else none
  else none
  else none
  else none
  else none
  else none
  else none
  else none
  else none
  else none := (pm_seg pm_T_ct (pm_env X) [0] 50 97 0 0 [some (.inl v0), some (.inl v1), none, none, none, none] [] I).trans rfl
theorem e_M_group (X : pm_XT) (v1 : Int) (v2 : Int) (I : pm_I) : f_M_group X v1 v2 I =
  if v1 = 0 then
  (f_M_in X v2 1 8 I).bind (fun x1 =>
  if x1.1 = 0 then
  some ((-1), x1.2)
  else if v1 = 1 then
  if pm_r32 (2 * v2) then
  f_M_group_79 X v1 v2 (2 * v2) 0 x1.2
  else none
  else f_M_group_79 X v1 v2 v2 0 x1.2)
  else if v1 = 1 then
  if v2 = 3 then
  if v1 = 1 then
  if pm_r32 (2 * v2) then
  f_M_group_79 X v1 v2 (2 * v2) 0 I
  else none
  else f_M_group_79 X v1 v2 v2 0 I
  else if v2 = 4 then
  if v1 = 1 then
  if pm_r32 (2 * v2) then
  f_M_group_79 X v1 v2 (2 * v2) 0 I
  else none
  else f_M_group_79 X v1 v2 v2 0 I
  else some ((-1), I)
  else if v1 = 2 then
  if v2 = 8 then
  if v1 = 1 then
  if pm_r32 (2 * v2) then
  f_M_group_79 X v1 v2 (2 * v2) 0 I
  else none
  else f_M_group_79 X v1 v2 v2 0 I
  else some ((-1), I)
  else some ((-1), I) := (pm_seg pm_T_ct (pm_env X) [0, 79, 89] 28 98 1 0 [some (.inr (.inr 77)), some (.inl v1), some (.inl v2), none, none, none, none, none, none] [] I).trans rfl
theorem e_M_group_79 (X : pm_XT) (v1 : Int) (v2 : Int) (v4 : Int) (v5 : Int) (I : pm_I) : f_M_group_79 X v1 v2 v4 v5 I =
  if v5 < v4 then
  f_M_group_89 X v1 v2 v4 v5 0 I
  else (f_M_begin X v4 I).bind (fun x1 =>
  some (v4, x1.2)) := (pm_seg pm_T_ct (pm_env X) [0, 79, 89] 9 98 1 79 [some (.inr (.inr 77)), some (.inl v1), some (.inl v2), none, some (.inl v4), some (.inl v5), none, none, none] [] I).trans rfl
theorem e_M_group_89 (X : pm_XT) (v1 : Int) (v2 : Int) (v4 : Int) (v5 : Int) (v6 : Int) (I : pm_I) : f_M_group_89 X v1 v2 v4 v5 v6 I =
  if v6 < v4 then
  if v1 = 0 then
  if pm_r32 (v5 + v6) then
  if 0 ≤ (v5 + v6) ∧ 0 < v2 then
  if pm_r32 (8 * v5) then
  if pm_r32 ((8 * v5) + v6) then
  if 0 ≤ ((8 * v5) + v6) ∧ ((8 * v5) + v6) < 64 then
  if pm_r32 (v6 + 1) then
  f_M_group_89 X v1 v2 v4 v5 (v6 + 1) (pm_up I 78 ((8 * v5) + v6) ((v5 + v6) % v2))
  else none
  else none
  else none
  else none
  else none
  else none
  else if v1 = 1 then
  if v5 < v2 then
  if 0 ≤ v6 ∧ 0 < v2 then
  if pm_r32 (v5 + (v6 % v2)) then
  if 0 ≤ (v5 + (v6 % v2)) ∧ 0 < v2 then
  if v5 < v2 then
  if v6 < v2 then
  if pm_r32 (((v5 + (v6 % v2)) % v2) + 0) then
  if pm_r32 (8 * v5) then
  if pm_r32 ((8 * v5) + v6) then
  if 0 ≤ ((8 * v5) + v6) ∧ ((8 * v5) + v6) < 64 then
  if pm_r32 (v6 + 1) then
  f_M_group_89 X v1 v2 v4 v5 (v6 + 1) (pm_up I 78 ((8 * v5) + v6) (((v5 + (v6 % v2)) % v2) + 0))
  else none
  else none
  else none
  else none
  else none
  else if pm_r32 (((v5 + (v6 % v2)) % v2) + v2) then
  if pm_r32 (8 * v5) then
  if pm_r32 ((8 * v5) + v6) then
  if 0 ≤ ((8 * v5) + v6) ∧ ((8 * v5) + v6) < 64 then
  if pm_r32 (v6 + 1) then
  f_M_group_89 X v1 v2 v4 v5 (v6 + 1) (pm_up I 78 ((8 * v5) + v6) (((v5 + (v6 % v2)) % v2) + v2))
  else none
  else none
  else none
  else none
  else none
  else if v6 < v2 then
  if pm_r32 (((v5 + (v6 % v2)) % v2) + v2) then
  if pm_r32 (8 * v5) then
  if pm_r32 ((8 * v5) + v6) then
  if 0 ≤ ((8 * v5) + v6) ∧ ((8 * v5) + v6) < 64 then
  if pm_r32 (v6 + 1) then
  f_M_group_89 X v1 v2 v4 v5 (v6 + 1) (pm_up I 78 ((8 * v5) + v6) (((v5 + (v6 % v2)) % v2) + v2))
  else none
  else none
  else none
  else none
  else none
  else if pm_r32 (((v5 + (v6 % v2)) % v2) + 0) then
  if pm_r32 (8 * v5) then
  if pm_r32 ((8 * v5) + v6) then
  if 0 ≤ ((8 * v5) + v6) ∧ ((8 * v5) + v6) < 64 then
  if pm_r32 (v6 + 1) then
  f_M_group_89 X v1 v2 v4 v5 (v6 + 1) (pm_up I 78 ((8 * v5) + v6) (((v5 + (v6 % v2)) % v2) + 0))
  else none
  else none
  else none
  else none
  else none
  else none
  else none
  else none
  else if pm_r32 (v5 - v2) then
  if pm_r32 ((v5 - v2) + v2) then
  if 0 ≤ v6 ∧ 0 < v2 then
  if pm_r32 (((v5 - v2) + v2) - (v6 % v2)) then
  if 0 ≤ (((v5 - v2) + v2) - (v6 % v2)) ∧ 0 < v2 then
  if v5 < v2 then
  if v6 < v2 then
  if pm_r32 (((((v5 - v2) + v2) - (v6 % v2)) % v2) + 0) then
  if pm_r32 (8 * v5) then
  if pm_r32 ((8 * v5) + v6) then
  if 0 ≤ ((8 * v5) + v6) ∧ ((8 * v5) + v6) < 64 then
  if pm_r32 (v6 + 1) then
  f_M_group_89 X v1 v2 v4 v5 (v6 + 1) (pm_up I 78 ((8 * v5) + v6) (((((v5 - v2) + v2) - (v6 % v2)) % v2) + 0))
  else none
  else none
  else none
  else none
  else none
  else if pm_r32 (((((v5 - v2) + v2) - (v6 % v2)) % v2) + v2) then
  if pm_r32 (8 * v5) then
  if pm_r32 ((8 * v5) + v6) then
  if 0 ≤ ((8 * v5) + v6) ∧ ((8 * v5) + v6) < 64 then
  if pm_r32 (v6 + 1) then
  f_M_group_89 X v1 v2 v4 v5 (v6 + 1) (pm_up I 78 ((8 * v5) + v6) (((((v5 - v2) + v2) - (v6 % v2)) % v2) + v2))
  else none
  else none
  else none
  else none
  else none
  else if v6 < v2 then
  if pm_r32 (((((v5 - v2) + v2) - (v6 % v2)) % v2) + v2) then
  if pm_r32 (8 * v5) then
  if pm_r32 ((8 * v5) + v6) then
  if 0 ≤ ((8 * v5) + v6) ∧ ((8 * v5) + v6) < 64 then
  if pm_r32 (v6 + 1) then
  f_M_group_89 X v1 v2 v4 v5 (v6 + 1) (pm_up I 78 ((8 * v5) + v6) (((((v5 - v2) + v2) - (v6 % v2)) % v2) + v2))
  else none
  else none
  else none
  else none
  else none
  else if pm_r32 (((((v5 - v2) + v2) - (v6 % v2)) % v2) + 0) then
  if pm_r32 (8 * v5) then
  if pm_r32 ((8 * v5) + v6) then
  if 0 ≤ ((8 * v5) + v6) ∧ ((8 * v5) + v6) < 64 then
  if pm_r32 (v6 + 1) then
  f_M_group_89 X v1 v2 v4 v5 (v6 + 1) (pm_up I 78 ((8 * v5) + v6) (((((v5 - v2) + v2) - (v6 % v2)) % v2) + 0))
  else none
  else none
  else none
  else none
  else none
  else none
  else none
  else none
  else none
  else none
  else (f_M_crossed X v5 v6 I).bind (fun x1 =>
  if pm_r32 (8 * v5) then
  if pm_r32 ((8 * v5) + v6) then
  if 0 ≤ ((8 * v5) + v6) ∧ ((8 * v5) + v6) < 64 then
  if pm_r32 (v6 + 1) then
  f_M_group_89 X v1 v2 v4 v5 (v6 + 1) (pm_up x1.2 78 ((8 * v5) + v6) x1.1)
  else none
  else none
  else none
  else none)
  else if pm_r32 (v5 + 1) then
  f_M_group_79 X v1 v2 v4 (v5 + 1) I
  else none := (pm_seg pm_T_ct (pm_env X) [0, 79, 89] 53 98 1 89 [some (.inr (.inr 77)), some (.inl v1), some (.inl v2), none, some (.inl v4), some (.inl v5), some (.inl v6), none, none] [] I).trans rfl
theorem e_M_sheet (X : pm_XT) (v1 : Int) (v2 : Int) (v3 : Int) (I : pm_I) : f_M_sheet X v1 v2 v3 I =
  (f_M_in X v1 0 3 I).bind (fun x1 =>
  if x1.1 = 0 then
  some ((-1), x1.2)
  else (f_M_in X v2 0 2 x1.2).bind (fun x2 =>
  if x2.1 = 0 then
  some ((-1), x2.2)
  else if 64 < v3 then
  some ((-1), x2.2)
  else if v3 < 0 then
  some ((-14), x2.2)
  else if 0 ≤ v1 ∧ v1 < 4 then
  if 0 ≤ v1 ∧ v1 < 4 then
  f_M_sheet_56 X v1 0 (pm_up (pm_up x2.2 89 v1 v2) 90 v1 v3)
  else none
  else none)) := (pm_seg pm_T_ct (pm_env X) [0, 56] 31 99 1 0 [some (.inr (.inr 77)), some (.inl v1), some (.inl v2), some (.inl v3), none] [] I).trans rfl
theorem e_M_sheet_56 (X : pm_XT) (v1 : Int) (v4 : Int) (I : pm_I) : f_M_sheet_56 X v1 v4 I =
  if v4 < 64 then
  if pm_r32 (64 * v1) then
  if pm_r32 ((64 * v1) + v4) then
  if 0 ≤ ((64 * v1) + v4) ∧ ((64 * v1) + v4) < 256 then
  if pm_r32 (v4 + 1) then
  f_M_sheet_56 X v1 (v4 + 1) (pm_up I 91 ((64 * v1) + v4) 0)
  else none
  else none
  else none
  else none
  else some (1, I) := (pm_seg pm_T_ct (pm_env X) [0, 56] 16 99 1 56 [some (.inr (.inr 77)), some (.inl v1), none, none, some (.inl v4)] [] I).trans rfl
theorem e_M_lay (X : pm_XT) (v1 : Int) (v2 : Int) (v3 : Int) (I : pm_I) : f_M_lay X v1 v2 v3 I =
  (f_M_in X v1 0 3 I).bind (fun x1 =>
  if x1.1 = 0 then
  some ((-1), x1.2)
  else if 0 ≤ v1 ∧ v1 < 4 then
  if (x1.2 89 v1) = (-4) then
  some ((-11), x1.2)
  else if 0 ≤ v1 ∧ v1 < 4 then
  if pm_r32 ((x1.2 90 v1) - 1) then
  (f_M_in X v2 0 ((x1.2 90 v1) - 1) x1.2).bind (fun x2 =>
  if x2.1 = 0 then
  some ((-12), x2.2)
  else if pm_r32 (64 * v1) then
  if pm_r32 ((64 * v1) + v2) then
  if 0 ≤ v1 ∧ v1 < 4 then
  if (x2.2 89 v1) = 0 then
  if 0 ≤ ((64 * v1) + v2) ∧ ((64 * v1) + v2) < 256 then
  some (1, (pm_up x2.2 91 ((64 * v1) + v2) (pm_shr (pm_shl v3 24) 24)))
  else none
  else if 0 ≤ v1 ∧ v1 < 4 then
  if (x2.2 89 v1) = 1 then
  if 0 ≤ ((64 * v1) + v2) ∧ ((64 * v1) + v2) < 256 then
  some (1, (pm_up x2.2 91 ((64 * v1) + v2) (pm_shr (pm_shl v3 16) 16)))
  else none
  else if 0 ≤ ((64 * v1) + v2) ∧ ((64 * v1) + v2) < 256 then
  some (1, (pm_up x2.2 91 ((64 * v1) + v2) v3))
  else none
  else none
  else none
  else none
  else none)
  else none
  else none
  else none) := (pm_seg pm_T_ct (pm_env X) [0] 52 100 1 0 [some (.inr (.inr 77)), some (.inl v1), some (.inl v2), some (.inl v3)] [] I).trans rfl
theorem e_M_read (X : pm_XT) (v1 : Int) (v2 : Int) (v3 : Int) (v4 : Int) (I : pm_I) : f_M_read X v1 v2 v3 v4 I =
  (f_M_in X v1 0 3 I).bind (fun x1 =>
  if x1.1 = 0 then
  some ((-1), x1.2)
  else (f_M_in X v2 0 2 x1.2).bind (fun x2 =>
  if x2.1 = 0 then
  some ((-1), x2.2)
  else (f_M_in X v4 1 8 x2.2).bind (fun x3 =>
  if x3.1 = 0 then
  some ((-1), x3.2)
  else if 0 ≤ v1 ∧ v1 < 4 then
  if (x3.2 89 v1) = v2 then
  f_M_read_71 X v1 v3 v4 0 x3.2
  else if 0 ≤ v1 ∧ v1 < 4 then
  if (x3.2 89 v1) = (-4) then
  some ((-11), x3.2)
  else some ((-13), x3.2)
  else none
  else none))) := (pm_seg pm_T_ct (pm_env X) [0, 71, 173, 223, 236, 314, 324, 334, 432] 34 101 1 0 [some (.inr (.inr 77)), some (.inl v1), some (.inl v2), some (.inl v3), some (.inl v4), none, none, none] [] I).trans rfl
theorem e_M_read_71 (X : pm_XT) (v1 : Int) (v3 : Int) (v4 : Int) (v5 : Int) (I : pm_I) : f_M_read_71 X v1 v3 v4 v5 I =
  if pm_r32 (v4 * v4) then
  if v5 < (v4 * v4) then
  if 0 ≤ v1 ∧ v1 < 4 then
  if pm_r32 ((I 90 v1) - 1) then
  (f_M_in X (pm_w64 (v3 + v5)) 0 ((I 90 v1) - 1) I).bind (fun x1 =>
  if x1.1 = 0 then
  some ((-12), x1.2)
  else if pm_r32 (64 * v1) then
  if pm_r32 ((64 * v1) + v3) then
  if pm_r32 (((64 * v1) + v3) + v5) then
  if 0 ≤ (((64 * v1) + v3) + v5) ∧ (((64 * v1) + v3) + v5) < 256 then
  if pm_r32 (v4 - 1) then
  (f_M_in X (x1.2 91 (((64 * v1) + v3) + v5)) 0 (v4 - 1) x1.2).bind (fun x2 =>
  if x2.1 = 0 then
  if pm_r32 ((-100) - v5) then
  some (((-100) - v5), x2.2)
  else none
  else if 0 ≤ v5 ∧ 0 < v4 then
  if pm_r32 (8 * (v5 / v4)) then
  if 0 ≤ v5 ∧ 0 < v4 then
  if pm_r32 ((8 * (v5 / v4)) + (v5 % v4)) then
  if 0 ≤ ((8 * (v5 / v4)) + (v5 % v4)) ∧ ((8 * (v5 / v4)) + (v5 % v4)) < 64 then
  if pm_r32 (v5 + 1) then
  f_M_read_71 X v1 v3 v4 (v5 + 1) (pm_up x2.2 92 ((8 * (v5 / v4)) + (v5 % v4)) (x1.2 91 (((64 * v1) + v3) + v5)))
  else none
  else none
  else none
  else none
  else none
  else none)
  else none
  else none
  else none
  else none
  else none)
  else none
  else none
  else f_M_read_173 X v4 0 I
  else none := (pm_seg pm_T_ct (pm_env X) [0, 71, 173, 223, 236, 314, 324, 334, 432] 57 101 1 71 [some (.inr (.inr 77)), some (.inl v1), none, some (.inl v3), some (.inl v4), some (.inl v5), none, none] [] I).trans rfl
theorem e_M_read_173 (X : pm_XT) (v4 : Int) (v5 : Int) (I : pm_I) : f_M_read_173 X v4 v5 I =
  if v5 < v4 then
  if 0 ≤ v5 ∧ v5 < 64 then
  if (I 92 v5) = v5 then
  if pm_r32 (8 * v5) then
  if 0 ≤ (8 * v5) ∧ (8 * v5) < 64 then
  if (I 92 (8 * v5)) = v5 then
  if pm_r32 (v5 + 1) then
  f_M_read_173 X v4 (v5 + 1) I
  else none
  else if pm_r32 ((-200) - v5) then
  some (((-200) - v5), I)
  else none
  else none
  else none
  else if pm_r32 ((-200) - v5) then
  some (((-200) - v5), I)
  else none
  else none
  else f_M_read_223 X v4 0 I := (pm_seg pm_T_ct (pm_env X) [0, 71, 173, 223, 236, 314, 324, 334, 432] 22 101 1 173 [some (.inr (.inr 77)), none, none, none, some (.inl v4), some (.inl v5), none, none] [] I).trans rfl
theorem e_M_read_223 (X : pm_XT) (v4 : Int) (v5 : Int) (I : pm_I) : f_M_read_223 X v4 v5 I =
  if v5 < v4 then
  f_M_read_236 X v4 v5 0 0 I
  else f_M_read_314 X v4 0 I := (pm_seg pm_T_ct (pm_env X) [0, 71, 173, 223, 236, 314, 324, 334, 432] 9 101 1 223 [some (.inr (.inr 77)), none, none, none, some (.inl v4), some (.inl v5), none, none] [] I).trans rfl
theorem e_M_read_236 (X : pm_XT) (v4 : Int) (v5 : Int) (v6 : Int) (v7 : Int) (I : pm_I) : f_M_read_236 X v4 v5 v6 v7 I =
  if v7 < v4 then
  if v6 = 0 then
  if pm_r32 (8 * v5) then
  if pm_r32 ((8 * v5) + v7) then
  if 0 ≤ ((8 * v5) + v7) ∧ ((8 * v5) + v7) < 64 then
  if (I 92 ((8 * v5) + v7)) = 0 then
  if pm_r32 (8 * v7) then
  if pm_r32 ((8 * v7) + v5) then
  if 0 ≤ ((8 * v7) + v5) ∧ ((8 * v7) + v5) < 64 then
  if (I 92 ((8 * v7) + v5)) = 0 then
  if pm_r32 (v7 + 1) then
  f_M_read_236 X v4 v5 1 (v7 + 1) I
  else none
  else if pm_r32 (v7 + 1) then
  f_M_read_236 X v4 v5 0 (v7 + 1) I
  else none
  else none
  else none
  else none
  else if pm_r32 (v7 + 1) then
  f_M_read_236 X v4 v5 0 (v7 + 1) I
  else none
  else none
  else none
  else none
  else if pm_r32 (v7 + 1) then
  f_M_read_236 X v4 v5 1 (v7 + 1) I
  else none
  else if v6 = 0 then
  if pm_r32 ((-300) - v5) then
  some (((-300) - v5), I)
  else none
  else if pm_r32 (v5 + 1) then
  f_M_read_223 X v4 (v5 + 1) I
  else none := (pm_seg pm_T_ct (pm_env X) [0, 71, 173, 223, 236, 314, 324, 334, 432] 30 101 1 236 [some (.inr (.inr 77)), none, none, none, some (.inl v4), some (.inl v5), some (.inl v6), some (.inl v7)] [] I).trans rfl
theorem e_M_read_314 (X : pm_XT) (v4 : Int) (v5 : Int) (I : pm_I) : f_M_read_314 X v4 v5 I =
  if v5 < v4 then
  f_M_read_324 X v4 v5 0 I
  else f_M_read_432 X v4 0 I := (pm_seg pm_T_ct (pm_env X) [0, 71, 173, 223, 236, 314, 324, 334, 432] 7 101 1 314 [some (.inr (.inr 77)), none, none, none, some (.inl v4), some (.inl v5), none, none] [] I).trans rfl
theorem e_M_read_324 (X : pm_XT) (v4 : Int) (v5 : Int) (v6 : Int) (I : pm_I) : f_M_read_324 X v4 v5 v6 I =
  if v6 < v4 then
  f_M_read_334 X v4 v5 v6 0 I
  else if pm_r32 (v5 + 1) then
  f_M_read_314 X v4 (v5 + 1) I
  else none := (pm_seg pm_T_ct (pm_env X) [0, 71, 173, 223, 236, 314, 324, 334, 432] 7 101 1 324 [some (.inr (.inr 77)), none, none, none, some (.inl v4), some (.inl v5), some (.inl v6), none] [] I).trans rfl
theorem e_M_read_334 (X : pm_XT) (v4 : Int) (v5 : Int) (v6 : Int) (v7 : Int) (I : pm_I) : f_M_read_334 X v4 v5 v6 v7 I =
  if v7 < v4 then
  if pm_r32 (8 * v5) then
  if pm_r32 ((8 * v5) + v6) then
  if 0 ≤ ((8 * v5) + v6) ∧ ((8 * v5) + v6) < 64 then
  if pm_r32 (8 * (I 92 ((8 * v5) + v6))) then
  if pm_r32 ((8 * (I 92 ((8 * v5) + v6))) + v7) then
  if 0 ≤ ((8 * (I 92 ((8 * v5) + v6))) + v7) ∧ ((8 * (I 92 ((8 * v5) + v6))) + v7) < 64 then
  if pm_r32 (8 * v5) then
  if pm_r32 (8 * v6) then
  if pm_r32 ((8 * v6) + v7) then
  if 0 ≤ ((8 * v6) + v7) ∧ ((8 * v6) + v7) < 64 then
  if pm_r32 ((8 * v5) + (I 92 ((8 * v6) + v7))) then
  if 0 ≤ ((8 * v5) + (I 92 ((8 * v6) + v7))) ∧ ((8 * v5) + (I 92 ((8 * v6) + v7))) < 64 then
  if (I 92 ((8 * (I 92 ((8 * v5) + v6))) + v7)) = (I 92 ((8 * v5) + (I 92 ((8 * v6) + v7)))) then
  if pm_r32 (v7 + 1) then
  f_M_read_334 X v4 v5 v6 (v7 + 1) I
  else none
  else if pm_r32 (64 * v5) then
  if pm_r32 ((-1000) - (64 * v5)) then
  if pm_r32 (8 * v6) then
  if pm_r32 (((-1000) - (64 * v5)) - (8 * v6)) then
  if pm_r32 ((((-1000) - (64 * v5)) - (8 * v6)) - v7) then
  some (((((-1000) - (64 * v5)) - (8 * v6)) - v7), I)
  else none
  else none
  else none
  else none
  else none
  else none
  else none
  else none
  else none
  else none
  else none
  else none
  else none
  else none
  else none
  else none
  else none
  else if pm_r32 (v6 + 1) then
  f_M_read_324 X v4 v5 (v6 + 1) I
  else none := (pm_seg pm_T_ct (pm_env X) [0, 71, 173, 223, 236, 314, 324, 334, 432] 47 101 1 334 [some (.inr (.inr 77)), none, none, none, some (.inl v4), some (.inl v5), some (.inl v6), some (.inl v7)] [] I).trans rfl
theorem e_M_read_432 (X : pm_XT) (v4 : Int) (v5 : Int) (I : pm_I) : f_M_read_432 X v4 v5 I =
  if v5 < 64 then
  if 0 ≤ v5 ∧ v5 < 64 then
  if 0 ≤ v5 ∧ v5 < 64 then
  if pm_r32 (v5 + 1) then
  f_M_read_432 X v4 (v5 + 1) (pm_up I 78 v5 (I 92 v5))
  else none
  else none
  else none
  else (f_M_begin X v4 I).bind (fun x1 =>
  some (v4, x1.2)) := (pm_seg pm_T_ct (pm_env X) [0, 71, 173, 223, 236, 314, 324, 334, 432] 15 101 1 432 [some (.inr (.inr 77)), none, none, none, some (.inl v4), some (.inl v5), none, none] [] I).trans rfl
theorem e_M_times (X : pm_XT) (v1 : Int) (v2 : Int) (I : pm_I) : f_M_times X v1 v2 I =
  (f_M_isTurn X v1 I).bind (fun x1 =>
  if x1.1 = 0 then
  some ((-1), x1.2)
  else (f_M_isTurn X v2 x1.2).bind (fun x2 =>
  if x2.1 = 0 then
  some ((-1), x2.2)
  else (f_M_product X v1 v2 x2.2).bind (fun x3 =>
  some (x3.1, x3.2)))) := (pm_seg pm_T_ct (pm_env X) [0] 15 102 2 0 [some (.inr (.inr 77)), some (.inl v1), some (.inl v2)] [] I).trans rfl
theorem e_M_classOf (X : pm_XT) (v1 : Int) (I : pm_I) : f_M_classOf X v1 I =
  f_M_classOf_4 X v1 v1 0 I := (pm_seg pm_T_ct (pm_env X) [0, 4] 6 103 2 0 [some (.inr (.inr 77)), some (.inl v1), none, none, none] [] I).trans rfl
theorem e_M_classOf_4 (X : pm_XT) (v1 : Int) (v2 : Int) (v3 : Int) (I : pm_I) : f_M_classOf_4 X v1 v2 v3 I =
  if v3 < (I 77 0) then
  (f_M_product X v3 v1 I).bind (fun x1 =>
  (f_M_backOf X v3 x1.2).bind (fun x2 =>
  (f_M_product X x1.1 x2.1 x2.2).bind (fun x3 =>
  if x3.1 < v2 then
  if pm_r32 (v3 + 1) then
  f_M_classOf_4 X v1 x3.1 (v3 + 1) x3.2
  else none
  else if pm_r32 (v3 + 1) then
  f_M_classOf_4 X v1 v2 (v3 + 1) x3.2
  else none)))
  else some (v2, I) := (pm_seg pm_T_ct (pm_env X) [0, 4] 24 103 2 4 [some (.inr (.inr 77)), some (.inl v1), some (.inl v2), some (.inl v3), none] [] I).trans rfl
theorem e_M_alikeWith (X : pm_XT) (v1 : Int) (I : pm_I) : f_M_alikeWith X v1 I =
  f_M_alikeWith_4 X v1 0 0 I := (pm_seg pm_T_ct (pm_env X) [0, 4] 6 104 1 0 [some (.inr (.inr 77)), some (.inl v1), none, none] [] I).trans rfl
theorem e_M_alikeWith_4 (X : pm_XT) (v1 : Int) (v2 : Int) (v3 : Int) (I : pm_I) : f_M_alikeWith_4 X v1 v2 v3 I =
  if v3 < (I 77 0) then
  (f_M_product X v1 v3 I).bind (fun x1 =>
  (f_M_product X v3 v1 x1.2).bind (fun x2 =>
  if x1.1 = x2.1 then
  if pm_r32 (v2 + 1) then
  if pm_r32 (v3 + 1) then
  f_M_alikeWith_4 X v1 (v2 + 1) (v3 + 1) x2.2
  else none
  else none
  else if pm_r32 (v2 + 0) then
  if pm_r32 (v3 + 1) then
  f_M_alikeWith_4 X v1 (v2 + 0) (v3 + 1) x2.2
  else none
  else none))
  else some (v2, I) := (pm_seg pm_T_ct (pm_env X) [0, 4] 22 104 1 4 [some (.inr (.inr 77)), some (.inl v1), some (.inl v2), some (.inl v3)] [] I).trans rfl
theorem e_M_turn (X : pm_XT) (v1 : Int) (v2 : Int) (I : pm_I) : f_M_turn X v1 v2 I =
  (f_M_isTurn X v1 I).bind (fun x1 =>
  if x1.1 = 0 then
  some ((-1), x1.2)
  else (f_M_in X v2 0 5 x1.2).bind (fun x2 =>
  if x2.1 = 0 then
  some ((-1), x2.2)
  else if v2 = 0 then
  (f_M_backOf X v1 x2.2).bind (fun x3 =>
  some (x3.1, x3.2))
  else if v2 = 1 then
  f_M_turn_71 X v1 1 v1 x2.2
  else if v2 = 2 then
  (f_M_classOf X v1 x2.2).bind (fun x4 =>
  some (x4.1, x4.2))
  else if v2 = 3 then
  f_M_turn_102 X v1 0 0 x2.2
  else if v2 = 4 then
  if 0 ≤ v1 ∧ v1 < 8 then
  some ((x2.2 79 v1), x2.2)
  else none
  else (f_M_alikeWith X v1 x2.2).bind (fun x5 =>
  some (x5.1, x5.2)))) := (pm_seg pm_T_ct (pm_env X) [0, 71, 102] 20 105 3 0 [some (.inr (.inr 77)), some (.inl v1), some (.inl v2), none, none] [] I).trans rfl
theorem e_M_turn_71 (X : pm_XT) (v1 : Int) (v3 : Int) (v4 : Int) (I : pm_I) : f_M_turn_71 X v1 v3 v4 I =
  if v4 = 0 then
  some (v3, I)
  else (f_M_product X v4 v1 I).bind (fun x1 =>
  if pm_r32 (v3 + 1) then
  f_M_turn_71 X v1 (v3 + 1) x1.1 x1.2
  else none) := (pm_seg pm_T_ct (pm_env X) [0, 71, 102] 11 105 3 71 [some (.inr (.inr 77)), some (.inl v1), none, some (.inl v3), some (.inl v4)] [] I).trans rfl
theorem e_M_turn_102 (X : pm_XT) (v1 : Int) (v3 : Int) (v4 : Int) (I : pm_I) : f_M_turn_102 X v1 v3 v4 I =
  if v4 < (I 77 0) then
  (f_M_classOf X v4 I).bind (fun x1 =>
  (f_M_classOf X v1 x1.2).bind (fun x2 =>
  if x1.1 = x2.1 then
  if pm_r32 (v3 + 1) then
  if pm_r32 (v4 + 1) then
  f_M_turn_102 X v1 (v3 + 1) (v4 + 1) x2.2
  else none
  else none
  else if pm_r32 (v3 + 0) then
  if pm_r32 (v4 + 1) then
  f_M_turn_102 X v1 (v3 + 0) (v4 + 1) x2.2
  else none
  else none))
  else some (v3, I) := (pm_seg pm_T_ct (pm_env X) [0, 71, 102] 20 105 3 102 [some (.inr (.inr 77)), some (.inl v1), none, some (.inl v3), some (.inl v4)] [] I).trans rfl
theorem e_M_about (X : pm_XT) (v1 : Int) (I : pm_I) : f_M_about X v1 I =
  (f_M_in X v1 0 4 I).bind (fun x1 =>
  if x1.1 = 0 then
  some ((-1), x1.2)
  else f_M_about_24 X v1 0 0 0 0 x1.2) := (pm_seg pm_T_ct (pm_env X) [0, 24] 16 106 3 0 [some (.inr (.inr 77)), some (.inl v1), none, none, none, none] [] I).trans rfl
theorem e_M_about_24 (X : pm_XT) (v1 : Int) (v2 : Int) (v3 : Int) (v4 : Int) (v5 : Int) (I : pm_I) : f_M_about_24 X v1 v2 v3 v4 v5 I =
  if v5 < (I 77 0) then
  (f_M_classOf X v5 I).bind (fun x1 =>
  if x1.1 = v5 then
  if pm_r32 (v2 + 1) then
  (f_M_alikeWith X v5 x1.2).bind (fun x2 =>
  if x2.1 = (x2.2 77 0) then
  if pm_r32 (v3 + 1) then
  (f_M_alikeWith X v5 x2.2).bind (fun x3 =>
  if pm_r32 (v4 + x3.1) then
  if pm_r32 (v5 + 1) then
  f_M_about_24 X v1 (v2 + 1) (v3 + 1) (v4 + x3.1) (v5 + 1) x3.2
  else none
  else none)
  else none
  else if pm_r32 (v3 + 0) then
  (f_M_alikeWith X v5 x2.2).bind (fun x4 =>
  if pm_r32 (v4 + x4.1) then
  if pm_r32 (v5 + 1) then
  f_M_about_24 X v1 (v2 + 1) (v3 + 0) (v4 + x4.1) (v5 + 1) x4.2
  else none
  else none)
  else none)
  else none
  else if pm_r32 (v2 + 0) then
  (f_M_alikeWith X v5 x1.2).bind (fun x5 =>
  if x5.1 = (x5.2 77 0) then
  if pm_r32 (v3 + 1) then
  (f_M_alikeWith X v5 x5.2).bind (fun x6 =>
  if pm_r32 (v4 + x6.1) then
  if pm_r32 (v5 + 1) then
  f_M_about_24 X v1 (v2 + 0) (v3 + 1) (v4 + x6.1) (v5 + 1) x6.2
  else none
  else none)
  else none
  else if pm_r32 (v3 + 0) then
  (f_M_alikeWith X v5 x5.2).bind (fun x7 =>
  if pm_r32 (v4 + x7.1) then
  if pm_r32 (v5 + 1) then
  f_M_about_24 X v1 (v2 + 0) (v3 + 0) (v4 + x7.1) (v5 + 1) x7.2
  else none
  else none)
  else none)
  else none)
  else if v1 = 0 then
  some ((I 77 0), I)
  else if v1 = 1 then
  some (v2, I)
  else if v1 = 2 then
  some (v3, I)
  else if v1 = 3 then
  some (v4, I)
  else if v3 = (I 77 0) then
  some (1, I)
  else some (0, I) := (pm_seg pm_T_ct (pm_env X) [0, 24] 35 106 3 24 [some (.inr (.inr 77)), some (.inl v1), some (.inl v2), some (.inl v3), some (.inl v4), some (.inl v5)] [] I).trans rfl
theorem e_M_worth (X : pm_XT) (v1 : Int) (v2 : Int) (I : pm_I) : f_M_worth X v1 v2 I =
  (f_M_isTurn X v1 I).bind (fun x1 =>
  if x1.1 = 0 then
  some ((-1), x1.2)
  else (f_M_in X v2 0 9 x1.2).bind (fun x2 =>
  if x2.1 = 0 then
  some ((-1), x2.2)
  else if 0 ≤ v1 ∧ v1 < 8 then
  (f_M_classOf X v1 x2.2).bind (fun x3 =>
  f_M_worth_39 X v2 (x2.2 79 v1) x3.1 0 x3.2)
  else none)) := (pm_seg pm_T_ct (pm_env X) [0, 39] 23 107 3 0 [some (.inr (.inr 77)), some (.inl v1), some (.inl v2), none, none, none] [] I).trans rfl
theorem e_M_worth_39 (X : pm_XT) (v2 : Int) (v3 : Int) (v4 : Int) (v5 : Int) (I : pm_I) : f_M_worth_39 X v2 v3 v4 v5 I =
  if v5 < (I 77 0) then
  (f_M_classOf X v5 I).bind (fun x1 =>
  if x1.1 = v4 then
  if 0 ≤ v5 ∧ v5 < 8 then
  if pm_r32 (v5 + 1) then
  f_M_worth_39 X v2 v3 v4 (v5 + 1) (pm_up x1.2 79 v5 v2)
  else none
  else none
  else if 0 ≤ v5 ∧ v5 < 8 then
  if 0 ≤ v5 ∧ v5 < 8 then
  if pm_r32 (v5 + 1) then
  f_M_worth_39 X v2 v3 v4 (v5 + 1) (pm_up x1.2 79 v5 (x1.2 79 v5))
  else none
  else none
  else none)
  else some (v3, I) := (pm_seg pm_T_ct (pm_env X) [0, 39] 21 107 3 39 [some (.inr (.inr 77)), none, some (.inl v2), some (.inl v3), some (.inl v4), some (.inl v5)] [] I).trans rfl
theorem e_M_isLine (X : pm_XT) (v1 : Int) (I : pm_I) : f_M_isLine X v1 I =
  if pm_r32 ((I 77 4) - 1) then
  (f_M_in X v1 0 ((I 77 4) - 1) I).bind (fun x1 =>
  if x1.1 = 0 ∨ x1.1 = 1 then some (x1.1, x1.2) else none)
  else none := (pm_seg pm_T_ct (pm_env X) [0] 11 108 1 0 [some (.inr (.inr 77)), some (.inl v1)] [] I).trans rfl
theorem e_M_isWalk (X : pm_XT) (v1 : Int) (I : pm_I) : f_M_isWalk X v1 I =
  if pm_r32 ((I 77 8) - 1) then
  (f_M_in X v1 0 ((I 77 8) - 1) I).bind (fun x1 =>
  if x1.1 = 0 ∨ x1.1 = 1 then some (x1.1, x1.2) else none)
  else none := (pm_seg pm_T_ct (pm_env X) [0] 11 109 1 0 [some (.inr (.inr 77)), some (.inl v1)] [] I).trans rfl
theorem e_M_isPoint (X : pm_XT) (v1 : Int) (I : pm_I) : f_M_isPoint X v1 I =
  if pm_r32 ((I 77 3) - 1) then
  (f_M_in X v1 0 ((I 77 3) - 1) I).bind (fun x1 =>
  if x1.1 = 0 ∨ x1.1 = 1 then some (x1.1, x1.2) else none)
  else none := (pm_seg pm_T_ct (pm_env X) [0] 11 110 1 0 [some (.inr (.inr 77)), some (.inl v1)] [] I).trans rfl
theorem e_M_point (X : pm_XT)  (I : pm_I) : f_M_point X  I =
  if (I 77 3) = 6 then
  some ((-3), I)
  else if pm_r32 ((I 77 3) + 1) then
  if pm_r32 (((pm_up I 77 3 ((I 77 3) + 1)) 77 3) - 1) then
  some ((((pm_up I 77 3 ((I 77 3) + 1)) 77 3) - 1), (pm_up I 77 3 ((I 77 3) + 1)))
  else none
  else none := (pm_seg pm_T_ct (pm_env X) [0] 16 111 0 0 [some (.inr (.inr 77))] [] I).trans rfl
theorem e_M_line (X : pm_XT) (v1 : Int) (v2 : Int) (I : pm_I) : f_M_line X v1 v2 I =
  (f_M_isPoint X v1 I).bind (fun x1 =>
  if x1.1 = 0 then
  some ((-1), x1.2)
  else (f_M_isPoint X v2 x1.2).bind (fun x2 =>
  if x2.1 = 0 then
  some ((-1), x2.2)
  else if (x2.2 77 4) = 10 then
  some ((-3), x2.2)
  else if 0 ≤ (x2.2 77 4) ∧ (x2.2 77 4) < 10 then
  if 0 ≤ ((pm_up x2.2 80 (x2.2 77 4) v1) 77 4) ∧ ((pm_up x2.2 80 (x2.2 77 4) v1) 77 4) < 10 then
  if 0 ≤ ((pm_up (pm_up x2.2 80 (x2.2 77 4) v1) 81 ((pm_up x2.2 80 (x2.2 77 4) v1) 77 4) v2) 77 4) ∧ ((pm_up (pm_up x2.2 80 (x2.2 77 4) v1) 81 ((pm_up x2.2 80 (x2.2 77 4) v1) 77 4) v2) 77 4) < 10 then
  if pm_r32 (((pm_up (pm_up (pm_up x2.2 80 (x2.2 77 4) v1) 81 ((pm_up x2.2 80 (x2.2 77 4) v1) 77 4) v2) 82 ((pm_up (pm_up x2.2 80 (x2.2 77 4) v1) 81 ((pm_up x2.2 80 (x2.2 77 4) v1) 77 4) v2) 77 4) 0) 77 4) + 1) then
  if pm_r32 (((pm_up (pm_up (pm_up (pm_up x2.2 80 (x2.2 77 4) v1) 81 ((pm_up x2.2 80 (x2.2 77 4) v1) 77 4) v2) 82 ((pm_up (pm_up x2.2 80 (x2.2 77 4) v1) 81 ((pm_up x2.2 80 (x2.2 77 4) v1) 77 4) v2) 77 4) 0) 77 4 (((pm_up (pm_up (pm_up x2.2 80 (x2.2 77 4) v1) 81 ((pm_up x2.2 80 (x2.2 77 4) v1) 77 4) v2) 82 ((pm_up (pm_up x2.2 80 (x2.2 77 4) v1) 81 ((pm_up x2.2 80 (x2.2 77 4) v1) 77 4) v2) 77 4) 0) 77 4) + 1)) 77 4) - 1) then
  some ((((pm_up (pm_up (pm_up (pm_up x2.2 80 (x2.2 77 4) v1) 81 ((pm_up x2.2 80 (x2.2 77 4) v1) 77 4) v2) 82 ((pm_up (pm_up x2.2 80 (x2.2 77 4) v1) 81 ((pm_up x2.2 80 (x2.2 77 4) v1) 77 4) v2) 77 4) 0) 77 4 (((pm_up (pm_up (pm_up x2.2 80 (x2.2 77 4) v1) 81 ((pm_up x2.2 80 (x2.2 77 4) v1) 77 4) v2) 82 ((pm_up (pm_up x2.2 80 (x2.2 77 4) v1) 81 ((pm_up x2.2 80 (x2.2 77 4) v1) 77 4) v2) 77 4) 0) 77 4) + 1)) 77 4) - 1), (pm_up (pm_up (pm_up (pm_up x2.2 80 (x2.2 77 4) v1) 81 ((pm_up x2.2 80 (x2.2 77 4) v1) 77 4) v2) 82 ((pm_up (pm_up x2.2 80 (x2.2 77 4) v1) 81 ((pm_up x2.2 80 (x2.2 77 4) v1) 77 4) v2) 77 4) 0) 77 4 (((pm_up (pm_up (pm_up x2.2 80 (x2.2 77 4) v1) 81 ((pm_up x2.2 80 (x2.2 77 4) v1) 77 4) v2) 82 ((pm_up (pm_up x2.2 80 (x2.2 77 4) v1) 81 ((pm_up x2.2 80 (x2.2 77 4) v1) 77 4) v2) 77 4) 0) 77 4) + 1)))
  else none
  else none
  else none
  else none
  else none)) := (pm_seg pm_T_ct (pm_env X) [0] 42 112 2 0 [some (.inr (.inr 77)), some (.inl v1), some (.inl v2)] [] I).trans rfl
theorem e_M_walk (X : pm_XT) (v1 : Int) (I : pm_I) : f_M_walk X v1 I =
  (f_M_isPoint X v1 I).bind (fun x1 =>
  if x1.1 = 0 then
  some ((-1), x1.2)
  else if (x1.2 77 8) = 8 then
  some ((-3), x1.2)
  else if 0 ≤ (x1.2 77 8) ∧ (x1.2 77 8) < 8 then
  if 0 ≤ ((pm_up x1.2 83 (x1.2 77 8) v1) 77 8) ∧ ((pm_up x1.2 83 (x1.2 77 8) v1) 77 8) < 8 then
  if (0 ≤ ((pm_up (pm_up x1.2 83 (x1.2 77 8) v1) 84 ((pm_up x1.2 83 (x1.2 77 8) v1) 77 8) 0) 77 8) ∧ ((pm_up (pm_up x1.2 83 (x1.2 77 8) v1) 84 ((pm_up x1.2 83 (x1.2 77 8) v1) 77 8) 0) 77 8) < 8) ∧ (1 = 0 ∨ 1 = 1) then
  if pm_r32 (((pm_up (pm_up (pm_up x1.2 83 (x1.2 77 8) v1) 84 ((pm_up x1.2 83 (x1.2 77 8) v1) 77 8) 0) 87 ((pm_up (pm_up x1.2 83 (x1.2 77 8) v1) 84 ((pm_up x1.2 83 (x1.2 77 8) v1) 77 8) 0) 77 8) 1) 77 8) + 1) then
  if pm_r32 (((pm_up (pm_up (pm_up (pm_up x1.2 83 (x1.2 77 8) v1) 84 ((pm_up x1.2 83 (x1.2 77 8) v1) 77 8) 0) 87 ((pm_up (pm_up x1.2 83 (x1.2 77 8) v1) 84 ((pm_up x1.2 83 (x1.2 77 8) v1) 77 8) 0) 77 8) 1) 77 8 (((pm_up (pm_up (pm_up x1.2 83 (x1.2 77 8) v1) 84 ((pm_up x1.2 83 (x1.2 77 8) v1) 77 8) 0) 87 ((pm_up (pm_up x1.2 83 (x1.2 77 8) v1) 84 ((pm_up x1.2 83 (x1.2 77 8) v1) 77 8) 0) 77 8) 1) 77 8) + 1)) 77 8) - 1) then
  some ((((pm_up (pm_up (pm_up (pm_up x1.2 83 (x1.2 77 8) v1) 84 ((pm_up x1.2 83 (x1.2 77 8) v1) 77 8) 0) 87 ((pm_up (pm_up x1.2 83 (x1.2 77 8) v1) 84 ((pm_up x1.2 83 (x1.2 77 8) v1) 77 8) 0) 77 8) 1) 77 8 (((pm_up (pm_up (pm_up x1.2 83 (x1.2 77 8) v1) 84 ((pm_up x1.2 83 (x1.2 77 8) v1) 77 8) 0) 87 ((pm_up (pm_up x1.2 83 (x1.2 77 8) v1) 84 ((pm_up x1.2 83 (x1.2 77 8) v1) 77 8) 0) 77 8) 1) 77 8) + 1)) 77 8) - 1), (pm_up (pm_up (pm_up (pm_up x1.2 83 (x1.2 77 8) v1) 84 ((pm_up x1.2 83 (x1.2 77 8) v1) 77 8) 0) 87 ((pm_up (pm_up x1.2 83 (x1.2 77 8) v1) 84 ((pm_up x1.2 83 (x1.2 77 8) v1) 77 8) 0) 77 8) 1) 77 8 (((pm_up (pm_up (pm_up x1.2 83 (x1.2 77 8) v1) 84 ((pm_up x1.2 83 (x1.2 77 8) v1) 77 8) 0) 87 ((pm_up (pm_up x1.2 83 (x1.2 77 8) v1) 84 ((pm_up x1.2 83 (x1.2 77 8) v1) 77 8) 0) 77 8) 1) 77 8) + 1)))
  else none
  else none
  else none
  else none
  else none) := (pm_seg pm_T_ct (pm_env X) [0] 38 113 2 0 [some (.inr (.inr 77)), some (.inl v1)] [] I).trans rfl
theorem e_M_endOf (X : pm_XT) (v1 : Int) (I : pm_I) : f_M_endOf X v1 I =
  if 0 ≤ v1 ∧ v1 < 8 then
  if (I 84 v1) = 0 then
  if 0 ≤ v1 ∧ v1 < 8 then
  some ((I 83 v1), I)
  else none
  else if pm_r32 (6 * v1) then
  if pm_r32 ((6 * v1) + (I 84 v1)) then
  if pm_r32 (((6 * v1) + (I 84 v1)) - 1) then
  if 0 ≤ (((6 * v1) + (I 84 v1)) - 1) ∧ (((6 * v1) + (I 84 v1)) - 1) < 48 then
  if (I 86 (((6 * v1) + (I 84 v1)) - 1)) = 0 then
  if 0 ≤ (((6 * v1) + (I 84 v1)) - 1) ∧ (((6 * v1) + (I 84 v1)) - 1) < 48 then
  if 0 ≤ (I 85 (((6 * v1) + (I 84 v1)) - 1)) ∧ (I 85 (((6 * v1) + (I 84 v1)) - 1)) < 10 then
  some ((I 81 (I 85 (((6 * v1) + (I 84 v1)) - 1))), I)
  else none
  else none
  else if 0 ≤ (((6 * v1) + (I 84 v1)) - 1) ∧ (((6 * v1) + (I 84 v1)) - 1) < 48 then
  if 0 ≤ (I 85 (((6 * v1) + (I 84 v1)) - 1)) ∧ (I 85 (((6 * v1) + (I 84 v1)) - 1)) < 10 then
  some ((I 80 (I 85 (((6 * v1) + (I 84 v1)) - 1))), I)
  else none
  else none
  else none
  else none
  else none
  else none
  else none := (pm_seg pm_T_ct (pm_env X) [0] 30 114 0 0 [some (.inr (.inr 77)), some (.inl v1), none, none] [] I).trans rfl
theorem e_M_step (X : pm_XT) (v1 : Int) (v2 : Int) (v3 : Int) (I : pm_I) : f_M_step X v1 v2 v3 I =
  (f_M_isWalk X v1 I).bind (fun x1 =>
  if x1.1 = 0 then
  some ((-1), x1.2)
  else (f_M_isLine X v2 x1.2).bind (fun x2 =>
  if x2.1 = 0 then
  some ((-1), x2.2)
  else if v3 = 0 then
  if 0 ≤ v2 ∧ v2 < 10 then
  (f_M_endOf X v1 x2.2).bind (fun x3 =>
  if (x2.2 80 v2) = x3.1 then
  if 0 ≤ v1 ∧ v1 < 8 then
  if (x3.2 84 v1) = 6 then
  some ((-3), x3.2)
  else if pm_r32 (6 * v1) then
  if 0 ≤ v1 ∧ v1 < 8 then
  if pm_r32 ((6 * v1) + (x3.2 84 v1)) then
  if 0 ≤ ((6 * v1) + (x3.2 84 v1)) ∧ ((6 * v1) + (x3.2 84 v1)) < 48 then
  if pm_r32 (6 * v1) then
  if 0 ≤ v1 ∧ v1 < 8 then
  if pm_r32 ((6 * v1) + ((pm_up x3.2 85 ((6 * v1) + (x3.2 84 v1)) v2) 84 v1)) then
  if (0 ≤ ((6 * v1) + ((pm_up x3.2 85 ((6 * v1) + (x3.2 84 v1)) v2) 84 v1)) ∧ ((6 * v1) + ((pm_up x3.2 85 ((6 * v1) + (x3.2 84 v1)) v2) 84 v1)) < 48) ∧ (v3 = 0 ∨ v3 = 1) then
  if 0 ≤ v1 ∧ v1 < 8 then
  if pm_r32 (((pm_up (pm_up x3.2 85 ((6 * v1) + (x3.2 84 v1)) v2) 86 ((6 * v1) + ((pm_up x3.2 85 ((6 * v1) + (x3.2 84 v1)) v2) 84 v1)) v3) 84 v1) + 1) then
  if 0 ≤ v1 ∧ v1 < 8 then
  if 0 ≤ v1 ∧ v1 < 8 then
  some (((pm_up (pm_up (pm_up x3.2 85 ((6 * v1) + (x3.2 84 v1)) v2) 86 ((6 * v1) + ((pm_up x3.2 85 ((6 * v1) + (x3.2 84 v1)) v2) 84 v1)) v3) 84 v1 (((pm_up (pm_up x3.2 85 ((6 * v1) + (x3.2 84 v1)) v2) 86 ((6 * v1) + ((pm_up x3.2 85 ((6 * v1) + (x3.2 84 v1)) v2) 84 v1)) v3) 84 v1) + 1)) 84 v1), (pm_up (pm_up (pm_up x3.2 85 ((6 * v1) + (x3.2 84 v1)) v2) 86 ((6 * v1) + ((pm_up x3.2 85 ((6 * v1) + (x3.2 84 v1)) v2) 84 v1)) v3) 84 v1 (((pm_up (pm_up x3.2 85 ((6 * v1) + (x3.2 84 v1)) v2) 86 ((6 * v1) + ((pm_up x3.2 85 ((6 * v1) + (x3.2 84 v1)) v2) 84 v1)) v3) 84 v1) + 1)))
  else none
  else none
  else none
  else none
  else none
  else none
  else none
  else none
  else none
  else none
  else none
  else none
  else none
  else some ((-2), x3.2))
  else none
  else if 0 ≤ v2 ∧ v2 < 10 then
  (f_M_endOf X v1 x2.2).bind (fun x4 =>
  if (x2.2 81 v2) = x4.1 then
  if 0 ≤ v1 ∧ v1 < 8 then
  if (x4.2 84 v1) = 6 then
  some ((-3), x4.2)
  else if pm_r32 (6 * v1) then
  if 0 ≤ v1 ∧ v1 < 8 then
  if pm_r32 ((6 * v1) + (x4.2 84 v1)) then
  if 0 ≤ ((6 * v1) + (x4.2 84 v1)) ∧ ((6 * v1) + (x4.2 84 v1)) < 48 then
  if pm_r32 (6 * v1) then
  if 0 ≤ v1 ∧ v1 < 8 then
  if pm_r32 ((6 * v1) + ((pm_up x4.2 85 ((6 * v1) + (x4.2 84 v1)) v2) 84 v1)) then
  if (0 ≤ ((6 * v1) + ((pm_up x4.2 85 ((6 * v1) + (x4.2 84 v1)) v2) 84 v1)) ∧ ((6 * v1) + ((pm_up x4.2 85 ((6 * v1) + (x4.2 84 v1)) v2) 84 v1)) < 48) ∧ (v3 = 0 ∨ v3 = 1) then
  if 0 ≤ v1 ∧ v1 < 8 then
  if pm_r32 (((pm_up (pm_up x4.2 85 ((6 * v1) + (x4.2 84 v1)) v2) 86 ((6 * v1) + ((pm_up x4.2 85 ((6 * v1) + (x4.2 84 v1)) v2) 84 v1)) v3) 84 v1) + 1) then
  if 0 ≤ v1 ∧ v1 < 8 then
  if 0 ≤ v1 ∧ v1 < 8 then
  some (((pm_up (pm_up (pm_up x4.2 85 ((6 * v1) + (x4.2 84 v1)) v2) 86 ((6 * v1) + ((pm_up x4.2 85 ((6 * v1) + (x4.2 84 v1)) v2) 84 v1)) v3) 84 v1 (((pm_up (pm_up x4.2 85 ((6 * v1) + (x4.2 84 v1)) v2) 86 ((6 * v1) + ((pm_up x4.2 85 ((6 * v1) + (x4.2 84 v1)) v2) 84 v1)) v3) 84 v1) + 1)) 84 v1), (pm_up (pm_up (pm_up x4.2 85 ((6 * v1) + (x4.2 84 v1)) v2) 86 ((6 * v1) + ((pm_up x4.2 85 ((6 * v1) + (x4.2 84 v1)) v2) 84 v1)) v3) 84 v1 (((pm_up (pm_up x4.2 85 ((6 * v1) + (x4.2 84 v1)) v2) 86 ((6 * v1) + ((pm_up x4.2 85 ((6 * v1) + (x4.2 84 v1)) v2) 84 v1)) v3) 84 v1) + 1)))
  else none
  else none
  else none
  else none
  else none
  else none
  else none
  else none
  else none
  else none
  else none
  else none
  else none
  else some ((-2), x4.2))
  else none)) := (pm_seg pm_T_ct (pm_env X) [0] 63 115 2 0 [some (.inr (.inr 77)), some (.inl v1), some (.inl v2), some (.inl v3)] [] I).trans rfl
theorem e_M_counts (X : pm_XT) (v1 : Int) (v2 : Int) (I : pm_I) : f_M_counts X v1 v2 I =
  (f_M_isWalk X v1 I).bind (fun x1 =>
  if x1.1 = 0 then
  some ((-1), x1.2)
  else if 0 ≤ v1 ∧ v1 < 8 then
  if (x1.2 87 v1) = 0 then
  if (0 ≤ v1 ∧ v1 < 8) ∧ (v2 = 0 ∨ v2 = 1) then
  some (0, (pm_up x1.2 87 v1 v2))
  else none
  else if (0 ≤ v1 ∧ v1 < 8) ∧ (v2 = 0 ∨ v2 = 1) then
  some (1, (pm_up x1.2 87 v1 v2))
  else none
  else none) := (pm_seg pm_T_ct (pm_env X) [0] 20 116 2 0 [some (.inr (.inr 77)), some (.inl v1), some (.inl v2), none] [] I).trans rfl
theorem e_M_isClosed (X : pm_XT) (v1 : Int) (I : pm_I) : f_M_isClosed X v1 I =
  if 0 ≤ v1 ∧ v1 < 8 then
  if 0 < (I 84 v1) then
  (f_M_endOf X v1 I).bind (fun x1 =>
  if 0 ≤ v1 ∧ v1 < 8 then
  if x1.1 = (x1.2 83 v1) then
  some (1, x1.2)
  else some (0, x1.2)
  else none)
  else some (0, I)
  else none := (pm_seg pm_T_ct (pm_env X) [0] 17 117 1 0 [some (.inr (.inr 77)), some (.inl v1)] [] I).trans rfl
theorem e_M_takeLines (X : pm_XT)  (I : pm_I) : f_M_takeLines X  I =
  f_M_takeLines_2 X 0 I := (pm_seg pm_T_ct (pm_env X) [0, 2] 4 118 0 0 [some (.inr (.inr 77)), none] [] I).trans rfl
theorem e_M_takeLines_2 (X : pm_XT) (v1 : Int) (I : pm_I) : f_M_takeLines_2 X v1 I =
  if v1 < 10 then
  if 0 ≤ v1 ∧ v1 < 10 then
  if 0 ≤ v1 ∧ v1 < 10 then
  if pm_r32 (v1 + 1) then
  f_M_takeLines_2 X (v1 + 1) (pm_up I 93 v1 (I 82 v1))
  else none
  else none
  else none
  else some (0, I) := (pm_seg pm_T_ct (pm_env X) [0, 2] 15 118 0 2 [some (.inr (.inr 77)), some (.inl v1)] [] I).trans rfl
theorem e_M_turnOf (X : pm_XT) (v1 : Int) (I : pm_I) : f_M_turnOf X v1 I =
  if pm_r32 (6 * v1) then
  f_M_turnOf_7 X v1 0 (6 * v1) I
  else none := (pm_seg pm_T_ct (pm_env X) [0, 7] 8 119 1 0 [some (.inr (.inr 77)), some (.inl v1), none, none, none] [] I).trans rfl
theorem e_M_turnOf_7 (X : pm_XT) (v1 : Int) (v2 : Int) (v3 : Int) (I : pm_I) : f_M_turnOf_7 X v1 v2 v3 I =
  if pm_r32 (6 * v1) then
  if 0 ≤ v1 ∧ v1 < 8 then
  if pm_r32 ((6 * v1) + (I 84 v1)) then
  if v3 < ((6 * v1) + (I 84 v1)) then
  if 0 ≤ v3 ∧ v3 < 48 then
  if 0 ≤ (I 85 v3) ∧ (I 85 v3) < 10 then
  if 0 ≤ v3 ∧ v3 < 48 then
  if (I 86 v3) = 0 then
  (f_M_product X v2 (I 93 (I 85 v3)) I).bind (fun x1 =>
  if pm_r32 (v3 + 1) then
  f_M_turnOf_7 X v1 x1.1 (v3 + 1) x1.2
  else none)
  else if 0 ≤ (I 93 (I 85 v3)) ∧ (I 93 (I 85 v3)) < 8 then
  (f_M_product X v2 (I 94 (I 93 (I 85 v3))) I).bind (fun x2 =>
  if pm_r32 (v3 + 1) then
  f_M_turnOf_7 X v1 x2.1 (v3 + 1) x2.2
  else none)
  else none
  else none
  else none
  else none
  else some (v2, I)
  else none
  else none
  else none := (pm_seg pm_T_ct (pm_env X) [0, 7] 36 119 1 7 [some (.inr (.inr 77)), some (.inl v1), some (.inl v2), some (.inl v3), none] [] I).trans rfl
theorem e_M_layBacks (X : pm_XT)  (I : pm_I) : f_M_layBacks X  I =
  f_M_layBacks_2 X 0 I := (pm_seg pm_T_ct (pm_env X) [0, 2] 4 120 2 0 [some (.inr (.inr 77)), none] [] I).trans rfl
theorem e_M_layBacks_2 (X : pm_XT) (v1 : Int) (I : pm_I) : f_M_layBacks_2 X v1 I =
  if v1 < (I 77 0) then
  (f_M_backOf X v1 I).bind (fun x1 =>
  if 0 ≤ v1 ∧ v1 < 8 then
  if pm_r32 (v1 + 1) then
  f_M_layBacks_2 X (v1 + 1) (pm_up x1.2 94 v1 x1.1)
  else none
  else none)
  else some (0, I) := (pm_seg pm_T_ct (pm_env X) [0, 2] 15 120 2 2 [some (.inr (.inr 77)), some (.inl v1)] [] I).trans rfl
theorem e_M_told (X : pm_XT) (v1 : Int) (v2 : Int) (I : pm_I) : f_M_told X v1 v2 I =
  (f_M_isWalk X v1 I).bind (fun x1 =>
  if x1.1 = 0 then
  some ((-1), x1.2)
  else (f_M_in X v2 0 4 x1.2).bind (fun x2 =>
  if x2.1 = 0 then
  some ((-1), x2.2)
  else (f_M_layBacks X x2.2).bind (fun x3 =>
  (f_M_takeLines X x3.2).bind (fun x4 =>
  if v2 = 0 then
  if 0 ≤ v1 ∧ v1 < 8 then
  some ((x4.2 84 v1), x4.2)
  else none
  else if v2 = 1 then
  (f_M_endOf X v1 x4.2).bind (fun x5 =>
  some (x5.1, x5.2))
  else if v2 = 2 then
  (f_M_isClosed X v1 x4.2).bind (fun x6 =>
  if x6.1 = 0 then
  some (0, x6.2)
  else some (1, x6.2))
  else if v2 = 3 then
  (f_M_turnOf X v1 x4.2).bind (fun x7 =>
  some (x7.1, x7.2))
  else if 0 ≤ v1 ∧ v1 < 8 then
  if (x4.2 87 v1) = 0 then
  some (0, x4.2)
  else some (1, x4.2)
  else none)))) := (pm_seg pm_T_ct (pm_env X) [0] 34 121 3 0 [some (.inr (.inr 77)), some (.inl v1), some (.inl v2)] [] I).trans rfl
theorem e_M_drop (X : pm_XT)  (I : pm_I) : f_M_drop X  I =
  if (I 77 8) = 0 then
  some ((-4), I)
  else if pm_r32 ((I 77 8) - 1) then
  some (((pm_up I 77 8 ((I 77 8) - 1)) 77 8), (pm_up I 77 8 ((I 77 8) - 1)))
  else none := (pm_seg pm_T_ct (pm_env X) [0] 13 122 0 0 [some (.inr (.inr 77))] [] I).trans rfl
theorem e_M_record (X : pm_XT)  (I : pm_I) : f_M_record X  I =
  if (I 77 14) = 8 then
  f_M_record_12 X 10 I
  else f_M_record_51 X 0 I := (pm_seg pm_T_ct (pm_env X) [0, 12, 51] 8 123 0 0 [some (.inr (.inr 77)), none] [] I).trans rfl
theorem e_M_record_12 (X : pm_XT) (v1 : Int) (I : pm_I) : f_M_record_12 X v1 I =
  if v1 < 80 then
  if pm_r32 (v1 - 10) then
  if 0 ≤ v1 ∧ v1 < 80 then
  if 0 ≤ (v1 - 10) ∧ (v1 - 10) < 80 then
  if pm_r32 (v1 + 1) then
  f_M_record_12 X (v1 + 1) (pm_up I 88 (v1 - 10) (I 88 v1))
  else none
  else none
  else none
  else none
  else if pm_r32 ((I 77 14) - 1) then
  f_M_record_51 X 0 (pm_up I 77 14 ((I 77 14) - 1))
  else none := (pm_seg pm_T_ct (pm_env X) [0, 12, 51] 17 123 0 12 [some (.inr (.inr 77)), some (.inl v1)] [] I).trans rfl
theorem e_M_record_51 (X : pm_XT) (v1 : Int) (I : pm_I) : f_M_record_51 X v1 I =
  if v1 < 10 then
  if pm_r32 (10 * (I 77 14)) then
  if pm_r32 ((10 * (I 77 14)) + v1) then
  if 0 ≤ v1 ∧ v1 < 10 then
  if 0 ≤ ((10 * (I 77 14)) + v1) ∧ ((10 * (I 77 14)) + v1) < 80 then
  if pm_r32 (v1 + 1) then
  f_M_record_51 X (v1 + 1) (pm_up I 88 ((10 * (I 77 14)) + v1) (I 82 v1))
  else none
  else none
  else none
  else none
  else none
  else if pm_r32 ((I 77 14) + 1) then
  some (0, (pm_up I 77 14 ((I 77 14) + 1)))
  else none := (pm_seg pm_T_ct (pm_env X) [0, 12, 51] 20 123 0 51 [some (.inr (.inr 77)), some (.inl v1)] [] I).trans rfl
theorem e_M_undo (X : pm_XT)  (I : pm_I) : f_M_undo X  I =
  if (I 77 14) = 0 then
  some ((-4), I)
  else if pm_r32 ((I 77 14) - 1) then
  f_M_undo_22 X 0 (pm_up I 77 14 ((I 77 14) - 1))
  else none := (pm_seg pm_T_ct (pm_env X) [0, 22] 13 124 0 0 [some (.inr (.inr 77)), none] [] I).trans rfl
theorem e_M_undo_22 (X : pm_XT) (v1 : Int) (I : pm_I) : f_M_undo_22 X v1 I =
  if v1 < 10 then
  if pm_r32 (10 * (I 77 14)) then
  if pm_r32 ((10 * (I 77 14)) + v1) then
  if 0 ≤ ((10 * (I 77 14)) + v1) ∧ ((10 * (I 77 14)) + v1) < 80 then
  if 0 ≤ v1 ∧ v1 < 10 then
  if pm_r32 (v1 + 1) then
  f_M_undo_22 X (v1 + 1) (pm_up I 82 v1 (I 88 ((10 * (I 77 14)) + v1)))
  else none
  else none
  else none
  else none
  else none
  else some ((I 77 14), I) := (pm_seg pm_T_ct (pm_env X) [0, 22] 20 124 0 22 [some (.inr (.inr 77)), some (.inl v1)] [] I).trans rfl
theorem e_M_set (X : pm_XT) (v1 : Int) (v2 : Int) (I : pm_I) : f_M_set X v1 v2 I =
  (f_M_isLine X v1 I).bind (fun x1 =>
  if x1.1 = 0 then
  some ((-1), x1.2)
  else (f_M_isTurn X v2 x1.2).bind (fun x2 =>
  if x2.1 = 0 then
  some ((-1), x2.2)
  else (f_M_record X x2.2).bind (fun x3 =>
  if 0 ≤ v1 ∧ v1 < 10 then
  if 0 ≤ v1 ∧ v1 < 10 then
  some ((x3.2 82 v1), (pm_up x3.2 82 v1 v2))
  else none
  else none))) := (pm_seg pm_T_ct (pm_env X) [0] 23 125 2 0 [some (.inr (.inr 77)), some (.inl v1), some (.inl v2), none] [] I).trans rfl
theorem e_M_at (X : pm_XT) (v1 : Int) (I : pm_I) : f_M_at X v1 I =
  (f_M_isLine X v1 I).bind (fun x1 =>
  if x1.1 = 0 then
  some ((-1), x1.2)
  else if 0 ≤ v1 ∧ v1 < 10 then
  some ((x1.2 82 v1), x1.2)
  else none) := (pm_seg pm_T_ct (pm_env X) [0] 11 126 2 0 [some (.inr (.inr 77)), some (.inl v1)] [] I).trans rfl
theorem e_M_weightOf (X : pm_XT)  (I : pm_I) : f_M_weightOf X  I =
  f_M_weightOf_4 X 1 0 I := (pm_seg pm_T_ct (pm_env X) [0, 4] 6 127 2 0 [some (.inr (.inr 77)), none, none, none] [] I).trans rfl
theorem e_M_weightOf_4 (X : pm_XT) (w1 : Int) (v3 : Int) (I : pm_I) : f_M_weightOf_4 X w1 v3 I =
  if v3 < (I 77 8) then
  if 0 ≤ v3 ∧ v3 < 8 then
  if (I 87 v3) = 0 then
  if pm_r32 (v3 + 1) then
  f_M_weightOf_4 X (pm_w64 (w1 * 1)) (v3 + 1) I
  else none
  else (f_M_isClosed X v3 I).bind (fun x1 =>
  if x1.1 = 0 then
  if pm_r32 (v3 + 1) then
  f_M_weightOf_4 X (pm_w64 (w1 * 1)) (v3 + 1) x1.2
  else none
  else (f_M_turnOf X v3 x1.2).bind (fun x2 =>
  if 0 ≤ x2.1 ∧ x2.1 < 8 then
  if pm_r32 (v3 + 1) then
  f_M_weightOf_4 X (pm_w64 (w1 * (x2.2 79 x2.1))) (v3 + 1) x2.2
  else none
  else none))
  else none
  else some (w1, I) := (pm_seg pm_T_ct (pm_env X) [0, 4] 28 127 2 4 [some (.inr (.inr 77)), some (.inr (.inl w1)), none, some (.inl v3)] [] I).trans rfl
theorem e_M_weight (X : pm_XT)  (I : pm_I) : f_M_weight X  I =
  (f_M_layBacks X I).bind (fun x1 =>
  (f_M_takeLines X x1.2).bind (fun x2 =>
  (f_M_weightOf X x2.2).bind (fun x3 =>
  some (x3.1, x3.2)))) := (pm_seg pm_T_ct (pm_env X) [0] 8 128 3 0 [some (.inr (.inr 77))] [] I).trans rfl
theorem e_M_turned (X : pm_XT)  (I : pm_I) : f_M_turned X  I =
  (f_M_layBacks X I).bind (fun x1 =>
  f_M_turned_8 X 0 0 x1.2) := (pm_seg pm_T_ct (pm_env X) [0, 8] 8 129 3 0 [some (.inr (.inr 77)), none, none, none] [] I).trans rfl
theorem e_M_turned_8 (X : pm_XT) (v1 : Int) (v2 : Int) (I : pm_I) : f_M_turned_8 X v1 v2 I =
  if v2 < (I 77 4) then
  if 0 ≤ v2 ∧ v2 < 10 then
  if 0 ≤ (I 80 v2) ∧ (I 80 v2) < 6 then
  if 0 ≤ v2 ∧ v2 < 10 then
  (f_M_product X (I 95 (I 80 v2)) (I 82 v2) I).bind (fun x1 =>
  if 0 ≤ v2 ∧ v2 < 10 then
  if 0 ≤ (x1.2 81 v2) ∧ (x1.2 81 v2) < 6 then
  if 0 ≤ (x1.2 95 (x1.2 81 v2)) ∧ (x1.2 95 (x1.2 81 v2)) < 8 then
  (f_M_product X x1.1 (x1.2 94 (x1.2 95 (x1.2 81 v2))) x1.2).bind (fun x2 =>
  if 0 ≤ v2 ∧ v2 < 10 then
  if x2.1 = (x2.2 82 v2) then
  if pm_r32 (v1 + 0) then
  if 0 ≤ v2 ∧ v2 < 10 then
  if pm_r32 (v2 + 1) then
  f_M_turned_8 X (v1 + 0) (v2 + 1) (pm_up x2.2 82 v2 x2.1)
  else none
  else none
  else none
  else if pm_r32 (v1 + 1) then
  if 0 ≤ v2 ∧ v2 < 10 then
  if pm_r32 (v2 + 1) then
  f_M_turned_8 X (v1 + 1) (v2 + 1) (pm_up x2.2 82 v2 x2.1)
  else none
  else none
  else none
  else none)
  else none
  else none
  else none)
  else none
  else none
  else none
  else some (v1, I) := (pm_seg pm_T_ct (pm_env X) [0, 8] 50 129 3 8 [some (.inr (.inr 77)), some (.inl v1), some (.inl v2), none] [] I).trans rfl
theorem e_M_twist (X : pm_XT) (v1 : Int) (v2 : Int) (I : pm_I) : f_M_twist X v1 v2 I =
  (f_M_isPoint X v1 I).bind (fun x1 =>
  if x1.1 = 0 then
  some ((-1), x1.2)
  else (f_M_isTurn X v2 x1.2).bind (fun x2 =>
  if x2.1 = 0 then
  some ((-1), x2.2)
  else (f_M_record X x2.2).bind (fun x3 =>
  f_M_twist_24 X v1 v2 0 x3.2))) := (pm_seg pm_T_ct (pm_env X) [0, 24] 14 130 4 0 [some (.inr (.inr 77)), some (.inl v1), some (.inl v2), none] [] I).trans rfl
theorem e_M_twist_24 (X : pm_XT) (v1 : Int) (v2 : Int) (v3 : Int) (I : pm_I) : f_M_twist_24 X v1 v2 v3 I =
  if v3 < 6 then
  if v3 = v1 then
  if 0 ≤ v3 ∧ v3 < 6 then
  if pm_r32 (v3 + 1) then
  f_M_twist_24 X v1 v2 (v3 + 1) (pm_up I 95 v3 v2)
  else none
  else none
  else if 0 ≤ v3 ∧ v3 < 6 then
  if pm_r32 (v3 + 1) then
  f_M_twist_24 X v1 v2 (v3 + 1) (pm_up I 95 v3 0)
  else none
  else none
  else (f_M_turned X I).bind (fun x1 =>
  some (x1.1, x1.2)) := (pm_seg pm_T_ct (pm_env X) [0, 24] 16 130 4 24 [some (.inr (.inr 77)), some (.inl v1), some (.inl v2), some (.inl v3)] [] I).trans rfl
theorem e_M_layTree (X : pm_XT)  (I : pm_I) : f_M_layTree X  I =
  f_M_layTree_4 X 0 0 I := (pm_seg pm_T_ct (pm_env X) [0, 4, 25, 92] 6 131 0 0 [some (.inr (.inr 77)), none, none, none, none, none] [] I).trans rfl
theorem e_M_layTree_4 (X : pm_XT) (v1 : Int) (v2 : Int) (I : pm_I) : f_M_layTree_4 X v1 v2 I =
  if v2 < 6 then
  if 0 ≤ v2 ∧ v2 < 6 then
  if pm_r32 (v2 + 1) then
  f_M_layTree_4 X v1 (v2 + 1) (pm_up I 96 v2 v2)
  else none
  else none
  else f_M_layTree_25 X v1 0 I := (pm_seg pm_T_ct (pm_env X) [0, 4, 25, 92] 12 131 0 4 [some (.inr (.inr 77)), some (.inl v1), some (.inl v2), none, none, none] [] I).trans rfl
theorem e_M_layTree_25 (X : pm_XT) (v1 : Int) (v2 : Int) (I : pm_I) : f_M_layTree_25 X v1 v2 I =
  if v2 < (I 77 4) then
  if 0 ≤ v2 ∧ v2 < 10 then
  if 0 ≤ (I 80 v2) ∧ (I 80 v2) < 6 then
  if 0 ≤ v2 ∧ v2 < 10 then
  if 0 ≤ (I 81 v2) ∧ (I 81 v2) < 6 then
  if (I 96 (I 80 v2)) = (I 96 (I 81 v2)) then
  if (0 ≤ v2 ∧ v2 < 10) ∧ (0 = 0 ∨ 0 = 1) then
  if (I 96 (I 80 v2)) = (I 96 (I 81 v2)) then
  if pm_r32 (v1 + 0) then
  f_M_layTree_92 X (v1 + 0) v2 (I 96 (I 80 v2)) (I 96 (I 81 v2)) 0 (pm_up I 97 v2 0)
  else none
  else if pm_r32 (v1 + 1) then
  f_M_layTree_92 X (v1 + 1) v2 (I 96 (I 80 v2)) (I 96 (I 81 v2)) 0 (pm_up I 97 v2 0)
  else none
  else none
  else if (0 ≤ v2 ∧ v2 < 10) ∧ (1 = 0 ∨ 1 = 1) then
  if (I 96 (I 80 v2)) = (I 96 (I 81 v2)) then
  if pm_r32 (v1 + 0) then
  f_M_layTree_92 X (v1 + 0) v2 (I 96 (I 80 v2)) (I 96 (I 81 v2)) 0 (pm_up I 97 v2 1)
  else none
  else if pm_r32 (v1 + 1) then
  f_M_layTree_92 X (v1 + 1) v2 (I 96 (I 80 v2)) (I 96 (I 81 v2)) 0 (pm_up I 97 v2 1)
  else none
  else none
  else none
  else none
  else none
  else none
  else some (v1, I) := (pm_seg pm_T_ct (pm_env X) [0, 4, 25, 92] 41 131 0 25 [some (.inr (.inr 77)), some (.inl v1), some (.inl v2), none, none, none] [] I).trans rfl
theorem e_M_layTree_92 (X : pm_XT) (v1 : Int) (v2 : Int) (v3 : Int) (v4 : Int) (v5 : Int) (I : pm_I) : f_M_layTree_92 X v1 v2 v3 v4 v5 I =
  if v5 < 6 then
  if 0 ≤ v5 ∧ v5 < 6 then
  if (I 96 v5) = v3 then
  if v3 < v4 then
  if 0 ≤ v5 ∧ v5 < 6 then
  if pm_r32 (v5 + 1) then
  f_M_layTree_92 X v1 v2 v3 v4 (v5 + 1) (pm_up I 96 v5 v3)
  else none
  else none
  else if 0 ≤ v5 ∧ v5 < 6 then
  if pm_r32 (v5 + 1) then
  f_M_layTree_92 X v1 v2 v3 v4 (v5 + 1) (pm_up I 96 v5 v4)
  else none
  else none
  else if 0 ≤ v5 ∧ v5 < 6 then
  if (I 96 v5) = v4 then
  if v3 < v4 then
  if 0 ≤ v5 ∧ v5 < 6 then
  if pm_r32 (v5 + 1) then
  f_M_layTree_92 X v1 v2 v3 v4 (v5 + 1) (pm_up I 96 v5 v3)
  else none
  else none
  else if 0 ≤ v5 ∧ v5 < 6 then
  if pm_r32 (v5 + 1) then
  f_M_layTree_92 X v1 v2 v3 v4 (v5 + 1) (pm_up I 96 v5 v4)
  else none
  else none
  else if 0 ≤ v5 ∧ v5 < 6 then
  if 0 ≤ v5 ∧ v5 < 6 then
  if pm_r32 (v5 + 1) then
  f_M_layTree_92 X v1 v2 v3 v4 (v5 + 1) (pm_up I 96 v5 (I 96 v5))
  else none
  else none
  else none
  else none
  else none
  else if pm_r32 (v2 + 1) then
  f_M_layTree_25 X v1 (v2 + 1) I
  else none := (pm_seg pm_T_ct (pm_env X) [0, 4, 25, 92] 28 131 0 92 [some (.inr (.inr 77)), some (.inl v1), some (.inl v2), some (.inl v3), some (.inl v4), some (.inl v5)] [] I).trans rfl
theorem e_M_still (X : pm_XT)  (I : pm_I) : f_M_still X  I =
  (f_M_record X I).bind (fun x1 =>
  (f_M_layBacks X x1.2).bind (fun x2 =>
  (f_M_layTree X x2.2).bind (fun x3 =>
  f_M_still_20 X x3.1 0 x3.2))) := (pm_seg pm_T_ct (pm_env X) [0, 20, 59, 68] 14 132 4 0 [some (.inr (.inr 77)), none, none, none, none, none, none] [] I).trans rfl
theorem e_M_still_20 (X : pm_XT) (v1 : Int) (v3 : Int) (I : pm_I) : f_M_still_20 X v1 v3 I =
  if v3 < 6 then
  if 0 ≤ v3 ∧ v3 < 6 then
  if (I 96 v3) = v3 then
  if (0 ≤ v3 ∧ v3 < 6) ∧ (1 = 0 ∨ 1 = 1) then
  if 0 ≤ v3 ∧ v3 < 6 then
  if pm_r32 (v3 + 1) then
  f_M_still_20 X v1 (v3 + 1) (pm_up (pm_up I 98 v3 1) 95 v3 0)
  else none
  else none
  else none
  else if (0 ≤ v3 ∧ v3 < 6) ∧ (0 = 0 ∨ 0 = 1) then
  if 0 ≤ v3 ∧ v3 < 6 then
  if pm_r32 (v3 + 1) then
  f_M_still_20 X v1 (v3 + 1) (pm_up (pm_up I 98 v3 0) 95 v3 0)
  else none
  else none
  else none
  else none
  else f_M_still_59 X v1 0 I := (pm_seg pm_T_ct (pm_env X) [0, 20, 59, 68] 23 132 4 20 [some (.inr (.inr 77)), some (.inl v1), some (.inr (.inr 98)), some (.inl v3), none, none, none] [] I).trans rfl
theorem e_M_still_59 (X : pm_XT) (v1 : Int) (v3 : Int) (I : pm_I) : f_M_still_59 X v1 v3 I =
  if v3 < 6 then
  f_M_still_68 X v1 v3 0 I
  else if v1 < 0 then
  some ((-1), I)
  else (f_M_turned X I).bind (fun x1 =>
  some (x1.1, x1.2)) := (pm_seg pm_T_ct (pm_env X) [0, 20, 59, 68] 9 132 4 59 [some (.inr (.inr 77)), some (.inl v1), some (.inr (.inr 98)), some (.inl v3), none, none, none] [] I).trans rfl
theorem e_M_still_68 (X : pm_XT) (v1 : Int) (v3 : Int) (v4 : Int) (I : pm_I) : f_M_still_68 X v1 v3 v4 I =
  if v4 < (I 77 4) then
  if 0 ≤ v4 ∧ v4 < 10 then
  if 0 ≤ v4 ∧ v4 < 10 then
  if 0 ≤ v4 ∧ v4 < 10 then
  if (I 97 v4) = 0 then
  if pm_r32 (v4 + 1) then
  f_M_still_68 X v1 v3 (v4 + 1) I
  else none
  else if 0 ≤ (I 80 v4) ∧ (I 80 v4) < 6 then
  if 0 ≤ (I 81 v4) ∧ (I 81 v4) < 6 then
  if (I 98 (I 80 v4)) = (I 98 (I 81 v4)) then
  if pm_r32 (v4 + 1) then
  f_M_still_68 X v1 v3 (v4 + 1) I
  else none
  else if 0 ≤ (I 80 v4) ∧ (I 80 v4) < 6 then
  if (I 98 (I 80 v4)) = 0 then
  if 0 ≤ (I 81 v4) ∧ (I 81 v4) < 6 then
  if 0 ≤ v4 ∧ v4 < 10 then
  if 0 ≤ (I 82 v4) ∧ (I 82 v4) < 8 then
  (f_M_product X (I 95 (I 81 v4)) (I 94 (I 82 v4)) I).bind (fun x1 =>
  if 0 ≤ (I 80 v4) ∧ (I 80 v4) < 6 then
  if (0 ≤ (I 80 v4) ∧ (I 80 v4) < 6) ∧ (1 = 0 ∨ 1 = 1) then
  if pm_r32 (v4 + 1) then
  f_M_still_68 X v1 v3 (v4 + 1) (pm_up (pm_up x1.2 95 (I 80 v4) x1.1) 98 (I 80 v4) 1)
  else none
  else none
  else none)
  else none
  else none
  else none
  else if 0 ≤ (I 80 v4) ∧ (I 80 v4) < 6 then
  if 0 ≤ v4 ∧ v4 < 10 then
  (f_M_product X (I 95 (I 80 v4)) (I 82 v4) I).bind (fun x2 =>
  if 0 ≤ (I 81 v4) ∧ (I 81 v4) < 6 then
  if (0 ≤ (I 81 v4) ∧ (I 81 v4) < 6) ∧ (1 = 0 ∨ 1 = 1) then
  if pm_r32 (v4 + 1) then
  f_M_still_68 X v1 v3 (v4 + 1) (pm_up (pm_up x2.2 95 (I 81 v4) x2.1) 98 (I 81 v4) 1)
  else none
  else none
  else none)
  else none
  else none
  else none
  else none
  else none
  else none
  else none
  else none
  else if pm_r32 (v3 + 1) then
  f_M_still_59 X v1 (v3 + 1) I
  else none := (pm_seg pm_T_ct (pm_env X) [0, 20, 59, 68] 55 132 4 68 [some (.inr (.inr 77)), some (.inl v1), some (.inr (.inr 98)), some (.inl v3), some (.inl v4), none, none] [] I).trans rfl
theorem e_M_tree (X : pm_XT) (v1 : Int) (I : pm_I) : f_M_tree X v1 I =
  (f_M_isLine X v1 I).bind (fun x1 =>
  if x1.1 = 0 then
  some ((-1), x1.2)
  else (f_M_layTree X x1.2).bind (fun x2 =>
  if x2.1 < 0 then
  some (0, x2.2)
  else if 0 ≤ v1 ∧ v1 < 10 then
  if (x2.2 97 v1) = 0 then
  some (0, x2.2)
  else some (1, x2.2)
  else none)) := (pm_seg pm_T_ct (pm_env X) [0] 18 133 2 0 [some (.inr (.inr 77)), some (.inl v1), none] [] I).trans rfl
theorem e_M_power (X : pm_XT) (v1 : Int) (I : pm_I) : f_M_power X v1 I =
  f_M_power_5 X v1 1 0 I := (pm_seg pm_T_ct (pm_env X) [0, 5] 6 134 0 0 [some (.inr (.inr 77)), some (.inl v1), none, none, none] [] I).trans rfl
theorem e_M_power_5 (X : pm_XT) (v1 : Int) (w2 : Int) (v4 : Int) (I : pm_I) : f_M_power_5 X v1 w2 v4 I =
  if v4 < v1 then
  if pm_r32 (v4 + 1) then
  f_M_power_5 X v1 (pm_w64 (w2 * (I 77 0))) (v4 + 1) I
  else none
  else some (w2, I) := (pm_seg pm_T_ct (pm_env X) [0, 5] 13 134 0 5 [some (.inr (.inr 77)), some (.inl v1), some (.inr (.inl w2)), none, some (.inl v4)] [] I).trans rfl
theorem e_M_isFlat (X : pm_XT)  (I : pm_I) : f_M_isFlat X  I =
  f_M_isFlat_4 X 1 0 I := (pm_seg pm_T_ct (pm_env X) [0, 4] 6 135 2 0 [some (.inr (.inr 77)), none, none] [] I).trans rfl
theorem e_M_isFlat_4 (X : pm_XT) (v1 : Int) (v2 : Int) (I : pm_I) : f_M_isFlat_4 X v1 v2 I =
  if v2 < (I 77 8) then
  if v1 = 0 then
  if pm_r32 (v2 + 1) then
  f_M_isFlat_4 X 0 (v2 + 1) I
  else none
  else if 0 ≤ v2 ∧ v2 < 8 then
  if (I 87 v2) = 0 then
  if pm_r32 (v2 + 1) then
  f_M_isFlat_4 X 1 (v2 + 1) I
  else none
  else (f_M_isClosed X v2 I).bind (fun x1 =>
  if x1.1 = 0 then
  if pm_r32 (v2 + 1) then
  f_M_isFlat_4 X 1 (v2 + 1) x1.2
  else none
  else (f_M_turnOf X v2 x1.2).bind (fun x2 =>
  if x2.1 = 0 then
  if pm_r32 (v2 + 1) then
  f_M_isFlat_4 X 1 (v2 + 1) x2.2
  else none
  else if pm_r32 (v2 + 1) then
  f_M_isFlat_4 X 0 (v2 + 1) x2.2
  else none))
  else none
  else if v1 = 0 ∨ v1 = 1 then some (v1, I) else none := (pm_seg pm_T_ct (pm_env X) [0, 4] 26 135 2 4 [some (.inr (.inr 77)), some (.inl v1), some (.inl v2)] [] I).trans rfl
theorem e_M_summed (X : pm_XT) (v1 : Int) (v2 : Int) (v3 : Int) (I : pm_I) : f_M_summed X v1 v2 v3 I =
  (f_M_layTree X I).bind (fun x1 =>
  (f_M_layBacks X x1.2).bind (fun x2 =>
  if pm_r32 ((x2.2 77 4) - x1.1) then
  (f_M_power X ((x2.2 77 4) - x1.1) x2.2).bind (fun x3 =>
  if 40000 < x3.1 then
  some ((-6), x3.2)
  else if x3.1 = 40000 then
  f_M_summed_45 X v1 v2 v3 x1.1 x3.1 0 x3.2
  else f_M_summed_45 X v1 v2 v3 x1.1 x3.1 0 x3.2)
  else none)) := (pm_seg pm_T_ct (pm_env X) [0, 45, 77, 93] 23 136 3 0 [some (.inr (.inr 77)), some (.inl v1), some (.inl v2), some (.inl v3), none, none, none, none, none, none, none, none, none] [] I).trans rfl
theorem e_M_summed_45 (X : pm_XT) (v1 : Int) (v2 : Int) (v3 : Int) (v4 : Int) (w5 : Int) (v8 : Int) (I : pm_I) : f_M_summed_45 X v1 v2 v3 v4 w5 v8 I =
  if v8 < (I 77 0) then
  (f_M_classOf X v8 I).bind (fun x1 =>
  if 0 ≤ v8 ∧ v8 < 8 then
  if pm_r32 (v8 + 1) then
  f_M_summed_45 X v1 v2 v3 v4 w5 (v8 + 1) (pm_up x1.2 99 v8 x1.1)
  else none
  else none)
  else f_M_summed_77 X v1 v2 v3 v4 w5 0 0 I := (pm_seg pm_T_ct (pm_env X) [0, 45, 77, 93] 14 136 3 45 [some (.inr (.inr 77)), some (.inl v1), some (.inl v2), some (.inl v3), some (.inl v4), some (.inr (.inl w5)), none, some (.inr (.inr 99)), some (.inl v8), none, none, none, none] [] I).trans rfl
theorem e_M_summed_77 (X : pm_XT) (v1 : Int) (v2 : Int) (v3 : Int) (v4 : Int) (w5 : Int) (w8 : Int) (v10 : Int) (I : pm_I) : f_M_summed_77 X v1 v2 v3 v4 w5 w8 v10 I =
  if w5 < v10 then
  (f_M_power X v4 I).bind (fun x1 =>
  some ((pm_w64 (w8 * x1.1)), x1.2))
  else if v10 = w5 then
  (f_M_power X v4 I).bind (fun x2 =>
  some ((pm_w64 (w8 * x2.1)), x2.2))
  else f_M_summed_93 X v1 v2 v3 v4 w5 w8 v10 v10 0 I := (pm_seg pm_T_ct (pm_env X) [0, 45, 77, 93] 12 136 3 77 [some (.inr (.inr 77)), some (.inl v1), some (.inl v2), some (.inl v3), some (.inl v4), some (.inr (.inl w5)), none, some (.inr (.inr 99)), some (.inr (.inl w8)), none, some (.inl v10), none, none] [] I).trans rfl
theorem e_M_summed_93 (X : pm_XT) (v1 : Int) (v2 : Int) (v3 : Int) (v4 : Int) (w5 : Int) (w8 : Int) (v10 : Int) (v11 : Int) (v12 : Int) (I : pm_I) : f_M_summed_93 X v1 v2 v3 v4 w5 w8 v10 v11 v12 I =
  if v12 < (I 77 4) then
  if 0 ≤ v12 ∧ v12 < 10 then
  if (I 97 v12) = 0 then
  if 0 ≤ v11 ∧ 0 < (I 77 0) then
  if 0 ≤ v12 ∧ v12 < 10 then
  if 0 ≤ v12 ∧ v12 < 10 then
  if ((pm_up I 93 v12 (v11 % (I 77 0))) 97 v12) = 0 then
  if 0 ≤ v11 ∧ 0 < ((pm_up I 93 v12 (v11 % (I 77 0))) 77 0) then
  if pm_r32 (v12 + 1) then
  f_M_summed_93 X v1 v2 v3 v4 w5 w8 v10 (v11 / ((pm_up I 93 v12 (v11 % (I 77 0))) 77 0)) (v12 + 1) (pm_up I 93 v12 (v11 % (I 77 0)))
  else none
  else none
  else if 0 ≤ v11 ∧ 0 < 1 then
  if pm_r32 (v12 + 1) then
  f_M_summed_93 X v1 v2 v3 v4 w5 w8 v10 (v11 / 1) (v12 + 1) (pm_up I 93 v12 (v11 % (I 77 0)))
  else none
  else none
  else none
  else none
  else none
  else if 0 ≤ v12 ∧ v12 < 10 then
  if 0 ≤ v12 ∧ v12 < 10 then
  if ((pm_up I 93 v12 0) 97 v12) = 0 then
  if 0 ≤ v11 ∧ 0 < ((pm_up I 93 v12 0) 77 0) then
  if pm_r32 (v12 + 1) then
  f_M_summed_93 X v1 v2 v3 v4 w5 w8 v10 (v11 / ((pm_up I 93 v12 0) 77 0)) (v12 + 1) (pm_up I 93 v12 0)
  else none
  else none
  else if 0 ≤ v11 ∧ 0 < 1 then
  if pm_r32 (v12 + 1) then
  f_M_summed_93 X v1 v2 v3 v4 w5 w8 v10 (v11 / 1) (v12 + 1) (pm_up I 93 v12 0)
  else none
  else none
  else none
  else none
  else none
  else if v1 = 2 then
  (f_M_isFlat X I).bind (fun x1 =>
  if x1.1 = 0 then
  if pm_r32 (v10 + 1) then
  f_M_summed_77 X v1 v2 v3 v4 w5 (pm_w64 (w8 + 0)) (v10 + 1) x1.2
  else none
  else if pm_r32 (v10 + 1) then
  f_M_summed_77 X v1 v2 v3 v4 w5 (pm_w64 (w8 + 1)) (v10 + 1) x1.2
  else none)
  else if v1 = 0 then
  (f_M_weightOf X I).bind (fun x2 =>
  if pm_r32 (v10 + 1) then
  f_M_summed_77 X v1 v2 v3 v4 w5 (pm_w64 (w8 + x2.1)) (v10 + 1) x2.2
  else none)
  else (f_M_turnOf X v2 I).bind (fun x3 =>
  if 0 ≤ x3.1 ∧ x3.1 < 8 then
  if (x3.2 99 x3.1) = v3 then
  (f_M_weightOf X x3.2).bind (fun x4 =>
  if pm_r32 (v10 + 1) then
  f_M_summed_77 X v1 v2 v3 v4 w5 (pm_w64 (w8 + x4.1)) (v10 + 1) x4.2
  else none)
  else if pm_r32 (v10 + 1) then
  f_M_summed_77 X v1 v2 v3 v4 w5 w8 (v10 + 1) x3.2
  else none
  else none) := (pm_seg pm_T_ct (pm_env X) [0, 45, 77, 93] 31 136 3 93 [some (.inr (.inr 77)), some (.inl v1), some (.inl v2), some (.inl v3), some (.inl v4), some (.inr (.inl w5)), none, some (.inr (.inr 99)), some (.inr (.inl w8)), none, some (.inl v10), some (.inl v11), some (.inl v12)] [] I).trans rfl
theorem e_M_sum (X : pm_XT)  (I : pm_I) : f_M_sum X  I =
  (f_M_summed X 0 0 0 I).bind (fun x1 =>
  some (x1.1, x1.2)) := (pm_seg pm_T_ct (pm_env X) [0] 7 137 4 0 [some (.inr (.inr 77))] [] I).trans rfl
theorem e_M_canSum (X : pm_XT) (v1 : Int) (v2 : Int) (I : pm_I) : f_M_canSum X v1 v2 I =
  (f_M_isWalk X v1 I).bind (fun x1 =>
  if x1.1 = 0 then
  some (0, x1.2)
  else (f_M_isTurn X v2 x1.2).bind (fun x2 =>
  if x2.1 = 0 then
  some (0, x2.2)
  else (f_M_isClosed X v1 x2.2).bind (fun x3 =>
  if x3.1 = 0 then
  some (0, x3.2)
  else some (1, x3.2)))) := (pm_seg pm_T_ct (pm_env X) [0] 16 138 2 0 [some (.inr (.inr 77)), some (.inl v1), some (.inl v2)] [] I).trans rfl
theorem e_M_sumBy (X : pm_XT) (v1 : Int) (v2 : Int) (I : pm_I) : f_M_sumBy X v1 v2 I =
  (f_M_canSum X v1 v2 I).bind (fun x1 =>
  if x1.1 = 0 then
  some ((-1), x1.2)
  else (f_M_classOf X v2 x1.2).bind (fun x2 =>
  (f_M_summed X 1 v1 x2.1 x2.2).bind (fun x3 =>
  some (x3.1, x3.2)))) := (pm_seg pm_T_ct (pm_env X) [0] 15 139 4 0 [some (.inr (.inr 77)), some (.inl v1), some (.inl v2)] [] I).trans rfl
theorem e_M_mean (X : pm_XT) (v1 : Int) (v2 : Int) (v3 : Int) (I : pm_I) : f_M_mean X v1 v2 v3 I =
  (f_M_canSum X v1 v2 I).bind (fun x1 =>
  if x1.1 = 0 then
  some ((-1), x1.2)
  else (f_M_in X v3 0 1 x1.2).bind (fun x2 =>
  if x2.1 = 0 then
  some ((-1), x2.2)
  else (f_M_summed X 0 0 0 x2.2).bind (fun x3 =>
  if (-6) < x3.1 then
  if 0 < x3.1 then
  (f_M_classOf X v2 x3.2).bind (fun x4 =>
  (f_M_summed X 1 v1 x4.1 x4.2).bind (fun x5 =>
  f_M_mean_77 X v3 x3.1 x5.1 x5.1 x3.1 x5.2))
  else if x3.1 = 0 then
  some ((-2), x3.2)
  else (f_M_classOf X v2 x3.2).bind (fun x6 =>
  (f_M_summed X 1 v1 x6.1 x6.2).bind (fun x7 =>
  f_M_mean_77 X v3 x3.1 x7.1 x7.1 x3.1 x7.2))
  else if x3.1 = (-6) then
  some ((-6), x3.2)
  else if 0 < x3.1 then
  (f_M_classOf X v2 x3.2).bind (fun x8 =>
  (f_M_summed X 1 v1 x8.1 x8.2).bind (fun x9 =>
  f_M_mean_77 X v3 x3.1 x9.1 x9.1 x3.1 x9.2))
  else if x3.1 = 0 then
  some ((-2), x3.2)
  else (f_M_classOf X v2 x3.2).bind (fun x10 =>
  (f_M_summed X 1 v1 x10.1 x10.2).bind (fun x11 =>
  f_M_mean_77 X v3 x3.1 x11.1 x11.1 x3.1 x11.2))))) := (pm_seg pm_T_ct (pm_env X) [0, 77] 39 140 4 0 [some (.inr (.inr 77)), some (.inl v1), some (.inl v2), some (.inl v3), none, none, none, none, none, none, none, none, none, none] [] I).trans rfl
theorem e_M_mean_77 (X : pm_XT) (v3 : Int) (w4 : Int) (w6 : Int) (w8 : Int) (w10 : Int) (I : pm_I) : f_M_mean_77 X v3 w4 w6 w8 w10 I =
  if 0 < w10 then
  if 0 ≤ w8 ∧ 0 < w10 then
  f_M_mean_77 X v3 w4 w6 w10 (w8 % w10) I
  else none
  else if w10 = 0 then
  if v3 = 0 then
  if 0 ≤ w6 ∧ 0 < w8 then
  some ((w6 / w8), I)
  else none
  else if 0 ≤ w4 ∧ 0 < w8 then
  some ((w4 / w8), I)
  else none
  else if 0 ≤ w8 ∧ 0 < w10 then
  f_M_mean_77 X v3 w4 w6 w10 (w8 % w10) I
  else none := (pm_seg pm_T_ct (pm_env X) [0, 77] 15 140 4 77 [none, none, none, some (.inl v3), some (.inr (.inl w4)), none, some (.inr (.inl w6)), none, some (.inr (.inl w8)), none, some (.inr (.inl w10)), none, none, none] [] I).trans rfl
theorem e_M_flat (X : pm_XT)  (I : pm_I) : f_M_flat X  I =
  (f_M_summed X 2 0 0 I).bind (fun x1 =>
  some (x1.1, x1.2)) := (pm_seg pm_T_ct (pm_env X) [0] 7 141 4 0 [some (.inr (.inr 77))] [] I).trans rfl
theorem e_M_fill (X : pm_XT) (v1 : Int) (v2 : Int) (v3 : Int) (I : pm_I) : f_M_fill X v1 v2 v3 I =
  (f_M_in X v1 0 3 I).bind (fun x1 =>
  if x1.1 = 0 then
  some ((-1), x1.2)
  else (f_M_in X v2 0 2 x1.2).bind (fun x2 =>
  if x2.1 = 0 then
  some ((-1), x2.2)
  else if 0 ≤ v1 ∧ v1 < 4 then
  if (x2.2 89 v1) = v2 then
  f_M_fill_58 X v1 v3 0 x2.2
  else if 0 ≤ v1 ∧ v1 < 4 then
  if (x2.2 89 v1) = (-4) then
  some ((-11), x2.2)
  else some ((-13), x2.2)
  else none
  else none)) := (pm_seg pm_T_ct (pm_env X) [0, 58, 131] 28 142 2 0 [some (.inr (.inr 77)), some (.inl v1), some (.inl v2), some (.inl v3), none, none, none] [] I).trans rfl
theorem e_M_fill_58 (X : pm_XT) (v1 : Int) (v3 : Int) (v4 : Int) (I : pm_I) : f_M_fill_58 X v1 v3 v4 I =
  if v4 < (I 77 4) then
  if 0 ≤ v1 ∧ v1 < 4 then
  if pm_r32 ((I 90 v1) - 1) then
  (f_M_in X (pm_w64 (v3 + v4)) 0 ((I 90 v1) - 1) I).bind (fun x1 =>
  if x1.1 = 0 then
  some ((-12), x1.2)
  else if pm_r32 (64 * v1) then
  if pm_r32 ((64 * v1) + v3) then
  if pm_r32 (((64 * v1) + v3) + v4) then
  if 0 ≤ (((64 * v1) + v3) + v4) ∧ (((64 * v1) + v3) + v4) < 256 then
  (f_M_isTurn X (x1.2 91 (((64 * v1) + v3) + v4)) x1.2).bind (fun x2 =>
  if x2.1 = 0 then
  if pm_r32 ((-20) - v4) then
  some (((-20) - v4), x2.2)
  else none
  else if pm_r32 (v4 + 1) then
  f_M_fill_58 X v1 v3 (v4 + 1) x2.2
  else none)
  else none
  else none
  else none
  else none)
  else none
  else none
  else f_M_fill_131 X v1 v3 0 0 I := (pm_seg pm_T_ct (pm_env X) [0, 58, 131] 37 142 2 58 [some (.inr (.inr 77)), some (.inl v1), none, some (.inl v3), some (.inl v4), none, none] [] I).trans rfl
theorem e_M_fill_131 (X : pm_XT) (v1 : Int) (v3 : Int) (v4 : Int) (v5 : Int) (I : pm_I) : f_M_fill_131 X v1 v3 v4 v5 I =
  if v5 < (I 77 4) then
  if pm_r32 (64 * v1) then
  if pm_r32 ((64 * v1) + v3) then
  if pm_r32 (((64 * v1) + v3) + v5) then
  if 0 ≤ (((64 * v1) + v3) + v5) ∧ (((64 * v1) + v3) + v5) < 256 then
  if 0 ≤ v5 ∧ v5 < 10 then
  if (I 82 v5) = (I 91 (((64 * v1) + v3) + v5)) then
  if pm_r32 (v5 + 1) then
  f_M_fill_131 X v1 v3 v4 (v5 + 1) I
  else none
  else (f_M_record X I).bind (fun x1 =>
  if 0 ≤ v5 ∧ v5 < 10 then
  if pm_r32 (v4 + 1) then
  if pm_r32 (v5 + 1) then
  f_M_fill_131 X v1 v3 (v4 + 1) (v5 + 1) (pm_up x1.2 82 v5 (I 91 (((64 * v1) + v3) + v5)))
  else none
  else none
  else none)
  else none
  else none
  else none
  else none
  else none
  else some (v4, I) := (pm_seg pm_T_ct (pm_env X) [0, 58, 131] 33 142 2 131 [some (.inr (.inr 77)), some (.inl v1), none, some (.inl v3), some (.inl v4), some (.inl v5), none] [] I).trans rfl
theorem e_M_many (X : pm_XT) (v1 : Int) (I : pm_I) : f_M_many X v1 I =
  (f_M_in X v1 0 7 I).bind (fun x1 =>
  if x1.1 = 0 then
  some ((-1), x1.2)
  else (f_M_layTree X x1.2).bind (fun x2 =>
  f_M_many_24 X v1 x2.1 0 0 x2.2)) := (pm_seg pm_T_ct (pm_env X) [0, 24] 15 143 2 0 [some (.inr (.inr 77)), some (.inl v1), none, none, none] [] I).trans rfl
theorem e_M_many_24 (X : pm_XT) (v1 : Int) (v2 : Int) (v3 : Int) (v4 : Int) (I : pm_I) : f_M_many_24 X v1 v2 v3 v4 I =
  if v4 < (I 77 8) then
  if 0 ≤ v4 ∧ v4 < 8 then
  if (I 87 v4) = 0 then
  if pm_r32 (v3 + 0) then
  if pm_r32 (v4 + 1) then
  f_M_many_24 X v1 v2 (v3 + 0) (v4 + 1) I
  else none
  else none
  else (f_M_isClosed X v4 I).bind (fun x1 =>
  if x1.1 = 0 then
  if pm_r32 (v3 + 0) then
  if pm_r32 (v4 + 1) then
  f_M_many_24 X v1 v2 (v3 + 0) (v4 + 1) x1.2
  else none
  else none
  else if pm_r32 (v3 + 1) then
  if pm_r32 (v4 + 1) then
  f_M_many_24 X v1 v2 (v3 + 1) (v4 + 1) x1.2
  else none
  else none)
  else none
  else if v1 = 0 then
  some ((I 77 3), I)
  else if v1 = 1 then
  some ((I 77 4), I)
  else if v1 = 2 then
  some ((I 77 8), I)
  else if v1 = 3 then
  some (v3, I)
  else if v1 = 4 then
  if pm_r32 ((I 77 3) - v2) then
  some (((I 77 3) - v2), I)
  else none
  else if v1 = 5 then
  some (v2, I)
  else if v1 = 6 then
  some ((I 77 14), I)
  else if (I 89 0) = (-4) then
  some ((-4), I)
  else some ((I 90 0), I) := (pm_seg pm_T_ct (pm_env X) [0, 24] 22 143 2 24 [some (.inr (.inr 77)), some (.inl v1), some (.inl v2), some (.inl v3), some (.inl v4)] [] I).trans rfl
