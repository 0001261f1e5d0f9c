/-! THE LAW: its loop, case by case -/
noncomputable def f_L_18 (X : pm_XT) (v3 : Int) (I : pm_I) : pm_O := pm_X pm_T (pm_env X) 144 17 18 [some (.inr (.inr 2)), some (.inr (.inr 3)), some (.inr (.inr 77)), some (.inl v3)] [] I
noncomputable def f_L_160 (X : pm_XT) (v3 : Int) (I : pm_I) : pm_O := pm_X pm_T (pm_env X) 144 17 160 [some (.inr (.inr 2)), some (.inr (.inr 3)), some (.inr (.inr 77)), some (.inl v3)] [] I
noncomputable def f_L_193 (X : pm_XT) (v3 : Int) (I : pm_I) : pm_O := pm_X pm_T (pm_env X) 144 17 193 [some (.inr (.inr 2)), some (.inr (.inr 3)), some (.inr (.inr 77)), some (.inl v3)] [] I
noncomputable def f_L_246 (X : pm_XT) (v3 : Int) (I : pm_I) : pm_O := pm_X pm_T (pm_env X) 144 17 246 [some (.inr (.inr 2)), some (.inr (.inr 3)), some (.inr (.inr 77)), some (.inl v3)] [] I
noncomputable def f_L_279 (X : pm_XT) (v3 : Int) (I : pm_I) : pm_O := pm_X pm_T (pm_env X) 144 17 279 [some (.inr (.inr 2)), some (.inr (.inr 3)), some (.inr (.inr 77)), some (.inl v3)] [] I
noncomputable def f_L_312 (X : pm_XT) (v3 : Int) (I : pm_I) : pm_O := pm_X pm_T (pm_env X) 144 17 312 [some (.inr (.inr 2)), some (.inr (.inr 3)), some (.inr (.inr 77)), some (.inl v3)] [] I
noncomputable def f_L_335 (X : pm_XT) (v3 : Int) (I : pm_I) : pm_O := pm_X pm_T (pm_env X) 144 17 335 [some (.inr (.inr 2)), some (.inr (.inr 3)), some (.inr (.inr 77)), some (.inl v3)] [] I
noncomputable def f_L_368 (X : pm_XT) (v3 : Int) (I : pm_I) : pm_O := pm_X pm_T (pm_env X) 144 17 368 [some (.inr (.inr 2)), some (.inr (.inr 3)), some (.inr (.inr 77)), some (.inl v3)] [] I
noncomputable def f_L_381 (X : pm_XT) (v3 : Int) (I : pm_I) : pm_O := pm_X pm_T (pm_env X) 144 17 381 [some (.inr (.inr 2)), some (.inr (.inr 3)), some (.inr (.inr 77)), some (.inl v3)] [] I
noncomputable def f_L_414 (X : pm_XT) (v3 : Int) (I : pm_I) : pm_O := pm_X pm_T (pm_env X) 144 17 414 [some (.inr (.inr 2)), some (.inr (.inr 3)), some (.inr (.inr 77)), some (.inl v3)] [] I
noncomputable def f_L_437 (X : pm_XT) (v3 : Int) (I : pm_I) : pm_O := pm_X pm_T (pm_env X) 144 17 437 [some (.inr (.inr 2)), some (.inr (.inr 3)), some (.inr (.inr 77)), some (.inl v3)] [] I
noncomputable def f_L_496 (X : pm_XT) (v3 : Int) (I : pm_I) : pm_O := pm_X pm_T (pm_env X) 144 17 496 [some (.inr (.inr 2)), some (.inr (.inr 3)), some (.inr (.inr 77)), some (.inl v3)] [] I
noncomputable def f_L_545 (X : pm_XT) (v3 : Int) (I : pm_I) : pm_O := pm_X pm_T (pm_env X) 144 17 545 [some (.inr (.inr 2)), some (.inr (.inr 3)), some (.inr (.inr 77)), some (.inl v3)] [] I
noncomputable def f_L_578 (X : pm_XT) (v3 : Int) (I : pm_I) : pm_O := pm_X pm_T (pm_env X) 144 17 578 [some (.inr (.inr 2)), some (.inr (.inr 3)), some (.inr (.inr 77)), some (.inl v3)] [] I
noncomputable def f_L_591 (X : pm_XT) (v3 : Int) (I : pm_I) : pm_O := pm_X pm_T (pm_env X) 144 17 591 [some (.inr (.inr 2)), some (.inr (.inr 3)), some (.inr (.inr 77)), some (.inl v3)] [] I
noncomputable def f_L_624 (X : pm_XT) (v3 : Int) (I : pm_I) : pm_O := pm_X pm_T (pm_env X) 144 17 624 [some (.inr (.inr 2)), some (.inr (.inr 3)), some (.inr (.inr 77)), some (.inl v3)] [] I
noncomputable def f_L_647 (X : pm_XT) (v3 : Int) (I : pm_I) : pm_O := pm_X pm_T (pm_env X) 144 17 647 [some (.inr (.inr 2)), some (.inr (.inr 3)), some (.inr (.inr 77)), some (.inl v3)] [] I
noncomputable def f_L_661 (X : pm_XT) (v3 : Int) (I : pm_I) : pm_O := pm_X pm_T (pm_env X) 144 17 661 [some (.inr (.inr 2)), some (.inr (.inr 3)), some (.inr (.inr 77)), some (.inl v3)] [] I
noncomputable def f_L_694 (X : pm_XT) (v3 : Int) (I : pm_I) : pm_O := pm_X pm_T (pm_env X) 144 17 694 [some (.inr (.inr 2)), some (.inr (.inr 3)), some (.inr (.inr 77)), some (.inl v3)] [] I
noncomputable def f_L_707 (X : pm_XT) (v3 : Int) (I : pm_I) : pm_O := pm_X pm_T (pm_env X) 144 17 707 [some (.inr (.inr 2)), some (.inr (.inr 3)), some (.inr (.inr 77)), some (.inl v3)] [] I
noncomputable def f_L_720 (X : pm_XT) (v3 : Int) (I : pm_I) : pm_O := pm_X pm_T (pm_env X) 144 17 720 [some (.inr (.inr 2)), some (.inr (.inr 3)), some (.inr (.inr 77)), some (.inl v3)] [] I
noncomputable def f_L_743 (X : pm_XT) (v3 : Int) (I : pm_I) : pm_O := pm_X pm_T (pm_env X) 144 17 743 [some (.inr (.inr 2)), some (.inr (.inr 3)), some (.inr (.inr 77)), some (.inl v3)] [] I
noncomputable def f_L_757 (X : pm_XT) (v3 : Int) (I : pm_I) : pm_O := pm_X pm_T (pm_env X) 144 17 757 [some (.inr (.inr 2)), some (.inr (.inr 3)), some (.inr (.inr 77)), some (.inl v3)] [] I
noncomputable def f_L_791 (X : pm_XT) (v3 : Int) (I : pm_I) : pm_O := pm_X pm_T (pm_env X) 144 17 791 [some (.inr (.inr 2)), some (.inr (.inr 3)), some (.inr (.inr 77)), some (.inl v3)] [] I
noncomputable def f_L_835 (X : pm_XT) (v3 : Int) (I : pm_I) : pm_O := pm_X pm_T (pm_env X) 144 17 835 [some (.inr (.inr 2)), some (.inr (.inr 3)), some (.inr (.inr 77)), some (.inl v3)] [] I
noncomputable def f_L_849 (X : pm_XT) (v3 : Int) (I : pm_I) : pm_O := pm_X pm_T (pm_env X) 144 17 849 [some (.inr (.inr 2)), some (.inr (.inr 3)), some (.inr (.inr 77)), some (.inl v3)] [] I
noncomputable def f_L_892 (X : pm_XT) (v3 : Int) (I : pm_I) : pm_O := pm_X pm_T (pm_env X) 144 17 892 [some (.inr (.inr 2)), some (.inr (.inr 3)), some (.inr (.inr 77)), some (.inl v3)] [] I
noncomputable def f_L_935 (X : pm_XT) (v3 : Int) (I : pm_I) : pm_O := pm_X pm_T (pm_env X) 144 17 935 [some (.inr (.inr 2)), some (.inr (.inr 3)), some (.inr (.inr 77)), some (.inl v3)] [] I
noncomputable def f_L_978 (X : pm_XT) (v3 : Int) (I : pm_I) : pm_O := pm_X pm_T (pm_env X) 144 17 978 [some (.inr (.inr 2)), some (.inr (.inr 3)), some (.inr (.inr 77)), some (.inl v3)] [] I
noncomputable def f_L_1001 (X : pm_XT) (v3 : Int) (I : pm_I) : pm_O := pm_X pm_T (pm_env X) 144 17 1001 [some (.inr (.inr 2)), some (.inr (.inr 3)), some (.inr (.inr 77)), some (.inl v3)] [] I
set_option maxRecDepth 100000 in
theorem e_L_18 (X : pm_XT) (v3 : Int) (I : pm_I) : f_L_18 X v3 I =
  if pm_r32 (X.2 - 5) then
  if (X.2 - 5) < v3 then
  some (1, I)
  else if 0 ≤ v3 ∧ v3 < X.2 then
  if (pm_and (pm_xv X.1 2 v3) 31) = 0 then
  f_L_160 X v3 I
  else if (pm_and (pm_xv X.1 2 v3) 31) = 1 then
  f_L_193 X v3 I
  else if (pm_and (pm_xv X.1 2 v3) 31) = 2 then
  f_L_246 X v3 I
  else if (pm_and (pm_xv X.1 2 v3) 31) = 3 then
  f_L_279 X v3 I
  else if (pm_and (pm_xv X.1 2 v3) 31) = 4 then
  f_L_312 X v3 I
  else if (pm_and (pm_xv X.1 2 v3) 31) = 5 then
  f_L_335 X v3 I
  else if (pm_and (pm_xv X.1 2 v3) 31) = 6 then
  f_L_368 X v3 I
  else if (pm_and (pm_xv X.1 2 v3) 31) = 7 then
  f_L_381 X v3 I
  else if (pm_and (pm_xv X.1 2 v3) 31) = 8 then
  f_L_414 X v3 I
  else if (pm_and (pm_xv X.1 2 v3) 31) = 9 then
  f_L_437 X v3 I
  else if (pm_and (pm_xv X.1 2 v3) 31) = 10 then
  f_L_496 X v3 I
  else if (pm_and (pm_xv X.1 2 v3) 31) = 11 then
  f_L_545 X v3 I
  else if (pm_and (pm_xv X.1 2 v3) 31) = 12 then
  f_L_578 X v3 I
  else if (pm_and (pm_xv X.1 2 v3) 31) = 13 then
  f_L_591 X v3 I
  else if (pm_and (pm_xv X.1 2 v3) 31) = 14 then
  f_L_624 X v3 I
  else if (pm_and (pm_xv X.1 2 v3) 31) = 15 then
  f_L_647 X v3 I
  else if (pm_and (pm_xv X.1 2 v3) 31) = 16 then
  f_L_661 X v3 I
  else if (pm_and (pm_xv X.1 2 v3) 31) = 17 then
  f_L_694 X v3 I
  else if (pm_and (pm_xv X.1 2 v3) 31) = 18 then
  f_L_707 X v3 I
  else if (pm_and (pm_xv X.1 2 v3) 31) = 19 then
  f_L_720 X v3 I
  else if (pm_and (pm_xv X.1 2 v3) 31) = 20 then
  f_L_743 X v3 I
  else if (pm_and (pm_xv X.1 2 v3) 31) = 21 then
  f_L_757 X v3 I
  else if (pm_and (pm_xv X.1 2 v3) 31) = 22 then
  f_L_791 X v3 I
  else if (pm_and (pm_xv X.1 2 v3) 31) = 23 then
  f_L_835 X v3 I
  else if (pm_and (pm_xv X.1 2 v3) 31) = 24 then
  f_L_849 X v3 I
  else if (pm_and (pm_xv X.1 2 v3) 31) = 25 then
  f_L_892 X v3 I
  else if (pm_and (pm_xv X.1 2 v3) 31) = 26 then
  f_L_935 X v3 I
  else if (pm_and (pm_xv X.1 2 v3) 31) = 27 then
  f_L_978 X v3 I
  else f_L_1001 X v3 I
  else none
  else none := (pm_seg pm_T_ct (pm_env X) [0, 18, 160, 193, 246, 279, 312, 335, 368, 381, 414, 437, 496, 545, 578, 591, 624, 647, 661, 694, 707, 720, 743, 757, 791, 835, 849, 892, 935, 978, 1001] 14 144 17 18 [some (.inr (.inr 2)), some (.inr (.inr 3)), some (.inr (.inr 77)), some (.inl v3)] [] I).trans rfl
set_option maxRecDepth 100000 in
theorem e_L_160 (X : pm_XT) (v3 : Int) (I : pm_I) : f_L_160 X v3 I =
  if pm_r32 (v3 + 1) then
  if 0 ≤ (v3 + 1) ∧ (v3 + 1) < X.2 then
  if pm_r32 (v3 + 2) then
  if 0 ≤ (v3 + 2) ∧ (v3 + 2) < X.2 then
  (f_T_group X (pm_xv X.1 2 (v3 + 1)) (pm_xv X.1 2 (v3 + 2)) I).bind (fun x1 =>
  if pm_r32 (v3 + 1) then
  if 0 ≤ (v3 + 1) ∧ (v3 + 1) < X.2 then
  if pm_r32 (v3 + 2) then
  if 0 ≤ (v3 + 2) ∧ (v3 + 2) < X.2 then
  (f_M_group X (pm_xv X.1 2 (v3 + 1)) (pm_xv X.1 2 (v3 + 2)) x1.2).bind (fun x2 =>
  if x1.1 = x2.1 then
  f_L_1001 X v3 x2.2
  else some (0, x2.2))
  else none
  else none
  else none
  else none)
  else none
  else none
  else none
  else none := (pm_seg pm_T_ct (pm_env X) [0, 18, 160, 193, 246, 279, 312, 335, 368, 381, 414, 437, 496, 545, 578, 591, 624, 647, 661, 694, 707, 720, 743, 757, 791, 835, 849, 892, 935, 978, 1001] 28 144 17 160 [some (.inr (.inr 2)), some (.inr (.inr 3)), some (.inr (.inr 77)), some (.inl v3)] [] I).trans rfl
set_option maxRecDepth 100000 in
theorem e_L_193 (X : pm_XT) (v3 : Int) (I : pm_I) : f_L_193 X v3 I =
  if pm_r32 (v3 + 1) then
  if 0 ≤ (v3 + 1) ∧ (v3 + 1) < X.2 then
  if pm_r32 (v3 + 2) then
  if 0 ≤ (v3 + 2) ∧ (v3 + 2) < X.2 then
  if pm_r32 (v3 + 3) then
  if 0 ≤ (v3 + 3) ∧ (v3 + 3) < X.2 then
  if pm_r32 (v3 + 4) then
  if 0 ≤ (v3 + 4) ∧ (v3 + 4) < X.2 then
  (f_T_read X (pm_xv X.1 2 (v3 + 1)) (pm_xv X.1 2 (v3 + 2)) (pm_xv X.1 2 (v3 + 3)) (pm_xv X.1 2 (v3 + 4)) I).bind (fun x1 =>
  if pm_r32 (v3 + 1) then
  if 0 ≤ (v3 + 1) ∧ (v3 + 1) < X.2 then
  if pm_r32 (v3 + 2) then
  if 0 ≤ (v3 + 2) ∧ (v3 + 2) < X.2 then
  if pm_r32 (v3 + 3) then
  if 0 ≤ (v3 + 3) ∧ (v3 + 3) < X.2 then
  if pm_r32 (v3 + 4) then
  if 0 ≤ (v3 + 4) ∧ (v3 + 4) < X.2 then
  (f_M_read X (pm_xv X.1 2 (v3 + 1)) (pm_xv X.1 2 (v3 + 2)) (pm_xv X.1 2 (v3 + 3)) (pm_xv X.1 2 (v3 + 4)) x1.2).bind (fun x2 =>
  if x1.1 = x2.1 then
  f_L_1001 X v3 x2.2
  else some (0, x2.2))
  else none
  else none
  else none
  else none
  else none
  else none
  else none
  else none)
  else none
  else none
  else none
  else none
  else none
  else none
  else none
  else none := (pm_seg pm_T_ct (pm_env X) [0, 18, 160, 193, 246, 279, 312, 335, 368, 381, 414, 437, 496, 545, 578, 591, 624, 647, 661, 694, 707, 720, 743, 757, 791, 835, 849, 892, 935, 978, 1001] 48 144 17 193 [some (.inr (.inr 2)), some (.inr (.inr 3)), some (.inr (.inr 77)), some (.inl v3)] [] I).trans rfl
set_option maxRecDepth 100000 in
theorem e_L_246 (X : pm_XT) (v3 : Int) (I : pm_I) : f_L_246 X v3 I =
  if pm_r32 (v3 + 1) then
  if 0 ≤ (v3 + 1) ∧ (v3 + 1) < X.2 then
  if pm_r32 (v3 + 2) then
  if 0 ≤ (v3 + 2) ∧ (v3 + 2) < X.2 then
  (f_T_times X (pm_xv X.1 2 (v3 + 1)) (pm_xv X.1 2 (v3 + 2)) I).bind (fun x1 =>
  if pm_r32 (v3 + 1) then
  if 0 ≤ (v3 + 1) ∧ (v3 + 1) < X.2 then
  if pm_r32 (v3 + 2) then
  if 0 ≤ (v3 + 2) ∧ (v3 + 2) < X.2 then
  (f_M_times X (pm_xv X.1 2 (v3 + 1)) (pm_xv X.1 2 (v3 + 2)) x1.2).bind (fun x2 =>
  if x1.1 = x2.1 then
  f_L_1001 X v3 x2.2
  else some (0, x2.2))
  else none
  else none
  else none
  else none)
  else none
  else none
  else none
  else none := (pm_seg pm_T_ct (pm_env X) [0, 18, 160, 193, 246, 279, 312, 335, 368, 381, 414, 437, 496, 545, 578, 591, 624, 647, 661, 694, 707, 720, 743, 757, 791, 835, 849, 892, 935, 978, 1001] 28 144 17 246 [some (.inr (.inr 2)), some (.inr (.inr 3)), some (.inr (.inr 77)), some (.inl v3)] [] I).trans rfl
set_option maxRecDepth 100000 in
theorem e_L_279 (X : pm_XT) (v3 : Int) (I : pm_I) : f_L_279 X v3 I =
  if pm_r32 (v3 + 1) then
  if 0 ≤ (v3 + 1) ∧ (v3 + 1) < X.2 then
  if pm_r32 (v3 + 2) then
  if 0 ≤ (v3 + 2) ∧ (v3 + 2) < X.2 then
  (f_T_turn X (pm_xv X.1 2 (v3 + 1)) (pm_xv X.1 2 (v3 + 2)) I).bind (fun x1 =>
  if pm_r32 (v3 + 1) then
  if 0 ≤ (v3 + 1) ∧ (v3 + 1) < X.2 then
  if pm_r32 (v3 + 2) then
  if 0 ≤ (v3 + 2) ∧ (v3 + 2) < X.2 then
  (f_M_turn X (pm_xv X.1 2 (v3 + 1)) (pm_xv X.1 2 (v3 + 2)) x1.2).bind (fun x2 =>
  if x1.1 = x2.1 then
  f_L_1001 X v3 x2.2
  else some (0, x2.2))
  else none
  else none
  else none
  else none)
  else none
  else none
  else none
  else none := (pm_seg pm_T_ct (pm_env X) [0, 18, 160, 193, 246, 279, 312, 335, 368, 381, 414, 437, 496, 545, 578, 591, 624, 647, 661, 694, 707, 720, 743, 757, 791, 835, 849, 892, 935, 978, 1001] 28 144 17 279 [some (.inr (.inr 2)), some (.inr (.inr 3)), some (.inr (.inr 77)), some (.inl v3)] [] I).trans rfl
set_option maxRecDepth 100000 in
theorem e_L_312 (X : pm_XT) (v3 : Int) (I : pm_I) : f_L_312 X v3 I =
  if pm_r32 (v3 + 1) then
  if 0 ≤ (v3 + 1) ∧ (v3 + 1) < X.2 then
  (f_T_about X (pm_xv X.1 2 (v3 + 1)) I).bind (fun x1 =>
  if pm_r32 (v3 + 1) then
  if 0 ≤ (v3 + 1) ∧ (v3 + 1) < X.2 then
  (f_M_about X (pm_xv X.1 2 (v3 + 1)) x1.2).bind (fun x2 =>
  if x1.1 = x2.1 then
  f_L_1001 X v3 x2.2
  else some (0, x2.2))
  else none
  else none)
  else none
  else none := (pm_seg pm_T_ct (pm_env X) [0, 18, 160, 193, 246, 279, 312, 335, 368, 381, 414, 437, 496, 545, 578, 591, 624, 647, 661, 694, 707, 720, 743, 757, 791, 835, 849, 892, 935, 978, 1001] 18 144 17 312 [some (.inr (.inr 2)), some (.inr (.inr 3)), some (.inr (.inr 77)), some (.inl v3)] [] I).trans rfl
set_option maxRecDepth 100000 in
theorem e_L_335 (X : pm_XT) (v3 : Int) (I : pm_I) : f_L_335 X v3 I =
  if pm_r32 (v3 + 1) then
  if 0 ≤ (v3 + 1) ∧ (v3 + 1) < X.2 then
  if pm_r32 (v3 + 2) then
  if 0 ≤ (v3 + 2) ∧ (v3 + 2) < X.2 then
  (f_T_worth X (pm_xv X.1 2 (v3 + 1)) (pm_xv X.1 2 (v3 + 2)) I).bind (fun x1 =>
  if pm_r32 (v3 + 1) then
  if 0 ≤ (v3 + 1) ∧ (v3 + 1) < X.2 then
  if pm_r32 (v3 + 2) then
  if 0 ≤ (v3 + 2) ∧ (v3 + 2) < X.2 then
  (f_M_worth X (pm_xv X.1 2 (v3 + 1)) (pm_xv X.1 2 (v3 + 2)) x1.2).bind (fun x2 =>
  if x1.1 = x2.1 then
  f_L_1001 X v3 x2.2
  else some (0, x2.2))
  else none
  else none
  else none
  else none)
  else none
  else none
  else none
  else none := (pm_seg pm_T_ct (pm_env X) [0, 18, 160, 193, 246, 279, 312, 335, 368, 381, 414, 437, 496, 545, 578, 591, 624, 647, 661, 694, 707, 720, 743, 757, 791, 835, 849, 892, 935, 978, 1001] 28 144 17 335 [some (.inr (.inr 2)), some (.inr (.inr 3)), some (.inr (.inr 77)), some (.inl v3)] [] I).trans rfl
set_option maxRecDepth 100000 in
theorem e_L_368 (X : pm_XT) (v3 : Int) (I : pm_I) : f_L_368 X v3 I =
  (f_T_point X I).bind (fun x1 =>
  (f_M_point X x1.2).bind (fun x2 =>
  if x1.1 = x2.1 then
  f_L_1001 X v3 x2.2
  else some (0, x2.2))) := (pm_seg pm_T_ct (pm_env X) [0, 18, 160, 193, 246, 279, 312, 335, 368, 381, 414, 437, 496, 545, 578, 591, 624, 647, 661, 694, 707, 720, 743, 757, 791, 835, 849, 892, 935, 978, 1001] 8 144 17 368 [some (.inr (.inr 2)), some (.inr (.inr 3)), some (.inr (.inr 77)), some (.inl v3)] [] I).trans rfl
set_option maxRecDepth 100000 in
theorem e_L_381 (X : pm_XT) (v3 : Int) (I : pm_I) : f_L_381 X v3 I =
  if pm_r32 (v3 + 1) then
  if 0 ≤ (v3 + 1) ∧ (v3 + 1) < X.2 then
  if pm_r32 (v3 + 2) then
  if 0 ≤ (v3 + 2) ∧ (v3 + 2) < X.2 then
  (f_T_line X (pm_xv X.1 2 (v3 + 1)) (pm_xv X.1 2 (v3 + 2)) I).bind (fun x1 =>
  if pm_r32 (v3 + 1) then
  if 0 ≤ (v3 + 1) ∧ (v3 + 1) < X.2 then
  if pm_r32 (v3 + 2) then
  if 0 ≤ (v3 + 2) ∧ (v3 + 2) < X.2 then
  (f_M_line X (pm_xv X.1 2 (v3 + 1)) (pm_xv X.1 2 (v3 + 2)) x1.2).bind (fun x2 =>
  if x1.1 = x2.1 then
  f_L_1001 X v3 x2.2
  else some (0, x2.2))
  else none
  else none
  else none
  else none)
  else none
  else none
  else none
  else none := (pm_seg pm_T_ct (pm_env X) [0, 18, 160, 193, 246, 279, 312, 335, 368, 381, 414, 437, 496, 545, 578, 591, 624, 647, 661, 694, 707, 720, 743, 757, 791, 835, 849, 892, 935, 978, 1001] 28 144 17 381 [some (.inr (.inr 2)), some (.inr (.inr 3)), some (.inr (.inr 77)), some (.inl v3)] [] I).trans rfl
set_option maxRecDepth 100000 in
theorem e_L_414 (X : pm_XT) (v3 : Int) (I : pm_I) : f_L_414 X v3 I =
  if pm_r32 (v3 + 1) then
  if 0 ≤ (v3 + 1) ∧ (v3 + 1) < X.2 then
  (f_T_walk X (pm_xv X.1 2 (v3 + 1)) I).bind (fun x1 =>
  if pm_r32 (v3 + 1) then
  if 0 ≤ (v3 + 1) ∧ (v3 + 1) < X.2 then
  (f_M_walk X (pm_xv X.1 2 (v3 + 1)) x1.2).bind (fun x2 =>
  if x1.1 = x2.1 then
  f_L_1001 X v3 x2.2
  else some (0, x2.2))
  else none
  else none)
  else none
  else none := (pm_seg pm_T_ct (pm_env X) [0, 18, 160, 193, 246, 279, 312, 335, 368, 381, 414, 437, 496, 545, 578, 591, 624, 647, 661, 694, 707, 720, 743, 757, 791, 835, 849, 892, 935, 978, 1001] 18 144 17 414 [some (.inr (.inr 2)), some (.inr (.inr 3)), some (.inr (.inr 77)), some (.inl v3)] [] I).trans rfl
set_option maxRecDepth 100000 in
theorem e_L_437 (X : pm_XT) (v3 : Int) (I : pm_I) : f_L_437 X v3 I =
  if pm_r32 (v3 + 1) then
  if 0 ≤ (v3 + 1) ∧ (v3 + 1) < X.2 then
  if pm_r32 (v3 + 2) then
  if 0 ≤ (v3 + 2) ∧ (v3 + 2) < X.2 then
  if pm_r32 (v3 + 3) then
  if 0 ≤ (v3 + 3) ∧ (v3 + 3) < X.2 then
  if (pm_xv X.1 2 (v3 + 3)) = 0 then
  (f_T_step X (pm_xv X.1 2 (v3 + 1)) (pm_xv X.1 2 (v3 + 2)) 0 I).bind (fun x1 =>
  if pm_r32 (v3 + 1) then
  if 0 ≤ (v3 + 1) ∧ (v3 + 1) < X.2 then
  if pm_r32 (v3 + 2) then
  if 0 ≤ (v3 + 2) ∧ (v3 + 2) < X.2 then
  if pm_r32 (v3 + 3) then
  if 0 ≤ (v3 + 3) ∧ (v3 + 3) < X.2 then
  if (pm_xv X.1 2 (v3 + 3)) = 0 then
  (f_M_step X (pm_xv X.1 2 (v3 + 1)) (pm_xv X.1 2 (v3 + 2)) 0 x1.2).bind (fun x2 =>
  if x1.1 = x2.1 then
  f_L_1001 X v3 x2.2
  else some (0, x2.2))
  else (f_M_step X (pm_xv X.1 2 (v3 + 1)) (pm_xv X.1 2 (v3 + 2)) 1 x1.2).bind (fun x3 =>
  if x1.1 = x3.1 then
  f_L_1001 X v3 x3.2
  else some (0, x3.2))
  else none
  else none
  else none
  else none
  else none
  else none)
  else (f_T_step X (pm_xv X.1 2 (v3 + 1)) (pm_xv X.1 2 (v3 + 2)) 1 I).bind (fun x4 =>
  if pm_r32 (v3 + 1) then
  if 0 ≤ (v3 + 1) ∧ (v3 + 1) < X.2 then
  if pm_r32 (v3 + 2) then
  if 0 ≤ (v3 + 2) ∧ (v3 + 2) < X.2 then
  if pm_r32 (v3 + 3) then
  if 0 ≤ (v3 + 3) ∧ (v3 + 3) < X.2 then
  if (pm_xv X.1 2 (v3 + 3)) = 0 then
  (f_M_step X (pm_xv X.1 2 (v3 + 1)) (pm_xv X.1 2 (v3 + 2)) 0 x4.2).bind (fun x5 =>
  if x4.1 = x5.1 then
  f_L_1001 X v3 x5.2
  else some (0, x5.2))
  else (f_M_step X (pm_xv X.1 2 (v3 + 1)) (pm_xv X.1 2 (v3 + 2)) 1 x4.2).bind (fun x6 =>
  if x4.1 = x6.1 then
  f_L_1001 X v3 x6.2
  else some (0, x6.2))
  else none
  else none
  else none
  else none
  else none
  else none)
  else none
  else none
  else none
  else none
  else none
  else none := (pm_seg pm_T_ct (pm_env X) [0, 18, 160, 193, 246, 279, 312, 335, 368, 381, 414, 437, 496, 545, 578, 591, 624, 647, 661, 694, 707, 720, 743, 757, 791, 835, 849, 892, 935, 978, 1001] 44 144 17 437 [some (.inr (.inr 2)), some (.inr (.inr 3)), some (.inr (.inr 77)), some (.inl v3)] [] I).trans rfl
set_option maxRecDepth 100000 in
theorem e_L_496 (X : pm_XT) (v3 : Int) (I : pm_I) : f_L_496 X v3 I =
  if pm_r32 (v3 + 1) then
  if 0 ≤ (v3 + 1) ∧ (v3 + 1) < X.2 then
  if pm_r32 (v3 + 2) then
  if 0 ≤ (v3 + 2) ∧ (v3 + 2) < X.2 then
  if (pm_xv X.1 2 (v3 + 2)) = 0 then
  (f_T_counts X (pm_xv X.1 2 (v3 + 1)) 0 I).bind (fun x1 =>
  if pm_r32 (v3 + 1) then
  if 0 ≤ (v3 + 1) ∧ (v3 + 1) < X.2 then
  if pm_r32 (v3 + 2) then
  if 0 ≤ (v3 + 2) ∧ (v3 + 2) < X.2 then
  if (pm_xv X.1 2 (v3 + 2)) = 0 then
  (f_M_counts X (pm_xv X.1 2 (v3 + 1)) 0 x1.2).bind (fun x2 =>
  if x1.1 = x2.1 then
  f_L_1001 X v3 x2.2
  else some (0, x2.2))
  else (f_M_counts X (pm_xv X.1 2 (v3 + 1)) 1 x1.2).bind (fun x3 =>
  if x1.1 = x3.1 then
  f_L_1001 X v3 x3.2
  else some (0, x3.2))
  else none
  else none
  else none
  else none)
  else (f_T_counts X (pm_xv X.1 2 (v3 + 1)) 1 I).bind (fun x4 =>
  if pm_r32 (v3 + 1) then
  if 0 ≤ (v3 + 1) ∧ (v3 + 1) < X.2 then
  if pm_r32 (v3 + 2) then
  if 0 ≤ (v3 + 2) ∧ (v3 + 2) < X.2 then
  if (pm_xv X.1 2 (v3 + 2)) = 0 then
  (f_M_counts X (pm_xv X.1 2 (v3 + 1)) 0 x4.2).bind (fun x5 =>
  if x4.1 = x5.1 then
  f_L_1001 X v3 x5.2
  else some (0, x5.2))
  else (f_M_counts X (pm_xv X.1 2 (v3 + 1)) 1 x4.2).bind (fun x6 =>
  if x4.1 = x6.1 then
  f_L_1001 X v3 x6.2
  else some (0, x6.2))
  else none
  else none
  else none
  else none)
  else none
  else none
  else none
  else none := (pm_seg pm_T_ct (pm_env X) [0, 18, 160, 193, 246, 279, 312, 335, 368, 381, 414, 437, 496, 545, 578, 591, 624, 647, 661, 694, 707, 720, 743, 757, 791, 835, 849, 892, 935, 978, 1001] 34 144 17 496 [some (.inr (.inr 2)), some (.inr (.inr 3)), some (.inr (.inr 77)), some (.inl v3)] [] I).trans rfl
set_option maxRecDepth 100000 in
theorem e_L_545 (X : pm_XT) (v3 : Int) (I : pm_I) : f_L_545 X v3 I =
  if pm_r32 (v3 + 1) then
  if 0 ≤ (v3 + 1) ∧ (v3 + 1) < X.2 then
  if pm_r32 (v3 + 2) then
  if 0 ≤ (v3 + 2) ∧ (v3 + 2) < X.2 then
  (f_T_told X (pm_xv X.1 2 (v3 + 1)) (pm_xv X.1 2 (v3 + 2)) I).bind (fun x1 =>
  if pm_r32 (v3 + 1) then
  if 0 ≤ (v3 + 1) ∧ (v3 + 1) < X.2 then
  if pm_r32 (v3 + 2) then
  if 0 ≤ (v3 + 2) ∧ (v3 + 2) < X.2 then
  (f_M_told X (pm_xv X.1 2 (v3 + 1)) (pm_xv X.1 2 (v3 + 2)) x1.2).bind (fun x2 =>
  if x1.1 = x2.1 then
  f_L_1001 X v3 x2.2
  else some (0, x2.2))
  else none
  else none
  else none
  else none)
  else none
  else none
  else none
  else none := (pm_seg pm_T_ct (pm_env X) [0, 18, 160, 193, 246, 279, 312, 335, 368, 381, 414, 437, 496, 545, 578, 591, 624, 647, 661, 694, 707, 720, 743, 757, 791, 835, 849, 892, 935, 978, 1001] 28 144 17 545 [some (.inr (.inr 2)), some (.inr (.inr 3)), some (.inr (.inr 77)), some (.inl v3)] [] I).trans rfl
set_option maxRecDepth 100000 in
theorem e_L_578 (X : pm_XT) (v3 : Int) (I : pm_I) : f_L_578 X v3 I =
  (f_T_drop X I).bind (fun x1 =>
  (f_M_drop X x1.2).bind (fun x2 =>
  if x1.1 = x2.1 then
  f_L_1001 X v3 x2.2
  else some (0, x2.2))) := (pm_seg pm_T_ct (pm_env X) [0, 18, 160, 193, 246, 279, 312, 335, 368, 381, 414, 437, 496, 545, 578, 591, 624, 647, 661, 694, 707, 720, 743, 757, 791, 835, 849, 892, 935, 978, 1001] 8 144 17 578 [some (.inr (.inr 2)), some (.inr (.inr 3)), some (.inr (.inr 77)), some (.inl v3)] [] I).trans rfl
set_option maxRecDepth 100000 in
theorem e_L_591 (X : pm_XT) (v3 : Int) (I : pm_I) : f_L_591 X v3 I =
  if pm_r32 (v3 + 1) then
  if 0 ≤ (v3 + 1) ∧ (v3 + 1) < X.2 then
  if pm_r32 (v3 + 2) then
  if 0 ≤ (v3 + 2) ∧ (v3 + 2) < X.2 then
  (f_T_set X (pm_xv X.1 2 (v3 + 1)) (pm_xv X.1 2 (v3 + 2)) I).bind (fun x1 =>
  if pm_r32 (v3 + 1) then
  if 0 ≤ (v3 + 1) ∧ (v3 + 1) < X.2 then
  if pm_r32 (v3 + 2) then
  if 0 ≤ (v3 + 2) ∧ (v3 + 2) < X.2 then
  (f_M_set X (pm_xv X.1 2 (v3 + 1)) (pm_xv X.1 2 (v3 + 2)) x1.2).bind (fun x2 =>
  if x1.1 = x2.1 then
  f_L_1001 X v3 x2.2
  else some (0, x2.2))
  else none
  else none
  else none
  else none)
  else none
  else none
  else none
  else none := (pm_seg pm_T_ct (pm_env X) [0, 18, 160, 193, 246, 279, 312, 335, 368, 381, 414, 437, 496, 545, 578, 591, 624, 647, 661, 694, 707, 720, 743, 757, 791, 835, 849, 892, 935, 978, 1001] 28 144 17 591 [some (.inr (.inr 2)), some (.inr (.inr 3)), some (.inr (.inr 77)), some (.inl v3)] [] I).trans rfl
set_option maxRecDepth 100000 in
theorem e_L_624 (X : pm_XT) (v3 : Int) (I : pm_I) : f_L_624 X v3 I =
  if pm_r32 (v3 + 1) then
  if 0 ≤ (v3 + 1) ∧ (v3 + 1) < X.2 then
  (f_T_at X (pm_xv X.1 2 (v3 + 1)) I).bind (fun x1 =>
  if pm_r32 (v3 + 1) then
  if 0 ≤ (v3 + 1) ∧ (v3 + 1) < X.2 then
  (f_M_at X (pm_xv X.1 2 (v3 + 1)) x1.2).bind (fun x2 =>
  if x1.1 = x2.1 then
  f_L_1001 X v3 x2.2
  else some (0, x2.2))
  else none
  else none)
  else none
  else none := (pm_seg pm_T_ct (pm_env X) [0, 18, 160, 193, 246, 279, 312, 335, 368, 381, 414, 437, 496, 545, 578, 591, 624, 647, 661, 694, 707, 720, 743, 757, 791, 835, 849, 892, 935, 978, 1001] 18 144 17 624 [some (.inr (.inr 2)), some (.inr (.inr 3)), some (.inr (.inr 77)), some (.inl v3)] [] I).trans rfl
set_option maxRecDepth 100000 in
theorem e_L_647 (X : pm_XT) (v3 : Int) (I : pm_I) : f_L_647 X v3 I =
  (f_T_weight X I).bind (fun x1 =>
  (f_M_weight X x1.2).bind (fun x2 =>
  if x2.1 < x1.1 then
  some (0, x2.2)
  else if x1.1 = x2.1 then
  f_L_1001 X v3 x2.2
  else some (0, x2.2))) := (pm_seg pm_T_ct (pm_env X) [0, 18, 160, 193, 246, 279, 312, 335, 368, 381, 414, 437, 496, 545, 578, 591, 624, 647, 661, 694, 707, 720, 743, 757, 791, 835, 849, 892, 935, 978, 1001] 9 144 17 647 [some (.inr (.inr 2)), some (.inr (.inr 3)), some (.inr (.inr 77)), some (.inl v3)] [] I).trans rfl
set_option maxRecDepth 100000 in
theorem e_L_661 (X : pm_XT) (v3 : Int) (I : pm_I) : f_L_661 X v3 I =
  if pm_r32 (v3 + 1) then
  if 0 ≤ (v3 + 1) ∧ (v3 + 1) < X.2 then
  if pm_r32 (v3 + 2) then
  if 0 ≤ (v3 + 2) ∧ (v3 + 2) < X.2 then
  (f_T_twist X (pm_xv X.1 2 (v3 + 1)) (pm_xv X.1 2 (v3 + 2)) I).bind (fun x1 =>
  if pm_r32 (v3 + 1) then
  if 0 ≤ (v3 + 1) ∧ (v3 + 1) < X.2 then
  if pm_r32 (v3 + 2) then
  if 0 ≤ (v3 + 2) ∧ (v3 + 2) < X.2 then
  (f_M_twist X (pm_xv X.1 2 (v3 + 1)) (pm_xv X.1 2 (v3 + 2)) x1.2).bind (fun x2 =>
  if x1.1 = x2.1 then
  f_L_1001 X v3 x2.2
  else some (0, x2.2))
  else none
  else none
  else none
  else none)
  else none
  else none
  else none
  else none := (pm_seg pm_T_ct (pm_env X) [0, 18, 160, 193, 246, 279, 312, 335, 368, 381, 414, 437, 496, 545, 578, 591, 624, 647, 661, 694, 707, 720, 743, 757, 791, 835, 849, 892, 935, 978, 1001] 28 144 17 661 [some (.inr (.inr 2)), some (.inr (.inr 3)), some (.inr (.inr 77)), some (.inl v3)] [] I).trans rfl
set_option maxRecDepth 100000 in
theorem e_L_694 (X : pm_XT) (v3 : Int) (I : pm_I) : f_L_694 X v3 I =
  (f_T_still X I).bind (fun x1 =>
  (f_M_still X x1.2).bind (fun x2 =>
  if x1.1 = x2.1 then
  f_L_1001 X v3 x2.2
  else some (0, x2.2))) := (pm_seg pm_T_ct (pm_env X) [0, 18, 160, 193, 246, 279, 312, 335, 368, 381, 414, 437, 496, 545, 578, 591, 624, 647, 661, 694, 707, 720, 743, 757, 791, 835, 849, 892, 935, 978, 1001] 8 144 17 694 [some (.inr (.inr 2)), some (.inr (.inr 3)), some (.inr (.inr 77)), some (.inl v3)] [] I).trans rfl
set_option maxRecDepth 100000 in
theorem e_L_707 (X : pm_XT) (v3 : Int) (I : pm_I) : f_L_707 X v3 I =
  (f_T_undo X I).bind (fun x1 =>
  (f_M_undo X x1.2).bind (fun x2 =>
  if x1.1 = x2.1 then
  f_L_1001 X v3 x2.2
  else some (0, x2.2))) := (pm_seg pm_T_ct (pm_env X) [0, 18, 160, 193, 246, 279, 312, 335, 368, 381, 414, 437, 496, 545, 578, 591, 624, 647, 661, 694, 707, 720, 743, 757, 791, 835, 849, 892, 935, 978, 1001] 8 144 17 707 [some (.inr (.inr 2)), some (.inr (.inr 3)), some (.inr (.inr 77)), some (.inl v3)] [] I).trans rfl
set_option maxRecDepth 100000 in
theorem e_L_720 (X : pm_XT) (v3 : Int) (I : pm_I) : f_L_720 X v3 I =
  if pm_r32 (v3 + 1) then
  if 0 ≤ (v3 + 1) ∧ (v3 + 1) < X.2 then
  (f_T_tree X (pm_xv X.1 2 (v3 + 1)) I).bind (fun x1 =>
  if pm_r32 (v3 + 1) then
  if 0 ≤ (v3 + 1) ∧ (v3 + 1) < X.2 then
  (f_M_tree X (pm_xv X.1 2 (v3 + 1)) x1.2).bind (fun x2 =>
  if x1.1 = x2.1 then
  f_L_1001 X v3 x2.2
  else some (0, x2.2))
  else none
  else none)
  else none
  else none := (pm_seg pm_T_ct (pm_env X) [0, 18, 160, 193, 246, 279, 312, 335, 368, 381, 414, 437, 496, 545, 578, 591, 624, 647, 661, 694, 707, 720, 743, 757, 791, 835, 849, 892, 935, 978, 1001] 18 144 17 720 [some (.inr (.inr 2)), some (.inr (.inr 3)), some (.inr (.inr 77)), some (.inl v3)] [] I).trans rfl
set_option maxRecDepth 100000 in
theorem e_L_743 (X : pm_XT) (v3 : Int) (I : pm_I) : f_L_743 X v3 I =
  (f_T_sum X I).bind (fun x1 =>
  (f_M_sum X x1.2).bind (fun x2 =>
  if x2.1 < x1.1 then
  some (0, x2.2)
  else if x1.1 = x2.1 then
  f_L_1001 X v3 x2.2
  else some (0, x2.2))) := (pm_seg pm_T_ct (pm_env X) [0, 18, 160, 193, 246, 279, 312, 335, 368, 381, 414, 437, 496, 545, 578, 591, 624, 647, 661, 694, 707, 720, 743, 757, 791, 835, 849, 892, 935, 978, 1001] 9 144 17 743 [some (.inr (.inr 2)), some (.inr (.inr 3)), some (.inr (.inr 77)), some (.inl v3)] [] I).trans rfl
set_option maxRecDepth 100000 in
theorem e_L_757 (X : pm_XT) (v3 : Int) (I : pm_I) : f_L_757 X v3 I =
  if pm_r32 (v3 + 1) then
  if 0 ≤ (v3 + 1) ∧ (v3 + 1) < X.2 then
  if pm_r32 (v3 + 2) then
  if 0 ≤ (v3 + 2) ∧ (v3 + 2) < X.2 then
  (f_T_sumBy X (pm_xv X.1 2 (v3 + 1)) (pm_xv X.1 2 (v3 + 2)) I).bind (fun x1 =>
  if pm_r32 (v3 + 1) then
  if 0 ≤ (v3 + 1) ∧ (v3 + 1) < X.2 then
  if pm_r32 (v3 + 2) then
  if 0 ≤ (v3 + 2) ∧ (v3 + 2) < X.2 then
  (f_M_sumBy X (pm_xv X.1 2 (v3 + 1)) (pm_xv X.1 2 (v3 + 2)) x1.2).bind (fun x2 =>
  if x2.1 < x1.1 then
  some (0, x2.2)
  else if x1.1 = x2.1 then
  f_L_1001 X v3 x2.2
  else some (0, x2.2))
  else none
  else none
  else none
  else none)
  else none
  else none
  else none
  else none := (pm_seg pm_T_ct (pm_env X) [0, 18, 160, 193, 246, 279, 312, 335, 368, 381, 414, 437, 496, 545, 578, 591, 624, 647, 661, 694, 707, 720, 743, 757, 791, 835, 849, 892, 935, 978, 1001] 29 144 17 757 [some (.inr (.inr 2)), some (.inr (.inr 3)), some (.inr (.inr 77)), some (.inl v3)] [] I).trans rfl
set_option maxRecDepth 100000 in
theorem e_L_791 (X : pm_XT) (v3 : Int) (I : pm_I) : f_L_791 X v3 I =
  if pm_r32 (v3 + 1) then
  if 0 ≤ (v3 + 1) ∧ (v3 + 1) < X.2 then
  if pm_r32 (v3 + 2) then
  if 0 ≤ (v3 + 2) ∧ (v3 + 2) < X.2 then
  if pm_r32 (v3 + 3) then
  if 0 ≤ (v3 + 3) ∧ (v3 + 3) < X.2 then
  (f_T_mean X (pm_xv X.1 2 (v3 + 1)) (pm_xv X.1 2 (v3 + 2)) (pm_xv X.1 2 (v3 + 3)) I).bind (fun x1 =>
  if pm_r32 (v3 + 1) then
  if 0 ≤ (v3 + 1) ∧ (v3 + 1) < X.2 then
  if pm_r32 (v3 + 2) then
  if 0 ≤ (v3 + 2) ∧ (v3 + 2) < X.2 then
  if pm_r32 (v3 + 3) then
  if 0 ≤ (v3 + 3) ∧ (v3 + 3) < X.2 then
  (f_M_mean X (pm_xv X.1 2 (v3 + 1)) (pm_xv X.1 2 (v3 + 2)) (pm_xv X.1 2 (v3 + 3)) x1.2).bind (fun x2 =>
  if x2.1 < x1.1 then
  some (0, x2.2)
  else if x1.1 = x2.1 then
  f_L_1001 X v3 x2.2
  else some (0, x2.2))
  else none
  else none
  else none
  else none
  else none
  else none)
  else none
  else none
  else none
  else none
  else none
  else none := (pm_seg pm_T_ct (pm_env X) [0, 18, 160, 193, 246, 279, 312, 335, 368, 381, 414, 437, 496, 545, 578, 591, 624, 647, 661, 694, 707, 720, 743, 757, 791, 835, 849, 892, 935, 978, 1001] 39 144 17 791 [some (.inr (.inr 2)), some (.inr (.inr 3)), some (.inr (.inr 77)), some (.inl v3)] [] I).trans rfl
set_option maxRecDepth 100000 in
theorem e_L_835 (X : pm_XT) (v3 : Int) (I : pm_I) : f_L_835 X v3 I =
  (f_T_flat X I).bind (fun x1 =>
  (f_M_flat X x1.2).bind (fun x2 =>
  if x2.1 < x1.1 then
  some (0, x2.2)
  else if x1.1 = x2.1 then
  f_L_1001 X v3 x2.2
  else some (0, x2.2))) := (pm_seg pm_T_ct (pm_env X) [0, 18, 160, 193, 246, 279, 312, 335, 368, 381, 414, 437, 496, 545, 578, 591, 624, 647, 661, 694, 707, 720, 743, 757, 791, 835, 849, 892, 935, 978, 1001] 9 144 17 835 [some (.inr (.inr 2)), some (.inr (.inr 3)), some (.inr (.inr 77)), some (.inl v3)] [] I).trans rfl
set_option maxRecDepth 100000 in
theorem e_L_849 (X : pm_XT) (v3 : Int) (I : pm_I) : f_L_849 X v3 I =
  if pm_r32 (v3 + 1) then
  if 0 ≤ (v3 + 1) ∧ (v3 + 1) < X.2 then
  if pm_r32 (v3 + 2) then
  if 0 ≤ (v3 + 2) ∧ (v3 + 2) < X.2 then
  if pm_r32 (v3 + 3) then
  if 0 ≤ (v3 + 3) ∧ (v3 + 3) < X.2 then
  (f_T_sheet X (pm_xv X.1 2 (v3 + 1)) (pm_xv X.1 2 (v3 + 2)) (pm_xv X.1 2 (v3 + 3)) I).bind (fun x1 =>
  if pm_r32 (v3 + 1) then
  if 0 ≤ (v3 + 1) ∧ (v3 + 1) < X.2 then
  if pm_r32 (v3 + 2) then
  if 0 ≤ (v3 + 2) ∧ (v3 + 2) < X.2 then
  if pm_r32 (v3 + 3) then
  if 0 ≤ (v3 + 3) ∧ (v3 + 3) < X.2 then
  (f_M_sheet X (pm_xv X.1 2 (v3 + 1)) (pm_xv X.1 2 (v3 + 2)) (pm_xv X.1 2 (v3 + 3)) x1.2).bind (fun x2 =>
  if x1.1 = x2.1 then
  f_L_1001 X v3 x2.2
  else some (0, x2.2))
  else none
  else none
  else none
  else none
  else none
  else none)
  else none
  else none
  else none
  else none
  else none
  else none := (pm_seg pm_T_ct (pm_env X) [0, 18, 160, 193, 246, 279, 312, 335, 368, 381, 414, 437, 496, 545, 578, 591, 624, 647, 661, 694, 707, 720, 743, 757, 791, 835, 849, 892, 935, 978, 1001] 38 144 17 849 [some (.inr (.inr 2)), some (.inr (.inr 3)), some (.inr (.inr 77)), some (.inl v3)] [] I).trans rfl
set_option maxRecDepth 100000 in
theorem e_L_892 (X : pm_XT) (v3 : Int) (I : pm_I) : f_L_892 X v3 I =
  if pm_r32 (v3 + 1) then
  if 0 ≤ (v3 + 1) ∧ (v3 + 1) < X.2 then
  if pm_r32 (v3 + 2) then
  if 0 ≤ (v3 + 2) ∧ (v3 + 2) < X.2 then
  if pm_r32 (v3 + 3) then
  if 0 ≤ (v3 + 3) ∧ (v3 + 3) < X.2 then
  (f_T_lay X (pm_xv X.1 2 (v3 + 1)) (pm_xv X.1 2 (v3 + 2)) (pm_xv X.1 2 (v3 + 3)) I).bind (fun x1 =>
  if pm_r32 (v3 + 1) then
  if 0 ≤ (v3 + 1) ∧ (v3 + 1) < X.2 then
  if pm_r32 (v3 + 2) then
  if 0 ≤ (v3 + 2) ∧ (v3 + 2) < X.2 then
  if pm_r32 (v3 + 3) then
  if 0 ≤ (v3 + 3) ∧ (v3 + 3) < X.2 then
  (f_M_lay X (pm_xv X.1 2 (v3 + 1)) (pm_xv X.1 2 (v3 + 2)) (pm_xv X.1 2 (v3 + 3)) x1.2).bind (fun x2 =>
  if x1.1 = x2.1 then
  f_L_1001 X v3 x2.2
  else some (0, x2.2))
  else none
  else none
  else none
  else none
  else none
  else none)
  else none
  else none
  else none
  else none
  else none
  else none := (pm_seg pm_T_ct (pm_env X) [0, 18, 160, 193, 246, 279, 312, 335, 368, 381, 414, 437, 496, 545, 578, 591, 624, 647, 661, 694, 707, 720, 743, 757, 791, 835, 849, 892, 935, 978, 1001] 38 144 17 892 [some (.inr (.inr 2)), some (.inr (.inr 3)), some (.inr (.inr 77)), some (.inl v3)] [] I).trans rfl
set_option maxRecDepth 100000 in
theorem e_L_935 (X : pm_XT) (v3 : Int) (I : pm_I) : f_L_935 X v3 I =
  if pm_r32 (v3 + 1) then
  if 0 ≤ (v3 + 1) ∧ (v3 + 1) < X.2 then
  if pm_r32 (v3 + 2) then
  if 0 ≤ (v3 + 2) ∧ (v3 + 2) < X.2 then
  if pm_r32 (v3 + 3) then
  if 0 ≤ (v3 + 3) ∧ (v3 + 3) < X.2 then
  (f_T_fill X (pm_xv X.1 2 (v3 + 1)) (pm_xv X.1 2 (v3 + 2)) (pm_xv X.1 2 (v3 + 3)) I).bind (fun x1 =>
  if pm_r32 (v3 + 1) then
  if 0 ≤ (v3 + 1) ∧ (v3 + 1) < X.2 then
  if pm_r32 (v3 + 2) then
  if 0 ≤ (v3 + 2) ∧ (v3 + 2) < X.2 then
  if pm_r32 (v3 + 3) then
  if 0 ≤ (v3 + 3) ∧ (v3 + 3) < X.2 then
  (f_M_fill X (pm_xv X.1 2 (v3 + 1)) (pm_xv X.1 2 (v3 + 2)) (pm_xv X.1 2 (v3 + 3)) x1.2).bind (fun x2 =>
  if x1.1 = x2.1 then
  f_L_1001 X v3 x2.2
  else some (0, x2.2))
  else none
  else none
  else none
  else none
  else none
  else none)
  else none
  else none
  else none
  else none
  else none
  else none := (pm_seg pm_T_ct (pm_env X) [0, 18, 160, 193, 246, 279, 312, 335, 368, 381, 414, 437, 496, 545, 578, 591, 624, 647, 661, 694, 707, 720, 743, 757, 791, 835, 849, 892, 935, 978, 1001] 38 144 17 935 [some (.inr (.inr 2)), some (.inr (.inr 3)), some (.inr (.inr 77)), some (.inl v3)] [] I).trans rfl
set_option maxRecDepth 100000 in
theorem e_L_978 (X : pm_XT) (v3 : Int) (I : pm_I) : f_L_978 X v3 I =
  if pm_r32 (v3 + 1) then
  if 0 ≤ (v3 + 1) ∧ (v3 + 1) < X.2 then
  (f_T_many X (pm_xv X.1 2 (v3 + 1)) I).bind (fun x1 =>
  if pm_r32 (v3 + 1) then
  if 0 ≤ (v3 + 1) ∧ (v3 + 1) < X.2 then
  (f_M_many X (pm_xv X.1 2 (v3 + 1)) x1.2).bind (fun x2 =>
  if x1.1 = x2.1 then
  f_L_1001 X v3 x2.2
  else some (0, x2.2))
  else none
  else none)
  else none
  else none := (pm_seg pm_T_ct (pm_env X) [0, 18, 160, 193, 246, 279, 312, 335, 368, 381, 414, 437, 496, 545, 578, 591, 624, 647, 661, 694, 707, 720, 743, 757, 791, 835, 849, 892, 935, 978, 1001] 18 144 17 978 [some (.inr (.inr 2)), some (.inr (.inr 3)), some (.inr (.inr 77)), some (.inl v3)] [] I).trans rfl
set_option maxRecDepth 100000 in
theorem e_L_1001 (X : pm_XT) (v3 : Int) (I : pm_I) : f_L_1001 X v3 I =
  if pm_r32 (v3 + 5) then
  f_L_18 X (v3 + 5) I
  else none := (pm_seg pm_T_ct (pm_env X) [0, 18, 160, 193, 246, 279, 312, 335, 368, 381, 414, 437, 496, 545, 578, 591, 624, 647, 661, 694, 707, 720, 743, 757, 791, 835, 849, 892, 935, 978, 1001] 4 144 17 1001 [some (.inr (.inr 2)), some (.inr (.inr 3)), some (.inr (.inr 77)), some (.inl v3)] [] I).trans rfl
