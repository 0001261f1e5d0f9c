/-! ALL CELLS, in the pure machine's order; the relation at the start -/
def fAs (a1 b t0 : Nat) (u : ct_U) (v : Nat → Nat) : Nat → Nat := fun r => bif Nat.ble 77 r then v (r - 77) else bif Nat.ble 73 r then u.2.2.2.1 (r - 70) else bif Nat.ble 65 r then u.2.2.2.1 2 + 1 + (r - 65) else bif Nat.ble 62 r then u.2.2.2.1 (r - 62) else bif Nat.ble 54 r then u.2.2.2.2.2.1 ((r - 54) / 2) ((r - 54) % 2) else bif Nat.ble 53 r then u.2.2.2.2.2.2.2 else bif Nat.ble 45 r then u.2.2.1 1 + 1 + (r - 45) else bif Nat.ble 43 r then u.2.2.1 (r - 43) else bif Nat.ble 19 r then u.2.2.2.2.1 ((r - 19) / 3) ((r - 19) % 3) else bif Nat.ble 18 r then u.2.2.2.2.2.2.1 else bif Nat.ble 10 r then u.2.1 (r - 10) else bif Nat.ble 4 r then u.1.1 (r - 4) else bif Nat.ble 3 r then t0 else bif Nat.ble 2 r then b else a1
def fI (J : pm_I) : pm_I := fun r j => bif Nat.ble 4 r && Nat.ble r 9 then J (r - 1) j else bif Nat.beq r 77 then (if j = 0 then 1 else 0) else bif Nat.beq r 79 then (if 0 ≤ j ∧ j < 8 then 1 else 0) else bif Nat.beq r 89 then (if 0 ≤ j ∧ j < 4 then -4 else 0) else 0
def fG : Nat → Nat := fun k => bif Nat.ble 74 k then k else bif Nat.ble 59 k then 35 + (k - 59) else bif Nat.ble 51 k then 3 + 2 * (3 - (k - 51) / 2) + (k - 51) % 2 else bif Nat.ble 50 k then 2 else bif Nat.ble 40 k then 50 + (k - 40) else bif Nat.ble 16 k then 11 + 3 * (7 - (k - 16) / 3) + (k - 16) % 3 else bif Nat.ble 15 k then 1 else bif Nat.ble 7 k then 60 + (k - 7) else bif Nat.ble 1 k then 68 + (k - 1) else 0
theorem fG_inj : ∀ i, i < 97 → ∀ j, j < 97 → fG i = fG j → i = j := by decide +kernel
abbrev fTh (D : va_G) (τ : ClassId × ClassId × ClassId × ClassId × ClassId) (a1 b t0 bs : Nat) (u : ct_U) (v : Nat → Nat) : pm_TH := (D, τ, fAs a1 b t0 u v, bs, 97)
section FIN
variable {D : va_G} {τ : ClassId × ClassId × ClassId × ClassId × ClassId} {a1 b t0 bs : Nat} {u : ct_U} {v : Nat → Nat} {X : pm_XT}
theorem fr_18 : (fun j => pm_ra (fTh D τ a1 b t0 bs u v) (pm_R 18 j)) = (va_up (va_up (va_up (va_up (va_up (va_up (va_up (va_up (fun _ => none) 0 (some (u.2.2.2.2.1 0 0))) 1 (some (u.2.2.2.2.1 1 0))) 2 (some (u.2.2.2.2.1 2 0))) 3 (some (u.2.2.2.2.1 3 0))) 4 (some (u.2.2.2.2.1 4 0))) 5 (some (u.2.2.2.2.1 5 0))) 6 (some (u.2.2.2.2.1 6 0))) 7 (some (u.2.2.2.2.1 7 0))) := by
  funext j
  by_cases hj : j < 8
  · have : j = 0 ∨ j = 1 ∨ j = 2 ∨ j = 3 ∨ j = 4 ∨ j = 5 ∨ j = 6 ∨ j = 7 := by omega
    rcases this with rfl | rfl | rfl | rfl | rfl | rfl | rfl | rfl <;> rfl
  · have e1 : pm_R 18 j = 0 := by
      show (bif Nat.ble 8 j then 0 else _) = 0
      rw [Nat.ble_eq_true_of_le (by omega)]
      rfl
    show pm_ra (fTh D τ a1 b t0 bs u v) (pm_R 18 j) = _
    rw [e1]
    show none = _
    unfold va_up
    dsimp only
    rw [if_neg (by omega), if_neg (by omega), if_neg (by omega), if_neg (by omega), if_neg (by omega), if_neg (by omega), if_neg (by omega), if_neg (by omega)]
theorem fr_53 : (fun j => pm_ra (fTh D τ a1 b t0 bs u v) (pm_R 53 j)) = (va_up (va_up (va_up (va_up (fun _ => none) 0 (some (u.2.2.2.2.2.1 0 0))) 1 (some (u.2.2.2.2.2.1 1 0))) 2 (some (u.2.2.2.2.2.1 2 0))) 3 (some (u.2.2.2.2.2.1 3 0))) := by
  funext j
  by_cases hj : j < 4
  · have : j = 0 ∨ j = 1 ∨ j = 2 ∨ j = 3 := by omega
    rcases this with rfl | rfl | rfl | rfl <;> rfl
  · have e1 : pm_R 53 j = 0 := by
      show (bif Nat.ble 4 j then 0 else _) = 0
      rw [Nat.ble_eq_true_of_le (by omega)]
      rfl
    show pm_ra (fTh D τ a1 b t0 bs u v) (pm_R 53 j) = _
    rw [e1]
    show none = _
    unfold va_up
    dsimp only
    rw [if_neg (by omega), if_neg (by omega), if_neg (by omega), if_neg (by omega)]
theorem fr_44 : (fun j => pm_ra (fTh D τ a1 b t0 bs u v) (pm_R 44 j)) = (fun j => if j < 8 then some (u.2.2.1 1 + 1 + j) else none) := by
  funext j
  by_cases hj : j < 8
  · have : j = 0 ∨ j = 1 ∨ j = 2 ∨ j = 3 ∨ j = 4 ∨ j = 5 ∨ j = 6 ∨ j = 7 := by omega
    rcases this with rfl | rfl | rfl | rfl | rfl | rfl | rfl | rfl <;> rfl
  · have e1 : pm_R 44 j = 0 := by
      show (bif Nat.ble 8 j then 0 else _) = 0
      rw [Nat.ble_eq_true_of_le (by omega)]
      rfl
    show pm_ra (fTh D τ a1 b t0 bs u v) (pm_R 44 j) = _
    rw [e1]
    show none = _
    rw [if_neg (by omega)]
theorem fr_64 : (fun j => pm_ra (fTh D τ a1 b t0 bs u v) (pm_R 64 j)) = (fun j => if j < 8 then some (u.2.2.2.1 2 + 1 + j) else none) := by
  funext j
  by_cases hj : j < 8
  · have : j = 0 ∨ j = 1 ∨ j = 2 ∨ j = 3 ∨ j = 4 ∨ j = 5 ∨ j = 6 ∨ j = 7 := by omega
    rcases this with rfl | rfl | rfl | rfl | rfl | rfl | rfl | rfl <;> rfl
  · have e1 : pm_R 64 j = 0 := by
      show (bif Nat.ble 8 j then 0 else _) = 0
      rw [Nat.ble_eq_true_of_le (by omega)]
      rfl
    show pm_ra (fTh D τ a1 b t0 bs u v) (pm_R 64 j) = _
    rw [e1]
    show none = _
    rw [if_neg (by omega)]
theorem fr_79 (J : pm_I) : (fun j : Nat => Int32.ofInt (fI J 79 j)) = (upd (upd (upd (upd (upd (upd (upd (upd (fun _ => 0) 0 1) 1 1) 2 1) 3 1) 4 1) 5 1) 6 1) 7 1) := by
  funext j
  by_cases hj : j < 8
  · have : j = 0 ∨ j = 1 ∨ j = 2 ∨ j = 3 ∨ j = 4 ∨ j = 5 ∨ j = 6 ∨ j = 7 := by omega
    rcases this with rfl | rfl | rfl | rfl | rfl | rfl | rfl | rfl <;> rfl
  · have e1 : fI J 79 j = 0 := by
      show (if 0 ≤ (j : Int) ∧ (j : Int) < 8 then (1 : Int) else 0) = 0
      rw [if_neg (by omega)]
    rw [e1]
    unfold upd
    dsimp only
    rw [if_neg (by omega), if_neg (by omega), if_neg (by omega), if_neg (by omega), if_neg (by omega), if_neg (by omega), if_neg (by omega), if_neg (by omega)]
    rfl
theorem fr_89 (J : pm_I) : (fun j : Nat => Int32.ofInt (fI J 89 j)) = (upd (upd (upd (upd (fun _ => 0) 0 (-4)) 1 (-4)) 2 (-4)) 3 (-4)) := by
  funext j
  by_cases hj : j < 4
  · have : j = 0 ∨ j = 1 ∨ j = 2 ∨ j = 3 := by omega
    rcases this with rfl | rfl | rfl | rfl <;> rfl
  · have e1 : fI J 89 j = 0 := by
      show (if 0 ≤ (j : Int) ∧ (j : Int) < 4 then (-4 : Int) else 0) = 0
      rw [if_neg (by omega)]
    rw [e1]
    unfold upd
    dsimp only
    rw [if_neg (by omega), if_neg (by omega), if_neg (by omega), if_neg (by omega)]
    rfl
theorem fe_19 (J : pm_I) : pm_fl (fTh D τ a1 b t0 bs u v) (pm_env X) (fI J) 19 = [.int 0, .int 0, .int 0, .int 0, .ref (u.2.2.2.2.1 0 1), .ref (u.2.2.2.2.1 0 2)] := by
  apply List.ext_getElem?
  intro k
  match k with
  | 0 => exact (pm_flI (ci := 5) (k := 0) rfl rfl).trans rfl
  | 1 => exact (pm_flI (ci := 5) (k := 1) rfl rfl).trans rfl
  | 2 => exact (pm_flI (ci := 5) (k := 2) rfl rfl).trans rfl
  | 3 => exact (pm_flI (ci := 5) (k := 3) rfl rfl).trans rfl
  | 4 => exact (pm_flR (ci := 5) (k := 4) rfl rfl).trans (by show some (pm_tv (fTh D τ a1 b t0 bs u v) (.inr (.inr (pm_R 19 4)))) = _; rw [show pm_R 19 4 = 20 from rfl]; rfl)
  | 5 => exact (pm_flR (ci := 5) (k := 5) rfl rfl).trans (by show some (pm_tv (fTh D τ a1 b t0 bs u v) (.inr (.inr (pm_R 19 5)))) = _; rw [show pm_R 19 5 = 21 from rfl]; rfl)
  | m + 6 =>
    rw [List.getElem?_eq_none (by unfold pm_fl; rw [List.length_mapIdx]; show 6 ≤ m + 6; omega), List.getElem?_eq_none (by show 6 ≤ m + 6; omega)]
theorem fe_22 (J : pm_I) : pm_fl (fTh D τ a1 b t0 bs u v) (pm_env X) (fI J) 22 = [.int 0, .int 0, .int 0, .int 0, .ref (u.2.2.2.2.1 1 1), .ref (u.2.2.2.2.1 1 2)] := by
  apply List.ext_getElem?
  intro k
  match k with
  | 0 => exact (pm_flI (ci := 5) (k := 0) rfl rfl).trans rfl
  | 1 => exact (pm_flI (ci := 5) (k := 1) rfl rfl).trans rfl
  | 2 => exact (pm_flI (ci := 5) (k := 2) rfl rfl).trans rfl
  | 3 => exact (pm_flI (ci := 5) (k := 3) rfl rfl).trans rfl
  | 4 => exact (pm_flR (ci := 5) (k := 4) rfl rfl).trans (by show some (pm_tv (fTh D τ a1 b t0 bs u v) (.inr (.inr (pm_R 22 4)))) = _; rw [show pm_R 22 4 = 23 from rfl]; rfl)
  | 5 => exact (pm_flR (ci := 5) (k := 5) rfl rfl).trans (by show some (pm_tv (fTh D τ a1 b t0 bs u v) (.inr (.inr (pm_R 22 5)))) = _; rw [show pm_R 22 5 = 24 from rfl]; rfl)
  | m + 6 =>
    rw [List.getElem?_eq_none (by unfold pm_fl; rw [List.length_mapIdx]; show 6 ≤ m + 6; omega), List.getElem?_eq_none (by show 6 ≤ m + 6; omega)]
theorem fe_25 (J : pm_I) : pm_fl (fTh D τ a1 b t0 bs u v) (pm_env X) (fI J) 25 = [.int 0, .int 0, .int 0, .int 0, .ref (u.2.2.2.2.1 2 1), .ref (u.2.2.2.2.1 2 2)] := by
  apply List.ext_getElem?
  intro k
  match k with
  | 0 => exact (pm_flI (ci := 5) (k := 0) rfl rfl).trans rfl
  | 1 => exact (pm_flI (ci := 5) (k := 1) rfl rfl).trans rfl
  | 2 => exact (pm_flI (ci := 5) (k := 2) rfl rfl).trans rfl
  | 3 => exact (pm_flI (ci := 5) (k := 3) rfl rfl).trans rfl
  | 4 => exact (pm_flR (ci := 5) (k := 4) rfl rfl).trans (by show some (pm_tv (fTh D τ a1 b t0 bs u v) (.inr (.inr (pm_R 25 4)))) = _; rw [show pm_R 25 4 = 26 from rfl]; rfl)
  | 5 => exact (pm_flR (ci := 5) (k := 5) rfl rfl).trans (by show some (pm_tv (fTh D τ a1 b t0 bs u v) (.inr (.inr (pm_R 25 5)))) = _; rw [show pm_R 25 5 = 27 from rfl]; rfl)
  | m + 6 =>
    rw [List.getElem?_eq_none (by unfold pm_fl; rw [List.length_mapIdx]; show 6 ≤ m + 6; omega), List.getElem?_eq_none (by show 6 ≤ m + 6; omega)]
theorem fe_28 (J : pm_I) : pm_fl (fTh D τ a1 b t0 bs u v) (pm_env X) (fI J) 28 = [.int 0, .int 0, .int 0, .int 0, .ref (u.2.2.2.2.1 3 1), .ref (u.2.2.2.2.1 3 2)] := by
  apply List.ext_getElem?
  intro k
  match k with
  | 0 => exact (pm_flI (ci := 5) (k := 0) rfl rfl).trans rfl
  | 1 => exact (pm_flI (ci := 5) (k := 1) rfl rfl).trans rfl
  | 2 => exact (pm_flI (ci := 5) (k := 2) rfl rfl).trans rfl
  | 3 => exact (pm_flI (ci := 5) (k := 3) rfl rfl).trans rfl
  | 4 => exact (pm_flR (ci := 5) (k := 4) rfl rfl).trans (by show some (pm_tv (fTh D τ a1 b t0 bs u v) (.inr (.inr (pm_R 28 4)))) = _; rw [show pm_R 28 4 = 29 from rfl]; rfl)
  | 5 => exact (pm_flR (ci := 5) (k := 5) rfl rfl).trans (by show some (pm_tv (fTh D τ a1 b t0 bs u v) (.inr (.inr (pm_R 28 5)))) = _; rw [show pm_R 28 5 = 30 from rfl]; rfl)
  | m + 6 =>
    rw [List.getElem?_eq_none (by unfold pm_fl; rw [List.length_mapIdx]; show 6 ≤ m + 6; omega), List.getElem?_eq_none (by show 6 ≤ m + 6; omega)]
theorem fe_31 (J : pm_I) : pm_fl (fTh D τ a1 b t0 bs u v) (pm_env X) (fI J) 31 = [.int 0, .int 0, .int 0, .int 0, .ref (u.2.2.2.2.1 4 1), .ref (u.2.2.2.2.1 4 2)] := by
  apply List.ext_getElem?
  intro k
  match k with
  | 0 => exact (pm_flI (ci := 5) (k := 0) rfl rfl).trans rfl
  | 1 => exact (pm_flI (ci := 5) (k := 1) rfl rfl).trans rfl
  | 2 => exact (pm_flI (ci := 5) (k := 2) rfl rfl).trans rfl
  | 3 => exact (pm_flI (ci := 5) (k := 3) rfl rfl).trans rfl
  | 4 => exact (pm_flR (ci := 5) (k := 4) rfl rfl).trans (by show some (pm_tv (fTh D τ a1 b t0 bs u v) (.inr (.inr (pm_R 31 4)))) = _; rw [show pm_R 31 4 = 32 from rfl]; rfl)
  | 5 => exact (pm_flR (ci := 5) (k := 5) rfl rfl).trans (by show some (pm_tv (fTh D τ a1 b t0 bs u v) (.inr (.inr (pm_R 31 5)))) = _; rw [show pm_R 31 5 = 33 from rfl]; rfl)
  | m + 6 =>
    rw [List.getElem?_eq_none (by unfold pm_fl; rw [List.length_mapIdx]; show 6 ≤ m + 6; omega), List.getElem?_eq_none (by show 6 ≤ m + 6; omega)]
theorem fe_34 (J : pm_I) : pm_fl (fTh D τ a1 b t0 bs u v) (pm_env X) (fI J) 34 = [.int 0, .int 0, .int 0, .int 0, .ref (u.2.2.2.2.1 5 1), .ref (u.2.2.2.2.1 5 2)] := by
  apply List.ext_getElem?
  intro k
  match k with
  | 0 => exact (pm_flI (ci := 5) (k := 0) rfl rfl).trans rfl
  | 1 => exact (pm_flI (ci := 5) (k := 1) rfl rfl).trans rfl
  | 2 => exact (pm_flI (ci := 5) (k := 2) rfl rfl).trans rfl
  | 3 => exact (pm_flI (ci := 5) (k := 3) rfl rfl).trans rfl
  | 4 => exact (pm_flR (ci := 5) (k := 4) rfl rfl).trans (by show some (pm_tv (fTh D τ a1 b t0 bs u v) (.inr (.inr (pm_R 34 4)))) = _; rw [show pm_R 34 4 = 35 from rfl]; rfl)
  | 5 => exact (pm_flR (ci := 5) (k := 5) rfl rfl).trans (by show some (pm_tv (fTh D τ a1 b t0 bs u v) (.inr (.inr (pm_R 34 5)))) = _; rw [show pm_R 34 5 = 36 from rfl]; rfl)
  | m + 6 =>
    rw [List.getElem?_eq_none (by unfold pm_fl; rw [List.length_mapIdx]; show 6 ≤ m + 6; omega), List.getElem?_eq_none (by show 6 ≤ m + 6; omega)]
theorem fe_37 (J : pm_I) : pm_fl (fTh D τ a1 b t0 bs u v) (pm_env X) (fI J) 37 = [.int 0, .int 0, .int 0, .int 0, .ref (u.2.2.2.2.1 6 1), .ref (u.2.2.2.2.1 6 2)] := by
  apply List.ext_getElem?
  intro k
  match k with
  | 0 => exact (pm_flI (ci := 5) (k := 0) rfl rfl).trans rfl
  | 1 => exact (pm_flI (ci := 5) (k := 1) rfl rfl).trans rfl
  | 2 => exact (pm_flI (ci := 5) (k := 2) rfl rfl).trans rfl
  | 3 => exact (pm_flI (ci := 5) (k := 3) rfl rfl).trans rfl
  | 4 => exact (pm_flR (ci := 5) (k := 4) rfl rfl).trans (by show some (pm_tv (fTh D τ a1 b t0 bs u v) (.inr (.inr (pm_R 37 4)))) = _; rw [show pm_R 37 4 = 38 from rfl]; rfl)
  | 5 => exact (pm_flR (ci := 5) (k := 5) rfl rfl).trans (by show some (pm_tv (fTh D τ a1 b t0 bs u v) (.inr (.inr (pm_R 37 5)))) = _; rw [show pm_R 37 5 = 39 from rfl]; rfl)
  | m + 6 =>
    rw [List.getElem?_eq_none (by unfold pm_fl; rw [List.length_mapIdx]; show 6 ≤ m + 6; omega), List.getElem?_eq_none (by show 6 ≤ m + 6; omega)]
theorem fe_40 (J : pm_I) : pm_fl (fTh D τ a1 b t0 bs u v) (pm_env X) (fI J) 40 = [.int 0, .int 0, .int 0, .int 0, .ref (u.2.2.2.2.1 7 1), .ref (u.2.2.2.2.1 7 2)] := by
  apply List.ext_getElem?
  intro k
  match k with
  | 0 => exact (pm_flI (ci := 5) (k := 0) rfl rfl).trans rfl
  | 1 => exact (pm_flI (ci := 5) (k := 1) rfl rfl).trans rfl
  | 2 => exact (pm_flI (ci := 5) (k := 2) rfl rfl).trans rfl
  | 3 => exact (pm_flI (ci := 5) (k := 3) rfl rfl).trans rfl
  | 4 => exact (pm_flR (ci := 5) (k := 4) rfl rfl).trans (by show some (pm_tv (fTh D τ a1 b t0 bs u v) (.inr (.inr (pm_R 40 4)))) = _; rw [show pm_R 40 4 = 41 from rfl]; rfl)
  | 5 => exact (pm_flR (ci := 5) (k := 5) rfl rfl).trans (by show some (pm_tv (fTh D τ a1 b t0 bs u v) (.inr (.inr (pm_R 40 5)))) = _; rw [show pm_R 40 5 = 42 from rfl]; rfl)
  | m + 6 =>
    rw [List.getElem?_eq_none (by unfold pm_fl; rw [List.length_mapIdx]; show 6 ≤ m + 6; omega), List.getElem?_eq_none (by show 6 ≤ m + 6; omega)]
theorem fe_54 (J : pm_I) : pm_fl (fTh D τ a1 b t0 bs u v) (pm_env X) (fI J) 54 = [.int 0, .int 0, .int 0, .ref (u.2.2.2.2.2.1 0 1)] := by
  apply List.ext_getElem?
  intro k
  match k with
  | 0 => exact (pm_flI (ci := 3) (k := 0) rfl rfl).trans rfl
  | 1 => exact (pm_flI (ci := 3) (k := 1) rfl rfl).trans rfl
  | 2 => exact (pm_flI (ci := 3) (k := 2) rfl rfl).trans rfl
  | 3 => exact (pm_flR (ci := 3) (k := 3) rfl rfl).trans (by show some (pm_tv (fTh D τ a1 b t0 bs u v) (.inr (.inr (pm_R 54 3)))) = _; rw [show pm_R 54 3 = 55 from rfl]; rfl)
  | m + 4 =>
    rw [List.getElem?_eq_none (by unfold pm_fl; rw [List.length_mapIdx]; show 4 ≤ m + 4; omega), List.getElem?_eq_none (by show 4 ≤ m + 4; omega)]
theorem fe_56 (J : pm_I) : pm_fl (fTh D τ a1 b t0 bs u v) (pm_env X) (fI J) 56 = [.int 0, .int 0, .int 0, .ref (u.2.2.2.2.2.1 1 1)] := by
  apply List.ext_getElem?
  intro k
  match k with
  | 0 => exact (pm_flI (ci := 3) (k := 0) rfl rfl).trans rfl
  | 1 => exact (pm_flI (ci := 3) (k := 1) rfl rfl).trans rfl
  | 2 => exact (pm_flI (ci := 3) (k := 2) rfl rfl).trans rfl
  | 3 => exact (pm_flR (ci := 3) (k := 3) rfl rfl).trans (by show some (pm_tv (fTh D τ a1 b t0 bs u v) (.inr (.inr (pm_R 56 3)))) = _; rw [show pm_R 56 3 = 57 from rfl]; rfl)
  | m + 4 =>
    rw [List.getElem?_eq_none (by unfold pm_fl; rw [List.length_mapIdx]; show 4 ≤ m + 4; omega), List.getElem?_eq_none (by show 4 ≤ m + 4; omega)]
theorem fe_58 (J : pm_I) : pm_fl (fTh D τ a1 b t0 bs u v) (pm_env X) (fI J) 58 = [.int 0, .int 0, .int 0, .ref (u.2.2.2.2.2.1 2 1)] := by
  apply List.ext_getElem?
  intro k
  match k with
  | 0 => exact (pm_flI (ci := 3) (k := 0) rfl rfl).trans rfl
  | 1 => exact (pm_flI (ci := 3) (k := 1) rfl rfl).trans rfl
  | 2 => exact (pm_flI (ci := 3) (k := 2) rfl rfl).trans rfl
  | 3 => exact (pm_flR (ci := 3) (k := 3) rfl rfl).trans (by show some (pm_tv (fTh D τ a1 b t0 bs u v) (.inr (.inr (pm_R 58 3)))) = _; rw [show pm_R 58 3 = 59 from rfl]; rfl)
  | m + 4 =>
    rw [List.getElem?_eq_none (by unfold pm_fl; rw [List.length_mapIdx]; show 4 ≤ m + 4; omega), List.getElem?_eq_none (by show 4 ≤ m + 4; omega)]
theorem fe_60 (J : pm_I) : pm_fl (fTh D τ a1 b t0 bs u v) (pm_env X) (fI J) 60 = [.int 0, .int 0, .int 0, .ref (u.2.2.2.2.2.1 3 1)] := by
  apply List.ext_getElem?
  intro k
  match k with
  | 0 => exact (pm_flI (ci := 3) (k := 0) rfl rfl).trans rfl
  | 1 => exact (pm_flI (ci := 3) (k := 1) rfl rfl).trans rfl
  | 2 => exact (pm_flI (ci := 3) (k := 2) rfl rfl).trans rfl
  | 3 => exact (pm_flR (ci := 3) (k := 3) rfl rfl).trans (by show some (pm_tv (fTh D τ a1 b t0 bs u v) (.inr (.inr (pm_R 60 3)))) = _; rw [show pm_R 60 3 = 61 from rfl]; rfl)
  | m + 4 =>
    rw [List.getElem?_eq_none (by unfold pm_fl; rw [List.length_mapIdx]; show 4 ≤ m + 4; omega), List.getElem?_eq_none (by show 4 ≤ m + 4; omega)]
theorem fe_77 (J : pm_I) : pm_fl (fTh D τ a1 b t0 bs u v) (pm_env X) (fI J) 77 = [.int 1, .ref (v 1), .ref (v 2), .int 0, .int 0, .ref (v 3), .ref (v 4), .ref (v 5), .int 0, .ref (v 6), .ref (v 7), .ref (v 8), .ref (v 9), .ref (v 10), .int 0, .ref (v 11), .ref (v 12), .ref (v 13), .ref (v 14), .ref (v 15), .ref (v 16), .ref (v 17), .ref (v 18), .ref (v 19), .ref (v 20), .ref (v 21), .ref (v 22)] := by
  apply List.ext_getElem?
  intro k
  match k with
  | 0 => exact (pm_flI (ci := 7) (k := 0) rfl rfl).trans rfl
  | 1 => exact (pm_flR (ci := 7) (k := 1) rfl rfl).trans (by show some (pm_tv (fTh D τ a1 b t0 bs u v) (.inr (.inr (pm_R 77 1)))) = _; rw [show pm_R 77 1 = 78 from rfl]; rfl)
  | 2 => exact (pm_flR (ci := 7) (k := 2) rfl rfl).trans (by show some (pm_tv (fTh D τ a1 b t0 bs u v) (.inr (.inr (pm_R 77 2)))) = _; rw [show pm_R 77 2 = 79 from rfl]; rfl)
  | 3 => exact (pm_flI (ci := 7) (k := 3) rfl rfl).trans rfl
  | 4 => exact (pm_flI (ci := 7) (k := 4) rfl rfl).trans rfl
  | 5 => exact (pm_flR (ci := 7) (k := 5) rfl rfl).trans (by show some (pm_tv (fTh D τ a1 b t0 bs u v) (.inr (.inr (pm_R 77 5)))) = _; rw [show pm_R 77 5 = 80 from rfl]; rfl)
  | 6 => exact (pm_flR (ci := 7) (k := 6) rfl rfl).trans (by show some (pm_tv (fTh D τ a1 b t0 bs u v) (.inr (.inr (pm_R 77 6)))) = _; rw [show pm_R 77 6 = 81 from rfl]; rfl)
  | 7 => exact (pm_flR (ci := 7) (k := 7) rfl rfl).trans (by show some (pm_tv (fTh D τ a1 b t0 bs u v) (.inr (.inr (pm_R 77 7)))) = _; rw [show pm_R 77 7 = 82 from rfl]; rfl)
  | 8 => exact (pm_flI (ci := 7) (k := 8) rfl rfl).trans rfl
  | 9 => exact (pm_flR (ci := 7) (k := 9) rfl rfl).trans (by show some (pm_tv (fTh D τ a1 b t0 bs u v) (.inr (.inr (pm_R 77 9)))) = _; rw [show pm_R 77 9 = 83 from rfl]; rfl)
  | 10 => exact (pm_flR (ci := 7) (k := 10) rfl rfl).trans (by show some (pm_tv (fTh D τ a1 b t0 bs u v) (.inr (.inr (pm_R 77 10)))) = _; rw [show pm_R 77 10 = 84 from rfl]; rfl)
  | 11 => exact (pm_flR (ci := 7) (k := 11) rfl rfl).trans (by show some (pm_tv (fTh D τ a1 b t0 bs u v) (.inr (.inr (pm_R 77 11)))) = _; rw [show pm_R 77 11 = 85 from rfl]; rfl)
  | 12 => exact (pm_flR (ci := 7) (k := 12) rfl rfl).trans (by show some (pm_tv (fTh D τ a1 b t0 bs u v) (.inr (.inr (pm_R 77 12)))) = _; rw [show pm_R 77 12 = 86 from rfl]; rfl)
  | 13 => exact (pm_flR (ci := 7) (k := 13) rfl rfl).trans (by show some (pm_tv (fTh D τ a1 b t0 bs u v) (.inr (.inr (pm_R 77 13)))) = _; rw [show pm_R 77 13 = 87 from rfl]; rfl)
  | 14 => exact (pm_flI (ci := 7) (k := 14) rfl rfl).trans rfl
  | 15 => exact (pm_flR (ci := 7) (k := 15) rfl rfl).trans (by show some (pm_tv (fTh D τ a1 b t0 bs u v) (.inr (.inr (pm_R 77 15)))) = _; rw [show pm_R 77 15 = 88 from rfl]; rfl)
  | 16 => exact (pm_flR (ci := 7) (k := 16) rfl rfl).trans (by show some (pm_tv (fTh D τ a1 b t0 bs u v) (.inr (.inr (pm_R 77 16)))) = _; rw [show pm_R 77 16 = 89 from rfl]; rfl)
  | 17 => exact (pm_flR (ci := 7) (k := 17) rfl rfl).trans (by show some (pm_tv (fTh D τ a1 b t0 bs u v) (.inr (.inr (pm_R 77 17)))) = _; rw [show pm_R 77 17 = 90 from rfl]; rfl)
  | 18 => exact (pm_flR (ci := 7) (k := 18) rfl rfl).trans (by show some (pm_tv (fTh D τ a1 b t0 bs u v) (.inr (.inr (pm_R 77 18)))) = _; rw [show pm_R 77 18 = 91 from rfl]; rfl)
  | 19 => exact (pm_flR (ci := 7) (k := 19) rfl rfl).trans (by show some (pm_tv (fTh D τ a1 b t0 bs u v) (.inr (.inr (pm_R 77 19)))) = _; rw [show pm_R 77 19 = 92 from rfl]; rfl)
  | 20 => exact (pm_flR (ci := 7) (k := 20) rfl rfl).trans (by show some (pm_tv (fTh D τ a1 b t0 bs u v) (.inr (.inr (pm_R 77 20)))) = _; rw [show pm_R 77 20 = 93 from rfl]; rfl)
  | 21 => exact (pm_flR (ci := 7) (k := 21) rfl rfl).trans (by show some (pm_tv (fTh D τ a1 b t0 bs u v) (.inr (.inr (pm_R 77 21)))) = _; rw [show pm_R 77 21 = 94 from rfl]; rfl)
  | 22 => exact (pm_flR (ci := 7) (k := 22) rfl rfl).trans (by show some (pm_tv (fTh D τ a1 b t0 bs u v) (.inr (.inr (pm_R 77 22)))) = _; rw [show pm_R 77 22 = 95 from rfl]; rfl)
  | 23 => exact (pm_flR (ci := 7) (k := 23) rfl rfl).trans (by show some (pm_tv (fTh D τ a1 b t0 bs u v) (.inr (.inr (pm_R 77 23)))) = _; rw [show pm_R 77 23 = 96 from rfl]; rfl)
  | 24 => exact (pm_flR (ci := 7) (k := 24) rfl rfl).trans (by show some (pm_tv (fTh D τ a1 b t0 bs u v) (.inr (.inr (pm_R 77 24)))) = _; rw [show pm_R 77 24 = 97 from rfl]; rfl)
  | 25 => exact (pm_flR (ci := 7) (k := 25) rfl rfl).trans (by show some (pm_tv (fTh D τ a1 b t0 bs u v) (.inr (.inr (pm_R 77 25)))) = _; rw [show pm_R 77 25 = 98 from rfl]; rfl)
  | 26 => exact (pm_flR (ci := 7) (k := 26) rfl rfl).trans (by show some (pm_tv (fTh D τ a1 b t0 bs u v) (.inr (.inr (pm_R 77 26)))) = _; rw [show pm_R 77 26 = 99 from rfl]; rfl)
  | m + 27 =>
    rw [List.getElem?_eq_none (by unfold pm_fl; rw [List.length_mapIdx]; show 27 ≤ m + 27; omega), List.getElem?_eq_none (by show 27 ≤ m + 27; omega)]
set_option maxRecDepth 100000 in
set_option maxHeartbeats 4000000 in
theorem f_ent : ∀ k, k < 97 → (cl_Tb τ t0 u ++ cl_Model τ v)[fG k]? = some (pm_as (fTh D τ a1 b t0 bs u v) (k + 3), pm_cell (fTh D τ a1 b t0 bs u v) (pm_env X) (fI u.1.2) (k + 3)) := by
  intro k hk
  match k, hk with
  | 0, _ => rfl
  | 1, _ => rfl
  | 2, _ => rfl
  | 3, _ => rfl
  | 4, _ => rfl
  | 5, _ => rfl
  | 6, _ => rfl
  | 7, _ => rfl
  | 8, _ => rfl
  | 9, _ => rfl
  | 10, _ => rfl
  | 11, _ => rfl
  | 12, _ => rfl
  | 13, _ => rfl
  | 14, _ => rfl
  | 15, _ =>
    have e : pm_cell (fTh D τ a1 b t0 bs u v) (pm_env X) (fI u.1.2) 18 = .inl (τ.2.2.2.1, 8, .inr (.inr (.inr (.inr (fun j => pm_ra (fTh D τ a1 b t0 bs u v) (pm_R 18 j)))))) := rfl
    show _ = some (pm_as (fTh D τ a1 b t0 bs u v) 18, pm_cell (fTh D τ a1 b t0 bs u v) (pm_env X) (fI u.1.2) 18)
    rw [e, fr_18]
    rfl
  | 16, _ =>
    have e : pm_cell (fTh D τ a1 b t0 bs u v) (pm_env X) (fI u.1.2) 19 = .inr (5, pm_fl (fTh D τ a1 b t0 bs u v) (pm_env X) (fI u.1.2) 19) := rfl
    show _ = some (pm_as (fTh D τ a1 b t0 bs u v) 19, pm_cell (fTh D τ a1 b t0 bs u v) (pm_env X) (fI u.1.2) 19)
    rw [e, fe_19]
    rfl
  | 17, _ => rfl
  | 18, _ => rfl
  | 19, _ =>
    have e : pm_cell (fTh D τ a1 b t0 bs u v) (pm_env X) (fI u.1.2) 22 = .inr (5, pm_fl (fTh D τ a1 b t0 bs u v) (pm_env X) (fI u.1.2) 22) := rfl
    show _ = some (pm_as (fTh D τ a1 b t0 bs u v) 22, pm_cell (fTh D τ a1 b t0 bs u v) (pm_env X) (fI u.1.2) 22)
    rw [e, fe_22]
    rfl
  | 20, _ => rfl
  | 21, _ => rfl
  | 22, _ =>
    have e : pm_cell (fTh D τ a1 b t0 bs u v) (pm_env X) (fI u.1.2) 25 = .inr (5, pm_fl (fTh D τ a1 b t0 bs u v) (pm_env X) (fI u.1.2) 25) := rfl
    show _ = some (pm_as (fTh D τ a1 b t0 bs u v) 25, pm_cell (fTh D τ a1 b t0 bs u v) (pm_env X) (fI u.1.2) 25)
    rw [e, fe_25]
    rfl
  | 23, _ => rfl
  | 24, _ => rfl
  | 25, _ =>
    have e : pm_cell (fTh D τ a1 b t0 bs u v) (pm_env X) (fI u.1.2) 28 = .inr (5, pm_fl (fTh D τ a1 b t0 bs u v) (pm_env X) (fI u.1.2) 28) := rfl
    show _ = some (pm_as (fTh D τ a1 b t0 bs u v) 28, pm_cell (fTh D τ a1 b t0 bs u v) (pm_env X) (fI u.1.2) 28)
    rw [e, fe_28]
    rfl
  | 26, _ => rfl
  | 27, _ => rfl
  | 28, _ =>
    have e : pm_cell (fTh D τ a1 b t0 bs u v) (pm_env X) (fI u.1.2) 31 = .inr (5, pm_fl (fTh D τ a1 b t0 bs u v) (pm_env X) (fI u.1.2) 31) := rfl
    show _ = some (pm_as (fTh D τ a1 b t0 bs u v) 31, pm_cell (fTh D τ a1 b t0 bs u v) (pm_env X) (fI u.1.2) 31)
    rw [e, fe_31]
    rfl
  | 29, _ => rfl
  | 30, _ => rfl
  | 31, _ =>
    have e : pm_cell (fTh D τ a1 b t0 bs u v) (pm_env X) (fI u.1.2) 34 = .inr (5, pm_fl (fTh D τ a1 b t0 bs u v) (pm_env X) (fI u.1.2) 34) := rfl
    show _ = some (pm_as (fTh D τ a1 b t0 bs u v) 34, pm_cell (fTh D τ a1 b t0 bs u v) (pm_env X) (fI u.1.2) 34)
    rw [e, fe_34]
    rfl
  | 32, _ => rfl
  | 33, _ => rfl
  | 34, _ =>
    have e : pm_cell (fTh D τ a1 b t0 bs u v) (pm_env X) (fI u.1.2) 37 = .inr (5, pm_fl (fTh D τ a1 b t0 bs u v) (pm_env X) (fI u.1.2) 37) := rfl
    show _ = some (pm_as (fTh D τ a1 b t0 bs u v) 37, pm_cell (fTh D τ a1 b t0 bs u v) (pm_env X) (fI u.1.2) 37)
    rw [e, fe_37]
    rfl
  | 35, _ => rfl
  | 36, _ => rfl
  | 37, _ =>
    have e : pm_cell (fTh D τ a1 b t0 bs u v) (pm_env X) (fI u.1.2) 40 = .inr (5, pm_fl (fTh D τ a1 b t0 bs u v) (pm_env X) (fI u.1.2) 40) := rfl
    show _ = some (pm_as (fTh D τ a1 b t0 bs u v) 40, pm_cell (fTh D τ a1 b t0 bs u v) (pm_env X) (fI u.1.2) 40)
    rw [e, fe_40]
    rfl
  | 38, _ => rfl
  | 39, _ => rfl
  | 40, _ => rfl
  | 41, _ =>
    have e : pm_cell (fTh D τ a1 b t0 bs u v) (pm_env X) (fI u.1.2) 44 = .inl (τ.2.2.2.2, 8, .inr (.inr (.inr (.inr (fun j => pm_ra (fTh D τ a1 b t0 bs u v) (pm_R 44 j)))))) := rfl
    show _ = some (pm_as (fTh D τ a1 b t0 bs u v) 44, pm_cell (fTh D τ a1 b t0 bs u v) (pm_env X) (fI u.1.2) 44)
    rw [e, fr_44]
    rfl
  | 42, _ => rfl
  | 43, _ => rfl
  | 44, _ => rfl
  | 45, _ => rfl
  | 46, _ => rfl
  | 47, _ => rfl
  | 48, _ => rfl
  | 49, _ => rfl
  | 50, _ =>
    have e : pm_cell (fTh D τ a1 b t0 bs u v) (pm_env X) (fI u.1.2) 53 = .inl (τ.2.2.1, 4, .inr (.inr (.inr (.inr (fun j => pm_ra (fTh D τ a1 b t0 bs u v) (pm_R 53 j)))))) := rfl
    show _ = some (pm_as (fTh D τ a1 b t0 bs u v) 53, pm_cell (fTh D τ a1 b t0 bs u v) (pm_env X) (fI u.1.2) 53)
    rw [e, fr_53]
    rfl
  | 51, _ =>
    have e : pm_cell (fTh D τ a1 b t0 bs u v) (pm_env X) (fI u.1.2) 54 = .inr (3, pm_fl (fTh D τ a1 b t0 bs u v) (pm_env X) (fI u.1.2) 54) := rfl
    show _ = some (pm_as (fTh D τ a1 b t0 bs u v) 54, pm_cell (fTh D τ a1 b t0 bs u v) (pm_env X) (fI u.1.2) 54)
    rw [e, fe_54]
    rfl
  | 52, _ => rfl
  | 53, _ =>
    have e : pm_cell (fTh D τ a1 b t0 bs u v) (pm_env X) (fI u.1.2) 56 = .inr (3, pm_fl (fTh D τ a1 b t0 bs u v) (pm_env X) (fI u.1.2) 56) := rfl
    show _ = some (pm_as (fTh D τ a1 b t0 bs u v) 56, pm_cell (fTh D τ a1 b t0 bs u v) (pm_env X) (fI u.1.2) 56)
    rw [e, fe_56]
    rfl
  | 54, _ => rfl
  | 55, _ =>
    have e : pm_cell (fTh D τ a1 b t0 bs u v) (pm_env X) (fI u.1.2) 58 = .inr (3, pm_fl (fTh D τ a1 b t0 bs u v) (pm_env X) (fI u.1.2) 58) := rfl
    show _ = some (pm_as (fTh D τ a1 b t0 bs u v) 58, pm_cell (fTh D τ a1 b t0 bs u v) (pm_env X) (fI u.1.2) 58)
    rw [e, fe_58]
    rfl
  | 56, _ => rfl
  | 57, _ =>
    have e : pm_cell (fTh D τ a1 b t0 bs u v) (pm_env X) (fI u.1.2) 60 = .inr (3, pm_fl (fTh D τ a1 b t0 bs u v) (pm_env X) (fI u.1.2) 60) := rfl
    show _ = some (pm_as (fTh D τ a1 b t0 bs u v) 60, pm_cell (fTh D τ a1 b t0 bs u v) (pm_env X) (fI u.1.2) 60)
    rw [e, fe_60]
    rfl
  | 58, _ => rfl
  | 59, _ => rfl
  | 60, _ => rfl
  | 61, _ =>
    have e : pm_cell (fTh D τ a1 b t0 bs u v) (pm_env X) (fI u.1.2) 64 = .inl (τ.2.2.2.2, 8, .inr (.inr (.inr (.inr (fun j => pm_ra (fTh D τ a1 b t0 bs u v) (pm_R 64 j)))))) := rfl
    show _ = some (pm_as (fTh D τ a1 b t0 bs u v) 64, pm_cell (fTh D τ a1 b t0 bs u v) (pm_env X) (fI u.1.2) 64)
    rw [e, fr_64]
    rfl
  | 62, _ => rfl
  | 63, _ => rfl
  | 64, _ => rfl
  | 65, _ => rfl
  | 66, _ => rfl
  | 67, _ => rfl
  | 68, _ => rfl
  | 69, _ => rfl
  | 70, _ => rfl
  | 71, _ => rfl
  | 72, _ => rfl
  | 73, _ => rfl
  | 74, _ =>
    have e : pm_cell (fTh D τ a1 b t0 bs u v) (pm_env X) (fI u.1.2) 77 = .inr (7, pm_fl (fTh D τ a1 b t0 bs u v) (pm_env X) (fI u.1.2) 77) := rfl
    show _ = some (pm_as (fTh D τ a1 b t0 bs u v) 77, pm_cell (fTh D τ a1 b t0 bs u v) (pm_env X) (fI u.1.2) 77)
    rw [e, fe_77]
    rfl
  | 75, _ => rfl
  | 76, _ =>
    have e : pm_cell (fTh D τ a1 b t0 bs u v) (pm_env X) (fI u.1.2) 79 = .inl (τ.1, 8, .inl (fun j : Nat => Int32.ofInt (fI u.1.2 79 j))) := rfl
    show _ = some (pm_as (fTh D τ a1 b t0 bs u v) 79, pm_cell (fTh D τ a1 b t0 bs u v) (pm_env X) (fI u.1.2) 79)
    rw [e, fr_79]
    rfl
  | 77, _ => rfl
  | 78, _ => rfl
  | 79, _ => rfl
  | 80, _ => rfl
  | 81, _ => rfl
  | 82, _ => rfl
  | 83, _ => rfl
  | 84, _ => rfl
  | 85, _ => rfl
  | 86, _ =>
    have e : pm_cell (fTh D τ a1 b t0 bs u v) (pm_env X) (fI u.1.2) 89 = .inl (τ.1, 4, .inl (fun j : Nat => Int32.ofInt (fI u.1.2 89 j))) := rfl
    show _ = some (pm_as (fTh D τ a1 b t0 bs u v) 89, pm_cell (fTh D τ a1 b t0 bs u v) (pm_env X) (fI u.1.2) 89)
    rw [e, fr_89]
    rfl
  | 87, _ => rfl
  | 88, _ => rfl
  | 89, _ => rfl
  | 90, _ => rfl
  | 91, _ => rfl
  | 92, _ => rfl
  | 93, _ => rfl
  | 94, _ => rfl
  | 95, _ => rfl
  | 96, _ => rfl
  | n + 97, h => exact absurd h (by omega)
theorem f_ws {A : Nat → Prop} {H : Heap} (hP : va_P D vwCl (cl_Tb τ t0 u ++ cl_Model τ v) H) (hD : va_D A (cl_Tb τ t0 u ++ cl_Model τ v)) : va_P D vwCl (pm_ws (fTh D τ a1 b t0 bs u v) (pm_env X) (fI u.1.2)) H ∧ va_D A (pm_ws (fTh D τ a1 b t0 bs u v) (pm_env X) (fI u.1.2)) := by
  have len : (pm_ws (fTh D τ a1 b t0 bs u v) (pm_env X) (fI u.1.2)).length = 97 := by unfold pm_ws; rw [List.length_map, List.length_range]
  have hg : ∀ (k : Nat) (q : Nat × va_E), (pm_ws (fTh D τ a1 b t0 bs u v) (pm_env X) (fI u.1.2))[k]? = some q → (cl_Tb τ t0 u ++ cl_Model τ v)[fG k]? = some q := fun k q hq => by
    have hk : k < 97 := by have := (List.getElem?_eq_some_iff.mp hq).1; omega
    have e := pm_ws_at (fTh D τ a1 b t0 bs u v) (pm_env X) (fI u.1.2) (r := k + 3) ⟨by omega, by show k + 3 < 97 + 3; omega⟩
    rw [show k + 3 - 3 = k by omega, hq] at e
    rw [e]
    exact f_ent k hk
  exact ⟨hP.by fG hg, hD.by fG hg (fun i j hi hj h => fG_inj i (by omega) j (by omega) h)⟩
theorem fI_r {J : pm_I} (h : ∀ r j, pm_r32 (J r j)) : ∀ r j, pm_r32 (fI J r j) := fun r j => by
  unfold fI
  cases (Nat.ble 4 r && Nat.ble r 9) with
  | true => exact h _ _
  | false =>
    cases Nat.beq r 77 with
    | true =>
      show pm_r32 (if j = 0 then 1 else 0)
      split <;> omega
    | false =>
      cases Nat.beq r 79 with
      | true =>
        show pm_r32 (if 0 ≤ j ∧ j < 8 then 1 else 0)
        split <;> omega
      | false =>
        cases Nat.beq r 89 with
        | true =>
          show pm_r32 (if 0 ≤ j ∧ j < 4 then -4 else 0)
          split <;> omega
        | false =>
          show pm_r32 0
          omega
theorem fI_Rl {J : pm_I} (j3 : J 3 0 = 1) (j5 : J 5 0 = 0) (j6 : J 6 0 = 0) (j7 : J 7 0 = 0) (j8 : J 8 0 = 1) : Rl (fI J) := by
  have n1 : fI J 4 0 = 1 := j3
  have p0 : fI J 6 0 = 0 := j5
  have z0 : ∀ {a : Int}, 0 ≤ a → a < fI J 4 0 → a = 0 := fun h0 h1 => by omega
  refine ⟨⟨⟨by omega, fun a b a0 a1 b0 b1 => ?_, fun a a0 a1 => ?_, fun a b c a0 a1 b0 b1 c0 c1 => ?_, fun a a0 a1 => ?_⟩, ?_, fun a b a0 a1 b0 b1 => ?_, fun a a0 a1 => ?_, fun a a0 a1 => ?_⟩, ⟨⟨?_, ?_, ?_⟩, ⟨?_, ?_, ?_⟩, fun k k0 k1 => ?_, fun p p0 p1 => ?_, fun k k0 k1 => ?_, ?_⟩, ⟨fun k k0 k1 => ?_, ⟨⟨?_, ?_⟩, ?_, ?_, ?_⟩, fun i k i0 i1 => ?_⟩, ⟨⟨?_, ?_, ?_⟩, fun w w0 w1 => ?_⟩, fun k k0 k1 => ?_, fun a a0 a1 => ?_⟩
  · obtain rfl := z0 a0 a1; obtain rfl := z0 b0 b1
    show 0 ≤ fI J 6 0 ∧ fI J 6 0 < fI J 4 0
    omega
  · obtain rfl := z0 a0 a1
    exact ⟨p0, p0⟩
  · obtain rfl := z0 a0 a1; obtain rfl := z0 b0 b1; obtain rfl := z0 c0 c1
    show fI J 6 (8 * fI J 6 0 + 0) = fI J 6 (8 * 0 + fI J 6 0)
    rw [p0]
  · obtain rfl := z0 a0 a1
    exact ⟨0, by omega, p0, p0⟩
  · show (1 : Int) = fI J 4 0
    omega
  · obtain rfl := z0 a0 a1; obtain rfl := z0 b0 b1
    show (0 : Int) = fI J 6 0
    omega
  · obtain rfl := z0 a0 a1
    have e : fI J 7 0 = 0 := j6
    rw [e]
    exact ⟨by omega, p0, fun c c0 c1 => by omega⟩
  · obtain rfl := z0 a0 a1
    have e : fI J 8 0 = 0 := j7
    have e7 : fI J 7 0 = 0 := j6
    rw [e, n1]
    show (0 : Int) = min 0 (fI J 6 (8 * fI J 6 (8 * 0 + 0) + fI J 7 0))
    rw [e7, show (8 * 0 + 0 : Int) = 0 by omega, p0, show (8 * 0 + 0 : Int) = 0 by omega, p0]
    rfl
  · exact Int.le_refl 0
  · show (0 : Int) ≤ 6
    omega
  · rfl
  · exact Int.le_refl 0
  · show (0 : Int) ≤ 10
    omega
  · rfl
  · have k1 : k < 0 := k1
    omega
  · have p1 : p < 0 := p1
    omega
  · have k1 : k < 0 := k1
    omega
  · rfl
  · rw [n1]
    show (0 : Int) = 0 ∧ ((0 : Int) ≤ 0 ∧ (0 : Int) < 1) ∧ (_ → (0 : Int) = 0)
    exact ⟨rfl, by omega, fun _ => rfl⟩
  · exact Int.le_refl 0
  · show (0 : Int) ≤ 8
    omega
  · rfl
  · exact Int.le_refl 0
  · show (0 : Int) < 8
    omega
  · have i1 : i < 0 := i1
    omega
  · exact Int.le_refl 0
  · show (0 : Int) ≤ 8
    omega
  · rfl
  · have w1 : w < 0 := w1
    omega
  · have : k = 0 ∨ k = 1 ∨ k = 2 ∨ k = 3 := by omega
    rcases this with rfl | rfl | rfl | rfl <;> exact ⟨Or.inl ⟨rfl, rfl⟩, ⟨rfl, Int.le_refl 0, by show (0 : Int) ≤ 64; omega⟩, fun i _ _ => rfl⟩
  · obtain rfl := z0 a0 a1
    have e : fI J 9 0 = 1 := j8
    rw [e]
    exact ⟨rfl, by omega, by omega⟩
end FIN
