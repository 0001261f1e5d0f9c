theorem md_n {a b N : Nat} (ha : a < N) (hb : b < N) : (((a + b) % N : Nat) : Int) = if (a : Int) + b < N then (a : Int) + b else a + b - N := by
  by_cases z : a + b < N
  · rw [if_pos (by omega), Nat.mod_eq_of_lt z]; omega
  · rw [if_neg (by omega), Nat.mod_eq_sub_mod (by omega), Nat.mod_eq_of_lt (by omega)]; omega
def fv (n x y : Int) : Int := if x < n then (if y < n then fsm n x y else n + fsm n x (y - n)) else if y < n then n + frs n (x - n) y else frs n (x - n) (y - n)
theorem fv_3 : ∀ a : Nat, a < 6 → ∀ b : Nat, b < 6 → fv 3 a b = (q1 3 a b : Nat) ∧ mf 3 a b = (q1 3 a b : Nat) := by decide +kernel
theorem fv_4 : ∀ a : Nat, a < 8 → ∀ b : Nat, b < 8 → fv 4 a b = (q1 4 a b : Nat) ∧ mf 4 a b = (q1 4 a b : Nat) := by decide +kernel
section OKG
variable {X : pm_XT} {I : pm_I}
theorem FL_fv {n : Int} {J : pm_I} (h : ∀ x y, 0 ≤ x → x < n → 0 ≤ y → y < n → FL n J x y) {x y : Int} (hx : 0 ≤ x ∧ x < 2 * n) (hy : 0 ≤ y ∧ y < 2 * n) : J 5 (8 * x + y) = fv n x y := by
  unfold fv
  by_cases z : x < n
  · rw [if_pos z]
    by_cases w : y < n
    · rw [if_pos w]; exact (h x y hx.1 z hy.1 w).1
    · rw [if_neg w]
      have q := (h x (y - n) hx.1 z (by omega) (by omega)).2.1
      rw [show 8 * x + n + (y - n) = 8 * x + y by omega] at q
      exact q
  · rw [if_neg z]
    by_cases w : y < n
    · rw [if_pos w]
      have q := (h (x - n) y (by omega) (by omega) hy.1 w).2.2.1
      rw [show 8 * (n + (x - n)) + y = 8 * x + y by omega] at q
      exact q
    · rw [if_neg w]
      have q := (h (x - n) (y - n) (by omega) (by omega) (by omega) (by omega)).2.2.2
      rw [show 8 * (n + (x - n)) + n + (y - n) = 8 * x + y by omega] at q
      exact q
theorem grp_both (h : Rl I) {n : Int} {I1 : pm_I} (f1 : fr [5] I I1) (g : GF n (fun a b => I1 5 (8 * a + b))) {FT FM : pm_I → pm_O} (hT : FT I = (f_T_takeDraft X n I1).bind (fun x => some (x.1, x.2)))
    (hM : ∀ J, ∃ J2, FM J = (f_M_begin X n J2).bind (fun x1 => some (n, x1.2)) ∧ fr [78] J J2 ∧ ∀ a b, 0 ≤ a → a < n → 0 ≤ b → b < n → J2 78 (8 * a + b) = I1 5 (8 * a + b)) : Ok FT FM I := by
  obtain ⟨J, j1, j2, j3⟩ := grp_end (X := X) h (f1.mono (by decide)) g
  obtain ⟨J2, k1, k2, k3⟩ := hM J
  obtain ⟨M, m1, m2⟩ := j3 J2 (k2.mono (by decide)) k3
  refine ⟨n, J, M, ?_, ?_, m2⟩
  · rw [hT, j1]; rfl
  · rw [k1, m1]; rfl
theorem ok_group (h : Rl I) {k n : Int} : Ok (f_T_group X k n) (f_M_group X k n) I := by
  by_cases c0 : k = 0 ∧ 1 ≤ n ∧ n ≤ 8
  · obtain ⟨rfl, hn⟩ := c0
    obtain ⟨I1, i1, i2, i3⟩ := G_ring (X := X) (I := I) hn
    obtain ⟨N, rfl⟩ := Int.eq_ofNat_of_zero_le (show 0 ≤ n by omega)
    have g : GF N (fun a b => I1 5 (8 * a + b)) := (g_ring N (by omega) (by omega)).to (fun a b ha hb => by
      rw [i3 a b (by omega) (by omega) (by omega) (by omega)]
      exact (md_n ha hb).symm)
    refine grp_both (X := X) h i2 g ?_ (fun J => ?_)
    · rw [e_T_group, if_pos rfl, if_neg (by omega), if_neg (by omega), i1]
      rfl
    · obtain ⟨J2, k1, k2, k3⟩ := M_ring (X := X) (I := J) hn
      refine ⟨J2, ?_, k2, fun a b a0 a1 b0 b1 => ?_⟩
      · rw [e_M_group, if_pos rfl, M_in, if_pos hn]
        simp only [Option.bind_some]
        rw [if_neg (by decide), if_neg (by decide)]
        exact k1
      · obtain ⟨a, rfl⟩ := Int.eq_ofNat_of_zero_le a0
        obtain ⟨b, rfl⟩ := Int.eq_ofNat_of_zero_le b0
        rw [k3 a b a0 a1 b0 b1, i3 a b a0 a1 b0 b1, ← md_n (by omega) (by omega), Int.natCast_emod, Int.natCast_add]
  · by_cases c1 : k = 1 ∧ (n = 3 ∨ n = 4)
    · obtain ⟨rfl, hn⟩ := c1
      obtain ⟨I1, i1, i2, i3⟩ := G_flips (X := X) (I := I) (n := n) (by omega)
      have ev : ∀ a b : Nat, (a : Int) < 2 * n → (b : Int) < 2 * n → I1 5 (8 * a + b) = fv n a b := fun a b ha hb => FL_fv i3 (by omega) (by omega)
      have g : GF (2 * n) (fun a b => I1 5 (8 * a + b)) := by
        rcases hn with rfl | rfl
        · exact g_fl3.to (fun a b ha hb => by rw [ev a b (by omega) (by omega)]; exact (fv_3 a ha b hb).1)
        · exact g_fl4.to (fun a b ha hb => by rw [ev a b (by omega) (by omega)]; exact (fv_4 a ha b hb).1)
      refine grp_both (X := X) h i2 g ?_ (fun J => ?_)
      · rw [e_T_group, if_neg (by decide), if_pos rfl]
        rcases hn with rfl | rfl
        · rw [if_pos rfl, i1]
          simp only [Option.bind_some]
          rw [if_pos (by omega)]
        · rw [if_neg (by decide), if_pos rfl, i1]
          simp only [Option.bind_some]
          rw [if_pos (by omega)]
      · obtain ⟨J2, k1, k2, k3⟩ := M_flips (X := X) (I := J) hn
        refine ⟨J2, ?_, k2, fun a b a0 a1 b0 b1 => ?_⟩
        · rw [e_M_group, if_neg (by decide), if_pos rfl]
          rcases hn with rfl | rfl
          · rw [if_pos rfl, if_pos rfl, if_pos (by omega)]
            exact k1
          · rw [if_neg (by decide), if_pos rfl, if_pos rfl, if_pos (by omega)]
            exact k1
        · obtain ⟨a, rfl⟩ := Int.eq_ofNat_of_zero_le a0
          obtain ⟨b, rfl⟩ := Int.eq_ofNat_of_zero_le b0
          rw [k3 a b a0 a1 b0 b1, ev a b a1 b1]
          rcases hn with rfl | rfl
          · rw [(fv_3 a (by omega) b (by omega)).1, (fv_3 a (by omega) b (by omega)).2]
          · rw [(fv_4 a (by omega) b (by omega)).1, (fv_4 a (by omega) b (by omega)).2]
    · by_cases c2 : k = 2 ∧ n = 8
      · obtain ⟨rfl, rfl⟩ := c2
        obtain ⟨I1, i1, i2, i3⟩ := G_crossed (X := X) (I := I)
        have g : GF 8 (fun a b => I1 5 (8 * a + b)) := g_cr.to (fun a b ha hb => by
          have q := xr_cr a ha b hb
          rw [i3 a b (by omega) (by omega) (by omega) (by omega), q.1]
          exact q.2.1)
        refine grp_both (X := X) h i2 g ?_ (fun J => ?_)
        · rw [e_T_group, if_neg (by decide), if_neg (by decide), if_pos rfl, if_pos rfl, i1]
          rfl
        · obtain ⟨J2, k1, k2, k3⟩ := M_crs (X := X) (I := J)
          refine ⟨J2, ?_, k2, fun a b a0 a1 b0 b1 => ?_⟩
          · rw [e_M_group, if_neg (by decide), if_neg (by decide), if_pos rfl, if_pos rfl, if_neg (by decide)]
            exact k1
          · obtain ⟨a, rfl⟩ := Int.eq_ofNat_of_zero_le a0
            obtain ⟨b, rfl⟩ := Int.eq_ofNat_of_zero_le b0
            rw [k3 a b a0 a1 b0 b1, i3 a b a0 a1 b0 b1, (xr_cr a (by omega) b (by omega)).1]
      · refine ⟨-1, I, I, ?_, ?_, h⟩
        · have t2 : ∀ (A B : pm_O), (if k = 2 then (if n = 8 then A else some (-1, I)) else some (-1, I)) = some (-1, I) := fun A B => by
            by_cases z : k = 2
            · rw [if_pos z, if_neg (fun w => c2 ⟨z, w⟩)]
            · rw [if_neg z]
          have t1 : ∀ (A B C D : pm_O), (if k = 1 then (if n = 3 then A else if n = 4 then B else (if k = 2 then (if n = 8 then C else some (-1, I)) else some (-1, I))) else (if k = 2 then (if n = 8 then D else some (-1, I)) else some (-1, I))) = some (-1, I) := fun A B C D => by
            rw [t2 C C, t2 D D]
            by_cases z : k = 1
            · rw [if_pos z, if_neg (fun w => c1 ⟨z, Or.inl w⟩), if_neg (fun w => c1 ⟨z, Or.inr w⟩)]
            · rw [if_neg z]
          rw [e_T_group, t1]
          by_cases z : k = 0
          · rw [if_pos z]
            by_cases w : n < 1
            · rw [if_pos w]
            · rw [if_neg w, if_pos (by omega)]
          · rw [if_neg z]
        · rw [e_M_group]
          by_cases z : k = 0
          · rw [if_pos z, M_in, if_neg (fun w => c0 ⟨z, w⟩)]
            rfl
          · rw [if_neg z]
            by_cases y : k = 1
            · rw [if_pos y, if_neg (fun w => c1 ⟨y, Or.inl w⟩), if_neg (fun w => c1 ⟨y, Or.inr w⟩)]
            · rw [if_neg y]
              by_cases x : k = 2
              · rw [if_pos x, if_neg (fun w => c2 ⟨x, w⟩)]
              · rw [if_neg x]
end OKG
