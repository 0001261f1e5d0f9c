/-! READ: a group from a sheet -/
/-- what is wrong with the cells from i on, of which m are left -/
def rdf (len f n : Int) (cv : Int → Int) : Nat → Int → Int
  | 0, _ => 0
  | m + 1, i => if 0 ≤ f + i ∧ f + i < len then (if 0 ≤ cv i ∧ cv i < n then rdf len f n cv m (i + 1) else -100 - i) else -12
theorem dv {n x y : Int} (hy : 0 ≤ y ∧ y < n) : (n * x + y) / n = x ∧ (n * x + y) % n = y := by
  constructor
  · rw [Int.add_comm, Int.add_mul_ediv_left _ _ (by omega), Int.ediv_eq_zero_of_lt hy.1 hy.2]; omega
  · rw [Int.add_comm, Int.add_mul_emod_self_left, Int.emod_eq_of_lt hy.1 hy.2]
section RDD
variable {X : pm_XT} {I : pm_I}
theorem T_draft {k f n : Int} (hk : 0 ≤ k ∧ k < 4) (hf : pm_r32 f) (hn : 1 ≤ n ∧ n ≤ 8) {len : Int} (hl : 0 ≤ len ∧ len ≤ 64) {cv : Int → Int} : ∀ (m : Nat) (a b : Int) (J : pm_I), n * a + b + m = n * n → (0 ≤ a ∧ a < n) → (0 ≤ b ∧ b < n) → (0 < n * a + b → 0 ≤ f ∧ f < 64) → J (sh k) 1 = len → (∀ i, J (sh k + 1) (f + i) = cv i) →
    ∃ J', f_T_draftFrom_12 X (sh k) f n a b J = some (rdf len f n cv m (n * a + b), J') ∧ fr [5] J J' ∧ (rdf len f n cv m (n * a + b) = 0 → (∀ x y, 0 ≤ x → x < n → 0 ≤ y → y < n → (a < x ∨ a = x ∧ b ≤ y) → J' 5 (8 * x + y) = cv (n * x + y) ∧ 0 ≤ cv (n * x + y) ∧ cv (n * x + y) < n) ∧ ∀ x y, 0 ≤ x → x < n → 0 ≤ y → y < n → ¬ (a < x ∨ a = x ∧ b ≤ y) → J' 5 (8 * x + y) = J 5 (8 * x + y))
  | 0, a, b, J, hm, ha, hb, hz, h1, h2 => by
    exfalso
    have : n * (a + 1) ≤ n * n := Int.mul_le_mul_of_nonneg_left (by omega) (by omega)
    rw [Int.mul_add] at this
    omega
  | m + 1, a, b, J, hm, ha, hb, hz, h1, h2 => by
    obtain ⟨c1, c2, c3, c4⟩ := c_sh hk
    have c5 := c_shl X.2 hk
    have na : 0 ≤ n * a ∧ n * a ≤ 8 * 8 := mul_b (by omega) (by omega)
    have nn : 0 ≤ n * n ∧ n * n ≤ 8 * 8 := mul_b (by omega) (by omega)
    have e := e_T_draftFrom_12 X (sh k) f n a b J
    have er : rdf len f n cv (m + 1) (n * a + b) = if 0 ≤ f + (n * a + b) ∧ f + (n * a + b) < len then (if 0 ≤ cv (n * a + b) ∧ cv (n * a + b) < n then rdf len f n cv m (n * a + b + 1) else -100 - (n * a + b)) else -12 := rfl
    have fi : pm_r32 (f + (n * a + b)) := by
      by_cases z : 0 < n * a + b
      · have := hz z; omega
      · omega
    rw [if_pos hb.2, if_pos (by omega), if_pos (by omega), if_pos fi, c2, c3, c4, c5] at e
    simp only [show Nat.beq 3 3 = true from rfl, show Nat.beq 8 8 = true from rfl, cond_true] at e
    rw [S_hasCell hk, h1] at e
    simp only [Option.bind_some] at e
    rw [er]
    by_cases z1 : 0 ≤ f + (n * a + b) ∧ f + (n * a + b) < len
    · rw [if_pos z1, if_neg (by decide), if_pos fi, if_pos (by omega), h2] at e
      rw [if_pos z1]
      by_cases z2 : 0 ≤ cv (n * a + b) ∧ cv (n * a + b) < n
      · rw [if_neg (by omega), if_pos (by omega), if_pos (by omega), if_pos (by omega), if_pos (by omega), if_pos (by omega)] at e
        rw [if_pos z2]
        generalize hK : pm_up J 5 (8 * a + b) (cv (n * a + b)) = K at e
        have fK : fr [5] J K := by rw [← hK]; exact (fr.rf _ _).up (by decide)
        have K1 : K (sh k) 1 = len := by rw [fK _ (by simp only [List.mem_cons, List.not_mem_nil, or_false]; unfold sh; omega)]; exact h1
        have K2 : ∀ i, K (sh k + 1) (f + i) = cv i := fun i => by rw [fK _ (by simp only [List.mem_cons, List.not_mem_nil, or_false]; unfold sh; omega)]; exact h2 i
        have K5 : ∀ x y, 0 ≤ x → x < n → 0 ≤ y → y < n → K 5 (8 * x + y) = if x = a ∧ y = b then cv (n * a + b) else J 5 (8 * x + y) := fun x y x0 x1 y0 y1 => by
          rw [← hK, up_at]
          by_cases w : x = a ∧ y = b
          · rw [if_pos (by omega), if_pos w]
          · rw [if_neg (by omega), if_neg w]
        -- what the rest says, put together
        have put : ∀ (a' b' : Int) (J' : pm_I), (∀ x y, 0 ≤ x → x < n → 0 ≤ y → y < n → ((a' < x ∨ a' = x ∧ b' ≤ y) ↔ (a < x ∨ a = x ∧ b + 1 ≤ y))) → fr [5] K J' → ((∀ x y, 0 ≤ x → x < n → 0 ≤ y → y < n → (a' < x ∨ a' = x ∧ b' ≤ y) → J' 5 (8 * x + y) = cv (n * x + y) ∧ 0 ≤ cv (n * x + y) ∧ cv (n * x + y) < n) ∧ ∀ x y, 0 ≤ x → x < n → 0 ≤ y → y < n → ¬ (a' < x ∨ a' = x ∧ b' ≤ y) → J' 5 (8 * x + y) = K 5 (8 * x + y)) → (∀ x y, 0 ≤ x → x < n → 0 ≤ y → y < n → (a < x ∨ a = x ∧ b ≤ y) → J' 5 (8 * x + y) = cv (n * x + y) ∧ 0 ≤ cv (n * x + y) ∧ cv (n * x + y) < n) ∧ ∀ x y, 0 ≤ x → x < n → 0 ≤ y → y < n → ¬ (a < x ∨ a = x ∧ b ≤ y) → J' 5 (8 * x + y) = J 5 (8 * x + y) := fun a' b' J' ew fJ q => by
          refine ⟨fun x y x0 x1 y0 y1 w => ?_, fun x y x0 x1 y0 y1 w => ?_⟩
          · by_cases v : x = a ∧ y = b
            · rw [q.2 x y x0 x1 y0 y1 (fun u => by have := (ew x y x0 x1 y0 y1).mp u; omega), K5 x y x0 x1 y0 y1, if_pos v, v.1, v.2]
              exact ⟨rfl, z2⟩
            · exact q.1 x y x0 x1 y0 y1 ((ew x y x0 x1 y0 y1).mpr (by omega))
          · rw [q.2 x y x0 x1 y0 y1 (fun u => by have := (ew x y x0 x1 y0 y1).mp u; omega), K5 x y x0 x1 y0 y1, if_neg (by omega)]
        by_cases w1 : b + 1 < n
        · obtain ⟨J', j1, j2, j3⟩ := T_draft (cv := cv) hk hf hn hl m a (b + 1) K (by omega) ha (by omega) (fun _ => by omega) K1 K2
          rw [show n * a + (b + 1) = n * a + b + 1 by omega] at j1 j3
          exact ⟨J', by rw [e, j1], fK.tr j2, fun q => put a (b + 1) J' (fun _ _ _ _ _ _ => Iff.rfl) j2 (j3 q)⟩
        · have e2 := e_T_draftFrom_12 X (sh k) f n a (b + 1) K
          rw [if_neg w1, if_pos (by omega), e_T_draftFrom_3] at e2
          have na1 : n * (a + 1) = n * a + n := by rw [Int.mul_add]; omega
          by_cases w2 : a + 1 < n
          · obtain ⟨J', j1, j2, j3⟩ := T_draft (cv := cv) hk hf hn hl m (a + 1) 0 K (by omega) (by omega) (by omega) (fun _ => by omega) K1 K2
            rw [show n * (a + 1) + 0 = n * a + b + 1 by omega] at j1 j3
            rw [if_pos w2] at e2
            exact ⟨J', by rw [e, e2, j1], fK.tr j2, fun q => put (a + 1) 0 J' (fun x y x0 x1 y0 y1 => by omega) j2 (j3 q)⟩
          · rw [if_neg w2] at e2
            have ea : a + 1 = n := by omega
            rw [ea] at na1
            have m0 : m = 0 := by omega
            subst m0
            exact ⟨K, by rw [e, e2]; rfl, fK, fun _ => put (a + 1) 0 K (fun x y x0 x1 y0 y1 => by omega) (fr.rf _ _) ⟨fun x y x0 x1 y0 y1 w => by omega, fun _ _ _ _ _ _ _ => rfl⟩⟩
      · rw [if_neg z2]
        refine ⟨J, ?_, fr.rf _ _, fun q => by omega⟩
        rw [e]
        by_cases w : cv (n * a + b) < 0
        · rw [if_pos w, if_pos (by omega)]
        · rw [if_neg w, if_neg (by omega), if_pos (by omega)]
    · rw [if_neg z1, if_pos rfl] at e
      rw [if_neg z1]
      exact ⟨J, e, fr.rf _ _, fun q => by omega⟩
theorem M_cells {k f n : Int} (hk : 0 ≤ k ∧ k < 4) (hf : pm_r32 f) (hn : 1 ≤ n ∧ n ≤ 8) {len : Int} (hl : 0 ≤ len ∧ len ≤ 64) {cv : Int → Int} : ∀ (m : Nat) (i : Int) (J : pm_I), i + m = n * n → 0 ≤ i → J 90 k = len → (∀ i, 0 ≤ f + i → f + i < 64 → J 91 (64 * k + f + i) = cv i) →
    (rdf len f n cv m i ≠ 0 → ∃ J', f_M_read_71 X k f n i J = some (rdf len f n cv m i, J') ∧ fr [92] J J') ∧
    (rdf len f n cv m i = 0 → ∃ J', f_M_read_71 X k f n i J = f_M_read_173 X n 0 J' ∧ fr [92] J J' ∧ (∀ j, i ≤ j → j < n * n → J' 92 (8 * (j / n) + j % n) = cv j) ∧ ∀ j, 0 ≤ j → j < i → J' 92 (8 * (j / n) + j % n) = J 92 (8 * (j / n) + j % n))
  | 0, i, J, hm, i0, h1, h2 => by
    have nn : 0 ≤ n * n ∧ n * n ≤ 8 * 8 := mul_b (by omega) (by omega)
    refine ⟨fun q => absurd rfl q, fun _ => ⟨J, ?_, fr.rf _ _, fun j j0 j1 => by omega, fun _ _ _ => rfl⟩⟩
    rw [e_M_read_71, if_pos (by omega), if_neg (by omega)]
  | m + 1, i, J, hm, i0, h1, h2 => by
    have nn : 0 ≤ n * n ∧ n * n ≤ 8 * 8 := mul_b (by omega) (by omega)
    have e := e_M_read_71 X k f n i J
    have er : rdf len f n cv (m + 1) i = if 0 ≤ f + i ∧ f + i < len then (if 0 ≤ cv i ∧ cv i < n then rdf len f n cv m (i + 1) else -100 - i) else -12 := rfl
    rw [if_pos (by omega), if_pos (by omega), if_pos hk, h1, if_pos (by omega), w64_id (by omega), M_in] at e
    simp only [Option.bind_some] at e
    rw [er]
    by_cases z1 : 0 ≤ f + i ∧ f + i < len
    · rw [if_pos (show 0 ≤ f + i ∧ f + i ≤ len - 1 by omega), if_neg (by decide), if_pos (by omega), if_pos (by omega), if_pos (by omega), if_pos (by omega), if_pos (by omega), h2 i z1.1 (by omega), M_in] at e
      simp only [Option.bind_some] at e
      rw [if_pos z1]
      by_cases z2 : 0 ≤ cv i ∧ cv i < n
      · have dm : i % n + n * (i / n) = i := Int.emod_add_mul_ediv i n
        have mr : 0 ≤ i % n ∧ i % n < n := ⟨Int.emod_nonneg _ (by omega), Int.emod_lt_of_pos _ (by omega)⟩
        have d0 : 0 ≤ i / n := Int.ediv_nonneg i0 (by omega)
        have d1 : i / n < n := by
          rcases Int.lt_or_le (i / n) n with w | w
          · exact w
          · have : n * n ≤ n * (i / n) := Int.mul_le_mul_of_nonneg_left w (by omega)
            omega
        rw [if_pos (show 0 ≤ cv i ∧ cv i ≤ n - 1 by omega), if_neg (by decide), if_pos (by omega), if_pos (by omega), if_pos (by omega), if_pos (by omega), if_pos (by omega), if_pos (by omega)] at e
        rw [if_pos z2]
        generalize hK : pm_up J 92 (8 * (i / n) + i % n) (cv i) = K at e
        have fK : fr [92] J K := by rw [← hK]; exact (fr.rf _ _).up (by decide)
        have K92 : ∀ j, 0 ≤ j → K 92 (8 * (j / n) + j % n) = if j = i then cv i else J 92 (8 * (j / n) + j % n) := fun j j0 => by
          have dj : j % n + n * (j / n) = j := Int.emod_add_mul_ediv j n
          have rj : 0 ≤ j % n ∧ j % n < n := ⟨Int.emod_nonneg _ (by omega), Int.emod_lt_of_pos _ (by omega)⟩
          rw [← hK, up_at]
          by_cases w : j = i
          · rw [w, if_pos rfl, if_pos rfl]
          · rw [if_neg w, if_neg (fun u => by
              have u1 : j / n = i / n := by omega
              have u2 : j % n = i % n := by omega
              rw [u1, u2] at dj
              omega)]
        obtain ⟨q1, q2⟩ := M_cells (cv := cv) hk hf hn hl m (i + 1) K (by omega) (by omega) (by rw [fK 90 (by decide)]; exact h1) (fun j a b => by rw [fK 91 (by decide)]; exact h2 j a b)
        refine ⟨fun q => ?_, fun q => ?_⟩
        · obtain ⟨J', j1, j2⟩ := q1 q
          exact ⟨J', by rw [e, j1], fK.tr j2⟩
        · obtain ⟨J', j1, j2, j3, j4⟩ := q2 q
          refine ⟨J', by rw [e, j1], fK.tr j2, fun j j0 j1 => ?_, fun j j0 j1 => ?_⟩
          · by_cases w : j = i
            · rw [j4 j (by omega) (by omega), K92 j (by omega), if_pos w, w]
            · exact j3 j (by omega) j1
          · rw [j4 j j0 (by omega), K92 j j0, if_neg (by omega)]
      · rw [if_neg (show ¬ (0 ≤ cv i ∧ cv i ≤ n - 1) by omega), if_pos rfl, if_pos (by omega)] at e
        rw [if_neg z2]
        exact ⟨fun _ => ⟨J, e, fr.rf _ _⟩, fun q => by omega⟩
    · rw [if_neg (show ¬ (0 ≤ f + i ∧ f + i ≤ len - 1) by omega), if_pos rfl] at e
      rw [if_neg z1]
      exact ⟨fun _ => ⟨J, e, fr.rf _ _⟩, fun q => by omega⟩
end RDD
