/-- two loops side by side: both end alike, or both go on -/
theorem pl_two (F G : Int → pm_O) (IT IM : pm_I) (hi : Int) (h0 : 0 ≤ hi) (P : Int → Prop) (h : ∀ i, 0 ≤ i → i < hi → (∃ c, c ≠ 0 ∧ F i = some (c, IT) ∧ G i = some (c, IM)) ∨ (F i = F (i + 1) ∧ G i = G (i + 1) ∧ P i)) : (∃ c, c ≠ 0 ∧ F 0 = some (c, IT) ∧ G 0 = some (c, IM)) ∨ (F 0 = F hi ∧ G 0 = G hi ∧ ∀ i, 0 ≤ i → i < hi → P i) := by
  have main : ∀ (k : Nat) (i : Int), 0 ≤ i → i + k = hi → (∃ c, c ≠ 0 ∧ F i = some (c, IT) ∧ G i = some (c, IM)) ∨ (F i = F hi ∧ G i = G hi ∧ ∀ j, i ≤ j → j < hi → P j) := fun k => by
    induction k with
    | zero => intro i i0 e; exact Or.inr ⟨by rw [show i = hi by omega], by rw [show i = hi by omega], fun j a b => by omega⟩
    | succ k ih =>
      intro i i0 e
      rcases h i i0 (by omega) with ⟨c, c0, c1, c2⟩ | ⟨c1, c2, c3⟩
      · exact Or.inl ⟨c, c0, c1, c2⟩
      · rcases ih (i + 1) (by omega) (by omega) with ⟨c, d0, d1, d2⟩ | ⟨d1, d2, d3⟩
        · exact Or.inl ⟨c, d0, c1.trans d1, c2.trans d2⟩
        · refine Or.inr ⟨c1.trans d1, c2.trans d2, fun j a b => ?_⟩
          by_cases z : j = i
          · rw [z]; exact c3
          · exact d3 j (by omega) b
  have := main hi.toNat 0 (by omega) (by omega)
  exact this
section RDC
variable {X : pm_XT} {A B : pm_I} {n : Int} {t : Int → Int → Int}
theorem G_drafted (hA : ∀ x y, 0 ≤ x → x < n → 0 ≤ y → y < n → A 5 (8 * x + y) = t x y) (hn : n ≤ 8) {x y : Int} (hx : 0 ≤ x ∧ x < n) (hy : 0 ≤ y ∧ y < n) : f_G_drafted X x y A = some (t x y, A) := by
  rw [e_G_drafted, if_pos (by omega), if_pos (by omega), if_pos (by omega), hA x y hx.1 hx.2 hy.1 hy.2]
theorem c_one (hn : 1 ≤ n ∧ n ≤ 8) (hA : ∀ x y, 0 ≤ x → x < n → 0 ≤ y → y < n → A 5 (8 * x + y) = t x y) (hB : ∀ x y, 0 ≤ x → x < n → 0 ≤ y → y < n → B 92 (8 * x + y) = t x y) : (∃ c, c ≠ 0 ∧ f_G_draftFault_2 X n 0 A = some (c, A) ∧ f_M_read_173 X n 0 B = some (c, B)) ∨ (f_G_draftFault_2 X n 0 A = f_G_draftFault_41 X n 0 A ∧ f_M_read_173 X n 0 B = f_M_read_223 X n 0 B ∧ ∀ a, 0 ≤ a → a < n → t 0 a = a ∧ t a 0 = a) := by
  rcases pl_two (fun a => f_G_draftFault_2 X n a A) (fun a => f_M_read_173 X n a B) A B n (by omega) (fun a => t 0 a = a ∧ t a 0 = a) (fun a a0 a1 => by
    show (∃ c, c ≠ 0 ∧ f_G_draftFault_2 X n a A = some (c, A) ∧ f_M_read_173 X n a B = some (c, B)) ∨ (f_G_draftFault_2 X n a A = f_G_draftFault_2 X n (a + 1) A ∧ f_M_read_173 X n a B = f_M_read_173 X n (a + 1) B ∧ _)
    have eT := e_G_draftFault_2 X n a A
    have eM := e_M_read_173 X n a B
    have b1 := hB 0 a (by omega) (by omega) a0 a1
    have b2 := hB a 0 a0 a1 (by omega) (by omega)
    rw [show 8 * 0 + a = a by omega] at b1
    rw [show 8 * a + 0 = 8 * a by omega] at b2
    rw [if_pos a1, G_drafted hA hn.2 (by omega) ⟨a0, a1⟩] at eT
    simp only [Option.bind_some] at eT
    rw [G_drafted hA hn.2 ⟨a0, a1⟩ (by omega)] at eT
    simp only [Option.bind_some] at eT
    rw [if_pos a1, if_pos (by omega), b1, b2] at eM
    by_cases z1 : t 0 a = a
    · rw [if_pos z1] at eT
      rw [if_pos z1, if_pos (by omega), if_pos (by omega)] at eM
      by_cases z2 : t a 0 = a
      · rw [if_pos z2, if_pos (by omega)] at eT eM
        exact Or.inr ⟨eT, eM, z1, z2⟩
      · rw [if_neg z2, if_pos (by omega)] at eT eM
        exact Or.inl ⟨_, by omega, eT, eM⟩
    · rw [if_neg z1, if_pos (by omega)] at eT eM
      exact Or.inl ⟨_, by omega, eT, eM⟩) with q | ⟨q1, q2, q3⟩
  · exact Or.inl q
  · refine Or.inr ⟨q1.trans ?_, q2.trans ?_, q3⟩
    · show f_G_draftFault_2 X n n A = _
      rw [e_G_draftFault_2, if_neg (by omega)]
    · show f_M_read_173 X n n B = _
      rw [e_M_read_173, if_neg (by omega)]
theorem G_hasBack (hn : 1 ≤ n ∧ n ≤ 8) (hA : ∀ x y, 0 ≤ x → x < n → 0 ≤ y → y < n → A 5 (8 * x + y) = t x y) {a : Int} (ha : 0 ≤ a ∧ a < n) : ((∃ b, (0 ≤ b ∧ b < n) ∧ t a b = 0 ∧ t b a = 0) ∧ f_G_draftHasBack X a n A = some (1, A)) ∨ ((¬ ∃ b, (0 ≤ b ∧ b < n) ∧ t a b = 0 ∧ t b a = 0) ∧ f_G_draftHasBack X a n A = some (0, A)) := by
  rw [e_G_draftHasBack]
  rcases pl_loopQ (σ := Unit) (fun i _ => f_G_draftHasBack_2 X a n i A) n (fun i _ => 0 ≤ i ∧ ∀ b, 0 ≤ b → b < i → ¬ (t a b = 0 ∧ t b a = 0)) (fun r => r = (1, A) ∧ ∃ b, (0 ≤ b ∧ b < n) ∧ t a b = 0 ∧ t b a = 0) (fun i s hi hp => by
    obtain ⟨p0, p1⟩ := hp
    have e := e_G_draftHasBack_2 X a n i A
    rw [if_pos hi, G_drafted hA hn.2 ha ⟨p0, hi⟩] at e
    simp only [Option.bind_some] at e
    rw [G_drafted hA hn.2 ⟨p0, hi⟩ ha] at e
    simp only [Option.bind_some] at e
    have next : ¬ (t a i = 0 ∧ t i a = 0) → ∀ b, 0 ≤ b → b < i + 1 → ¬ (t a b = 0 ∧ t b a = 0) := fun q b b0 b1 => by
      by_cases w : b = i
      · rw [w]; exact q
      · exact p1 b b0 (by omega)
    by_cases z1 : t a i = 0
    · rw [if_pos z1] at e
      by_cases z2 : t i a = 0
      · rw [if_pos z2] at e
        exact Or.inl ⟨_, e, rfl, i, ⟨p0, hi⟩, z1, z2⟩
      · rw [if_neg z2, if_pos (by omega)] at e
        exact Or.inr ⟨(), e, by omega, next (fun q => z2 q.2)⟩
    · rw [if_neg z1, if_pos (by omega)] at e
      exact Or.inr ⟨(), e, by omega, next (fun q => z1 q.1)⟩) (i := 0) (s := ()) (by omega) ⟨Int.le_refl 0, fun b b0 b1 => by omega⟩ with ⟨r, q1, q2, q3⟩ | ⟨s, q1, q2, q3⟩
  · rw [q2] at q1
    exact Or.inl ⟨q3, q1⟩
  · refine Or.inr ⟨fun ⟨b, b0, b1⟩ => q3 b b0.1 b0.2 b1, q1.trans ?_⟩
    show f_G_draftHasBack_2 X a n n A = _
    rw [e_G_draftHasBack_2, if_neg (by omega)]
theorem M_hasBack (hn : 1 ≤ n ∧ n ≤ 8) (hB : ∀ x y, 0 ≤ x → x < n → 0 ≤ y → y < n → B 92 (8 * x + y) = t x y) {a : Int} (ha : 0 ≤ a ∧ a < n) : ((∃ b, (0 ≤ b ∧ b < n) ∧ t a b = 0 ∧ t b a = 0) → f_M_read_236 X n a 0 0 B = f_M_read_223 X n (a + 1) B) ∧ ((¬ ∃ b, (0 ≤ b ∧ b < n) ∧ t a b = 0 ∧ t b a = 0) → f_M_read_236 X n a 0 0 B = some (-300 - a, B)) := by
  obtain ⟨v, q1, q2, q3⟩ := pl_loop (σ := Int) (fun i v => f_M_read_236 X n a v i B) n (fun i v => 0 ≤ i ∧ ((v = 0 ∧ ∀ b, 0 ≤ b → b < i → ¬ (t a b = 0 ∧ t b a = 0)) ∨ (v = 1 ∧ ∃ b, (0 ≤ b ∧ b < n) ∧ t a b = 0 ∧ t b a = 0))) (fun i v hi hp => by
    obtain ⟨p0, p1⟩ := hp
    show ∃ s', f_M_read_236 X n a v i B = f_M_read_236 X n a s' (i + 1) B ∧ _
    have e := e_M_read_236 X n a v i B
    rw [if_pos hi] at e
    rcases p1 with ⟨p1, p2⟩ | ⟨p1, p2⟩
    · have next : ¬ (t a i = 0 ∧ t i a = 0) → ∀ b, 0 ≤ b → b < i + 1 → ¬ (t a b = 0 ∧ t b a = 0) := fun q b b0 b1 => by
        by_cases w : b = i
        · rw [w]; exact q
        · exact p2 b b0 (by omega)
      rw [if_pos p1, if_pos (by omega), if_pos (by omega), if_pos (by omega), hB a i ha.1 ha.2 p0 hi, hB i a p0 hi ha.1 ha.2] at e
      by_cases z1 : t a i = 0
      · rw [if_pos z1, if_pos (by omega), if_pos (by omega), if_pos (by omega)] at e
        by_cases z2 : t i a = 0
        · rw [if_pos z2, if_pos (by omega)] at e
          exact ⟨1, e, by omega, Or.inr ⟨rfl, i, ⟨p0, hi⟩, z1, z2⟩⟩
        · rw [if_neg z2, if_pos (by omega)] at e
          exact ⟨0, e, by omega, Or.inl ⟨rfl, next (fun q => z2 q.2)⟩⟩
      · rw [if_neg z1, if_pos (by omega)] at e
        exact ⟨0, e, by omega, Or.inl ⟨rfl, next (fun q => z1 q.1)⟩⟩
    · rw [if_neg (by omega), if_pos (by omega)] at e
      exact ⟨1, e, by omega, Or.inr ⟨rfl, p2⟩⟩) (i := 0) (s := 0) (by omega) ⟨Int.le_refl 0, Or.inl ⟨rfl, fun b b0 b1 => by omega⟩⟩
  have q1 : f_M_read_236 X n a 0 0 B = f_M_read_236 X n a v n B := q1
  rw [q1, e_M_read_236, if_neg (by omega)]
  rcases q3 with ⟨r1, r2⟩ | ⟨r1, r2⟩
  · refine ⟨fun ⟨b, b0, b1⟩ => absurd b1 (r2 b b0.1 b0.2), fun _ => ?_⟩
    rw [if_pos r1, if_pos (by omega)]
  · refine ⟨fun _ => ?_, fun q => absurd r2 q⟩
    rw [if_neg (by omega), if_pos (by omega)]
theorem c_two (hn : 1 ≤ n ∧ n ≤ 8) (hA : ∀ x y, 0 ≤ x → x < n → 0 ≤ y → y < n → A 5 (8 * x + y) = t x y) (hB : ∀ x y, 0 ≤ x → x < n → 0 ≤ y → y < n → B 92 (8 * x + y) = t x y) : (∃ c, c ≠ 0 ∧ f_G_draftFault_41 X n 0 A = some (c, A) ∧ f_M_read_223 X n 0 B = some (c, B)) ∨ (f_G_draftFault_41 X n 0 A = (f_G_draftJoinFault X n A).bind (fun x2 => some (x2.1, x2.2)) ∧ f_M_read_223 X n 0 B = f_M_read_314 X n 0 B ∧ ∀ a, 0 ≤ a → a < n → ∃ b, (0 ≤ b ∧ b < n) ∧ t a b = 0 ∧ t b a = 0) := by
  rcases pl_two (fun a => f_G_draftFault_41 X n a A) (fun a => f_M_read_223 X n a B) A B n (by omega) (fun a => ∃ b, (0 ≤ b ∧ b < n) ∧ t a b = 0 ∧ t b a = 0) (fun a a0 a1 => by
    show (∃ c, c ≠ 0 ∧ f_G_draftFault_41 X n a A = some (c, A) ∧ f_M_read_223 X n a B = some (c, B)) ∨ (f_G_draftFault_41 X n a A = f_G_draftFault_41 X n (a + 1) A ∧ f_M_read_223 X n a B = f_M_read_223 X n (a + 1) B ∧ _)
    have eT := e_G_draftFault_41 X n a A
    have eM := e_M_read_223 X n a B
    have mb := M_hasBack (X := X) hn hB ⟨a0, a1⟩
    rw [if_pos a1] at eT eM
    rcases G_hasBack (X := X) hn hA ⟨a0, a1⟩ with ⟨z, w⟩ | ⟨z, w⟩
    · rw [w] at eT
      simp only [Option.bind_some] at eT
      rw [if_neg (by decide), if_pos (by omega)] at eT
      rw [mb.1 z] at eM
      exact Or.inr ⟨eT, eM, z⟩
    · rw [w] at eT
      simp only [Option.bind_some] at eT
      rw [if_pos trivial, if_pos (by omega)] at eT
      rw [mb.2 z] at eM
      exact Or.inl ⟨_, by omega, eT, eM⟩) with q | ⟨q1, q2, q3⟩
  · exact Or.inl q
  · refine Or.inr ⟨q1.trans ?_, q2.trans ?_, q3⟩
    · show f_G_draftFault_41 X n n A = _
      rw [e_G_draftFault_41, if_neg (by omega)]
    · show f_M_read_223 X n n B = _
      rw [e_M_read_223, if_neg (by omega)]
theorem c_three (hn : 1 ≤ n ∧ n ≤ 8) (ht : ∀ x y, 0 ≤ x → x < n → 0 ≤ y → y < n → 0 ≤ t x y ∧ t x y < n) (hA : ∀ x y, 0 ≤ x → x < n → 0 ≤ y → y < n → A 5 (8 * x + y) = t x y) (hB : ∀ x y, 0 ≤ x → x < n → 0 ≤ y → y < n → B 92 (8 * x + y) = t x y) : (∃ c, c ≠ 0 ∧ f_G_draftJoinFault X n A = some (c, A) ∧ f_M_read_314 X n 0 B = some (c, B)) ∨ (f_G_draftJoinFault X n A = some (0, A) ∧ f_M_read_314 X n 0 B = f_M_read_432 X n 0 B ∧ ∀ a b c, 0 ≤ a → a < n → 0 ≤ b → b < n → 0 ≤ c → c < n → t (t a b) c = t a (t b c)) := by
  rw [e_G_draftJoinFault]
  rcases pl_two (fun a => f_G_draftJoinFault_2 X n a A) (fun a => f_M_read_314 X n a B) A B n (by omega) (fun a => ∀ b c, 0 ≤ b → b < n → 0 ≤ c → c < n → t (t a b) c = t a (t b c)) (fun a a0 a1 => by
    show (∃ c, c ≠ 0 ∧ f_G_draftJoinFault_2 X n a A = some (c, A) ∧ f_M_read_314 X n a B = some (c, B)) ∨ (f_G_draftJoinFault_2 X n a A = f_G_draftJoinFault_2 X n (a + 1) A ∧ f_M_read_314 X n a B = f_M_read_314 X n (a + 1) B ∧ _)
    rw [e_G_draftJoinFault_2 X n a, e_M_read_314 X n a, if_pos a1, if_pos a1]
    rcases pl_two (fun b => f_G_draftJoinFault_9 X n a b A) (fun b => f_M_read_324 X n a b B) A B n (by omega) (fun b => ∀ c, 0 ≤ c → c < n → t (t a b) c = t a (t b c)) (fun b b0 b1 => by
      show (∃ c, c ≠ 0 ∧ f_G_draftJoinFault_9 X n a b A = some (c, A) ∧ f_M_read_324 X n a b B = some (c, B)) ∨ (f_G_draftJoinFault_9 X n a b A = f_G_draftJoinFault_9 X n a (b + 1) A ∧ f_M_read_324 X n a b B = f_M_read_324 X n a (b + 1) B ∧ _)
      rw [e_G_draftJoinFault_9 X n a b, e_M_read_324 X n a b, if_pos b1, if_pos b1]
      rcases pl_two (fun c => f_G_draftJoinFault_17 X n a b c A) (fun c => f_M_read_334 X n a b c B) A B n (by omega) (fun c => t (t a b) c = t a (t b c)) (fun c c0 c1 => by
        show (∃ d, d ≠ 0 ∧ f_G_draftJoinFault_17 X n a b c A = some (d, A) ∧ f_M_read_334 X n a b c B = some (d, B)) ∨ (f_G_draftJoinFault_17 X n a b c A = f_G_draftJoinFault_17 X n a b (c + 1) A ∧ f_M_read_334 X n a b c B = f_M_read_334 X n a b (c + 1) B ∧ _)
        have r1 := ht a b a0 a1 b0 b1
        have r2 := ht b c b0 b1 c0 c1
        have eT := e_G_draftJoinFault_17 X n a b c A
        have eM := e_M_read_334 X n a b c B
        rw [if_pos c1, G_drafted hA hn.2 ⟨a0, a1⟩ ⟨b0, b1⟩] at eT
        simp only [Option.bind_some] at eT
        rw [G_drafted hA hn.2 r1 ⟨c0, c1⟩] at eT
        simp only [Option.bind_some] at eT
        rw [G_drafted hA hn.2 ⟨b0, b1⟩ ⟨c0, c1⟩] at eT
        simp only [Option.bind_some] at eT
        rw [G_drafted hA hn.2 ⟨a0, a1⟩ r2] at eT
        simp only [Option.bind_some] at eT
        rw [if_pos c1, hB a b a0 a1 b0 b1, hB b c b0 b1 c0 c1, hB _ c r1.1 r1.2 c0 c1, hB a _ a0 a1 r2.1 r2.2] at eM
        iterate 12 rw [if_pos (by omega)] at eM
        by_cases z : t (t a b) c = t a (t b c)
        · rw [if_pos z, if_pos (by omega)] at eT eM
          exact Or.inr ⟨eT, eM, z⟩
        · rw [if_neg z] at eT eM
          iterate 5 rw [if_pos (by omega)] at eT
          iterate 5 rw [if_pos (by omega)] at eM
          refine Or.inl ⟨_, ?_, eT, ?_⟩
          · omega
          · rw [eM]
            congr 2
            omega) with q | ⟨q1, q2, q3⟩
      · exact Or.inl q
      · refine Or.inr ⟨q1.trans ?_, q2.trans ?_, q3⟩
        · show f_G_draftJoinFault_17 X n a b n A = _
          rw [e_G_draftJoinFault_17, if_neg (by omega), if_pos (by omega)]
        · show f_M_read_334 X n a b n B = _
          rw [e_M_read_334, if_neg (by omega), if_pos (by omega)]) with q | ⟨q1, q2, q3⟩
    · exact Or.inl q
    · refine Or.inr ⟨q1.trans ?_, q2.trans ?_, fun b c b0 b1 => q3 b b0 b1 c⟩
      · show f_G_draftJoinFault_9 X n a n A = _
        rw [e_G_draftJoinFault_9, if_neg (by omega), if_pos (by omega)]
      · show f_M_read_324 X n a n B = _
        rw [e_M_read_324, if_neg (by omega), if_pos (by omega)]) with q | ⟨q1, q2, q3⟩
  · exact Or.inl q
  · refine Or.inr ⟨q1.trans ?_, q2.trans ?_, fun a b c a0 a1 b0 b1 c0 c1 => q3 a a0 a1 b c b0 b1 c0 c1⟩
    · show f_G_draftJoinFault_2 X n n A = _
      rw [e_G_draftJoinFault_2, if_neg (by omega)]
    · show f_M_read_314 X n n B = _
      rw [e_M_read_314, if_neg (by omega)]
/-- all that is checked, side by side -/
theorem c_all (hn : 1 ≤ n ∧ n ≤ 8) (ht : ∀ x y, 0 ≤ x → x < n → 0 ≤ y → y < n → 0 ≤ t x y ∧ t x y < n) (hA : ∀ x y, 0 ≤ x → x < n → 0 ≤ y → y < n → A 5 (8 * x + y) = t x y) (hB : ∀ x y, 0 ≤ x → x < n → 0 ≤ y → y < n → B 92 (8 * x + y) = t x y) : (∃ c, c ≠ 0 ∧ f_G_draftFault X n A = some (c, A) ∧ f_M_read_173 X n 0 B = some (c, B)) ∨ (f_G_draftFault X n A = some (0, A) ∧ f_M_read_173 X n 0 B = f_M_read_432 X n 0 B ∧ GF n (fun a b => A 5 (8 * a + b))) := by
  rw [e_G_draftFault]
  rcases c_one (X := X) hn hA hB with q | ⟨a1, a2, a3⟩
  · exact Or.inl q
  · rw [a1, a2]
    rcases c_two (X := X) hn hA hB with q | ⟨b1, b2, b3⟩
    · exact Or.inl q
    · rw [b1, b2]
      rcases c_three (X := X) hn ht hA hB with ⟨c, q0, q1, q2⟩ | ⟨d1, d2, d3⟩
      · exact Or.inl ⟨c, q0, by rw [q1]; rfl, q2⟩
      · refine Or.inr ⟨by rw [d1]; rfl, d2, ?_⟩
        have g : GF n t := ⟨hn, fun a b a0 a1 b0 b1 => ht a b a0 a1 b0 b1, a3, d3, b3⟩
        exact g.cg (fun a b a0 a1 b0 b1 => hA a b a0 a1 b0 b1)
theorem M_read_432 : ∃ C, f_M_read_432 X n 0 B = (f_M_begin X n C).bind (fun x1 => some (n, x1.2)) ∧ fr [78] B C ∧ ∀ k, 0 ≤ k → k < 64 → C 78 k = B 92 k := by
  obtain ⟨C, c1, c2, c3, c4⟩ := pl_loop (fun i (J : pm_I) => f_M_read_432 X n i J) 64 (fun i J => 0 ≤ i ∧ fr [78] B J ∧ ∀ k, 0 ≤ k → k < i → J 78 k = B 92 k) (fun i J hi hp => by
    obtain ⟨p0, p1, p2⟩ := hp
    show ∃ s', f_M_read_432 X n i J = f_M_read_432 X n (i + 1) s' ∧ _
    rw [e_M_read_432, if_pos hi, if_pos (by omega), if_pos (by omega), if_pos (by omega)]
    refine ⟨_, rfl, by omega, p1.up (by decide), fun k k0 k1 => ?_⟩
    rw [up_at]
    by_cases y : k = i
    · rw [if_pos y, p1 92 (by decide), y]
    · rw [if_neg y]; exact p2 k k0 (by omega)) (i := 0) (s := B) (by omega) ⟨Int.le_refl 0, fr.rf _ _, fun k k0 k1 => by omega⟩
  refine ⟨C, c1.trans ?_, c3, c4⟩
  show f_M_read_432 X n 64 C = _
  rw [e_M_read_432, if_neg (by omega)]
end RDC
