/-! GROUP by a kind -/
theorem pl_tab2 (F : Int → pm_I → pm_O) (G : Int → Int → pm_I → pm_O) {n m : Int} (n0 : 0 ≤ n) (m0 : 0 ≤ m) (P : Int → Int → pm_I → Prop) (h0 : ∀ a J, 0 ≤ a → a < n → F a J = G a 0 J)
    (h1 : ∀ a b J, 0 ≤ a → a < n → 0 ≤ b → b < m → P a b J → ∃ J', G a b J = G a (b + 1) J' ∧ P a (b + 1) J') (h2 : ∀ a J, 0 ≤ a → a < n → P a m J → G a m J = F (a + 1) J ∧ P (a + 1) 0 J) {I : pm_I} (hp : P 0 0 I) : ∃ J, F 0 I = F n J ∧ P n 0 J := by
  obtain ⟨J, g1, g2, g3⟩ := pl_loop F n (fun a J => 0 ≤ a ∧ P a 0 J) (fun a J ha q => by
    obtain ⟨K, k1, k2, k3⟩ := pl_loop (G a) m (fun b J => 0 ≤ b ∧ P a b J) (fun b K hb q' => by
      obtain ⟨L, l1, l2⟩ := h1 a b K q.1 ha q'.1 hb q'.2
      exact ⟨L, l1, by omega, l2⟩) (i := 0) (s := J) m0 ⟨Int.le_refl 0, q.2⟩
    have e := h2 a K q.1 ha k3
    exact ⟨K, ((h0 a J q.1 ha).trans k1).trans e.1, by omega, e.2⟩) (i := 0) (s := I) n0 ⟨Int.le_refl 0, hp⟩
  exact ⟨J, g1, g3⟩
theorem pl_tab1 (F : Int → pm_I → pm_O) (G : Int → Int → pm_I → pm_O) {n : Int} (n0 : 0 ≤ n ∧ n ≤ 8) (r : Nat) (mv : Int → Int → Int) (h0 : ∀ a J, 0 ≤ a → a < n → F a J = G a 0 J)
    (h1 : ∀ a b J, 0 ≤ a → a < n → 0 ≤ b → b < n → G a b J = G a (b + 1) (pm_up J r (8 * a + b) (mv a b))) (h2 : ∀ a J, 0 ≤ a → a < n → G a n J = F (a + 1) J) (I : pm_I) : ∃ J, F 0 I = F n J ∧ fr [r] I J ∧ ∀ x y, 0 ≤ x → x < n → 0 ≤ y → y < n → J r (8 * x + y) = mv x y := by
  obtain ⟨J, j1, j2, j3⟩ := pl_tab2 F G n0.1 n0.1 (fun a b J => fr [r] I J ∧ ∀ x y, 0 ≤ x → x < n → 0 ≤ y → y < n → (x < a ∨ x = a ∧ y < b) → J r (8 * x + y) = mv x y) h0 (fun a b J a0 a1 b0 b1 q => ⟨_, h1 a b J a0 a1 b0 b1, q.1.up (List.mem_cons_self), fun x y x0 x1 y0 y1 z => by
    rw [up_at]
    by_cases w : x = a ∧ y = b
    · rw [if_pos (by omega), w.1, w.2]
    · rw [if_neg (by omega)]
      exact q.2 x y x0 x1 y0 y1 (by omega)⟩) (fun a J a0 a1 q => ⟨h2 a J a0 a1, q.1, fun x y x0 x1 y0 y1 z => q.2 x y x0 x1 y0 y1 (by omega)⟩) (I := I) ⟨fr.rf _ _, fun x y x0 x1 y0 y1 z => by omega⟩
  exact ⟨J, j1, j2, fun x y x0 x1 y0 y1 => j3 x y x0 x1 y0 y1 (by omega)⟩
/-- a group on 0 .. n-1, that a program decides -/
def gfN (n : Nat) (Q : Nat → Nat → Nat) : Prop := (1 ≤ n ∧ n ≤ 8) ∧ (∀ a, a < n → ∀ b, b < n → Q a b < n) ∧ (∀ a, a < n → Q 0 a = a ∧ Q a 0 = a) ∧ (∀ a, a < n → ∀ b, b < n → ∀ c, c < n → Q (Q a b) c = Q a (Q b c)) ∧ ∀ a, a < n → (List.range n).any (fun b => Nat.beq (Q a b) 0 && Nat.beq (Q b a) 0) = true
theorem gfN.to {n : Nat} {Q : Nat → Nat → Nat} (g : gfN n Q) {P : Int → Int → Int} (e : ∀ a b : Nat, a < n → b < n → P a b = (Q a b : Nat)) : GF n P := by
  obtain ⟨g1, g2, g3, g4, g5⟩ := g
  refine ⟨by omega, fun a b a0 a1 b0 b1 => ?_, fun a a0 a1 => ?_, fun a b c a0 a1 b0 b1 c0 c1 => ?_, fun a a0 a1 => ?_⟩
  · obtain ⟨a, rfl⟩ := Int.eq_ofNat_of_zero_le a0
    obtain ⟨b, rfl⟩ := Int.eq_ofNat_of_zero_le b0
    have := g2 a (by omega) b (by omega)
    rw [e a b (by omega) (by omega)]
    omega
  · obtain ⟨a, rfl⟩ := Int.eq_ofNat_of_zero_le a0
    have := g3 a (by omega)
    have e1 := e 0 a (by omega) (by omega)
    have e2 := e a 0 (by omega) (by omega)
    rw [this.1] at e1
    rw [this.2] at e2
    exact ⟨e1, e2⟩
  · obtain ⟨a, rfl⟩ := Int.eq_ofNat_of_zero_le a0
    obtain ⟨b, rfl⟩ := Int.eq_ofNat_of_zero_le b0
    obtain ⟨c, rfl⟩ := Int.eq_ofNat_of_zero_le c0
    have ha : a < n := by omega
    have hb : b < n := by omega
    have hc : c < n := by omega
    rw [e a b ha hb, e b c hb hc, e _ c (g2 a ha b hb) hc, e a _ ha (g2 b hb c hc), g4 a ha b hb c hc]
  · obtain ⟨a, rfl⟩ := Int.eq_ofNat_of_zero_le a0
    have ha : a < n := by omega
    obtain ⟨b, h1, h2⟩ := List.any_eq_true.mp (g5 a ha)
    have hb : b < n := List.mem_range.mp h1
    simp only [Bool.and_eq_true] at h2
    have z1 := Nat.eq_of_beq_eq_true h2.1
    have z2 := Nat.eq_of_beq_eq_true h2.2
    refine ⟨b, by omega, ?_, ?_⟩
    · rw [e a b ha hb, z1]; rfl
    · rw [e b a hb ha, z2]; rfl
/-- the three kinds -/
def q0 (n : Nat) (a b : Nat) : Nat := (a + b) % n
def q1 (n : Nat) (a b : Nat) : Nat := (if a < n then a + b % n else a - b % n) % n + (if a < n then (if b < n then 0 else n) else if b < n then n else 0)
/-- one of the crossed -/
def cr (a b : Int) : Int := if a % 4 = 0 then a % 4 + b % 4 + 4 * ((a / 4 + b / 4) % 2) else if b % 4 = 0 then a % 4 + b % 4 + 4 * ((a / 4 + b / 4) % 2) else if a % 4 = b % 4 then 0 + 4 * ((a / 4 + b / 4 + 1) % 2) else if b % 4 = a % 4 % 3 + 1 then 6 - a % 4 - b % 4 + 4 * ((a / 4 + b / 4 + 0) % 2) else 6 - a % 4 - b % 4 + 4 * ((a / 4 + b / 4 + 1) % 2)
def xr (a b : Int) : Int := pm_xor (pm_xor (pm_units (4 * pm_and a 3 + pm_and b 3)) (pm_and a 4)) (pm_and b 4)
theorem g_ring : ∀ n : Nat, n < 9 → 1 ≤ n → gfN n (q0 n) := by
  intro n h1 h2
  have : n = 1 ∨ n = 2 ∨ n = 3 ∨ n = 4 ∨ n = 5 ∨ n = 6 ∨ n = 7 ∨ n = 8 := by omega
  rcases this with z | z | z | z | z | z | z | z <;> subst z <;> (unfold gfN; decide +kernel)
theorem g_fl3 : gfN 6 (q1 3) := by unfold gfN; decide +kernel
theorem g_fl4 : gfN 8 (q1 4) := by unfold gfN; decide +kernel
theorem g_cr : gfN 8 (fun a b => (cr a b).toNat) := by unfold gfN; decide +kernel
theorem xr_cr : ∀ a : Nat, a < 8 → ∀ b : Nat, b < 8 → xr a b = cr a b ∧ cr a b = ((cr a b).toNat : Nat) ∧ (0 ≤ cr a b ∧ cr a b < 8) ∧ (0 ≤ pm_and (a : Int) 3 ∧ pm_and (a : Int) 3 < 4) ∧ 0 ≤ pm_and (b : Int) 3 ∧ pm_and (b : Int) 3 < 4 := by decide +kernel
section GKD
variable {X : pm_XT} {I : pm_I}
theorem G_ring {n : Int} (hn : 1 ≤ n ∧ n ≤ 8) : ∃ J, f_G_draftRing X n I = some (0, J) ∧ fr [5] I J ∧ ∀ x y, 0 ≤ x → x < n → 0 ≤ y → y < n → J 5 (8 * x + y) = if x + y < n then x + y else x + y - n := by
  obtain ⟨J, j1, j2, j3⟩ := pl_tab1 (fun a J => f_G_draftRing_2 X n a J) (fun a b J => f_G_draftRing_9 X n a b J) (n := n) (by omega) 5 (fun x y => if x + y < n then x + y else x + y - n) (fun a J a0 a1 => by
    show f_G_draftRing_2 X n a J = f_G_draftRing_9 X n a 0 J
    rw [e_G_draftRing_2, if_pos a1]) (fun a b J a0 a1 b0 b1 => by
    show f_G_draftRing_9 X n a b J = f_G_draftRing_9 X n a (b + 1) _
    rw [e_G_draftRing_9, if_pos b1, if_pos (by omega), if_pos (by omega), if_pos (by omega)]
    by_cases z : a + b < n
    · rw [if_pos z, if_pos (by omega), if_pos (by omega), if_pos (by omega)]
      show _ = f_G_draftRing_9 X n a (b + 1) (pm_up J 5 (8 * a + b) (if a + b < n then a + b else a + b - n))
      rw [if_pos z]
    · rw [if_neg z, if_pos (by omega), if_pos (by omega), if_pos (by omega), if_pos (by omega)]
      show _ = f_G_draftRing_9 X n a (b + 1) (pm_up J 5 (8 * a + b) (if a + b < n then a + b else a + b - n))
      rw [if_neg z]) (fun a J a0 a1 => by
    show f_G_draftRing_9 X n a n J = f_G_draftRing_2 X n (a + 1) J
    rw [e_G_draftRing_9, if_neg (by omega), if_pos (by omega)]) I
  refine ⟨J, ?_, j2, j3⟩
  rw [e_G_draftRing]
  refine j1.trans ?_
  show f_G_draftRing_2 X n n J = _
  rw [e_G_draftRing_2, if_neg (by omega)]
theorem G_crossed : ∃ J, f_G_draftCrossed X I = some (0, J) ∧ fr [5] I J ∧ ∀ x y, 0 ≤ x → x < 8 → 0 ≤ y → y < 8 → J 5 (8 * x + y) = xr x y := by
  obtain ⟨J, j1, j2, j3⟩ := pl_tab1 (fun a J => f_G_draftCrossed_2 X a J) (fun a b J => f_G_draftCrossed_10 X a b J) (n := 8) (by omega) 5 xr (fun a J a0 a1 => by
    show f_G_draftCrossed_2 X a J = f_G_draftCrossed_10 X a 0 J
    rw [e_G_draftCrossed_2, if_pos a1]) (fun a b J a0 a1 b0 b1 => by
    obtain ⟨a, rfl⟩ := Int.eq_ofNat_of_zero_le a0
    obtain ⟨b, rfl⟩ := Int.eq_ofNat_of_zero_le b0
    have q := (xr_cr a (by omega) b (by omega)).2.2.2
    show f_G_draftCrossed_10 X a b J = f_G_draftCrossed_10 X a (b + 1) _
    rw [e_G_draftCrossed_10, if_pos b1, if_pos (by omega), if_pos (by omega), if_pos (by omega), if_pos (by omega), if_pos (by omega), if_pos (by omega), if_pos (by omega)]
    rfl) (fun a J a0 a1 => by
    show f_G_draftCrossed_10 X a 8 J = f_G_draftCrossed_2 X (a + 1) J
    rw [e_G_draftCrossed_10, if_neg (by omega), if_pos (by omega)]) I
  refine ⟨J, ?_, j2, j3⟩
  rw [e_G_draftCrossed]
  refine j1.trans ?_
  show f_G_draftCrossed_2 X 8 J = _
  rw [e_G_draftCrossed_2, if_neg (by omega)]
theorem up4 (J : pm_I) {i1 i2 i3 i4 v1 v2 v3 v4 k : Int} : pm_up (pm_up (pm_up (pm_up J 5 i1 v1) 5 i2 v2) 5 i3 v3) 5 i4 v4 5 k = if k = i4 then v4 else if k = i3 then v3 else if k = i2 then v2 else if k = i1 then v1 else J 5 k := by
  rw [up_at, up_at, up_at, up_at]
def fsm (n x y : Int) : Int := if x + y < n then x + y else x + y - n
def frs (n x y : Int) : Int := if x < y then x - y + n else x - y
def FL (n : Int) (J : pm_I) (x y : Int) : Prop := J 5 (8 * x + y) = fsm n x y ∧ J 5 (8 * x + n + y) = n + fsm n x y ∧ J 5 (8 * (n + x) + y) = n + frs n x y ∧ J 5 (8 * (n + x) + n + y) = frs n x y
theorem G_flips {n : Int} (hn : 1 ≤ n ∧ n ≤ 4) : ∃ J, f_G_draftFlips X n I = some (0, J) ∧ fr [5] I J ∧ ∀ x y, 0 ≤ x → x < n → 0 ≤ y → y < n → FL n J x y := by
  have up : ∀ (J : pm_I) (a b s t : Int), 0 ≤ a → a < n → 0 ≤ b → b < n → s = fsm n a b → t = frs n a b → (fr [5] I J ∧ ∀ x y, 0 ≤ x → x < n → 0 ≤ y → y < n → (x < a ∨ x = a ∧ y < b) → FL n J x y) →
      fr [5] I (pm_up (pm_up (pm_up (pm_up J 5 (8 * a + b) s) 5 (8 * a + n + b) (n + s)) 5 (8 * (n + a) + b) (n + t)) 5 (8 * (n + a) + n + b) t) ∧ ∀ x y, 0 ≤ x → x < n → 0 ≤ y → y < n → (x < a ∨ x = a ∧ y < b + 1) → FL n (pm_up (pm_up (pm_up (pm_up J 5 (8 * a + b) s) 5 (8 * a + n + b) (n + s)) 5 (8 * (n + a) + b) (n + t)) 5 (8 * (n + a) + n + b) t) x y := fun J a b s t a0 a1 b0 b1 es et q => by
    refine ⟨(((q.1.up (by decide)).up (by decide)).up (by decide)).up (by decide), fun x y x0 x1 y0 y1 z => ?_⟩
    unfold FL
    rw [up4, up4, up4, up4]
    by_cases w : x = a ∧ y = b
    · obtain ⟨rfl, rfl⟩ := w
      rw [if_neg (by omega), if_neg (by omega), if_neg (by omega), if_pos rfl, if_neg (by omega), if_neg (by omega), if_pos rfl, if_neg (by omega), if_pos rfl, if_pos rfl, es, et]
      exact ⟨rfl, rfl, rfl, rfl⟩
    · have r := q.2 x y x0 x1 y0 y1 (by omega)
      rw [if_neg (by omega), if_neg (by omega), if_neg (by omega), if_neg (by omega), if_neg (by omega), if_neg (by omega), if_neg (by omega), if_neg (by omega), if_neg (by omega), if_neg (by omega), if_neg (by omega), if_neg (by omega), if_neg (by omega), if_neg (by omega), if_neg (by omega), if_neg (by omega)]
      exact r
  obtain ⟨J, j1, j2, j3⟩ := pl_tab2 (fun a J => f_G_draftFlips_2 X n a J) (fun a b J => f_G_draftFlips_9 X n a b J) (n := n) (m := n) (by omega) (by omega) (fun a b J => fr [5] I J ∧ ∀ x y, 0 ≤ x → x < n → 0 ≤ y → y < n → (x < a ∨ x = a ∧ y < b) → FL n J x y) (fun a J a0 a1 => by
    show f_G_draftFlips_2 X n a J = f_G_draftFlips_9 X n a 0 J
    rw [e_G_draftFlips_2, if_pos a1]) (fun a b J a0 a1 b0 b1 q => by
    show ∃ J', f_G_draftFlips_9 X n a b J = f_G_draftFlips_9 X n a (b + 1) J' ∧ _
    have e := e_G_draftFlips_9 X n a b J
    rw [if_pos b1, if_pos (by omega)] at e
    by_cases z : a + b < n
    · rw [if_pos z, if_pos (by omega)] at e
      by_cases y : a < b
      · rw [if_pos y] at e
        iterate 21 rw [if_pos (by omega)] at e
        exact ⟨_, e, up J a b _ _ a0 a1 b0 b1 (by unfold fsm; rw [if_pos z]) (by unfold frs; rw [if_pos y]) q⟩
      · rw [if_neg y] at e
        iterate 20 rw [if_pos (by omega)] at e
        exact ⟨_, e, up J a b _ _ a0 a1 b0 b1 (by unfold fsm; rw [if_pos z]) (by unfold frs; rw [if_neg y]) q⟩
    · rw [if_neg z, if_pos (by omega), if_pos (by omega)] at e
      by_cases y : a < b
      · rw [if_pos y] at e
        iterate 21 rw [if_pos (by omega)] at e
        exact ⟨_, e, up J a b _ _ a0 a1 b0 b1 (by unfold fsm; rw [if_neg z]) (by unfold frs; rw [if_pos y]) q⟩
      · rw [if_neg y] at e
        iterate 20 rw [if_pos (by omega)] at e
        exact ⟨_, e, up J a b _ _ a0 a1 b0 b1 (by unfold fsm; rw [if_neg z]) (by unfold frs; rw [if_neg y]) q⟩) (fun a J a0 a1 q => by
    refine ⟨?_, q.1, fun x y x0 x1 y0 y1 z => q.2 x y x0 x1 y0 y1 (by omega)⟩
    show f_G_draftFlips_9 X n a n J = f_G_draftFlips_2 X n (a + 1) J
    rw [e_G_draftFlips_9, if_neg (by omega), if_pos (by omega)]) (I := I) ⟨fr.rf _ _, fun x y x0 x1 y0 y1 z => by omega⟩
  refine ⟨J, ?_, j2, fun x y x0 x1 y0 y1 => j3 x y x0 x1 y0 y1 (by omega)⟩
  rw [e_G_draftFlips]
  refine j1.trans ?_
  show f_G_draftFlips_2 X n n J = _
  rw [e_G_draftFlips_2, if_neg (by omega)]
/-- the reference's table -/
theorem M_tab {k n m : Int} (hm : 0 ≤ m ∧ m ≤ 8) (mv : Int → Int → Int) (hs : ∀ a b J, 0 ≤ a → a < m → 0 ≤ b → b < m → f_M_group_89 X k n m a b J = f_M_group_89 X k n m a (b + 1) (pm_up J 78 (8 * a + b) (mv a b))) : ∃ J, f_M_group_79 X k n m 0 I = (f_M_begin X m J).bind (fun x1 => some (m, x1.2)) ∧ fr [78] I J ∧ ∀ x y, 0 ≤ x → x < m → 0 ≤ y → y < m → J 78 (8 * x + y) = mv x y := by
  obtain ⟨J, j1, j2, j3⟩ := pl_tab1 (fun a J => f_M_group_79 X k n m a J) (fun a b J => f_M_group_89 X k n m a b J) (n := m) hm 78 mv (fun a J a0 a1 => by
    show f_M_group_79 X k n m a J = f_M_group_89 X k n m a 0 J
    rw [e_M_group_79, if_pos a1]) hs (fun a J a0 a1 => by
    show f_M_group_89 X k n m a m J = f_M_group_79 X k n m (a + 1) J
    rw [e_M_group_89, if_neg (by omega), if_pos (by omega)]) I
  refine ⟨J, ?_, j2, j3⟩
  refine j1.trans ?_
  show f_M_group_79 X k n m m J = _
  rw [e_M_group_79, if_neg (by omega)]
theorem M_ring {n : Int} (hn : 1 ≤ n ∧ n ≤ 8) : ∃ J, f_M_group_79 X 0 n n 0 I = (f_M_begin X n J).bind (fun x1 => some (n, x1.2)) ∧ fr [78] I J ∧ ∀ x y, 0 ≤ x → x < n → 0 ≤ y → y < n → J 78 (8 * x + y) = (x + y) % n :=
  M_tab (by omega) (fun x y => (x + y) % n) (fun a b J a0 a1 b0 b1 => by
    rw [e_M_group_89, if_pos b1, if_pos rfl, if_pos (by omega), if_pos (by omega), if_pos (by omega), if_pos (by omega), if_pos (by omega), if_pos (by omega)])
def mf (n x y : Int) : Int := if x < n then (if y < n then (x + y % n) % n + 0 else (x + y % n) % n + n) else if y < n then (x - n + n - y % n) % n + n else (x - n + n - y % n) % n + 0
theorem M_flips {n : Int} (hn : n = 3 ∨ n = 4) : ∃ J, f_M_group_79 X 1 n (2 * n) 0 I = (f_M_begin X (2 * n) J).bind (fun x1 => some (2 * n, x1.2)) ∧ fr [78] I J ∧ ∀ x y, 0 ≤ x → x < 2 * n → 0 ≤ y → y < 2 * n → J 78 (8 * x + y) = mf n x y :=
  M_tab (by omega) (mf n) (fun a b J a0 a1 b0 b1 => by
    have h0 : 0 ≤ b % n ∧ b % n < n := ⟨Int.emod_nonneg _ (by omega), Int.emod_lt_of_pos _ (by omega)⟩
    have e := e_M_group_89 X 1 n (2 * n) a b J
    unfold mf
    rw [if_pos b1, if_neg (by decide), if_pos rfl] at e
    by_cases z : a < n
    · have h1 : 0 ≤ (a + b % n) % n ∧ (a + b % n) % n < n := ⟨Int.emod_nonneg _ (by omega), Int.emod_lt_of_pos _ (by omega)⟩
      rw [if_pos z, if_pos (by omega), if_pos (by omega), if_pos (by omega), if_pos z] at e
      rw [if_pos z]
      by_cases y : b < n
      · rw [if_pos y] at e ⊢
        iterate 5 rw [if_pos (by omega)] at e
        exact e
      · rw [if_neg y] at e ⊢
        iterate 5 rw [if_pos (by omega)] at e
        exact e
    · have h1 : 0 ≤ (a - n + n - b % n) % n ∧ (a - n + n - b % n) % n < n := ⟨Int.emod_nonneg _ (by omega), Int.emod_lt_of_pos _ (by omega)⟩
      rw [if_neg z, if_pos (by omega), if_pos (by omega), if_pos (by omega), if_pos (by omega), if_pos (by omega), if_neg z] at e
      rw [if_neg z]
      by_cases y : b < n
      · rw [if_pos y] at e ⊢
        iterate 5 rw [if_pos (by omega)] at e
        exact e
      · rw [if_neg y] at e ⊢
        iterate 5 rw [if_pos (by omega)] at e
        exact e)
theorem M_crossed {a b : Int} (ha : 0 ≤ a ∧ a < 8) (hb : 0 ≤ b ∧ b < 8) : f_M_crossed X a b I = some (cr a b, I) := by
  have e := e_M_crossed X a b I
  unfold cr
  rw [if_pos (by omega), if_pos (by omega), if_pos (by omega), if_pos (by omega), if_pos (by omega)] at e
  by_cases z1 : a % 4 = 0
  · rw [if_pos z1] at e ⊢
    iterate 4 rw [if_pos (by omega)] at e
    exact e
  · rw [if_neg z1] at e ⊢
    by_cases z2 : b % 4 = 0
    · rw [if_pos z2] at e ⊢
      iterate 4 rw [if_pos (by omega)] at e
      exact e
    · rw [if_neg z2] at e ⊢
      by_cases z3 : a % 4 = b % 4
      · rw [if_pos z3] at e ⊢
        iterate 4 rw [if_pos (by omega)] at e
        exact e
      · rw [if_neg z3] at e ⊢
        iterate 4 rw [if_pos (by omega)] at e
        by_cases z4 : b % 4 = a % 4 % 3 + 1
        · rw [if_pos z4] at e ⊢
          iterate 4 rw [if_pos (by omega)] at e
          exact e
        · rw [if_neg z4] at e ⊢
          iterate 4 rw [if_pos (by omega)] at e
          exact e
theorem M_crs : ∃ J, f_M_group_79 X 2 8 8 0 I = (f_M_begin X 8 J).bind (fun x1 => some (8, x1.2)) ∧ fr [78] I J ∧ ∀ x y, 0 ≤ x → x < 8 → 0 ≤ y → y < 8 → J 78 (8 * x + y) = cr x y :=
  M_tab (by omega) cr (fun a b J a0 a1 b0 b1 => by
    rw [e_M_group_89, if_pos b1, if_neg (by decide), if_neg (by decide), M_crossed ⟨a0, a1⟩ ⟨b0, b1⟩]
    simp only [Option.bind_some]
    rw [if_pos (by omega), if_pos (by omega), if_pos (by omega), if_pos (by omega)])
end GKD
