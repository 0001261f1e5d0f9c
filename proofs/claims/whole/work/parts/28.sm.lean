/-! SUMS over all fillings: what both sides reckon -/
def ud (t : Int → Int) (j a : Int) : Int → Int := fun x => if x = j then a else t x
def sm (g : Int → Int) : Nat → Int
  | 0 => 0
  | k + 1 => sm g k + g k
theorem sm_congr {g h : Int → Int} : ∀ {k : Nat}, (∀ i : Nat, i < k → g i = h i) → sm g k = sm h k
  | 0, _ => rfl
  | k + 1, q => by
    show sm g k + g k = sm h k + h k
    rw [sm_congr (fun i hi => q i (by omega)), q k (by omega)]
theorem sm_const {c : Int} : ∀ {k : Nat}, sm (fun _ => c) k = k * c
  | 0 => by show (0 : Int) = ((0 : Nat) : Int) * c; simp
  | k + 1 => by
    show sm (fun _ => c) k + c = ((k + 1 : Nat) : Int) * c
    rw [sm_const, Int.natCast_add, Int.add_mul]
    simp
theorem sm_bd {g : Int → Int} {M : Int} : ∀ {k : Nat}, (∀ i : Nat, i < k → 0 ≤ g i ∧ g i ≤ M) → 0 ≤ sm g k ∧ sm g k ≤ k * M
  | 0, _ => by show (0 : Int) ≤ 0 ∧ (0 : Int) ≤ ((0 : Nat) : Int) * M; simp
  | k + 1, q => by
    have ih := sm_bd (g := g) (M := M) (k := k) (fun i hi => q i (by omega))
    have h1 := q k (by omega)
    have e : sm g (k + 1) = sm g k + g k := rfl
    rw [e, Int.natCast_add, Int.add_mul]
    simp only [Int.natCast_one, Int.one_mul]
    omega
theorem sm_add {g : Int → Int} {k : Nat} : ∀ {m : Nat}, sm g (k + m) = sm g k + sm (fun i => g (k + i)) m
  | 0 => by show sm g k = sm g k + 0; omega
  | m + 1 => by
    show sm g (k + m) + g ((k + m : Nat) : Int) = sm g k + (sm (fun i => g (k + i)) m + g (k + m))
    rw [sm_add (m := m), Int.natCast_add]
    omega
theorem sm_plus {g h : Int → Int} : ∀ {k : Nat}, sm (fun i => g i + h i) k = sm g k + sm h k
  | 0 => rfl
  | k + 1 => by
    show sm (fun i => g i + h i) k + (g k + h k) = sm g k + g k + (sm h k + h k)
    rw [sm_plus]
    omega
theorem sm_mulr {g : Int → Int} {c : Int} : ∀ {k : Nat}, sm (fun i => g i * c) k = sm g k * c
  | 0 => by show (0 : Int) = 0 * c; simp
  | k + 1 => by
    show sm (fun i => g i * c) k + g k * c = (sm g k + g k) * c
    rw [sm_mulr, Int.add_mul]
/-- digits -/
theorem sm_dig {n : Nat} (hn : 0 < n) {H : Int → Int → Int} : ∀ {N : Nat}, sm (fun v => H (v % n) (v / n)) (n * N) = sm (fun a => sm (fun u => H a u) N) n
  | 0 => by
    have : sm (fun a => sm (fun u => H a u) 0) n = sm (fun _ => 0) n := rfl
    rw [this, sm_const]
    show (0 : Int) = _
    simp
  | N + 1 => by
    have e : sm (fun a => sm (fun u => H a u) (N + 1)) n = sm (fun a => sm (fun u => H a u) N + H a N) n := rfl
    rw [e, sm_plus (g := fun a => sm (fun u => H a u) N) (h := fun a => H a N), ← sm_dig hn, Nat.mul_succ, sm_add]
    congr 1
    refine sm_congr (fun i hi => ?_)
    have h1 : (((n * N : Nat) : Int) + (i : Int)) % (n : Int) = i := by
      rw [Int.natCast_mul, Int.add_comm, Int.add_mul_emod_self_left]
      exact Int.emod_eq_of_lt (by omega) (by omega)
    have h2 : (((n * N : Nat) : Int) + (i : Int)) / (n : Int) = N := by
      rw [Int.natCast_mul, Int.add_comm, Int.add_mul_ediv_left _ _ (by omega), Int.ediv_eq_zero_of_lt (by omega) (by omega)]
      omega
    rw [h1, h2]
def SM (G : (Int → Int) → Int) (n : Nat) (tr : Int → Bool) : Nat → Int → (Int → Int) → Int
  | 0, _, t => G t
  | d + 1, j, t => bif tr j then n * SM G n tr d (j + 1) (ud t j 0) else sm (fun a => SM G n tr d (j + 1) (ud t j a)) n
section SMS
variable {G : (Int → Int) → Int} {n : Nat} {tr : Int → Bool}
theorem SM_cg {p : Int → Prop} : ∀ {d : Nat} {j : Int} {t t' : Int → Int}, (∀ t t' : Int → Int, (∀ k, 0 ≤ k → k < j + d → p k → t k = t' k) → G t = G t') → (∀ k, 0 ≤ k → k < j → p k → t k = t' k) → SM G n tr d j t = SM G n tr d j t'
  | 0, j, t, t', hG, ht => hG t t' (fun k a b c => ht k a (by omega) c)
  | d + 1, j, t, t', hG, ht => by
    have ih : ∀ a, SM G n tr d (j + 1) (ud t j a) = SM G n tr d (j + 1) (ud t' j a) := fun a => SM_cg (p := p) (fun u u' h => hG u u' (fun k a b c => h k a (by omega) c)) (fun k k0 k1 kp => by
      unfold ud
      by_cases z : k = j
      · rw [if_pos z, if_pos z]
      · rw [if_neg z, if_neg z]; exact ht k k0 (by omega) kp)
    show (bif tr j then n * SM G n tr d (j + 1) (ud t j 0) else sm (fun a => SM G n tr d (j + 1) (ud t j a)) n) = (bif tr j then n * SM G n tr d (j + 1) (ud t' j 0) else sm (fun a => SM G n tr d (j + 1) (ud t' j a)) n)
    rw [ih 0, sm_congr (h := fun a => SM G n tr d (j + 1) (ud t' j a)) (fun i _ => ih i)]
theorem ud_in {t : Int → Int} {j a : Int} (ht : ∀ k, 0 ≤ k → k < j → 0 ≤ t k ∧ t k < n) (ha : 0 ≤ a ∧ a < n) : ∀ k, 0 ≤ k → k < j + 1 → 0 ≤ ud t j a k ∧ ud t j a k < n := fun k k0 k1 => by
  unfold ud
  by_cases z : k = j
  · rw [if_pos z]; exact ha
  · rw [if_neg z]; exact ht k k0 (by omega)
theorem SM_bd (hn : 0 < n) {M : Int} : ∀ {d : Nat} {j : Int} {t : Int → Int}, (∀ t' : Int → Int, (∀ k, 0 ≤ k → k < j + d → 0 ≤ t' k ∧ t' k < n) → 0 ≤ G t' ∧ G t' ≤ M) → (∀ k, 0 ≤ k → k < j → 0 ≤ t k ∧ t k < n) → 0 ≤ SM G n tr d j t ∧ SM G n tr d j t ≤ (n : Int) ^ d * M
  | 0, j, t, hG, ht => by
    have := hG t (fun k a b => ht k a (by omega))
    show 0 ≤ G t ∧ G t ≤ 1 * M
    omega
  | d + 1, j, t, hG, ht => by
    have ih : ∀ a : Int, 0 ≤ a ∧ a < n → _ := fun a ha => SM_bd hn (M := M) (d := d) (j := j + 1) (t := ud t j a) (fun u h => hG u (fun k a b => h k a (by omega))) (ud_in ht ha)
    have e : (n : Int) ^ (d + 1) * M = n * ((n : Int) ^ d * M) := by
      rw [Int.pow_succ, Int.mul_comm ((n : Int) ^ d) n, Int.mul_assoc]
    rw [e]
    show 0 ≤ (bif tr j then n * SM G n tr d (j + 1) (ud t j 0) else sm (fun a => SM G n tr d (j + 1) (ud t j a)) n) ∧ (bif tr j then n * SM G n tr d (j + 1) (ud t j 0) else sm (fun a => SM G n tr d (j + 1) (ud t j a)) n) ≤ _
    cases tr j with
    | true =>
      have q := ih 0 (by omega)
      exact mul_b (a := (n : Int)) (x := n) (by omega) q
    | false => exact sm_bd (fun i hi => ih i (by omega))
theorem SM_z (hn : 0 < n) : ∀ {d : Nat} {j : Int} {t : Int → Int}, (∀ t' : Int → Int, (∀ k, 0 ≤ k → k < j + d → 0 ≤ t' k ∧ t' k < n) → (∀ k, 0 ≤ k → k < j → t' k = t k) → G t' = 0) → (∀ k, 0 ≤ k → k < j → 0 ≤ t k ∧ t k < n) → SM G n tr d j t = 0
  | 0, j, t, hG, ht => hG t (fun k a b => ht k a (by omega)) (fun _ _ _ => rfl)
  | d + 1, j, t, hG, ht => by
    have ih : ∀ a : Int, 0 ≤ a ∧ a < n → SM G n tr d (j + 1) (ud t j a) = 0 := fun a ha => SM_z hn (d := d) (j := j + 1) (t := ud t j a) (fun u h h' => hG u (fun k a b => h k a (by omega)) (fun k k0 k1 => by
      rw [h' k k0 (by omega)]
      unfold ud
      rw [if_neg (by omega)])) (ud_in ht ha)
    show (bif tr j then n * SM G n tr d (j + 1) (ud t j 0) else sm (fun a => SM G n tr d (j + 1) (ud t j a)) n) = 0
    rw [ih 0 (by omega), sm_congr (h := fun _ => 0) (fun i hi => ih i (by omega)), sm_const]
    cases tr j <;> simp
/-- the filling that a number tells -/
def asg (n : Nat) (tr : Int → Bool) : Nat → Int → Int → (Int → Int) → Int → Int
  | 0, _, _, t => t
  | d + 1, j, v, t => bif tr j then asg n tr d (j + 1) v (ud t j 0) else asg n tr d (j + 1) (v / n) (ud t j (v % n))
def cT (tr : Int → Bool) : Nat → Int → Nat
  | 0, _ => 0
  | d + 1, j => cT tr d (j + 1) + (bif tr j then 1 else 0)
def cF (tr : Int → Bool) : Nat → Int → Nat
  | 0, _ => 0
  | d + 1, j => cF tr d (j + 1) + (bif tr j then 0 else 1)
theorem SM_asg (hn : 0 < n) : ∀ {d : Nat} {j : Int} {t : Int → Int}, SM G n tr d j t = sm (fun v => G (asg n tr d j v t)) (n ^ cF tr d j) * (n : Int) ^ cT tr d j
  | 0, j, t => by
    show G t = (0 + G t) * 1
    omega
  | d + 1, j, t => by
    show (bif tr j then n * SM G n tr d (j + 1) (ud t j 0) else sm (fun a => SM G n tr d (j + 1) (ud t j a)) n) = sm (fun v => G (bif tr j then asg n tr d (j + 1) v (ud t j 0) else asg n tr d (j + 1) (v / n) (ud t j (v % n)))) (n ^ (cF tr d (j + 1) + (bif tr j then 0 else 1))) * (n : Int) ^ (cT tr d (j + 1) + (bif tr j then 1 else 0))
    cases tr j with
    | true =>
      simp only [cond_true, Nat.add_zero]
      rw [SM_asg hn, Int.pow_succ, Int.mul_comm, Int.mul_assoc]
    | false =>
      simp only [cond_false, Nat.add_zero]
      rw [sm_congr (h := fun a => sm (fun v => G (asg n tr d (j + 1) v (ud t j a))) (n ^ cF tr d (j + 1)) * (n : Int) ^ cT tr d (j + 1)) (fun i _ => SM_asg hn (d := d) (j := j + 1) (t := ud t j i)), sm_mulr (g := fun a => sm (fun v => G (asg n tr d (j + 1) v (ud t j a))) (n ^ cF tr d (j + 1))), Nat.pow_succ, Nat.mul_comm, sm_dig hn (H := fun a u => G (asg n tr d (j + 1) u (ud t j a)))]
theorem cTF : ∀ {d : Nat} {j : Int}, cT tr d j + cF tr d j = d
  | 0, _ => rfl
  | d + 1, j => by
    have ih := cTF (d := d) (j := j + 1)
    show cT tr d (j + 1) + (bif tr j then 1 else 0) + (cF tr d (j + 1) + (bif tr j then 0 else 1)) = d + 1
    cases tr j <;> simp <;> omega
theorem cT_cn : ∀ {d : Nat} {j : Nat}, (cT tr d j : Int) = cn tr (j + d) - cn tr j
  | 0, j => by
    show (0 : Int) = cn tr j - cn tr j
    omega
  | d + 1, j => by
    have ih := cT_cn (d := d) (j := j + 1)
    have e : cT tr (d + 1) j = cT tr d ((j + 1 : Nat) : Int) + (bif tr j then 1 else 0) := rfl
    have e2 : cn tr (j + 1) = cn tr j + (bif tr j then 1 else 0) := rfl
    rw [e, Int.natCast_add, ih, e2, show j + (d + 1) = j + 1 + d by omega]
    cases tr j <;> simp <;> omega
end SMS
