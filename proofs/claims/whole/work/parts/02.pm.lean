/-! THE PURE MACHINE: what an instruction does, over a heap of numbers; a method is a table from places of its code to what is done there. -/
/-- a value: an int, a long, a reference (0 none, 1 the row of units, 2 the script, from 3 on the cells) -/
abbrev pm_V : Type := Int ⊕ (Int ⊕ Nat)
/-- the numbers of the heap: cell, place -/
abbrev pm_I : Type := Nat → Int → Int
abbrev pm_L : Type := List (Option pm_V)
/-- kinds, lengths, references, the rows that stand outside -/
abbrev pm_E : Type := (Nat → Nat) × (Nat → Int) × (Nat → Nat → Nat) × (Nat → Int → Int)
abbrev pm_O : Type := Option (Int × pm_I)
/-- method, rank, place, locals, stack, heap -/
abbrev pm_G : Type := Nat → Nat → Nat → pm_L → List pm_V → pm_I → pm_O
abbrev pm_S : Type := pm_E → pm_G → Nat → Nat → pm_L → List pm_V → pm_I → pm_O
abbrev pm_r32 (x : Int) : Prop := -2147483648 ≤ x ∧ x ≤ 2147483647
abbrev pm_r64 (x : Int) : Prop := -9223372036854775808 ≤ x ∧ x ≤ 9223372036854775807
def pm_w64 (x : Int) : Int := Int.bmod x 18446744073709551616
def pm_up (I : pm_I) (r : Nat) (k v : Int) : pm_I := fun a b => if a = r ∧ b = k then v else I a b
def pm_cp (I : pm_I) (q : Nat) (sp : Int) (r : Nat) (dp n : Int) : pm_I := fun a b => if a = r ∧ dp ≤ b ∧ b < dp + n then I q (sp + (b - dp)) else I a b
def pm_at : pm_L → Nat → Option pm_V
  | [], _ => none
  | a :: _, 0 => a
  | _ :: t, n + 1 => pm_at t n
def pm_lg : Option pm_V → Bool
  | some (.inr (.inl _)) => true
  | _ => false
def pm_st1 : pm_L → Nat → pm_V → pm_L
  | [], _, _ => []
  | _ :: t, 0, v => some v :: t
  | a :: t, n + 1, v => (bif (Nat.beq n 0 && pm_lg a) then none else a) :: pm_st1 t n v
def pm_cl0 : pm_L → pm_L
  | [] => []
  | _ :: t => none :: t
def pm_st2 : pm_L → Nat → pm_V → pm_L
  | [], _, _ => []
  | _ :: t, 0, v => some v :: pm_cl0 t
  | a :: t, n + 1, v => (bif (Nat.beq n 0 && pm_lg a) then none else a) :: pm_st2 t n v
def pm_wd : List pm_V → Nat
  | [] => 0
  | .inr (.inl _) :: t => 2 + pm_wd t
  | _ :: t => 1 + pm_wd t
/-- n values off the stack: the lowest first, and the rest -/
def pm_pop : Nat → List pm_V → List pm_V → Option (List pm_V × List pm_V)
  | 0, sk, av => some (av, sk)
  | n + 1, v :: sk, av => pm_pop n sk (v :: av)
  | _ + 1, [], _ => none
def pm_pad : Nat → pm_L
  | 0 => []
  | n + 1 => none :: pm_pad n
/-- the locals at a method's entry: n places are left for those that are not arguments -/
def pm_ent : List pm_V → Nat → pm_L
  | [], n => pm_pad n
  | .inr (.inl x) :: t, n => some (.inr (.inl x)) :: none :: pm_ent t n
  | v :: t, n => some v :: pm_ent t n
def pm_ret (rt : Nat) (x : Int) (sk : List pm_V) : List pm_V := match rt with
  | 0 => sk
  | 1 => .inl x :: sk
  | _ => .inr (.inl x) :: sk
/-- is the receiver of a kind (99: there is none) -/
def pm_rc (env : pm_E) (ci : Nat) (av : List pm_V) : Bool := bif Nat.beq ci 99 then true else match av with
  | .inr (.inr r) :: _ => Nat.beq (env.1 r) ci
  | _ => false
def s_bad : pm_S := fun _ _ _ _ _ _ _ => none
def s_push (n : Int) (nx : Nat) : pm_S := fun _ G y d lo sk I => G y d nx lo (.inl n :: sk) I
def s_lpush (n : Int) (nx : Nat) : pm_S := fun _ G y d lo sk I => G y d nx lo (.inr (.inl n) :: sk) I
def s_iload (i nx : Nat) : pm_S := fun _ G y d lo sk I => match pm_at lo i with
  | some (.inl n) => G y d nx lo (.inl n :: sk) I
  | _ => none
def s_lload (i nx : Nat) : pm_S := fun _ G y d lo sk I => match pm_at lo i with
  | some (.inr (.inl n)) => G y d nx lo (.inr (.inl n) :: sk) I
  | _ => none
def s_aload (i nx : Nat) : pm_S := fun _ G y d lo sk I => match pm_at lo i with
  | some (.inr (.inr n)) => G y d nx lo (.inr (.inr n) :: sk) I
  | _ => none
def s_istore (i nx : Nat) : pm_S := fun _ G y d lo sk I => match sk with
  | .inl n :: r => G y d nx (pm_st1 lo i (.inl n)) r I
  | _ => none
def s_lstore (i nx : Nat) : pm_S := fun _ G y d lo sk I => match sk with
  | .inr (.inl n) :: r => G y d nx (pm_st2 lo i (.inr (.inl n))) r I
  | _ => none
def s_astore (i nx : Nat) : pm_S := fun _ G y d lo sk I => match sk with
  | .inr (.inr n) :: r => G y d nx (pm_st1 lo i (.inr (.inr n))) r I
  | _ => none
def s_iinc (i : Nat) (k : Int) (nx : Nat) : pm_S := fun _ G y d lo sk I => match pm_at lo i with
  | some (.inl n) => if pm_r32 (n + k) then G y d nx (pm_st1 lo i (.inl (n + k))) sk I else none
  | _ => none
def s_iadd (nx : Nat) : pm_S := fun _ G y d lo sk I => match sk with
  | .inl b :: .inl a :: r => if pm_r32 (a + b) then G y d nx lo (.inl (a + b) :: r) I else none
  | _ => none
def s_isub (nx : Nat) : pm_S := fun _ G y d lo sk I => match sk with
  | .inl b :: .inl a :: r => if pm_r32 (a - b) then G y d nx lo (.inl (a - b) :: r) I else none
  | _ => none
def s_imul (nx : Nat) : pm_S := fun _ G y d lo sk I => match sk with
  | .inl b :: .inl a :: r => if pm_r32 (a * b) then G y d nx lo (.inl (a * b) :: r) I else none
  | _ => none
def s_idiv (nx : Nat) : pm_S := fun _ G y d lo sk I => match sk with
  | .inl b :: .inl a :: r => if 0 ≤ a ∧ 0 < b then G y d nx lo (.inl (a / b) :: r) I else none
  | _ => none
def s_irem (nx : Nat) : pm_S := fun _ G y d lo sk I => match sk with
  | .inl b :: .inl a :: r => if 0 ≤ a ∧ 0 < b then G y d nx lo (.inl (a % b) :: r) I else none
  | _ => none
def pm_and (a b : Int) : Int := (Int32.ofInt a &&& Int32.ofInt b).toInt
def pm_xor (a b : Int) : Int := (Int32.ofInt a ^^^ Int32.ofInt b).toInt
def pm_shl (a b : Int) : Int := (Int32.ofInt a <<< (Int32.ofInt b &&& 31)).toInt
def pm_shr (a b : Int) : Int := (Int32.ofInt a >>> (Int32.ofInt b &&& 31)).toInt
def pm_i2b (a : Int) : Int := (Int32.ofInt a).toInt8.toInt32.toInt
def pm_i2s (a : Int) : Int := (Int32.ofInt a).toInt16.toInt32.toInt
def s_iand (nx : Nat) : pm_S := fun _ G y d lo sk I => match sk with
  | .inl b :: .inl a :: r => G y d nx lo (.inl (pm_and a b) :: r) I
  | _ => none
def s_ixor (nx : Nat) : pm_S := fun _ G y d lo sk I => match sk with
  | .inl b :: .inl a :: r => G y d nx lo (.inl (pm_xor a b) :: r) I
  | _ => none
def s_ishl (nx : Nat) : pm_S := fun _ G y d lo sk I => match sk with
  | .inl b :: .inl a :: r => G y d nx lo (.inl (pm_shl a b) :: r) I
  | _ => none
def s_ishr (nx : Nat) : pm_S := fun _ G y d lo sk I => match sk with
  | .inl b :: .inl a :: r => G y d nx lo (.inl (pm_shr a b) :: r) I
  | _ => none
def s_i2b (nx : Nat) : pm_S := fun _ G y d lo sk I => match sk with
  | .inl a :: r => G y d nx lo (.inl (pm_i2b a) :: r) I
  | _ => none
def s_i2s (nx : Nat) : pm_S := fun _ G y d lo sk I => match sk with
  | .inl a :: r => G y d nx lo (.inl (pm_i2s a) :: r) I
  | _ => none
def s_i2l (nx : Nat) : pm_S := fun _ G y d lo sk I => match sk with
  | .inl a :: r => G y d nx lo (.inr (.inl a) :: r) I
  | _ => none
def s_ladd (nx : Nat) : pm_S := fun _ G y d lo sk I => match sk with
  | .inr (.inl b) :: .inr (.inl a) :: r => G y d nx lo (.inr (.inl (pm_w64 (a + b))) :: r) I
  | _ => none
def s_lmul (nx : Nat) : pm_S := fun _ G y d lo sk I => match sk with
  | .inr (.inl b) :: .inr (.inl a) :: r => G y d nx lo (.inr (.inl (pm_w64 (a * b))) :: r) I
  | _ => none
def s_ldiv (nx : Nat) : pm_S := fun _ G y d lo sk I => match sk with
  | .inr (.inl b) :: .inr (.inl a) :: r => if 0 ≤ a ∧ 0 < b then G y d nx lo (.inr (.inl (a / b)) :: r) I else none
  | _ => none
def s_lrem (nx : Nat) : pm_S := fun _ G y d lo sk I => match sk with
  | .inr (.inl b) :: .inr (.inl a) :: r => if 0 ≤ a ∧ 0 < b then G y d nx lo (.inr (.inl (a % b)) :: r) I else none
  | _ => none
def s_lcmp (nx : Nat) : pm_S := fun _ G y d lo sk I => match sk with
  | .inr (.inl b) :: .inr (.inl a) :: r => if b < a then G y d nx lo (.inl 1 :: r) I else if a = b then G y d nx lo (.inl 0 :: r) I else G y d nx lo (.inl (-1) :: r) I
  | _ => none
def s_dup (nx : Nat) : pm_S := fun _ G y d lo sk I => match sk with
  | .inl a :: r => G y d nx lo (.inl a :: .inl a :: r) I
  | .inr (.inr a) :: r => G y d nx lo (.inr (.inr a) :: .inr (.inr a) :: r) I
  | _ => none
def s_dup2 (nx : Nat) : pm_S := fun _ G y d lo sk I => match sk with
  | .inl a :: .inr (.inr b) :: r => G y d nx lo (.inl a :: .inr (.inr b) :: .inl a :: .inr (.inr b) :: r) I
  | _ => none
def s_ifeq (tg nx : Nat) : pm_S := fun _ G y d lo sk I => match sk with
  | .inl a :: r => if a = 0 then G y d tg lo r I else G y d nx lo r I
  | _ => none
def s_ifne (tg nx : Nat) : pm_S := fun _ G y d lo sk I => match sk with
  | .inl a :: r => if a = 0 then G y d nx lo r I else G y d tg lo r I
  | _ => none
def s_iflt (tg nx : Nat) : pm_S := fun _ G y d lo sk I => match sk with
  | .inl a :: r => if a < 0 then G y d tg lo r I else G y d nx lo r I
  | _ => none
def s_ifge (tg nx : Nat) : pm_S := fun _ G y d lo sk I => match sk with
  | .inl a :: r => if a < 0 then G y d nx lo r I else G y d tg lo r I
  | _ => none
def s_ifgt (tg nx : Nat) : pm_S := fun _ G y d lo sk I => match sk with
  | .inl a :: r => if 0 < a then G y d tg lo r I else G y d nx lo r I
  | _ => none
def s_ifle (tg nx : Nat) : pm_S := fun _ G y d lo sk I => match sk with
  | .inl a :: r => if 0 < a then G y d nx lo r I else G y d tg lo r I
  | _ => none
def s_ceq (tg nx : Nat) : pm_S := fun _ G y d lo sk I => match sk with
  | .inl b :: .inl a :: r => if a = b then G y d tg lo r I else G y d nx lo r I
  | _ => none
def s_cne (tg nx : Nat) : pm_S := fun _ G y d lo sk I => match sk with
  | .inl b :: .inl a :: r => if a = b then G y d nx lo r I else G y d tg lo r I
  | _ => none
def s_clt (tg nx : Nat) : pm_S := fun _ G y d lo sk I => match sk with
  | .inl b :: .inl a :: r => if a < b then G y d tg lo r I else G y d nx lo r I
  | _ => none
def s_cge (tg nx : Nat) : pm_S := fun _ G y d lo sk I => match sk with
  | .inl b :: .inl a :: r => if a < b then G y d nx lo r I else G y d tg lo r I
  | _ => none
def s_cgt (tg nx : Nat) : pm_S := fun _ G y d lo sk I => match sk with
  | .inl b :: .inl a :: r => if b < a then G y d tg lo r I else G y d nx lo r I
  | _ => none
def s_cle (tg nx : Nat) : pm_S := fun _ G y d lo sk I => match sk with
  | .inl b :: .inl a :: r => if b < a then G y d nx lo r I else G y d tg lo r I
  | _ => none
def s_goto (tg : Nat) : pm_S := fun _ G y d lo sk I => G y d tg lo sk I
def pm_swt (x : Int) (df : Nat) (k : Nat → pm_O) : List (Int × Nat) → pm_O
  | [] => k df
  | (c, t) :: ts => if x = c then k t else pm_swt x df k ts
def s_switch (ts : List (Int × Nat)) (df : Nat) : pm_S := fun _ G y d lo sk I => match sk with
  | .inl x :: r => pm_swt x df (fun t => G y d t lo r I) ts
  | _ => none
def s_getI (ci : Nat) (k : Int) (nx : Nat) : pm_S := fun env G y d lo sk I => match sk with
  | .inr (.inr r) :: t => bif Nat.beq (env.1 r) ci then G y d nx lo (.inl (I r k) :: t) I else none
  | _ => none
def s_getR (ci : Nat) (k : Nat) (nx : Nat) : pm_S := fun env G y d lo sk I => match sk with
  | .inr (.inr r) :: t => bif Nat.beq (env.1 r) ci then G y d nx lo (.inr (.inr (env.2.2.1 r k)) :: t) I else none
  | _ => none
def s_putI (ci : Nat) (k : Int) (nx : Nat) : pm_S := fun env G y d lo sk I => match sk with
  | .inl v :: .inr (.inr r) :: t => bif Nat.beq (env.1 r) ci then G y d nx lo t (pm_up I r k v) else none
  | _ => none
def s_putZ (ci : Nat) (k : Int) (nx : Nat) : pm_S := fun env G y d lo sk I => match sk with
  | .inl v :: .inr (.inr r) :: t => bif Nat.beq (env.1 r) ci then (if v = 0 ∨ v = 1 then G y d nx lo t (pm_up I r k v) else none) else none
  | _ => none
def s_units (nx : Nat) : pm_S := fun _ G y d lo sk I => G y d nx lo (.inr (.inr 1) :: sk) I
def s_iald (nx : Nat) : pm_S := fun env G y d lo sk I => match sk with
  | .inl i :: .inr (.inr r) :: t => bif Nat.beq (env.1 r) 8 then (if 0 ≤ i ∧ i < env.2.1 r then G y d nx lo (.inl (I r i) :: t) I else none)
      else bif Nat.beq (env.1 r) 50 then (if 0 ≤ i ∧ i < env.2.1 r then G y d nx lo (.inl (env.2.2.2 r i) :: t) I else none) else none
  | _ => none
def s_zald (nx : Nat) : pm_S := fun env G y d lo sk I => match sk with
  | .inl i :: .inr (.inr r) :: t => bif Nat.beq (env.1 r) 9 then (if 0 ≤ i ∧ i < env.2.1 r then G y d nx lo (.inl (I r i) :: t) I else none) else none
  | _ => none
def s_aald (nx : Nat) : pm_S := fun env G y d lo sk I => match sk with
  | .inl i :: .inr (.inr r) :: t => bif Nat.ble 10 (env.1 r) && Nat.ble (env.1 r) 12 then (if 0 ≤ i ∧ i < env.2.1 r then G y d nx lo (.inr (.inr (env.2.2.1 r i.toNat)) :: t) I else none) else none
  | _ => none
def s_iast (nx : Nat) : pm_S := fun env G y d lo sk I => match sk with
  | .inl v :: .inl i :: .inr (.inr r) :: t => bif Nat.beq (env.1 r) 8 then (if 0 ≤ i ∧ i < env.2.1 r then G y d nx lo t (pm_up I r i v) else none) else none
  | _ => none
def s_zast (nx : Nat) : pm_S := fun env G y d lo sk I => match sk with
  | .inl v :: .inl i :: .inr (.inr r) :: t => bif Nat.beq (env.1 r) 9 then (if 0 ≤ i ∧ i < env.2.1 r then (if v = 0 ∨ v = 1 then G y d nx lo t (pm_up I r i v) else none) else none) else none
  | _ => none
def s_alen (nx : Nat) : pm_S := fun env G y d lo sk I => match sk with
  | .inr (.inr r) :: t => bif Nat.beq (env.1 r) 8 || Nat.beq (env.1 r) 50 then G y d nx lo (.inl (env.2.1 r) :: t) I else none
  | _ => none
def s_min (nx : Nat) : pm_S := fun _ G y d lo sk I => match sk with
  | .inl b :: .inl a :: t => bif Nat.ble 1 d && Nat.ble (pm_wd t) 8 then G y d nx lo (.inl (min a b) :: t) I else none
  | _ => none
def s_max (nx : Nat) : pm_S := fun _ G y d lo sk I => match sk with
  | .inl b :: .inl a :: t => bif Nat.ble 1 d && Nat.ble (pm_wd t) 8 then G y d nx lo (.inl (max a b) :: t) I else none
  | _ => none
def s_copy (nx : Nat) : pm_S := fun env G y d lo sk I => match sk with
  | .inl n :: .inl dp :: .inr (.inr r) :: .inl sp :: .inr (.inr q) :: t => bif Nat.ble 1 d && Nat.ble (pm_wd t) 8 && Nat.beq (env.1 r) 8 && Nat.beq (env.1 q) 8 then
      (if 0 ≤ sp ∧ 0 ≤ dp ∧ 0 ≤ n then (if sp + n ≤ env.2.1 q then (if dp + n ≤ env.2.1 r then G y d nx lo t (pm_cp I q sp r dp n) else none) else none) else none) else none
  | _ => none
/-- a call: the method, its arguments' number, their words, its other locals, its receiver's kind, what it answers (0 nothing, 1 an int, 2 a long), its rank -/
def s_call (m n w nl rc rt : Nat) (rk : List pm_V → Nat) (nx : Nat) : pm_S := fun env G y d lo sk I => match pm_pop n sk [] with
  | some (av, t) => bif pm_rc env rc av then (bif Nat.blt (rk av) d && Nat.ble (pm_wd t) 8 && Nat.beq (pm_wd av) w then (G m (rk av) 0 (pm_ent av nl) [] I).bind (fun x => G y d nx lo (pm_ret rt x.1 t) x.2) else none) else none
  | none => none
def s_iret : pm_S := fun _ _ _ _ _ sk I => match sk with
  | [.inl v] => some (v, I)
  | _ => none
def s_zret : pm_S := fun _ _ _ _ _ sk I => match sk with
  | [.inl v] => if v = 0 ∨ v = 1 then some (v, I) else none
  | _ => none
def s_lret : pm_S := fun _ _ _ _ _ sk I => match sk with
  | [.inr (.inl v)] => some (v, I)
  | _ => none
def s_vret : pm_S := fun _ _ _ _ _ sk I => match sk with
  | [] => some (0, I)
  | _ => none
/-! tables -/
def pm_tn (p : Nat) (a b : Nat → pm_S) : Nat → pm_S := fun pc => bif Nat.ble p pc then b pc else a pc
def pm_tl (p : Nat) (s : pm_S) : Nat → pm_S := fun pc => bif Nat.beq pc p then s else s_bad
/-! a chain of machines, and its limit -/
def pm_run (T : Nat → Nat → pm_S) (env : pm_E) : Nat → pm_G
  | 0 => fun _ _ _ _ _ _ => none
  | n + 1 => fun y d pc lo sk I => T y pc env (pm_run T env n) y d lo sk I
def pm_le (F G : pm_G) : Prop := ∀ y d pc lo sk I r, F y d pc lo sk I = some r → G y d pc lo sk I = some r
/-- what s does at a limit it does at a member of the chain, and so back -/
def pm_Ct (s : pm_S) : Prop := ∀ (env : pm_E) (F : Nat → pm_G) (G : pm_G), (∀ i j, i ≤ j → pm_le (F i) (F j)) → (∀ y d pc lo sk I r, G y d pc lo sk I = some r ↔ ∃ n, F n y d pc lo sk I = some r) →
  ∀ y d lo sk I r, s env G y d lo sk I = some r ↔ ∃ n, s env (F n) y d lo sk I = some r
