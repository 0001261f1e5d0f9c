/-! every instruction is of one of three kinds, a call aside: so the limit does what the chain does -/
def pm_T1 (f : pm_G → pm_O) : Prop := (∀ G, f G = none) ∨ (∃ r, ∀ G, f G = some r) ∨ ∃ y d pc lo sk I, ∀ G, f G = G y d pc lo sk I
theorem pm_T1_none : pm_T1 (fun _ => none) := Or.inl (fun _ => rfl)
theorem pm_T1_some {r : Int × pm_I} : pm_T1 (fun _ => some r) := Or.inr (Or.inl ⟨r, fun _ => rfl⟩)
theorem pm_T1_go {y d pc : Nat} {lo : pm_L} {sk : List pm_V} {I : pm_I} : pm_T1 (fun G => G y d pc lo sk I) := Or.inr (Or.inr ⟨y, d, pc, lo, sk, I, fun _ => rfl⟩)
theorem pm_T1_ite {c : Prop} {h : Decidable c} {a b : pm_G → pm_O} (ha : pm_T1 a) (hb : pm_T1 b) : pm_T1 (fun G => @ite pm_O c h (a G) (b G)) := by
  by_cases hc : c
  · simpa only [if_pos hc] using ha
  · simpa only [if_neg hc] using hb
theorem pm_T1_cond {c : Bool} {a b : pm_G → pm_O} (ha : pm_T1 a) (hb : pm_T1 b) : pm_T1 (fun G => bif c then a G else b G) := by
  cases c
  · exact hb
  · exact ha
theorem pm_Ct_of {s : pm_S} (h : ∀ env y d lo sk I, pm_T1 (fun G => s env G y d lo sk I)) : pm_Ct s := by
  intro env F G hF hG y d lo sk I r
  rcases h env y d lo sk I with h | ⟨r0, h⟩ | ⟨y', d', pc', lo', sk', I', h⟩
  · have h1 : ∀ G, s env G y d lo sk I = none := h
    simp [h1]
  · have h1 : ∀ G, s env G y d lo sk I = some r0 := h
    simp [h1]
  · have h1 : ∀ G, s env G y d lo sk I = G y' d' pc' lo' sk' I' := h
    simp only [h1]
    exact hG _ _ _ _ _ _ _

theorem ct_push (n : Int) (nx : Nat) : pm_Ct (s_push n nx) := pm_Ct_of (fun env y d lo sk I => by
  unfold s_push
  first | exact pm_T1_go | exact pm_T1_none | exact pm_T1_some | skip
  all_goals split
  all_goals (repeat' (first | exact pm_T1_go | exact pm_T1_none | exact pm_T1_some | apply pm_T1_cond | apply pm_T1_ite)))

theorem ct_lpush (n : Int) (nx : Nat) : pm_Ct (s_lpush n nx) := pm_Ct_of (fun env y d lo sk I => by
  unfold s_lpush
  first | exact pm_T1_go | exact pm_T1_none | exact pm_T1_some | skip
  all_goals split
  all_goals (repeat' (first | exact pm_T1_go | exact pm_T1_none | exact pm_T1_some | apply pm_T1_cond | apply pm_T1_ite)))

theorem ct_iload (i nx : Nat) : pm_Ct (s_iload i nx) := pm_Ct_of (fun env y d lo sk I => by
  unfold s_iload
  first | exact pm_T1_go | exact pm_T1_none | exact pm_T1_some | skip
  all_goals split
  all_goals (repeat' (first | exact pm_T1_go | exact pm_T1_none | exact pm_T1_some | apply pm_T1_cond | apply pm_T1_ite)))

theorem ct_lload (i nx : Nat) : pm_Ct (s_lload i nx) := pm_Ct_of (fun env y d lo sk I => by
  unfold s_lload
  first | exact pm_T1_go | exact pm_T1_none | exact pm_T1_some | skip
  all_goals split
  all_goals (repeat' (first | exact pm_T1_go | exact pm_T1_none | exact pm_T1_some | apply pm_T1_cond | apply pm_T1_ite)))

theorem ct_aload (i nx : Nat) : pm_Ct (s_aload i nx) := pm_Ct_of (fun env y d lo sk I => by
  unfold s_aload
  first | exact pm_T1_go | exact pm_T1_none | exact pm_T1_some | skip
  all_goals split
  all_goals (repeat' (first | exact pm_T1_go | exact pm_T1_none | exact pm_T1_some | apply pm_T1_cond | apply pm_T1_ite)))

theorem ct_istore (i nx : Nat) : pm_Ct (s_istore i nx) := pm_Ct_of (fun env y d lo sk I => by
  unfold s_istore
  first | exact pm_T1_go | exact pm_T1_none | exact pm_T1_some | skip
  all_goals split
  all_goals (repeat' (first | exact pm_T1_go | exact pm_T1_none | exact pm_T1_some | apply pm_T1_cond | apply pm_T1_ite)))

theorem ct_lstore (i nx : Nat) : pm_Ct (s_lstore i nx) := pm_Ct_of (fun env y d lo sk I => by
  unfold s_lstore
  first | exact pm_T1_go | exact pm_T1_none | exact pm_T1_some | skip
  all_goals split
  all_goals (repeat' (first | exact pm_T1_go | exact pm_T1_none | exact pm_T1_some | apply pm_T1_cond | apply pm_T1_ite)))

theorem ct_astore (i nx : Nat) : pm_Ct (s_astore i nx) := pm_Ct_of (fun env y d lo sk I => by
  unfold s_astore
  first | exact pm_T1_go | exact pm_T1_none | exact pm_T1_some | skip
  all_goals split
  all_goals (repeat' (first | exact pm_T1_go | exact pm_T1_none | exact pm_T1_some | apply pm_T1_cond | apply pm_T1_ite)))

theorem ct_iinc (i : Nat) (k : Int) (nx : Nat) : pm_Ct (s_iinc i k nx) := pm_Ct_of (fun env y d lo sk I => by
  unfold s_iinc
  first | exact pm_T1_go | exact pm_T1_none | exact pm_T1_some | skip
  all_goals split
  all_goals (repeat' (first | exact pm_T1_go | exact pm_T1_none | exact pm_T1_some | apply pm_T1_cond | apply pm_T1_ite)))

theorem ct_iadd (nx : Nat) : pm_Ct (s_iadd nx) := pm_Ct_of (fun env y d lo sk I => by
  unfold s_iadd
  first | exact pm_T1_go | exact pm_T1_none | exact pm_T1_some | skip
  all_goals split
  all_goals (repeat' (first | exact pm_T1_go | exact pm_T1_none | exact pm_T1_some | apply pm_T1_cond | apply pm_T1_ite)))

theorem ct_isub (nx : Nat) : pm_Ct (s_isub nx) := pm_Ct_of (fun env y d lo sk I => by
  unfold s_isub
  first | exact pm_T1_go | exact pm_T1_none | exact pm_T1_some | skip
  all_goals split
  all_goals (repeat' (first | exact pm_T1_go | exact pm_T1_none | exact pm_T1_some | apply pm_T1_cond | apply pm_T1_ite)))

theorem ct_imul (nx : Nat) : pm_Ct (s_imul nx) := pm_Ct_of (fun env y d lo sk I => by
  unfold s_imul
  first | exact pm_T1_go | exact pm_T1_none | exact pm_T1_some | skip
  all_goals split
  all_goals (repeat' (first | exact pm_T1_go | exact pm_T1_none | exact pm_T1_some | apply pm_T1_cond | apply pm_T1_ite)))

theorem ct_idiv (nx : Nat) : pm_Ct (s_idiv nx) := pm_Ct_of (fun env y d lo sk I => by
  unfold s_idiv
  first | exact pm_T1_go | exact pm_T1_none | exact pm_T1_some | skip
  all_goals split
  all_goals (repeat' (first | exact pm_T1_go | exact pm_T1_none | exact pm_T1_some | apply pm_T1_cond | apply pm_T1_ite)))

theorem ct_irem (nx : Nat) : pm_Ct (s_irem nx) := pm_Ct_of (fun env y d lo sk I => by
  unfold s_irem
  first | exact pm_T1_go | exact pm_T1_none | exact pm_T1_some | skip
  all_goals split
  all_goals (repeat' (first | exact pm_T1_go | exact pm_T1_none | exact pm_T1_some | apply pm_T1_cond | apply pm_T1_ite)))

theorem ct_iand (nx : Nat) : pm_Ct (s_iand nx) := pm_Ct_of (fun env y d lo sk I => by
  unfold s_iand
  first | exact pm_T1_go | exact pm_T1_none | exact pm_T1_some | skip
  all_goals split
  all_goals (repeat' (first | exact pm_T1_go | exact pm_T1_none | exact pm_T1_some | apply pm_T1_cond | apply pm_T1_ite)))

theorem ct_ixor (nx : Nat) : pm_Ct (s_ixor nx) := pm_Ct_of (fun env y d lo sk I => by
  unfold s_ixor
  first | exact pm_T1_go | exact pm_T1_none | exact pm_T1_some | skip
  all_goals split
  all_goals (repeat' (first | exact pm_T1_go | exact pm_T1_none | exact pm_T1_some | apply pm_T1_cond | apply pm_T1_ite)))

theorem ct_ishl (nx : Nat) : pm_Ct (s_ishl nx) := pm_Ct_of (fun env y d lo sk I => by
  unfold s_ishl
  first | exact pm_T1_go | exact pm_T1_none | exact pm_T1_some | skip
  all_goals split
  all_goals (repeat' (first | exact pm_T1_go | exact pm_T1_none | exact pm_T1_some | apply pm_T1_cond | apply pm_T1_ite)))

theorem ct_ishr (nx : Nat) : pm_Ct (s_ishr nx) := pm_Ct_of (fun env y d lo sk I => by
  unfold s_ishr
  first | exact pm_T1_go | exact pm_T1_none | exact pm_T1_some | skip
  all_goals split
  all_goals (repeat' (first | exact pm_T1_go | exact pm_T1_none | exact pm_T1_some | apply pm_T1_cond | apply pm_T1_ite)))

theorem ct_i2b (nx : Nat) : pm_Ct (s_i2b nx) := pm_Ct_of (fun env y d lo sk I => by
  unfold s_i2b
  first | exact pm_T1_go | exact pm_T1_none | exact pm_T1_some | skip
  all_goals split
  all_goals (repeat' (first | exact pm_T1_go | exact pm_T1_none | exact pm_T1_some | apply pm_T1_cond | apply pm_T1_ite)))

theorem ct_i2s (nx : Nat) : pm_Ct (s_i2s nx) := pm_Ct_of (fun env y d lo sk I => by
  unfold s_i2s
  first | exact pm_T1_go | exact pm_T1_none | exact pm_T1_some | skip
  all_goals split
  all_goals (repeat' (first | exact pm_T1_go | exact pm_T1_none | exact pm_T1_some | apply pm_T1_cond | apply pm_T1_ite)))

theorem ct_i2l (nx : Nat) : pm_Ct (s_i2l nx) := pm_Ct_of (fun env y d lo sk I => by
  unfold s_i2l
  first | exact pm_T1_go | exact pm_T1_none | exact pm_T1_some | skip
  all_goals split
  all_goals (repeat' (first | exact pm_T1_go | exact pm_T1_none | exact pm_T1_some | apply pm_T1_cond | apply pm_T1_ite)))

theorem ct_ladd (nx : Nat) : pm_Ct (s_ladd nx) := pm_Ct_of (fun env y d lo sk I => by
  unfold s_ladd
  first | exact pm_T1_go | exact pm_T1_none | exact pm_T1_some | skip
  all_goals split
  all_goals (repeat' (first | exact pm_T1_go | exact pm_T1_none | exact pm_T1_some | apply pm_T1_cond | apply pm_T1_ite)))

theorem ct_lmul (nx : Nat) : pm_Ct (s_lmul nx) := pm_Ct_of (fun env y d lo sk I => by
  unfold s_lmul
  first | exact pm_T1_go | exact pm_T1_none | exact pm_T1_some | skip
  all_goals split
  all_goals (repeat' (first | exact pm_T1_go | exact pm_T1_none | exact pm_T1_some | apply pm_T1_cond | apply pm_T1_ite)))

theorem ct_ldiv (nx : Nat) : pm_Ct (s_ldiv nx) := pm_Ct_of (fun env y d lo sk I => by
  unfold s_ldiv
  first | exact pm_T1_go | exact pm_T1_none | exact pm_T1_some | skip
  all_goals split
  all_goals (repeat' (first | exact pm_T1_go | exact pm_T1_none | exact pm_T1_some | apply pm_T1_cond | apply pm_T1_ite)))

theorem ct_lrem (nx : Nat) : pm_Ct (s_lrem nx) := pm_Ct_of (fun env y d lo sk I => by
  unfold s_lrem
  first | exact pm_T1_go | exact pm_T1_none | exact pm_T1_some | skip
  all_goals split
  all_goals (repeat' (first | exact pm_T1_go | exact pm_T1_none | exact pm_T1_some | apply pm_T1_cond | apply pm_T1_ite)))

theorem ct_lcmp (nx : Nat) : pm_Ct (s_lcmp nx) := pm_Ct_of (fun env y d lo sk I => by
  unfold s_lcmp
  first | exact pm_T1_go | exact pm_T1_none | exact pm_T1_some | skip
  all_goals split
  all_goals (repeat' (first | exact pm_T1_go | exact pm_T1_none | exact pm_T1_some | apply pm_T1_cond | apply pm_T1_ite)))

theorem ct_dup (nx : Nat) : pm_Ct (s_dup nx) := pm_Ct_of (fun env y d lo sk I => by
  unfold s_dup
  first | exact pm_T1_go | exact pm_T1_none | exact pm_T1_some | skip
  all_goals split
  all_goals (repeat' (first | exact pm_T1_go | exact pm_T1_none | exact pm_T1_some | apply pm_T1_cond | apply pm_T1_ite)))

theorem ct_dup2 (nx : Nat) : pm_Ct (s_dup2 nx) := pm_Ct_of (fun env y d lo sk I => by
  unfold s_dup2
  first | exact pm_T1_go | exact pm_T1_none | exact pm_T1_some | skip
  all_goals split
  all_goals (repeat' (first | exact pm_T1_go | exact pm_T1_none | exact pm_T1_some | apply pm_T1_cond | apply pm_T1_ite)))

theorem ct_units (nx : Nat) : pm_Ct (s_units nx) := pm_Ct_of (fun env y d lo sk I => by
  unfold s_units
  first | exact pm_T1_go | exact pm_T1_none | exact pm_T1_some | skip
  all_goals split
  all_goals (repeat' (first | exact pm_T1_go | exact pm_T1_none | exact pm_T1_some | apply pm_T1_cond | apply pm_T1_ite)))

theorem ct_iald (nx : Nat) : pm_Ct (s_iald nx) := pm_Ct_of (fun env y d lo sk I => by
  unfold s_iald
  first | exact pm_T1_go | exact pm_T1_none | exact pm_T1_some | skip
  all_goals split
  all_goals (repeat' (first | exact pm_T1_go | exact pm_T1_none | exact pm_T1_some | apply pm_T1_cond | apply pm_T1_ite)))

theorem ct_zald (nx : Nat) : pm_Ct (s_zald nx) := pm_Ct_of (fun env y d lo sk I => by
  unfold s_zald
  first | exact pm_T1_go | exact pm_T1_none | exact pm_T1_some | skip
  all_goals split
  all_goals (repeat' (first | exact pm_T1_go | exact pm_T1_none | exact pm_T1_some | apply pm_T1_cond | apply pm_T1_ite)))

theorem ct_aald (nx : Nat) : pm_Ct (s_aald nx) := pm_Ct_of (fun env y d lo sk I => by
  unfold s_aald
  first | exact pm_T1_go | exact pm_T1_none | exact pm_T1_some | skip
  all_goals split
  all_goals (repeat' (first | exact pm_T1_go | exact pm_T1_none | exact pm_T1_some | apply pm_T1_cond | apply pm_T1_ite)))

theorem ct_iast (nx : Nat) : pm_Ct (s_iast nx) := pm_Ct_of (fun env y d lo sk I => by
  unfold s_iast
  first | exact pm_T1_go | exact pm_T1_none | exact pm_T1_some | skip
  all_goals split
  all_goals (repeat' (first | exact pm_T1_go | exact pm_T1_none | exact pm_T1_some | apply pm_T1_cond | apply pm_T1_ite)))

theorem ct_zast (nx : Nat) : pm_Ct (s_zast nx) := pm_Ct_of (fun env y d lo sk I => by
  unfold s_zast
  first | exact pm_T1_go | exact pm_T1_none | exact pm_T1_some | skip
  all_goals split
  all_goals (repeat' (first | exact pm_T1_go | exact pm_T1_none | exact pm_T1_some | apply pm_T1_cond | apply pm_T1_ite)))

theorem ct_alen (nx : Nat) : pm_Ct (s_alen nx) := pm_Ct_of (fun env y d lo sk I => by
  unfold s_alen
  first | exact pm_T1_go | exact pm_T1_none | exact pm_T1_some | skip
  all_goals split
  all_goals (repeat' (first | exact pm_T1_go | exact pm_T1_none | exact pm_T1_some | apply pm_T1_cond | apply pm_T1_ite)))

theorem ct_min (nx : Nat) : pm_Ct (s_min nx) := pm_Ct_of (fun env y d lo sk I => by
  unfold s_min
  first | exact pm_T1_go | exact pm_T1_none | exact pm_T1_some | skip
  all_goals split
  all_goals (repeat' (first | exact pm_T1_go | exact pm_T1_none | exact pm_T1_some | apply pm_T1_cond | apply pm_T1_ite)))

theorem ct_max (nx : Nat) : pm_Ct (s_max nx) := pm_Ct_of (fun env y d lo sk I => by
  unfold s_max
  first | exact pm_T1_go | exact pm_T1_none | exact pm_T1_some | skip
  all_goals split
  all_goals (repeat' (first | exact pm_T1_go | exact pm_T1_none | exact pm_T1_some | apply pm_T1_cond | apply pm_T1_ite)))

theorem ct_copy (nx : Nat) : pm_Ct (s_copy nx) := pm_Ct_of (fun env y d lo sk I => by
  unfold s_copy
  first | exact pm_T1_go | exact pm_T1_none | exact pm_T1_some | skip
  all_goals split
  all_goals (repeat' (first | exact pm_T1_go | exact pm_T1_none | exact pm_T1_some | apply pm_T1_cond | apply pm_T1_ite)))

theorem ct_ifeq (tg nx : Nat) : pm_Ct (s_ifeq tg nx) := pm_Ct_of (fun env y d lo sk I => by
  unfold s_ifeq
  first | exact pm_T1_go | exact pm_T1_none | exact pm_T1_some | skip
  all_goals split
  all_goals (repeat' (first | exact pm_T1_go | exact pm_T1_none | exact pm_T1_some | apply pm_T1_cond | apply pm_T1_ite)))

theorem ct_ifne (tg nx : Nat) : pm_Ct (s_ifne tg nx) := pm_Ct_of (fun env y d lo sk I => by
  unfold s_ifne
  first | exact pm_T1_go | exact pm_T1_none | exact pm_T1_some | skip
  all_goals split
  all_goals (repeat' (first | exact pm_T1_go | exact pm_T1_none | exact pm_T1_some | apply pm_T1_cond | apply pm_T1_ite)))

theorem ct_iflt (tg nx : Nat) : pm_Ct (s_iflt tg nx) := pm_Ct_of (fun env y d lo sk I => by
  unfold s_iflt
  first | exact pm_T1_go | exact pm_T1_none | exact pm_T1_some | skip
  all_goals split
  all_goals (repeat' (first | exact pm_T1_go | exact pm_T1_none | exact pm_T1_some | apply pm_T1_cond | apply pm_T1_ite)))

theorem ct_ifge (tg nx : Nat) : pm_Ct (s_ifge tg nx) := pm_Ct_of (fun env y d lo sk I => by
  unfold s_ifge
  first | exact pm_T1_go | exact pm_T1_none | exact pm_T1_some | skip
  all_goals split
  all_goals (repeat' (first | exact pm_T1_go | exact pm_T1_none | exact pm_T1_some | apply pm_T1_cond | apply pm_T1_ite)))

theorem ct_ifgt (tg nx : Nat) : pm_Ct (s_ifgt tg nx) := pm_Ct_of (fun env y d lo sk I => by
  unfold s_ifgt
  first | exact pm_T1_go | exact pm_T1_none | exact pm_T1_some | skip
  all_goals split
  all_goals (repeat' (first | exact pm_T1_go | exact pm_T1_none | exact pm_T1_some | apply pm_T1_cond | apply pm_T1_ite)))

theorem ct_ifle (tg nx : Nat) : pm_Ct (s_ifle tg nx) := pm_Ct_of (fun env y d lo sk I => by
  unfold s_ifle
  first | exact pm_T1_go | exact pm_T1_none | exact pm_T1_some | skip
  all_goals split
  all_goals (repeat' (first | exact pm_T1_go | exact pm_T1_none | exact pm_T1_some | apply pm_T1_cond | apply pm_T1_ite)))

theorem ct_ceq (tg nx : Nat) : pm_Ct (s_ceq tg nx) := pm_Ct_of (fun env y d lo sk I => by
  unfold s_ceq
  first | exact pm_T1_go | exact pm_T1_none | exact pm_T1_some | skip
  all_goals split
  all_goals (repeat' (first | exact pm_T1_go | exact pm_T1_none | exact pm_T1_some | apply pm_T1_cond | apply pm_T1_ite)))

theorem ct_cne (tg nx : Nat) : pm_Ct (s_cne tg nx) := pm_Ct_of (fun env y d lo sk I => by
  unfold s_cne
  first | exact pm_T1_go | exact pm_T1_none | exact pm_T1_some | skip
  all_goals split
  all_goals (repeat' (first | exact pm_T1_go | exact pm_T1_none | exact pm_T1_some | apply pm_T1_cond | apply pm_T1_ite)))

theorem ct_clt (tg nx : Nat) : pm_Ct (s_clt tg nx) := pm_Ct_of (fun env y d lo sk I => by
  unfold s_clt
  first | exact pm_T1_go | exact pm_T1_none | exact pm_T1_some | skip
  all_goals split
  all_goals (repeat' (first | exact pm_T1_go | exact pm_T1_none | exact pm_T1_some | apply pm_T1_cond | apply pm_T1_ite)))

theorem ct_cge (tg nx : Nat) : pm_Ct (s_cge tg nx) := pm_Ct_of (fun env y d lo sk I => by
  unfold s_cge
  first | exact pm_T1_go | exact pm_T1_none | exact pm_T1_some | skip
  all_goals split
  all_goals (repeat' (first | exact pm_T1_go | exact pm_T1_none | exact pm_T1_some | apply pm_T1_cond | apply pm_T1_ite)))

theorem ct_cgt (tg nx : Nat) : pm_Ct (s_cgt tg nx) := pm_Ct_of (fun env y d lo sk I => by
  unfold s_cgt
  first | exact pm_T1_go | exact pm_T1_none | exact pm_T1_some | skip
  all_goals split
  all_goals (repeat' (first | exact pm_T1_go | exact pm_T1_none | exact pm_T1_some | apply pm_T1_cond | apply pm_T1_ite)))

theorem ct_cle (tg nx : Nat) : pm_Ct (s_cle tg nx) := pm_Ct_of (fun env y d lo sk I => by
  unfold s_cle
  first | exact pm_T1_go | exact pm_T1_none | exact pm_T1_some | skip
  all_goals split
  all_goals (repeat' (first | exact pm_T1_go | exact pm_T1_none | exact pm_T1_some | apply pm_T1_cond | apply pm_T1_ite)))

theorem ct_goto (tg : Nat) : pm_Ct (s_goto tg) := pm_Ct_of (fun env y d lo sk I => by
  unfold s_goto
  first | exact pm_T1_go | exact pm_T1_none | exact pm_T1_some | skip
  all_goals split
  all_goals (repeat' (first | exact pm_T1_go | exact pm_T1_none | exact pm_T1_some | apply pm_T1_cond | apply pm_T1_ite)))

theorem ct_getI (ci : Nat) (k : Int) (nx : Nat) : pm_Ct (s_getI ci k nx) := pm_Ct_of (fun env y d lo sk I => by
  unfold s_getI
  first | exact pm_T1_go | exact pm_T1_none | exact pm_T1_some | skip
  all_goals split
  all_goals (repeat' (first | exact pm_T1_go | exact pm_T1_none | exact pm_T1_some | apply pm_T1_cond | apply pm_T1_ite)))

theorem ct_getR (ci k nx : Nat) : pm_Ct (s_getR ci k nx) := pm_Ct_of (fun env y d lo sk I => by
  unfold s_getR
  first | exact pm_T1_go | exact pm_T1_none | exact pm_T1_some | skip
  all_goals split
  all_goals (repeat' (first | exact pm_T1_go | exact pm_T1_none | exact pm_T1_some | apply pm_T1_cond | apply pm_T1_ite)))

theorem ct_putI (ci : Nat) (k : Int) (nx : Nat) : pm_Ct (s_putI ci k nx) := pm_Ct_of (fun env y d lo sk I => by
  unfold s_putI
  first | exact pm_T1_go | exact pm_T1_none | exact pm_T1_some | skip
  all_goals split
  all_goals (repeat' (first | exact pm_T1_go | exact pm_T1_none | exact pm_T1_some | apply pm_T1_cond | apply pm_T1_ite)))

theorem ct_putZ (ci : Nat) (k : Int) (nx : Nat) : pm_Ct (s_putZ ci k nx) := pm_Ct_of (fun env y d lo sk I => by
  unfold s_putZ
  first | exact pm_T1_go | exact pm_T1_none | exact pm_T1_some | skip
  all_goals split
  all_goals (repeat' (first | exact pm_T1_go | exact pm_T1_none | exact pm_T1_some | apply pm_T1_cond | apply pm_T1_ite)))

theorem ct_bad  : pm_Ct (s_bad) := pm_Ct_of (fun env y d lo sk I => by
  unfold s_bad
  first | exact pm_T1_go | exact pm_T1_none | exact pm_T1_some | skip
  all_goals split
  all_goals (repeat' (first | exact pm_T1_go | exact pm_T1_none | exact pm_T1_some | apply pm_T1_cond | apply pm_T1_ite)))

theorem ct_iret  : pm_Ct (s_iret) := pm_Ct_of (fun env y d lo sk I => by
  unfold s_iret
  first | exact pm_T1_go | exact pm_T1_none | exact pm_T1_some | skip
  all_goals split
  all_goals (repeat' (first | exact pm_T1_go | exact pm_T1_none | exact pm_T1_some | apply pm_T1_cond | apply pm_T1_ite)))

theorem ct_zret  : pm_Ct (s_zret) := pm_Ct_of (fun env y d lo sk I => by
  unfold s_zret
  first | exact pm_T1_go | exact pm_T1_none | exact pm_T1_some | skip
  all_goals split
  all_goals (repeat' (first | exact pm_T1_go | exact pm_T1_none | exact pm_T1_some | apply pm_T1_cond | apply pm_T1_ite)))

theorem ct_lret  : pm_Ct (s_lret) := pm_Ct_of (fun env y d lo sk I => by
  unfold s_lret
  first | exact pm_T1_go | exact pm_T1_none | exact pm_T1_some | skip
  all_goals split
  all_goals (repeat' (first | exact pm_T1_go | exact pm_T1_none | exact pm_T1_some | apply pm_T1_cond | apply pm_T1_ite)))

theorem ct_vret  : pm_Ct (s_vret) := pm_Ct_of (fun env y d lo sk I => by
  unfold s_vret
  first | exact pm_T1_go | exact pm_T1_none | exact pm_T1_some | skip
  all_goals split
  all_goals (repeat' (first | exact pm_T1_go | exact pm_T1_none | exact pm_T1_some | apply pm_T1_cond | apply pm_T1_ite)))

theorem pm_T1_swt {x : Int} {df : Nat} {k : pm_G → Nat → pm_O} (hk : ∀ t, pm_T1 (fun G => k G t)) : ∀ ts : List (Int × Nat), pm_T1 (fun G => pm_swt x df (k G) ts)
  | [] => hk df
  | (c, t) :: ts => pm_T1_ite (hk t) (pm_T1_swt hk ts)
theorem ct_switch (ts : List (Int × Nat)) (df : Nat) : pm_Ct (s_switch ts df) := pm_Ct_of (fun env y d lo sk I => by
  unfold s_switch
  split
  · exact pm_T1_swt (fun t => pm_T1_go) ts
  · exact pm_T1_none)
theorem ct_call (m n w nl rc rt : Nat) (rk : List pm_V → Nat) (nx : Nat) : pm_Ct (s_call m n w nl rc rt rk nx) := by
  intro env F G hF hG y d lo sk I r
  unfold s_call
  cases pm_pop n sk [] with
  | none => simp
  | some q =>
    obtain ⟨av, t⟩ := q
    dsimp only
    cases pm_rc env rc av with
    | false => simp
    | true =>
      cases (Nat.blt (rk av) d && Nat.ble (pm_wd t) 8 && Nat.beq (pm_wd av) w) with
      | false => simp
      | true =>
        dsimp only [cond_true]
        constructor
        · intro h
          obtain ⟨x, h1, h2⟩ := Option.bind_eq_some_iff.mp h
          obtain ⟨i, hi⟩ := (hG _ _ _ _ _ _ _).mp h1
          obtain ⟨j, hj⟩ := (hG _ _ _ _ _ _ _).mp h2
          refine ⟨max i j, Option.bind_eq_some_iff.mpr ⟨x, hF i _ (Nat.le_max_left i j) _ _ _ _ _ _ _ hi, hF j _ (Nat.le_max_right i j) _ _ _ _ _ _ _ hj⟩⟩
        · rintro ⟨i, h⟩
          obtain ⟨x, h1, h2⟩ := Option.bind_eq_some_iff.mp h
          exact Option.bind_eq_some_iff.mpr ⟨x, (hG _ _ _ _ _ _ _).mpr ⟨i, h1⟩, (hG _ _ _ _ _ _ _).mpr ⟨i, h2⟩⟩
theorem ct_tn {p : Nat} {a b : Nat → pm_S} (ha : ∀ pc, pm_Ct (a pc)) (hb : ∀ pc, pm_Ct (b pc)) (pc : Nat) : pm_Ct (pm_tn p a b pc) := by
  unfold pm_tn
  cases Nat.ble p pc with
  | false => exact ha pc
  | true => exact hb pc
theorem ct_tl {p : Nat} {s : pm_S} (h : pm_Ct s) (pc : Nat) : pm_Ct (pm_tl p s pc) := by
  unfold pm_tl
  cases Nat.beq pc p with
  | false => exact ct_bad
  | true => exact h
section PMLIM
variable {T : Nat → Nat → pm_S} (hT : ∀ y pc, pm_Ct (T y pc)) (env : pm_E)
/-- more steps, no other answer -/
theorem pm_mono1 (hT : ∀ y pc, pm_Ct (T y pc)) (env : pm_E) : ∀ n, pm_le (pm_run T env n) (pm_run T env (n + 1))
  | 0 => fun _ _ _ _ _ _ _ h => by cases h
  | n + 1 => fun y d pc lo sk I r h => by
    have ih := pm_mono1 hT env n
    have h1 : T y pc env (pm_run T env n) y d lo sk I = some r := h
    show T y pc env (pm_run T env (n + 1)) y d lo sk I = some r
    refine (hT y pc env (fun i => if i = 0 then pm_run T env n else pm_run T env (n + 1)) (pm_run T env (n + 1)) ?_ ?_ y d lo sk I r).mpr ⟨0, by simpa using h1⟩
    · intro i j hij
      by_cases hi : i = 0
      · by_cases hj : j = 0
        · simp only [hi, hj]; exact fun _ _ _ _ _ _ _ q => q
        · simp only [hi, hj, if_true, if_false]; exact ih
      · have hj : ¬ j = 0 := by omega
        simp only [hi, hj, if_false]; exact fun _ _ _ _ _ _ _ q => q
    · intro y d pc lo sk I r
      constructor
      · intro q; exact ⟨1, by simpa using q⟩
      · rintro ⟨i, q⟩
        by_cases hi : i = 0
        · simp only [hi, if_true] at q; exact ih _ _ _ _ _ _ _ q
        · simp only [hi, if_false] at q; exact q
theorem pm_mono (hT : ∀ y pc, pm_Ct (T y pc)) (env : pm_E) (i j : Nat) (h : i ≤ j) : pm_le (pm_run T env i) (pm_run T env j) := by
  induction j with
  | zero => rw [show i = 0 by omega]; exact fun _ _ _ _ _ _ _ q => q
  | succ j ih =>
    by_cases e : i = j + 1
    · subst e; exact fun _ _ _ _ _ _ _ q => q
    · exact fun y d pc lo sk I r q => pm_mono1 hT env j _ _ _ _ _ _ _ (ih (by omega) _ _ _ _ _ _ _ q)
noncomputable def pm_lim (F : Nat → pm_O) : pm_O := @dite pm_O (∃ r n, F n = some r) (Classical.propDecidable _) (fun h => some h.choose) (fun _ => none)
theorem pm_lim_iff {F : Nat → pm_O} (hF : ∀ i j r, i ≤ j → F i = some r → F j = some r) (r : Int × pm_I) : pm_lim F = some r ↔ ∃ n, F n = some r := by
  unfold pm_lim
  by_cases h : ∃ r n, F n = some r
  · rw [dif_pos h]
    obtain ⟨n, hn⟩ := h.choose_spec
    constructor
    · intro e
      exact ⟨n, by rw [hn]; exact e⟩
    · rintro ⟨k, hk⟩
      rcases Nat.le_total n k with q | q
      · rw [hF n k _ q hn] at hk; exact hk
      · rw [hF k n _ q hk] at hn; exact hn.symm
  · rw [dif_neg h]
    constructor
    · intro e; cases e
    · rintro ⟨k, hk⟩; exact absurd ⟨r, k, hk⟩ h
/-- the machine without a count of steps -/
noncomputable def pm_X (T : Nat → Nat → pm_S) (env : pm_E) : pm_G := fun y d pc lo sk I => pm_lim (fun n => pm_run T env n y d pc lo sk I)
theorem pm_X_iff {T : Nat → Nat → pm_S} (hT : ∀ y pc, pm_Ct (T y pc)) (env : pm_E) (y d pc : Nat) (lo : pm_L) (sk : List pm_V) (I : pm_I) (r : Int × pm_I) : pm_X T env y d pc lo sk I = some r ↔ ∃ n, pm_run T env n y d pc lo sk I = some r :=
  pm_lim_iff (fun i j r h q => pm_mono hT env i j h _ _ _ _ _ _ _ q) r
/-- one step of it -/
theorem pm_X_step {T : Nat → Nat → pm_S} (hT : ∀ y pc, pm_Ct (T y pc)) (env : pm_E) (y d pc : Nat) (lo : pm_L) (sk : List pm_V) (I : pm_I) : pm_X T env y d pc lo sk I = T y pc env (pm_X T env) y d lo sk I := by
  apply Option.ext
  intro r
  rw [hT y pc env (pm_run T env) (pm_X T env) (pm_mono hT env) (fun y d pc lo sk I r => pm_X_iff hT env y d pc lo sk I r), pm_X_iff hT]
  constructor
  · rintro ⟨n, h⟩
    cases n with
    | zero => cases h
    | succ n => exact ⟨n, h⟩
  · rintro ⟨n, h⟩
    exact ⟨n + 1, h⟩
/-- a stretch of a method y0, up to the places cs -/
noncomputable def pm_U (T : Nat → Nat → pm_S) (env : pm_E) (y0 : Nat) (cs : List Nat) : Nat → pm_G
  | 0 => pm_X T env
  | n + 1 => fun y d pc lo sk I => bif Nat.beq y y0 && !(cs.any (fun c => Nat.beq c pc)) then T y pc env (pm_U T env y0 cs n) y d lo sk I else pm_X T env y d pc lo sk I
theorem pm_U_eq {T : Nat → Nat → pm_S} (hT : ∀ y pc, pm_Ct (T y pc)) (env : pm_E) (y0 : Nat) (cs : List Nat) : ∀ n, pm_U T env y0 cs n = pm_X T env
  | 0 => rfl
  | n + 1 => by
    funext y d pc lo sk I
    unfold pm_U
    rw [pm_U_eq hT env y0 cs n]
    cases (Nat.beq y y0 && !(cs.any (fun c => Nat.beq c pc))) with
    | true => exact (pm_X_step hT env y d pc lo sk I).symm
    | false => rfl
theorem pm_seg {T : Nat → Nat → pm_S} (hT : ∀ y pc, pm_Ct (T y pc)) (env : pm_E) (cs : List Nat) (n : Nat) (y d pc : Nat) (lo : pm_L) (sk : List pm_V) (I : pm_I) : pm_X T env y d pc lo sk I = T y pc env (pm_U T env y cs n) y d lo sk I := by
  rw [pm_U_eq hT]
  exact pm_X_step hT env y d pc lo sk I
end PMLIM
