/-! ROWS FOR THE CONSTRUCTORS -/
abbrev ct_T (τ : ClassId × ClassId × ClassId × ClassId × ClassId) : List (ClassId × FieldType) := [(τ.1, .int), (τ.2.1, .boolean), (τ.2.2.1, .object RX3), (τ.2.2.2.1, .object RX5), (τ.2.2.2.2, .array .int)]
abbrev ct_I (τ : ClassId × ClassId × ClassId × ClassId × ClassId) (n : Nat) : va_E := .inl (τ.1, n, .inl (fun _ => 0))
abbrev ct_Z (τ : ClassId × ClassId × ClassId × ClassId × ClassId) (n : Nat) : va_E := .inl (τ.2.1, n, .inl (fun _ => 0))
abbrev ct_A (τ : ClassId × ClassId × ClassId × ClassId × ClassId) (n : Nat) (f : Nat → Option Nat) : va_E := .inl (τ.2.2.2.2, n, .inr (.inr (.inr (.inr f))))
abbrev ct_V (τ : ClassId × ClassId × ClassId × ClassId × ClassId) (n : Nat) (f : Nat → Option Nat) : va_E := .inl (τ.2.2.2.1, n, .inr (.inr (.inr (.inr f))))
abbrev ct_S (τ : ClassId × ClassId × ClassId × ClassId × ClassId) (n : Nat) (f : Nat → Option Nat) : va_E := .inl (τ.2.2.1, n, .inr (.inr (.inr (.inr f))))
def ct_AA (U : State) : Prop := (Cond.arrayOver (.array .int)).before #[] U = true
theorem ct_AA.moved {u U : State} (hvm : u.vm.Alike U.vm) (h : ct_AA u) : ct_AA U := by
  obtain ⟨comp, c, k, h1, h2, h3, h4, h5⟩ := arrayOverA_spec h
  obtain ⟨k', hk', he⟩ := hvm.2.2 _ _ h3
  have hi := (hvm.findIdx?_eqK _ (fun _ => rfl)).trans h2
  have hkind : k'.kind = .array comp (.array .int) := by rw [he]; exact h4
  have f1 : U.vm.findClass (FieldType.array .int).toString = some comp := by rw [hvm.findClass]; exact h1
  have f2 : U.vm.findClass ("[" ++ (FieldType.array .int).toString) = some c := by rw [hvm.findClass]; exact h5
  unfold ct_AA Cond.before Cond.holds
  simp only [Cond.value]
  rw [f1, Option.bind_some]
  refine (congrArg (fun o : Option Nat => (o.bind (fun c => (U.vm.classes[c]?).map fun (k : Class) => match k.kind with | .array _ ty => decide (ty = FieldType.array .int) && decide (U.vm.findClass ("[" ++ (FieldType.array .int).toString) = some c) | _ => false) == some true)) hi).trans ?_
  simp [hk', hkind, f2]
theorem w_arI : Cond.arrayClass .int ∈ pm_TB := pm_TB_at 125 (by decide +kernel) (by decide +kernel)
theorem w_arZ : Cond.arrayClass .boolean ∈ pm_TB := pm_TB_at 171 (by decide +kernel) (by decide +kernel)
/-- a field that holds a reference, written once by the constructor -/
def pm_FR (own : String) (idx ci k : Nat) : Prop := ∃ (C : String) (T : u_T) (N : Nat) (ty0 : Nat → FieldType) (ty : FieldType), vwCl[ci]? = some (C, T, N) ∧ k < N ∧ (∀ w ∈ u_ws C T N, w ∈ pm_TB) ∧ Cond.fieldLink own idx (T k).1 (T k).2.1 (T k).2.2.1 ∈ pm_TB ∧
  (∀ k, k < N → parseFieldDescriptor (T k).2.2.1 = some (ty0 k)) ∧ (∀ a, a < N → ∀ b, b < N → a ≠ b → (T a).2.1 ≠ (T b).2.1) ∧ (T k).2.2.2 = true ∧ (T k).1 = own ∧ parseFieldDescriptor (T k).2.2.1 = some ty ∧ ∀ a : Nat, narrow ty (.ref a) = .ref a ∧ fits ty (.ref a) = true
section CTR
variable {p : Program} {l : Launch} {e : Env} {R : Room} {s : State} {m : MethodId} {args : Array Value} {below : List Frame} {meth : Method} {c : Code} {H H0 : Heap} {locs : List Loc} {cells slots : Nat} {Q : State → Prop}
variable {cc : ByteArray} {pc : Nat} {ls : Array Slot} {rest : List Value} {D : va_G} {A : Nat → Prop} {ws : va_W} {τ : ClassId × ClassId × ClassId × ClassId × ClassId}
theorem z_newI (hexec : p.tables.exec = Jvm.exec) (hb : c.code = cc) (hts : ∀ w ∈ pm_TB, w.before args s = true) (hK : va_K D vwCl (ct_T τ) s) (hP : va_P D vwCl ws H) (hD : va_D A ws) (hS : va_S A H0 H locs) (hA : ∀ q, H0.size ≤ q → A q) {n : Int32} {N : Nat} (hn : ¬ n < 0) (hN : n.toNatClampNeg = N) (N9 : N ≤ 1000) (hcells : cells + 1 ≤ R.cells) (hslots : slots + N ≤ R.slots) (hdg : decode cc pc = .ok (.newarray .int, 2))
    (kk : ∀ (q : Nat) (H1 : Heap), va_P D vwCl (ws ++ [(q, ct_I τ N)]) H1 → va_D A (ws ++ [(q, ct_I τ N)]) → va_S A H0 H1 locs → W p l e R s m args below meth c H1 locs (cells + 1) (slots + N) Q (F0 m (pc + 2) ls (.ref q :: rest))) : W p l e R s m args below meth c H locs cells slots Q (F0 m pc ls (.int n :: rest)) := by
  have harr : (Cond.arrayClass (newarray.typeOf .int)).before args s = true := hts _ w_arI
  refine va_newa (ty := .int) (a0 := (N, .inl (fun _ => 0))) (atype := .int) hexec hb harr rfl hK hP hD hS hA (fun _ => rfl) hn hN (by show N * 4 ≤ _; omega) hcells hslots hdg (fun q cA H1 k1 k2 k3 k4 => ?_)
  have e1 : s.vm.findClass "[I" = some τ.1 := (hK.2 0 _ rfl).2
  have e2 : s.vm.findClass "[I" = some cA := (k1.2 5 _ rfl).2
  rw [e1] at e2
  cases e2
  exact kk q H1 k2 k3 k4
theorem z_newZ (hexec : p.tables.exec = Jvm.exec) (hb : c.code = cc) (hts : ∀ w ∈ pm_TB, w.before args s = true) (hK : va_K D vwCl (ct_T τ) s) (hP : va_P D vwCl ws H) (hD : va_D A ws) (hS : va_S A H0 H locs) (hA : ∀ q, H0.size ≤ q → A q) {n : Int32} {N : Nat} (hn : ¬ n < 0) (hN : n.toNatClampNeg = N) (N9 : N ≤ 1000) (hcells : cells + 1 ≤ R.cells) (hslots : slots + N ≤ R.slots) (hdg : decode cc pc = .ok (.newarray .boolean, 2))
    (kk : ∀ (q : Nat) (H1 : Heap), va_P D vwCl (ws ++ [(q, ct_Z τ N)]) H1 → va_D A (ws ++ [(q, ct_Z τ N)]) → va_S A H0 H1 locs → W p l e R s m args below meth c H1 locs (cells + 1) (slots + N) Q (F0 m (pc + 2) ls (.ref q :: rest))) : W p l e R s m args below meth c H locs cells slots Q (F0 m pc ls (.int n :: rest)) := by
  have harr : (Cond.arrayClass (newarray.typeOf .boolean)).before args s = true := hts _ w_arZ
  refine va_newa (ty := .boolean) (a0 := (N, .inl (fun _ => 0))) (atype := .boolean) hexec hb harr rfl hK hP hD hS hA (fun _ => rfl) hn hN (by show N * 1 ≤ _; omega) hcells hslots hdg (fun q cA H1 k1 k2 k3 k4 => ?_)
  have e1 : s.vm.findClass "[Z" = some τ.2.1 := (hK.2 1 _ rfl).2
  have e2 : s.vm.findClass "[Z" = some cA := (k1.2 5 _ rfl).2
  rw [e1] at e2
  cases e2
  exact kk q H1 k2 k3 k4
theorem z_putR {own : String} {idx ci k : Nat} (hexec : p.tables.exec = Jvm.exec) (hb : c.code = cc) (hts : ∀ w ∈ pm_TB, w.before args s = true) (hown : s.vm.findClass own = some m.cls) (hin : meth.name = "<init>") (hF : pm_FR own idx ci k) (hK : va_K D vwCl (ct_T τ) s) (hP : va_P D vwCl ws H) (hD : va_D A ws) (hS : va_S A H0 H locs) (q0 : Nat) {a v : Nat} {fs : List Value} (he : ws[q0]? = some (a, .inr (ci, fs))) (hl : k < fs.length) (hdg : decode cc pc = .ok (.putfield idx, 3))
    (kk : ∀ (H1 : Heap) (locs1 : List Loc), va_P D vwCl (ws.set q0 (a, .inr (ci, fs.set k (.ref v)))) H1 → va_D A (ws.set q0 (a, .inr (ci, fs.set k (.ref v)))) → va_S A H0 H1 locs1 → W p l e R s m args below meth c H1 locs1 cells slots Q (F0 m (pc + 3) ls rest)) : W p l e R s m args below meth c H locs cells slots Q (F0 m pc ls (.ref v :: .ref a :: rest)) := by
  obtain ⟨C, T, N, ty0, ty, f1, f2, f3, f4, f5, f6, f7, f8, f9, f10⟩ := hF
  exact va_putF (D := D) (ci := ci) (v := .ref v) (ty := ty) (C := C) (T := T) (N := N) hexec hb hts f3 ty0 f5 f6 hown hK hP hD hS q0 he f1 k f2 (hts _ f4) (fun _ h9 => h9) f7 hin f8 f9 (f10 v).1 (f10 v).2 hl hdg (fun H1 locs1 g1 g2 g3 => kk H1 locs1 g1 g2 g3)
theorem z_new {own C : String} {T : u_T} {N ci index : Nat} (hexec : p.tables.exec = Jvm.exec) (hb : c.code = cc) (hts : ∀ w ∈ pm_TB, w.before args s = true) (hin : ∀ w ∈ u_ws C T N, w ∈ pm_TB) (ty : Nat → FieldType) (hty : ∀ k, k < N → parseFieldDescriptor (T k).2.2.1 = some (ty k)) (hown : s.vm.findClass own = some m.cls) (hcl : Cond.classLink own index C ∈ pm_TB) (hinst : Cond.instantiable C N ∈ pm_TB) (hini : Cond.initialized C ∈ pm_TB)
    (hK : va_K D vwCl (ct_T τ) s) (hP : va_P D vwCl ws H) (hD : va_D A ws) (hS : va_S A H0 H locs) (hA : ∀ q, H0.size ≤ q → A q) (hc : vwCl[ci]? = some (C, T, N)) {fs : List Value} (hfs : ∀ j, j < N → defaultValue (ty j) = vp_V fs j) (hcells : cells + 1 ≤ R.cells) (hslots : slots + N ≤ R.slots) (hdg : decode cc pc = .ok (.new index, 3))
    (kk : ∀ (q : Nat) (H1 : Heap), q = H.size → H1.size = q + 1 → va_P D vwCl (ws ++ [(q, .inr (ci, fs))]) H1 → va_D A (ws ++ [(q, .inr (ci, fs))]) → va_S A H0 H1 locs →
      W p l e R s m args below meth c H1 locs (cells + 1) (slots + N) Q (F0 m (pc + 3) ls (.ref q :: rest))) : W p l e R s m args below meth c H locs cells slots Q (F0 m pc ls rest) := by
  have hKn := hK.1 ci _ hc
  refine W.newcK hexec hb hown (hts _ hcl) (hts _ hinst) (hts _ hini) rfl hdg hcells hslots hKn.2.1 rfl fun H1 kC hkC e1 z1 o1 => ?_
  have hk : ∀ (k : Nat) (x : Nat × va_E), ws[k]? = some x → H1[x.1]? = H[x.1]? := fun k x hx => o1 x.1 ((hP k x hx).lt)
  refine kk H.size H1 rfl z1 ((hP.kept hk).app (fun k x hx => ?_)) (hD.push hP rfl (hA _ hS.1)) ⟨Nat.le_trans hS.1 (by omega), fun x h1 h2 => (o1 x (Nat.lt_of_lt_of_le h1 hS.1)).trans (hS.2.1 x h1 h2), hS.2.2⟩
  have hz : k < 1 := (List.getElem?_eq_some_iff.mp hx).1
  rw [show k = 0 by omega] at hx
  cases hx
  exact ⟨_, hc, (u_born ty hts hin hKn hkC e1 hty).to hfs⟩
/-- the rows that a multianewarray makes -/
def ct_M (τ : ClassId × ClassId × ClassId × ClassId × ClassId) (q N K : Nat) : va_W := (q, ct_A τ N (fun j => if j < N then some (q + 1 + j) else none)) :: (List.range N).map (fun j => (q + 1 + j, ct_I τ K))
theorem ct_M_at {q N K k : Nat} {x : Nat × va_E} (h : (ct_M τ q N K)[k]? = some x) : (k = 0 ∧ x = (q, ct_A τ N (fun j => if j < N then some (q + 1 + j) else none))) ∨ (1 ≤ k ∧ k - 1 < N ∧ x = (q + 1 + (k - 1), ct_I τ K)) := by
  cases k with
  | zero => exact Or.inl ⟨rfl, (Option.some.inj h).symm⟩
  | succ k =>
    right
    have h2 : ((List.range N).map (fun j => (q + 1 + j, ct_I τ K)))[k]? = some x := h
    rw [List.getElem?_map] at h2
    by_cases z : k < N
    · rw [List.getElem?_range z] at h2
      exact ⟨by omega, by omega, (Option.some.inj h2).symm⟩
    · rw [List.getElem?_eq_none (by rw [List.length_range]; omega)] at h2
      cases h2
theorem z_multi {own : String} {index : Nat} (hexec : p.tables.exec = Jvm.exec) (hb : c.code = cc) (hts : ∀ w ∈ pm_TB, w.before args s = true) (hown : s.vm.findClass own = some m.cls) (hclink : Cond.classLink own index "[[I" ∈ pm_TB) (hover : ct_AA s) (hK : va_K D vwCl (ct_T τ) s) (hP : va_P D vwCl ws H) (hD : va_D A ws) (hS : va_S A H0 H locs) (hA : ∀ q, H0.size ≤ q → A q) (hdg : decode cc pc = .ok (.multianewarray index 2, 4)) {n k : Int32} (hn : ¬ n < 0) (hz : (n == 0) = false) (hk0 : ¬ k < 0) {N K : Nat} (hN : n.toNatClampNeg = N) (hKn : k.toNatClampNeg = K) (N9 : N ≤ 1000) (K9 : K ≤ 1000) (hcells : cells + 1 + N ≤ R.cells) (hslots : slots + N + N * K ≤ R.slots)
    (kk : ∀ (q : Nat) (H1 : Heap) (locs1 : List Loc), va_P D vwCl (ws ++ ct_M τ q N K) H1 → va_D A (ws ++ ct_M τ q N K) → va_S A H0 H1 locs1 → W p l e R s m args below meth c H1 locs1 (cells + 1 + N) (slots + N + N * K) Q (F0 m (pc + 4) ls (.ref q :: rest))) : W p l e R s m args below meth c H locs cells slots Q (F0 m pc ls (.int k :: .int n :: rest)) := by
  refine W_multi hexec hb hown (hts _ hclink) hover (hts _ w_arI) rfl hdg rfl hn hz hk0 hN hKn N9 K9 hcells hslots (fun H1 locs1 cA cI kA kI ec f1 f2 f3 f4 f5 f6 g1 g2 g3 g4 g5 => ?_)
  have e1 : s.vm.findClass "[I" = some τ.1 := (hK.2 0 _ rfl).2
  rw [e1] at f2
  cases f2
  have e2 : s.vm.findClass "[[I" = some τ.2.2.2.2 := (hK.2 4 _ rfl).2
  rw [e2] at f1
  cases f1
  have hk : ∀ (k : Nat) (x : Nat × va_E), ws[k]? = some x → H1[x.1]? = H[x.1]? := fun k x hx => g2 x.1 ((hP k x hx).lt)
  have hge : ∀ (k : Nat) (x : Nat × va_E), (ct_M τ H.size N K)[k]? = some x → H.size ≤ x.1 := fun k x hx => by
    rcases ct_M_at hx with ⟨-, h⟩ | ⟨-, -, h⟩ <;> rw [h] <;> dsimp only <;> omega
  refine kk H.size H1 locs1 ((hP.kept hk).app (fun k x hx => ?_)) (hD.app ⟨fun i j x y hx hy hxy => ?_, fun k x hx => hA _ (Nat.le_trans hS.1 (hge k x hx))⟩ (fun i j x y hx hy hxy => ?_)) ⟨Nat.le_trans hS.1 (by omega), fun x h1 h2 => (g2 x (Nat.lt_of_lt_of_le h1 hS.1)).trans (hS.2.1 x h1 h2), fun q hq => ?_⟩
  · rcases ct_M_at hx with ⟨-, h⟩ | ⟨-, h0, h⟩
    · rw [h]
      show H1[H.size]? = some (vp_cell _ _)
      rw [vp_cell_q, g3]
      congr 1
      unfold arrV
      congr 1
      apply Array.ext
      · simp
      · intro j h1 h2
        simp at h1
        simp [h1, va_rf]
    · rw [h]
      show H1[H.size + 1 + (k - 1)]? = some (vp_cell _ _)
      rw [vp_cell_i, g4 _ h0]
  · rcases ct_M_at hx with ⟨a, h⟩ | ⟨a, -, h⟩ <;> rcases ct_M_at hy with ⟨b, h'⟩ | ⟨b, -, h'⟩ <;> rw [h, h'] at hxy <;> dsimp only at hxy <;> omega
  · have h1 := (hP i x hx).lt
    have h2 := hge j y hy
    omega
  · rcases g5 q hq with h | h
    · exact hS.2.2 q h
    · rw [h]
      exact hA _ hS.1
end CTR
