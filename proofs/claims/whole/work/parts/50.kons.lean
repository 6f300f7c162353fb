/-! the two objects come to be: a world that grows -/
def upE (E : Nat → va_E) (c : Nat) (x : va_E) : Nat → va_E := fun i => if i = c then x else E i
theorem upE_s (E : Nat → va_E) (c : Nat) (x : va_E) : upE E c x c = x := if_pos rfl
theorem upE_n {E : Nat → va_E} {c i : Nat} {x : va_E} (h : i ≠ c) : upE E c x i = E i := if_neg h
def kW (g : GC) (n : Nat) (E : Nat → va_E) : va_W := (List.range n).map (fun c => (gz g + c, E c))
theorem kW_get {g : GC} {n c : Nat} {E : Nat → va_E} (h : c < n) : (kW g n E)[c]? = some (gz g + c, E c) := by
  unfold kW
  rw [List.getElem?_map, List.getElem?_range h]
  rfl
theorem kW_len {g : GC} {n : Nat} {E : Nat → va_E} : (kW g n E).length = n := by simp [kW]
theorem kW_D (g : GC) (n : Nat) (E : Nat → va_E) : va_D (gA g) (kW g n E) := by
  have key : ∀ (k : Nat) (q : Nat × va_E), (kW g n E)[k]? = some q → q.1 = gz g + k := by
    intro k q h
    have hl : k < n := by
      have := (List.getElem?_eq_some_iff.mp h).1
      rw [kW_len] at this
      exact this
    rw [kW_get hl] at h
    cases h
    rfl
  refine ⟨fun i j p q hi hj e => ?_, fun k q hk => ?_⟩
  · have h1 := key i p hi
    have h2 := key j q hj
    omega
  · show gz g ≤ q.1
    rw [key k q hk]
    exact Nat.le_add_right _ _
theorem kW_set {g : GC} {n c : Nat} {E : Nat → va_E} {x : va_E} (h : c < n) : (kW g n E).set c (gz g + c, x) = kW g n (upE E c x) := by
  apply List.ext_getElem?
  intro j
  by_cases hj : j < n
  · rw [kW_get hj]
    by_cases hc : j = c
    · subst hc
      rw [List.getElem?_set_self (by rw [kW_len]; exact hj), upE_s]
    · rw [List.getElem?_set_ne (Ne.symm hc), kW_get hj, upE_n hc]
  · rw [List.getElem?_eq_none (l := kW g n (upE E c x)) (by rw [kW_len]; omega), List.getElem?_eq_none (by rw [List.length_set, kW_len]; omega)]
theorem kW_push {g : GC} {n : Nat} {E : Nat → va_E} {x : va_E} : kW g n E ++ [(gz g + n, x)] = kW g (n + 1) (upE E n x) := by
  apply List.ext_getElem?
  intro j
  by_cases hj : j < n
  · rw [List.getElem?_append_left (by rw [kW_len]; exact hj), kW_get hj, kW_get (by omega), upE_n (by omega)]
  · by_cases hc : j = n
    · subst hc
      rw [List.getElem?_append_right (by rw [kW_len]; omega), kW_len, Nat.sub_self, kW_get (by omega), upE_s]
      rfl
    · rw [List.getElem?_eq_none (l := kW g (n + 1) (upE E n x)) (by rw [kW_len]; omega), List.getElem?_eq_none (by rw [List.length_append, kW_len]; simp; omega)]
theorem kW_ext {g : GC} {n : Nat} {E E' : Nat → va_E} (h : ∀ c, c < n → E c = E' c) : kW g n E = kW g n E' := by
  apply List.ext_getElem?
  intro j
  by_cases hj : j < n
  · rw [kW_get hj, kW_get hj, h j hj]
  · rw [List.getElem?_eq_none (by rw [kW_len]; omega), List.getElem?_eq_none (by rw [kW_len]; omega)]
def kI (g : GC) (n : Nat) (E : Nat → va_E) (U : State) : Prop := va_P g.1 vwCl (kW g n E) U.heap ∧ va_K g.1 vwCl (gTy g) U ∧ gT g U U.heap ∧ (va_AO RX2 U ∧ va_AO RX5 U) ∧ U.heap.size = gz g + n
theorem kI_blind {g : GC} {n : Nat} {E : Nat → va_E} (U : State) (f : JFrame) (mk : MethodId) (a : Array Value) (h : kI g n E U) : kI g n E (U.calling f mk a) :=
  ⟨h.1, va_K.moved (u := U) (U := U.calling f mk a) (Vm.Alike.refl U.vm) h.2.1, gT.moved (u := U) (U := U.calling f mk a) (Vm.Alike.refl U.vm) h.2.2.1, ⟨va_AO.moved (u := U) (U := U.calling f mk a) (Vm.Alike.refl U.vm) h.2.2.2.1.1, va_AO.moved (u := U) (U := U.calling f mk a) (Vm.Alike.refl U.vm) h.2.2.2.1.2⟩, h.2.2.2.2⟩
/-- what stays the same within a constructor -/
abbrev Kx (p : Program) (s : State) (m : MethodId) (args : Array Value) (meth : Method) (c : Code) (own : String) (cc : ByteArray) (nL : Nat) (g : GC) : Prop :=
  Bx p s m args meth c own cc nL none g ∧ (va_AO RX2 s ∧ va_AO RX5 s) ∧ meth.name = "<init>" ∧ gz g ≤ s.heap.size
theorem kI_at {g : GC} {n : Nat} {E : Nat → va_E} {s t : State} {H : Heap} {locs : List Loc} (hP : va_P g.1 vwCl (kW g n E) H) (hZ : H.size = gz g + n) (hK : va_K g.1 vwCl (gTy g) s) (hT : gT g s s.heap) (hA : va_AO RX2 s ∧ va_AO RX5 s) (hS : va_S (gA g) s.heap H locs) (ht : t.heap = H) (hW : s.WarmedH t.vm) : kI g n E t := by
  refine ⟨by rw [ht]; exact hP, va_K.moved hW.alike hK, ?_, ⟨hA.1.moved hW.alike, hA.2.moved hW.alike⟩, by rw [ht]; exact hZ⟩
  rw [ht]
  exact gT.moved hW.alike (hT.kept (fun a h1 h2 => hS.2.1 a h1 h2))
def qK (g : GC) (n : Nat) (E : Nat → va_E) : Array Value → State → Outcome → State → Prop := va_Qv (fun _ : Unit => True) (fun _ => kI g n E) (gA g)
abbrev rK (f k mc ms : Nat) : Room := { frames := f, cells := mc, slots := ms, locals := k }
abbrev cK (l : Launch) (g : GC) (y : MethodName) (b : ByteArray) (nL : Nat) (rm : Room) (av : List Value) (n : Nat) (E : Nat → va_E) (n' : Nat) (E' : Nat → va_E) (mc ms : Nat) : Prop := Met l y (wG y b nL none) rm (va_Pc av (kI g n E)) (qK g n' E') mc ms (gA g)
theorem k_met {l : Launch} {g : GC} {y : MethodName} {b : ByteArray} {nL n n' mc ms : Nat} {E E' : Nat → va_E} {rm : Room} {av : List Value} (hy : plainName y.cls = true) (hi : y.name = "<init>") (hn : (lg_sl av).length ≤ nL)
    (body : ∀ (p : Program) (e : Env) (s : State) (m : MethodId) (below : List Frame) (meth : Method) (c : Code), Kx p s m av.toArray meth c y.cls b nL g → va_P g.1 vwCl (kW g n E) s.heap → s.heap.size = gz g + n → va_S (gA g) s.heap s.heap [] → ∀ ls : Array Slot, lv_has ls nL (lv_args 0 av) → W p l e rm s m av.toArray below meth c s.heap [] 0 0 (MQ below (qK g n' E') av.toArray s mc ms (gA g)) (F0 m 0 ls [])) : cK l g y b nL rm av n E n' E' mc ms := by
  refine Met.ofW (cc := b) (maxL := nL) (ret := none) hy rfl ?_
  intro p e s m args below meth c s₁ B hml hv
  obtain ⟨rfl, hP, hK, hT, hO, hZ⟩ := hv
  have hts := atoms_spec (ws := wG y b nL none) B.pre
  have hl := lv_entry av (n := nL) hn
  have hin : meth.name = "<init>" := ((name_of_methodNamed B.named B.method).1).trans hi
  rw [lg_entry_eq]
  exact body p e s m below meth c ⟨⟨B.exec, B.bytes, hml, findClass_of_methodNamed B.named, fun w h => hts w (List.mem_cons_of_mem _ h), hK, hT, B.returns, B.notSynchronized⟩, hO, hin, by omega⟩ hP hZ va_S.rf _ hl
section KROWS
variable {p : Program} {l : Launch} {e : Env} {R : Room} {s : State} {m : MethodId} {args : Array Value} {below : List Frame} {meth : Method} {c0 : Code} {H : Heap} {locs : List Loc} {cells slots : Nat} {Q : State → Prop}
variable {pc : Nat} {ls : Array Slot} {rest st0 : List Value} {cc : ByteArray} {nL : Nat} {own : String} {g : GC} {n c idx : Nat} {E : Nat → va_E}
theorem k_grow {H1 : Heap} {x : va_E} (hP : va_P g.1 vwCl (kW g n E) H) (hZ : H.size = gz g + n) (hS : va_S (gA g) s.heap H locs) (z1 : H1.size = H.size + 1) (o1 : ∀ q : Nat, q < H.size → H1[q]? = H[q]?) (hx : va_at g.1 vwCl (gz g + n, x) H1) : va_P g.1 vwCl (kW g (n + 1) (upE E n x)) H1 ∧ H1.size = gz g + (n + 1) ∧ va_S (gA g) s.heap H1 locs := by
  refine ⟨?_, by omega, ⟨Nat.le_trans hS.1 (by omega), fun q h1 h2 => (o1 q (Nat.lt_of_lt_of_le h1 hS.1)).trans (hS.2.1 q h1 h2), hS.2.2⟩⟩
  rw [← kW_push]
  refine (hP.kept (fun k q hq => o1 q.1 ((hP k q hq).lt))).app (fun k q hq => ?_)
  have hz : k < 1 := (List.getElem?_eq_some_iff.mp hq).1
  rw [show k = 0 by omega] at hq
  cases hq
  exact hx
theorem k_newi (X : Kx p s m args meth c0 own cc nL g) (hP : va_P g.1 vwCl (kW g n E) H) (hZ : H.size = gz g + n) (hS : va_S (gA g) s.heap H locs) {v : Int32} {N : Nat} (hv : ¬ v < 0) (hN : v.toNatClampNeg = N) (hby : N * 4 ≤ 536870912) (hc : cells + 1 ≤ R.cells) (hs : slots + N ≤ R.slots) (hdg : decode cc pc = .ok (.newarray .int, 2))
    (kk : ∀ H1 : Heap, va_P g.1 vwCl (kW g (n + 1) (upE E n (.inl (g.2.1 0, N, .inl (fun _ => 0))))) H1 → H1.size = gz g + (n + 1) → va_S (gA g) s.heap H1 locs → W p l e R s m args below meth c0 H1 locs (cells + 1) (slots + N) Q (F0 m (pc + 2) ls (.ref (gz g + n) :: rest))) : W p l e R s m args below meth c0 H locs cells slots Q (F0 m pc ls (.int v :: rest)) := by
  refine va_newaK (atype := .int) X.1.1 X.1.2.1 (X.1.2.2.2.2.1 _ (gq1 (w := Cond.arrayClass .int) (List.mem_of_getElem? (i := 94) (by decide +kernel)) rfl)) rfl hdg rfl hv hN hby hc hs hZ (fun H1 cA e1 z1 o1 hAr hNm => ?_)
  have hcA : cA = g.2.1 0 := by
    have h1 : s.vm.findClass ("[" ++ (FieldType.int).toString) = some (g.2.1 0) := (X.1.2.2.2.2.2.1.2 0 _ rfl).2
    exact Option.some.inj (hNm.symm.trans h1)
  subst hcA
  obtain ⟨a1, a2, a3⟩ := k_grow (x := .inl (g.2.1 0, N, .inl (fun _ => 0))) hP hZ hS (by omega) (fun q hq => o1 q (by omega)) e1
  exact kk H1 a1 a2 a3
theorem k_newz (X : Kx p s m args meth c0 own cc nL g) (hP : va_P g.1 vwCl (kW g n E) H) (hZ : H.size = gz g + n) (hS : va_S (gA g) s.heap H locs) {v : Int32} {N : Nat} (hv : ¬ v < 0) (hN : v.toNatClampNeg = N) (hby : N * 1 ≤ 536870912) (hc : cells + 1 ≤ R.cells) (hs : slots + N ≤ R.slots) (hdg : decode cc pc = .ok (.newarray .boolean, 2))
    (kk : ∀ H1 : Heap, va_P g.1 vwCl (kW g (n + 1) (upE E n (.inl (g.2.1 1, N, .inl (fun _ => 0))))) H1 → H1.size = gz g + (n + 1) → va_S (gA g) s.heap H1 locs → W p l e R s m args below meth c0 H1 locs (cells + 1) (slots + N) Q (F0 m (pc + 2) ls (.ref (gz g + n) :: rest))) : W p l e R s m args below meth c0 H locs cells slots Q (F0 m pc ls (.int v :: rest)) := by
  refine va_newaK (atype := .boolean) X.1.1 X.1.2.1 (X.1.2.2.2.2.1 _ (gq4 (w := Cond.arrayClass .boolean) (List.mem_of_getElem? (i := 80) (by decide +kernel)) rfl)) rfl hdg rfl hv hN hby hc hs hZ (fun H1 cA e1 z1 o1 hAr hNm => ?_)
  have hcA : cA = g.2.1 1 := by
    have h1 : s.vm.findClass ("[" ++ (FieldType.boolean).toString) = some (g.2.1 1) := (X.1.2.2.2.2.2.1.2 1 _ rfl).2
    exact Option.some.inj (hNm.symm.trans h1)
  subst hcA
  obtain ⟨a1, a2, a3⟩ := k_grow (x := .inl (g.2.1 1, N, .inl (fun _ => 0))) hP hZ hS (by omega) (fun q hq => o1 q (by omega)) e1
  exact kk H1 a1 a2 a3
theorem k_new {C : String} {T : u_T} {N ci : Nat} {ty : Nat → FieldType} {fs : List Value} (X : Kx p s m args meth c0 own cc nL g) (hP : va_P g.1 vwCl (kW g n E) H) (hZ : H.size = gz g + n) (hS : va_S (gA g) s.heap H locs) (hin : ∀ w ∈ u_ws C T N, w ∈ tbG) (hty : ∀ k, k < N → parseFieldDescriptor (T k).2.2.1 = some (ty k)) (hcl : Cond.classLink own idx C ∈ tbG) (hinst : Cond.instantiable C N ∈ tbG) (hini : Cond.initialized C ∈ tbG) (hci : vwCl[ci]? = some (C, T, N)) (hfs : ∀ j, j < N → defaultValue (ty j) = vp_V fs j) (hc : cells + 1 ≤ R.cells) (hs : slots + N ≤ R.slots) (hdg : decode cc pc = .ok (.new idx, 3))
    (kk : ∀ H1 : Heap, va_P g.1 vwCl (kW g (n + 1) (upE E n (.inr (ci, fs)))) H1 → H1.size = gz g + (n + 1) → va_S (gA g) s.heap H1 locs → W p l e R s m args below meth c0 H1 locs (cells + 1) (slots + N) Q (F0 m (pc + 3) ls (.ref (gz g + n) :: rest))) : W p l e R s m args below meth c0 H locs cells slots Q (F0 m pc ls rest) := by
  have hts := X.1.2.2.2.2.1
  have hKn := X.1.2.2.2.2.2.1.1 ci _ hci
  refine W.newcK X.1.1 X.1.2.1 X.1.2.2.2.1 (hts _ hcl) (hts _ hinst) (hts _ hini) rfl hdg hc hs hKn.2.1 hZ (fun H1 kC hkC e1 z1 o1 => ?_)
  obtain ⟨a1, a2, a3⟩ := k_grow (x := .inr (ci, fs)) hP hZ hS (by omega) (fun q hq => o1 q (by omega)) ⟨_, hci, (u_born ty hts hin hKn hkC e1 hty).to hfs⟩
  exact kk H1 a1 a2 a3
theorem k_anew {C : String} {t0 : Nat} (X : Kx p s m args meth c0 own cc nL g) (hP : va_P g.1 vwCl (kW g n E) H) (hZ : H.size = gz g + n) (hS : va_S (gA g) s.heap H locs) {v : Int32} {N : Nat} (hv : ¬ v < 0) (hN : v.toNatClampNeg = N) (hby : N * 4 ≤ 536870912) (hc : cells + 1 ≤ R.cells) (hs : slots + N ≤ R.slots) (hcl : Cond.classLink own idx C ∈ tbG) (hO : va_AO C s) (ht : (gTy g)[t0]? = some (g.2.1 t0, .object C)) (hdg : decode cc pc = .ok (.anewarray idx, 3))
    (kk : ∀ H1 : Heap, va_P g.1 vwCl (kW g (n + 1) (upE E n (.inl (g.2.1 t0, N, .inr (.inr (.inr (.inr (fun _ => none)))))))) H1 → H1.size = gz g + (n + 1) → va_S (gA g) s.heap H1 locs → W p l e R s m args below meth c0 H1 locs (cells + 1) (slots + N) Q (F0 m (pc + 3) ls (.ref (gz g + n) :: rest))) : W p l e R s m args below meth c0 H locs cells slots Q (F0 m pc ls (.int v :: rest)) := by
  subst hN
  refine W.anew X.1.1 X.1.2.1 X.1.2.2.2.1 (X.1.2.2.2.2.1 _ hcl) (va_AO.use hO) rfl hdg rfl hv hby hc hs (fun cA kA comp f1 f2 f3 f4 => ?_)
  generalize hH1 : H.push ({ cls := cA, slots := Array.replicate v.toNatClampNeg .null, vm := .none } : Cell) = H1
  have z1 : H1.size = H.size + 1 := by rw [← hH1, Array.size_push]
  have e1 : H1[H.size]? = some (arrV cA v.toNatClampNeg (fun _ => .null)) := by rw [← hH1, Array.getElem?_push_size, ← arrV_new]
  have o1 : ∀ q : Nat, q < H.size → H1[q]? = H[q]? := fun q hq => by rw [← hH1, Array.getElem?_push, if_neg (Nat.ne_of_lt hq)]
  have hcA : cA = g.2.1 t0 := by
    obtain ⟨kA', comp', h1, h2, h3, h4⟩ := (X.1.2.2.2.2.2.1.2 t0 _ ht).2
    exact Option.some.inj (f1.symm.trans h4)
  subst hcA
  rw [hZ] at e1
  obtain ⟨a1, a2, a3⟩ := k_grow (x := .inl (g.2.1 t0, v.toNatClampNeg, .inr (.inr (.inr (.inr (fun _ => none)))))) hP hZ hS z1 o1 e1
  have e9 : H.size = gz g + n := hZ
  rw [e9]
  exact kk H1 a1 a2 a3
theorem k_size {n0 : Nat} {gf : JFrame} (h0 : s.heap.size = gz g + n0) (hc : n0 + cells = n) (hP : va_P g.1 vwCl (kW g n E) H) (kk : H.size = gz g + n → W p l e R s m args below meth c0 H locs cells slots Q gf) : W p l e R s m args below meth c0 H locs cells slots Q gf := by
  intro T hT X
  refine kk ?_ T hT X
  have u : T.heap.size ≤ s.heap.size + cells := X.same.2.2.1
  have u2 : s.heap.size ≤ T.heap.size := X.same.2.1
  rw [hT] at u u2
  rcases Nat.eq_zero_or_pos n with q | q
  · omega
  · have v : gz g + (n - 1) < H.size := (hP (n - 1) _ (kW_get (by omega))).lt
    omega
theorem k_putF {C : String} {T : u_T} {N ci : Nat} {ty0 : Nat → FieldType} {fs : List Value} {v : Value} {ty : FieldType} (X : Kx p s m args meth c0 own cc nL g) (hP : va_P g.1 vwCl (kW g n E) H) (hS : va_S (gA g) s.heap H locs) (hin : ∀ w ∈ u_ws C T N, w ∈ tbG) (hty : ∀ k, k < N → parseFieldDescriptor (T k).2.2.1 = some (ty0 k)) (hnm : ∀ a, a < N → ∀ b, b < N → a ≠ b → (T a).2.1 ≠ (T b).2.1) (hc : c < n) (hE : E c = .inr (ci, fs)) (hci : vwCl[ci]? = some (C, T, N)) (k : Nat) (hk : k < N) (hlk : Cond.fieldLink own idx (T k).1 (T k).2.1 (T k).2.2.1 ∈ tbG) (hfin : (T k).2.2.2 = true) (hdecl : (T k).1 = own) (hd : parseFieldDescriptor (T k).2.2.1 = some ty) (hn : narrow ty v = v) (hfit : fits ty v = true) (hl : k < fs.length) (hdg : decode cc pc = .ok (.putfield idx, 3))
    (kk : ∀ (H1 : Heap) (locs1 : List Loc), va_P g.1 vwCl (kW g n (upE E c (.inr (ci, fs.set k v)))) H1 → va_S (gA g) s.heap H1 locs1 → W p l e R s m args below meth c0 H1 locs1 cells slots Q (F0 m (pc + 3) ls rest)) : W p l e R s m args below meth c0 H locs cells slots Q (F0 m pc ls (v :: .ref (gz g + c) :: rest)) := by
  have hg : (kW g n E)[c]? = some (gz g + c, .inr (ci, fs)) := by rw [kW_get hc, hE]
  refine va_putF X.1.1 X.1.2.1 X.1.2.2.2.2.1 hin ty0 hty hnm X.1.2.2.2.1 X.1.2.2.2.2.2.1 hP (kW_D g n E) hS c hg hci k hk (X.1.2.2.2.2.1 _ hlk) (fun _ h => h) hfin X.2.2.1 hdecl hd hn hfit hl hdg (fun H1 locs1 hP1 _ hS1 => kk H1 locs1 ?_ hS1)
  rw [kW_set hc] at hP1
  exact hP1
theorem k_ast {t0 qk ci N : Nat} {r : vw_C} {vs : List Value} {f : Nat → Option Nat} {i : Int32} (X : Kx p s m args meth c0 own cc nL g) (hP : va_P g.1 vwCl (kW g n E) H) (hS : va_S (gA g) s.heap H locs) (hc : c < n) (hE : E c = .inl (g.2.1 t0, N, .inr (.inr (.inr (.inr f))))) (ht : (gTy g)[t0]? = some (g.2.1 t0, .object r.1)) (hq : qk < n) (hV : E qk = .inr (ci, vs)) (hci : vwCl[ci]? = some r) (hi : vp_in i N) (hdg : decode cc pc = .ok (.aastore, 1))
    (kk : ∀ (H1 : Heap) (locs1 : List Loc), va_P g.1 vwCl (kW g n (upE E c (.inl (g.2.1 t0, N, .inr (.inr (.inr (.inr (va_up f i.toNatClampNeg (some (gz g + qk))))))))) ) H1 → va_S (gA g) s.heap H1 locs1 → W p l e R s m args below meth c0 H1 locs1 cells slots Q (F0 m (pc + 1) ls rest)) : W p l e R s m args below meth c0 H locs cells slots Q (F0 m pc ls (.ref (gz g + qk) :: .int i :: .ref (gz g + c) :: rest)) := by
  refine va_astq X.1.1 X.1.2.1 X.1.2.2.2.2.2.1 hP (kW_D g n E) hS c t0 qk ci (by rw [kW_get hc, hE]) ht (by rw [kW_get hq, hV]) hci hi hdg (fun H1 locs1 hP1 _ hS1 => kk H1 locs1 ?_ hS1)
  rw [kW_set hc] at hP1
  exact hP1
theorem k_call {y : MethodName} {b : ByteArray} {maxL na f k n' mc ms : Nat} {As : List Value} {E' : Nat → va_E} (X : Kx p s m args meth c0 own cc nL g) (hM : cK l g y b maxL (rK f k mc ms) (.ref (gz g + c) :: As) n E n' E' mc ms) (hy : y.name = "<init>") (hcode : Cond.code y b maxL none ∈ tbG) (hi : Cond.initialized y.cls ∈ tbG) (hins : Cond.instanceMethod y ∈ tbG) (hlk : Cond.methodLink own idx y ∈ tbG) (hd : y.cls ≠ "java/lang/invoke/MethodHandle" ∧ y.cls ≠ "java/lang/invoke/VarHandle" ∧ (parseMethodDescriptor y.desc).map (fun d => d.parameters.length) = some na) (hR : f + 1 ≤ R.frames ∧ 8 + (maxL + 11) + k ≤ R.locals)
    (hP : va_P g.1 vwCl (kW g n E) H) (hZ : H.size = gz g + n) (hS : va_S (gA g) s.heap H locs) (hn : As.length = na) (hl : ls.size = nL) (hst : st0 = As.reverse ++ .ref (gz g + c) :: rest) (hrm : (rest.map fun v => v.category).sum ≤ 8) (hf : cells + mc ≤ R.cells ∧ slots + ms ≤ R.slots) (hdg : decode cc pc = .ok (.invokespecial idx, 3))
    (kk : ∀ (H1 : Heap) (locs1 : List Loc), va_P g.1 vwCl (kW g n' E') H1 → H1.size = gz g + n' → va_S (gA g) s.heap H1 locs1 → W p l e R s m args below meth c0 H1 locs1 (cells + mc) (slots + ms) Q (F0 m (pc + 3) ls rest)) : W p l e R s m args below meth c0 H locs cells slots Q (F0 m pc ls st0) := by
  refine va_callv (va_runI (As := As) (rest := rest) (b := gz g + c) ⟨X.1.1, X.1.2.1, X.1.2.2.1, X.1.2.2.2.1, X.1.2.2.2.2.1⟩ hM ⟨callB_of na X.1.2.2.2.2.1 (wG_good hcode) rfl rfl rfl (X.1.2.2.2.2.1 _ hi) (X.1.2.2.2.2.1 _ hlk) hd hR, hy, X.1.2.2.2.2.1 _ hins⟩ ⟨fun a U g mk q => ⟨q.1, kI_blind U g mk a q.2⟩, fun U hU hW => ⟨rfl, kI_at hP hZ X.1.2.2.2.2.2.1 X.1.2.2.2.2.2.2.1 X.2.1 hS hU hW⟩⟩ rfl hn hl hst (lv_room hrm) hdg hf) hS (fun q _ h => h) (fun q h => h) (fun u t H1 locs1 ht hvm hw hB _ _ hS1 => ?_)
  exact kk H1 locs1 (by rw [← ht]; exact hB.1) (by rw [← ht]; exact hB.2.2.2.2) hS1
theorem k_vret {mc ms : Nat} {E' : Nat → va_E} (X : Kx p s m args meth c0 own cc nL g) (hP : va_P g.1 vwCl (kW g n E) H) (hZ : H.size = gz g + n) (hS : va_S (gA g) s.heap H locs) (hE : ∀ i, i < n → E i = E' i) (hdg : decode cc pc = .ok (.return_, 1)) : W p l e R s m args below meth c0 H locs mc ms (MQ below (qK g n E') args s mc ms (gA g)) (F0 m pc ls []) := by
  rw [kW_ext hE] at hP
  exact W.vret X.1.1 X.1.2.1 X.1.2.2.2.2.2.2.2.1 (fun t ht hW => ⟨⟨(), rfl, trivial, kI_at hP hZ X.1.2.2.2.2.2.1 X.1.2.2.2.2.2.2.1 X.2.1 hS ht hW⟩, hS.F ht⟩) hS.2.2 hdg X.1.2.2.2.2.2.2.2.2
theorem k_obj (X : Kx p s m args meth c0 own cc nL g) (hlk : Cond.methodLink own idx objectInit ∈ tbG) (hl : ls.size = nL) {a : Addr} (hR : 1 ≤ R.frames ∧ 12 ≤ R.locals) (hdg : decode cc pc = .ok (.invokespecial idx, 3)) (kk : W p l e R s m args below meth c0 H locs cells slots Q (F0 m (pc + 3) ls [])) : W p l e R s m args below meth c0 H locs cells slots Q (F0 m pc ls [.ref a]) := by
  refine W.objInit X.1.1 X.1.2.1 X.1.2.2.2.1 (X.1.2.2.2.2.1 _ hlk) (X.1.2.2.2.2.1 _ q1_19) (X.1.2.2.2.2.1 _ q1_20) rfl (by rw [X.1.2.2.1]; exact hl) rfl hdg hR.1 hR.2 ?_
  exact W.eq (g2 := F0 m (pc + 3) ls []) rfl kk
end KROWS
/-- six cells that are a box with nothing in it -/
def wE (g : GC) (c0 : Nat) (E : Nat → va_E) : Nat → va_E := fun i => if c0 ≤ i ∧ i < c0 + 6 then celK g (fun _ => 0) i (kdW.getD (i - c0) 99) else E i
abbrev wz : List Value := [.int 0, .int 0, .int 0, .int 0, .int 0, .int 0, .null, .null, .null, .null, .null]
