/-! the memory: a cell, a slot, a number; the cells' places are fixed, once the two objects stand -/
abbrev Mem : Type := Nat → Nat → Int32
abbrev GC : Type := va_G × (Nat → ClassId) × (Nat → Nat)
def gz (g : GC) : Nat := g.2.2 0
def gA (g : GC) : Nat → Prop := fun q => gz g ≤ q
def up2 (M : Mem) (c j : Nat) (x : Int32) : Mem := va_up M c (upd (M c) j x)
/-- the kinds of the cells: 0 .. 7 objects, as in vwCl; 8 .. 16 rows of ints; 17 of booleans; 18 .. 21 of references -/
def kdW : List Nat := [5, 9, 8, 8, 8, 8]
def kdR : Nat → List Nat → List Nat
  | 0, _ => []
  | n + 1, x => x ++ kdR n x
def kdL : List Nat := [6, 18, 19] ++ kdR 2 kdW ++ [4, 11, 1, 20] ++ kdR 24 kdW ++ [3] ++ kdW ++ [21] ++ kdR 13 kdW ++ [0, 12] ++ kdR 8 [2, 10] ++ kdR 2 kdW ++ [7, 13, 11, 14, 14, 15, 10, 16, 9, 17, 12]
def kd (c : Nat) : Nat := kdL.getD c 99
def kl (k : Nat) : Nat := if k = 8 then 6 else if k = 9 then 12 else if k = 10 then 40 else if k = 11 then 100 else if k = 12 then 16 else if k = 13 then 1247 else if k = 14 then 8 else if k = 15 then 320 else 30
def celK (g : GC) (f : Nat → Int32) (c k : Nat) : va_E :=
  if k = 0 then .inr (0, [.ref (gz g + 3), .ref (gz g + (c + 1)), .int (f 2)])
  else if k = 1 then .inr (1, [.ref (gz g + (c + 1)), .int (f 1), .int (f 2)])
  else if k = 2 then .inr (2, [.ref (gz g + (c + 1)), .int (f 1), .int (f 2), .int (f 3)])
  else if k = 3 then .inr (3, [.ref (gz g + 3), .ref (gz g + 164), .ref (gz g + 170)])
  else if k = 4 then .inr (4, [.ref (gz g + (c + 1)), .int (f 1), .int (f 2), .int (f 3), .int (f 4)])
  else if k = 5 then .inr (5, [.int (f 0), .int (f 1), .int (f 2), .int (f 3), .int (f 4), .int (f 5), .ref (gz g + (c + 1)), .ref (gz g + (c + 2)), .ref (gz g + (c + 3)), .ref (gz g + (c + 4)), .ref (gz g + (c + 5))])
  else if k = 6 then .inr (6, [.ref (gz g + 1), .ref (gz g + 2), .ref (gz g + 3), .ref (gz g + 9), .ref (gz g + 15), .ref (gz g + 17), .ref (gz g + 163), .ref (gz g + 249), .int (f 8), .int (f 9)])
  else if k = 7 then .inr (7, [.ref (gz g + 280), .int (f 1), .ref (gz g + 281), .int (f 3), .int (f 4), .int (f 5), .ref (gz g + 282), .ref (gz g + 283), .ref (gz g + 284), .ref (gz g + 285), .int (f 10), .int (f 11), .int (f 12), .ref (gz g + 286), .ref (gz g + 287), .ref (gz g + 288), .ref (gz g + 289), .int (f 17)])
  else if k = 17 then .inl (g.2.1 1, 2, .inl f)
  else if k = 18 then .inl (g.2.1 2, 8, .inr (.inr (.inr (.inr (fun i => some (gz g + (251 + 2 * i)))))))
  else if k = 19 then .inl (g.2.1 3, 2, .inr (.inr (.inr (.inr (fun i => some (gz g + (267 + 6 * i)))))))
  else if k = 20 then .inl (g.2.1 3, 24, .inr (.inr (.inr (.inr (fun i => some (gz g + (19 + 6 * i)))))))
  else if k = 21 then .inl (g.2.1 3, 13, .inr (.inr (.inr (.inr (fun i => some (gz g + (171 + 6 * i)))))))
  else .inl (g.2.1 0, kl k, .inl f)
def cel (g : GC) (M : Mem) (c : Nat) : va_E := celK g (M c) c (kd c)
def gW (g : GC) (M : Mem) : va_W := (List.range 290).map (fun c => (gz g + c, cel g M c))
def gTy (g : GC) : List (ClassId × FieldType) := [(g.2.1 0, .int), (g.2.1 1, .boolean), (g.2.1 2, .object RX2), (g.2.1 3, .object RX5)]
theorem kdL_len : kdL.length = 290 := by decide +kernel
theorem kd_lt {c k : Nat} (h : kd c = k) (hk : k ≠ 99) : c < 290 := by
  rcases Nat.lt_or_ge c 290 with q | q
  · exact q
  · exfalso
    apply hk
    rw [← h, kd, List.getD_eq_getElem?_getD, List.getElem?_eq_none (by rw [kdL_len]; exact q)]
    rfl
theorem gW_get {g : GC} {M : Mem} {c : Nat} (h : c < 290) : (gW g M)[c]? = some (gz g + c, cel g M c) := by
  unfold gW
  rw [List.getElem?_map, List.getElem?_range h]
  rfl
theorem gW_len {g : GC} {M : Mem} : (gW g M).length = 290 := by simp [gW]
theorem gW_D (g : GC) (M : Mem) : va_D (gA g) (gW g M) := by
  have key : ∀ (k : Nat) (q : Nat × va_E), (gW g M)[k]? = some q → q.1 = gz g + k := by
    intro k q h
    have hl : k < 290 := by
      have := (List.getElem?_eq_some_iff.mp h).1
      rw [gW_len] at this
      exact this
    rw [gW_get hl] at h
    cases h
    rfl
  refine ⟨fun i j p q hi hj e => ?_, fun k q hk => ?_⟩
  · have h1 := key i p hi
    have h2 := key j q hj
    omega
  · show gz g ≤ q.1
    rw [key k q hk]
    exact Nat.le_add_right _ _
theorem gW_set {g : GC} {M M' : Mem} {c : Nat} {e : va_E} (he : cel g M' c = e) (ho : ∀ b, b ≠ c → M' b = M b) : (gW g M).set c (gz g + c, e) = gW g M' := by
  apply List.ext_getElem?
  intro j
  by_cases hj : j < 290
  · rw [gW_get hj]
    by_cases hc : j = c
    · subst hc
      rw [List.getElem?_set_self (by rw [gW_len]; exact hj), he]
    · rw [List.getElem?_set_ne (Ne.symm hc), gW_get hj, cel, cel, ho j hc]
  · rw [List.getElem?_eq_none (l := gW g M') (by rw [gW_len]; omega), List.getElem?_eq_none (by rw [List.length_set, gW_len]; omega)]
/-- what stands ahead of the two objects: three rows of numbers, held by statics -/
def gT1 : Nat → Value := fun j => .int (([0, 0, 1, 1, 0, 4] : List Int32).getD j 0)
def gT2 : Nat → Value := fun j => .int (([10, 11, 12, 11, 13, 14] : List Int32).getD j 0)
def gT3 : Nat → Value := fun j => .int (([20, 21, 24, 22, 23, 23] : List Int32).getD j 0)
def gT (g : GC) (U : State) (H : Heap) : Prop :=
  (va_Z "MusicBox" "WIDER_KINDS" "[I" (.ref (g.2.2 1)) (gA g) U H ∧ va_T .int (g.2.2 1) 6 gT1 (gA g) U H) ∧
  (va_Z "MusicBox$Asking" "SIZE_BODIES" "[I" (.ref (g.2.2 2)) (gA g) U H ∧ va_T .int (g.2.2 2) 6 gT2 (gA g) U H) ∧
  (va_Z "MusicBox$Asking" "MARK_BODIES" "[I" (.ref (g.2.2 3)) (gA g) U H ∧ va_T .int (g.2.2 3) 6 gT3 (gA g) U H)
theorem gT.moved {g : GC} {u U : State} {H : Heap} (hvm : u.vm.Alike U.vm) (h : gT g u H) : gT g U H :=
  ⟨⟨h.1.1.moved hvm, h.1.2.moved hvm⟩, ⟨h.2.1.1.moved hvm, h.2.1.2.moved hvm⟩, ⟨h.2.2.1.moved hvm, h.2.2.2.moved hvm⟩⟩
theorem gT.kept {g : GC} {U : State} {H H1 : Heap} (h : gT g U H) (hq : ∀ a : Nat, a < H.size → ¬ gA g a → H1[a]? = H[a]?) : gT g U H1 :=
  ⟨⟨h.1.1.kept hq, h.1.2.kept hq⟩, ⟨h.2.1.1.kept hq, h.2.1.2.kept hq⟩, ⟨h.2.2.1.kept hq, h.2.2.2.kept hq⟩⟩
/-- the state: the memory, the tables -/
def gI (g : GC) (M : Mem) (U : State) : Prop := va_P g.1 vwCl (gW g M) U.heap ∧ va_K g.1 vwCl (gTy g) U ∧ gT g U U.heap
theorem gI_blind {g : GC} {M : Mem} (U : State) (f : JFrame) (mk : MethodId) (a : Array Value) (h : gI g M U) : gI g M (U.calling f mk a) :=
  ⟨h.1, va_K.moved (u := U) (U := U.calling f mk a) (Vm.Alike.refl U.vm) h.2.1, gT.moved (u := U) (U := U.calling f mk a) (Vm.Alike.refl U.vm) h.2.2⟩
theorem gI_at {g : GC} {M : Mem} {s t : State} {H : Heap} {locs : List Loc} (hP : va_P g.1 vwCl (gW g M) H) (hK : va_K g.1 vwCl (gTy g) s) (hT : gT g s s.heap) (hS : va_S (gA g) s.heap H locs) (ht : t.heap = H) (hW : s.WarmedH t.vm) : gI g M t := by
  refine ⟨by rw [ht]; exact hP, va_K.moved hW.alike hK, ?_⟩
  rw [ht]
  exact gT.moved hW.alike (hT.kept (fun a h1 h2 => hS.2.1 a h1 h2))
/-- contracts -/
def qI (g : GC) (out : Int32 × Mem) : Array Value → State → Outcome → State → Prop := va_Qi (fun r u => r = out.1 ∧ u = out.2) (gI g) (gA g)
def qL (g : GC) (out : Int64 × Mem) : Array Value → State → Outcome → State → Prop := va_Ql (fun r u => r = out.1 ∧ u = out.2) (gI g) (gA g)
def qV (g : GC) (out : Mem) : Array Value → State → Outcome → State → Prop := va_Qv (fun u => u = out) (gI g) (gA g)
abbrev rM (f k : Nat) : Room := { frames := f, cells := 0, slots := 0, locals := k }
def tbG : List Cond := lw_tbl.filter goodWord
theorem tbG_in {w : Cond} (h : w ∈ lw_tbl) (hg : goodWord w = true) : w ∈ tbG := List.mem_filter.mpr ⟨h, hg⟩
theorem gq0 {w : Cond} (h : w ∈ k2_sels lw_privs) (hg : goodWord w = true) : w ∈ tbG := tbG_in (List.mem_append_left _ h) hg
theorem gq1 {w : Cond} (h : w ∈ tables_1_1) (hg : goodWord w = true) : w ∈ tbG := tbG_in (List.mem_append_right _ (List.mem_append_left _ h)) hg
theorem gq2 {w : Cond} (h : w ∈ tables_1_2) (hg : goodWord w = true) : w ∈ tbG := tbG_in (List.mem_append_right _ (List.mem_append_right _ (List.mem_append_left _ h))) hg
theorem gq3 {w : Cond} (h : w ∈ tables_1_3) (hg : goodWord w = true) : w ∈ tbG := tbG_in (List.mem_append_right _ (List.mem_append_right _ (List.mem_append_right _ (List.mem_append_left _ h)))) hg
theorem gq4 {w : Cond} (h : w ∈ tables_1_4) (hg : goodWord w = true) : w ∈ tbG := tbG_in (List.mem_append_right _ (List.mem_append_right _ (List.mem_append_right _ (List.mem_append_right _ (List.mem_append_left _ h))))) hg
theorem gq5 {w : Cond} (h : w ∈ tables_1_5) (hg : goodWord w = true) : w ∈ tbG := tbG_in (List.mem_append_right _ (List.mem_append_right _ (List.mem_append_right _ (List.mem_append_right _ (List.mem_append_right _ h))))) hg
/-- a method's words: its code, and all -/
abbrev wG (y : MethodName) (b : ByteArray) (n : Nat) (ret : Option FieldType) : List Cond := .code y b n ret :: tbG
theorem wG_good {y : MethodName} {b : ByteArray} {n : Nat} {ret : Option FieldType} (h : Cond.code y b n ret ∈ tbG) : GoodIn tbG (wG y b n ret) := by
  intro w hw
  have hm : w ∈ tbG := by
    rcases List.mem_cons.mp hw with rfl | q
    · exact h
    · exact q
  exact ⟨hm, good_of_word (List.mem_filter.mp hm).2⟩
abbrev cI (l : Launch) (g : GC) (y : MethodName) (b : ByteArray) (n : Nat) (ret : Option FieldType) (rm : Room) (av : List Value) (M : Mem) (out : Int32 × Mem) : Prop := Met l y (wG y b n ret) rm (va_Pc av (gI g M)) (qI g out) 0 0 (gA g)
abbrev cL (l : Launch) (g : GC) (y : MethodName) (b : ByteArray) (n : Nat) (ret : Option FieldType) (rm : Room) (av : List Value) (M : Mem) (out : Int64 × Mem) : Prop := Met l y (wG y b n ret) rm (va_Pc av (gI g M)) (qL g out) 0 0 (gA g)
abbrev cV (l : Launch) (g : GC) (y : MethodName) (b : ByteArray) (n : Nat) (rm : Room) (av : List Value) (M : Mem) (out : Mem) : Prop := Met l y (wG y b n none) rm (va_Pc av (gI g M)) (qV g out) 0 0 (gA g)
/-- what stays the same within a method -/
abbrev Bx (p : Program) (s : State) (m : MethodId) (args : Array Value) (meth : Method) (c : Code) (own : String) (cc : ByteArray) (nL : Nat) (ret : Option FieldType) (g : GC) : Prop :=
  p.tables.exec = Jvm.exec ∧ c.code = cc ∧ c.maxLocals = nL ∧ s.vm.findClass own = some m.cls ∧ (∀ w ∈ tbG, w.before args s = true) ∧ va_K g.1 vwCl (gTy g) s ∧ gT g s s.heap ∧ meth.sig.returnType = ret ∧ meth.locks = false
/-- of a callee, at every call -/
def sV (y : MethodName) (b : ByteArray) (nL : Nat) (ret : Option FieldType) (n : Nat) : Prop := (Cond.instanceMethod y ∈ tbG ∧ Cond.selects y.cls y y ∈ tbG ∧ Cond.initialized y.cls ∈ tbG ∧ Cond.code y b nL ret ∈ tbG) ∧ y.cls ≠ "java/lang/invoke/MethodHandle" ∧ y.cls ≠ "java/lang/invoke/VarHandle" ∧ (parseMethodDescriptor y.desc).map (fun d => d.parameters.length) = some n
def sS (y : MethodName) (b : ByteArray) (nL : Nat) (ret : Option FieldType) (n : Nat) : Prop := (Cond.static y ∈ tbG ∧ Cond.initialized y.cls ∈ tbG ∧ Cond.code y b nL ret ∈ tbG) ∧ y.cls ≠ "java/lang/invoke/MethodHandle" ∧ y.cls ≠ "java/lang/invoke/VarHandle" ∧ (parseMethodDescriptor y.desc).map (fun d => d.parameters.length) = some n
/-- the receiver -/
def oB (g : GC) (C : String) (c : Nat) : Prop := c < 290 ∧ ∀ M, ∃ (ci : Nat) (q : vw_C) (fs : List Value), cel g M c = .inr (ci, fs) ∧ vwCl[ci]? = some q ∧ q.1 = C
section CALLS
variable {p : Program} {l : Launch} {e : Env} {R : Room} {s : State} {m : MethodId} {args : Array Value} {below : List Frame} {meth : Method} {c : Code} {H : Heap} {locs : List Loc} {cells slots : Nat} {Q : State → Prop}
variable {pc : Nat} {ls : Array Slot} {rest st0 : List Value} {cc : ByteArray} {nL : Nat} {own : String} {ret0 : Option FieldType} {g : GC} {M : Mem}
variable {y : MethodName} {b : ByteArray} {maxL n f k idx : Nat} {ret : Option FieldType} {As : List Value} {o : Nat}
theorem g_cb (X : Bx p s m args meth c own cc nL ret0 g) (hc : Cond.code y b maxL ret ∈ tbG) (hi : Cond.initialized y.cls ∈ tbG) (hlk : Cond.methodLink own idx y ∈ tbG) (hd : y.cls ≠ "java/lang/invoke/MethodHandle" ∧ y.cls ≠ "java/lang/invoke/VarHandle" ∧ (parseMethodDescriptor y.desc).map (fun d => d.parameters.length) = some n) (hR : f + 1 ≤ R.frames ∧ 8 + (maxL + 11) + k ≤ R.locals) :
    CallB R s args own idx y b maxL ret (wG y b maxL ret) (rM f k) 0 0 n :=
  callB_of n X.2.2.2.2.1 (wG_good hc) rfl rfl rfl (X.2.2.2.2.1 _ hi) (X.2.2.2.2.1 _ hlk) hd hR
theorem g_run (X : Bx p s m args meth c own cc nL ret0 g) {Qc : Array Value → State → Outcome → State → Prop} (hM : Met l y (wG y b maxL ret) (rM f k) (va_Pc (.ref (gz g + o) :: As) (gI g M)) Qc 0 0 (gA g)) (hs : sV y b maxL ret n) (ho : oB g y.cls o) (hlk : Cond.methodLink own idx y ∈ tbG) (hR : f + 1 ≤ R.frames ∧ 8 + (maxL + 11) + k ≤ R.locals)
    (hP : va_P g.1 vwCl (gW g M) H) (hS : va_S (gA g) s.heap H locs) (hn : As.length = n) (hl : ls.size = nL) (hst : st0 = As.reverse ++ .ref (gz g + o) :: rest) (hrm : (rest.map fun v => v.category).sum ≤ 8) (hf : cells + 0 ≤ R.cells ∧ slots + 0 ≤ R.slots) (hdg : decode cc pc = .ok (.invokevirtual idx, 3)) :
    va_Run p l e R s m args below meth c H locs cells slots 0 0 (F0 m pc ls st0) rest (Qc (Value.ref (gz g + o) :: As).toArray) (gA g) := by
  obtain ⟨ho1, ho2⟩ := ho
  obtain ⟨ci, q, fs, h1, h2, h3⟩ := ho2 M
  refine va_runV (C := y.cls) (b := gz g + o) (As := As) (rest := rest) ⟨X.1, X.2.1, X.2.2.1, X.2.2.2.1, X.2.2.2.2.1⟩ hM ⟨g_cb X hs.1.2.2.2 hs.1.2.2.1 hlk hs.2 hR, X.2.2.2.2.1 _ hs.1.1, X.2.2.2.2.1 _ hs.1.2.1⟩ ⟨fun a U g mk q => ⟨q.1, gI_blind U g mk a q.2⟩, ?_, fun U hU hW => ⟨rfl, gI_at hP X.2.2.2.2.2.1 X.2.2.2.2.2.2.1 hS hU hW⟩⟩ rfl hn hl hst (lv_room hrm) hdg hf
  have := va_recv (q0 := o) X.2.2.2.2.2.1 hP h2 (by rw [gW_get ho1, h1])
  rw [h3] at this
  exact this
theorem g_runS (X : Bx p s m args meth c own cc nL ret0 g) {Qc : Array Value → State → Outcome → State → Prop} (hM : Met l y (wG y b maxL ret) (rM f k) (va_Pc As (gI g M)) Qc 0 0 (gA g)) (hs : sS y b maxL ret n) (hlk : Cond.methodLink own idx y ∈ tbG) (hR : f + 1 ≤ R.frames ∧ 8 + (maxL + 11) + k ≤ R.locals)
    (hP : va_P g.1 vwCl (gW g M) H) (hS : va_S (gA g) s.heap H locs) (hn : As.length = n) (hl : ls.size = nL) (hst : st0 = As.reverse ++ rest) (hrm : (rest.map fun v => v.category).sum ≤ 8) (hf : cells + 0 ≤ R.cells ∧ slots + 0 ≤ R.slots) (hdg : decode cc pc = .ok (.invokestatic idx, 3)) :
    va_Run p l e R s m args below meth c H locs cells slots 0 0 (F0 m pc ls st0) rest (Qc As.toArray) (gA g) :=
  va_runS (As := As) (rest := rest) ⟨X.1, X.2.1, X.2.2.1, X.2.2.2.1, X.2.2.2.2.1⟩ hM ⟨g_cb X hs.1.2.2 hs.1.2.1 hlk hs.2 hR, X.2.2.2.2.1 _ hs.1.1⟩ ⟨fun a U g mk q => ⟨q.1, gI_blind U g mk a q.2⟩, fun U hU hW => ⟨rfl, gI_at hP X.2.2.2.2.2.1 X.2.2.2.2.2.2.1 hS hU hW⟩⟩ rfl hn hl hst (lv_room hrm) hdg hf
theorem g_goi {a : Array Value} {r : Int32} {M1 : Mem} (hr : va_Run p l e R s m args below meth c H locs cells slots 0 0 (F0 m pc ls st0) rest (qI g (r, M1) a) (gA g)) (hS : va_S (gA g) s.heap H locs)
    (kk : ∀ (H1 : Heap) (locs1 : List Loc), va_P g.1 vwCl (gW g M1) H1 → va_S (gA g) s.heap H1 locs1 → W p l e R s m args below meth c H1 locs1 cells slots Q (F0 m (pc + 3) ls (.int r :: rest))) : W p l e R s m args below meth c H locs cells slots Q (F0 m pc ls st0) := by
  refine va_calli hr hS (fun q _ h => h) (fun q h => h) (fun r2 u t H1 locs1 ht hvm hw hB _ _ hS1 => ?_)
  obtain ⟨h1, h2⟩ := hw
  dsimp only at h1 h2
  subst h1
  subst h2
  exact kk H1 locs1 (by rw [← ht]; exact hB.1) hS1
theorem g_gol {a : Array Value} {r : Int64} {M1 : Mem} (hr : va_Run p l e R s m args below meth c H locs cells slots 0 0 (F0 m pc ls st0) rest (qL g (r, M1) a) (gA g)) (hS : va_S (gA g) s.heap H locs)
    (kk : ∀ (H1 : Heap) (locs1 : List Loc), va_P g.1 vwCl (gW g M1) H1 → va_S (gA g) s.heap H1 locs1 → W p l e R s m args below meth c H1 locs1 cells slots Q (F0 m (pc + 3) ls (.long r :: rest))) : W p l e R s m args below meth c H locs cells slots Q (F0 m pc ls st0) := by
  refine va_calll hr hS (fun q _ h => h) (fun q h => h) (fun r2 u t H1 locs1 ht hvm hw hB _ _ hS1 => ?_)
  obtain ⟨h1, h2⟩ := hw
  dsimp only at h1 h2
  subst h1
  subst h2
  exact kk H1 locs1 (by rw [← ht]; exact hB.1) hS1
theorem g_gov {a : Array Value} {out : Mem} (hr : va_Run p l e R s m args below meth c H locs cells slots 0 0 (F0 m pc ls st0) rest (qV g out a) (gA g)) (hS : va_S (gA g) s.heap H locs)
    (kk : ∀ (H1 : Heap) (locs1 : List Loc), va_P g.1 vwCl (gW g out) H1 → va_S (gA g) s.heap H1 locs1 → W p l e R s m args below meth c H1 locs1 cells slots Q (F0 m (pc + 3) ls rest)) : W p l e R s m args below meth c H locs cells slots Q (F0 m pc ls st0) := by
  refine va_callv hr hS (fun q _ h => h) (fun q h => h) (fun u t H1 locs1 ht hvm hw hB _ _ hS1 => ?_)
  subst hw
  exact kk H1 locs1 (by rw [← ht]; exact hB.1) hS1
end CALLS
