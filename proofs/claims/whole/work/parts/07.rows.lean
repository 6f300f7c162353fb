/-! what a pure method is made of -/
def ck {α : Type} (i : Int32) (n : Nat) (a : Option α) : Option α := if i < 0 ∨ n ≤ i.toNatClampNeg then none else a
def cz {α : Type} (y : Int32) (a : Option α) : Option α := if y = 0 then none else a
def czl {α : Type} (y : Int64) (a : Option α) : Option α := if y = 0 then none else a
def cb {α β : Type} (o : Option (α × Mem)) (k : α → Mem → Option β) : Option β := match o with
  | none => none
  | some x => k x.1 x.2
def cv {β : Type} (o : Option Mem) (k : Mem → Option β) : Option β := match o with
  | none => none
  | some x => k x
def lt {α β : Type} (x : α) (k : α → Option β) : Option β := k x
/-- what arraycopy wants of its numbers -/
def ckc {α : Type} (sp dp n : Int32) (n0 n1 : Nat) (a : Option α) : Option α := if sp < 0 ∨ dp < 0 ∨ n < 0 ∨ n0 < sp.toNatClampNeg + n.toNatClampNeg ∨ n1 < dp.toNatClampNeg + n.toNatClampNeg then none else a
theorem ck_s {α : Type} {i : Int32} {n : Nat} {a : Option α} {out : α} (h : ck i n a = some out) : vp_in i n ∧ a = some out := by
  unfold ck at h
  split at h
  · cases h
  · exact ⟨by assumption, h⟩
theorem cz_s {α : Type} {y : Int32} {a : Option α} {out : α} (h : cz y a = some out) : ¬ y = 0 ∧ a = some out := by
  unfold cz at h
  split at h
  · cases h
  · exact ⟨by assumption, h⟩
theorem czl_s {α : Type} {y : Int64} {a : Option α} {out : α} (h : czl y a = some out) : ¬ y = 0 ∧ a = some out := by
  unfold czl at h
  split at h
  · cases h
  · exact ⟨by assumption, h⟩
theorem ckc_s {α : Type} {sp dp n : Int32} {n0 n1 : Nat} {a : Option α} {out : α} (h : ckc sp dp n n0 n1 a = some out) : (¬ sp < 0 ∧ ¬ dp < 0 ∧ ¬ n < 0 ∧ sp.toNatClampNeg + n.toNatClampNeg ≤ n0 ∧ dp.toNatClampNeg + n.toNatClampNeg ≤ n1) ∧ a = some out := by
  unfold ckc at h
  split at h
  · cases h
  · rename_i q
    refine ⟨⟨fun z => q (Or.inl z), fun z => q (Or.inr (Or.inl z)), fun z => q (Or.inr (Or.inr (Or.inl z))), ?_, ?_⟩, h⟩
    · exact Nat.not_lt.mp fun z => q (Or.inr (Or.inr (Or.inr (Or.inl z))))
    · exact Nat.not_lt.mp fun z => q (Or.inr (Or.inr (Or.inr (Or.inr z))))
theorem cb_s {α β : Type} {o : Option (α × Mem)} {k : α → Mem → Option β} {out : β} (h : cb o k = some out) : ∃ (r : α) (M1 : Mem), o = some (r, M1) ∧ k r M1 = some out := by
  cases o with
  | none => cases h
  | some x => exact ⟨x.1, x.2, rfl, h⟩
/-- a boolean that is answered -/
def cbz {α : Type} (v : Int32) (a : Option α) : Option α := if v = 0 ∨ v = 1 then a else none
theorem cbz_s {α : Type} {v : Int32} {a : Option α} {out : α} (h : cbz v a = some out) : narrow .boolean (.int v) = .int v ∧ a = some out := by
  unfold cbz at h
  split at h
  · rename_i q
    rcases q with rfl | rfl
    · exact ⟨rfl, h⟩
    · exact ⟨rfl, h⟩
  · cases h
/-- how often a loop may turn -/
def FU : Nat := 5000
theorem cv_s {β : Type} {o : Option Mem} {k : Mem → Option β} {out : β} (h : cv o k = some out) : ∃ x : Mem, o = some x ∧ k x = some out := by
  cases o with
  | none => cases h
  | some x => exact ⟨x, rfl, h⟩
theorem lt_go {α β : Type} {x y : α} {k : α → Option β} {out : β} (h : lt x k = some out) (e : y = x) : k y = some out := by
  subst e
  exact h
theorem it_t {α : Type} {c : Prop} [Decidable c] {a b out : α} (h : (if c then a else b) = out) (q : c) : a = out := by rw [if_pos q] at h; exact h
theorem it_f {α : Type} {c : Prop} [Decidable c] {a b out : α} (h : (if c then a else b) = out) (q : ¬ c) : b = out := by rw [if_neg q] at h; exact h
theorem sm_i {α : Type} {x y : α} (h : some x = some y) : x = y := Option.some.inj h

theorem cel_0 {g : GC} {M : Mem} {c : Nat} (h : kd c = 0) : cel g M c = .inr (0, [.ref (gz g + 3), .ref (gz g + (c + 1)), .int (M c 2)]) := by
  unfold cel celK
  rw [h]
  rfl
theorem oB_0 {g : GC} {c : Nat} (h : kd c = 0) : oB g RX0 c := ⟨kd_lt h (by decide), fun M => ⟨0, _, _, cel_0 h, rfl, rfl⟩⟩
theorem cel_1 {g : GC} {M : Mem} {c : Nat} (h : kd c = 1) : cel g M c = .inr (1, [.ref (gz g + (c + 1)), .int (M c 1), .int (M c 2)]) := by
  unfold cel celK
  rw [h]
  rfl
theorem oB_1 {g : GC} {c : Nat} (h : kd c = 1) : oB g RX1 c := ⟨kd_lt h (by decide), fun M => ⟨1, _, _, cel_1 h, rfl, rfl⟩⟩
theorem cel_2 {g : GC} {M : Mem} {c : Nat} (h : kd c = 2) : cel g M c = .inr (2, [.ref (gz g + (c + 1)), .int (M c 1), .int (M c 2), .int (M c 3)]) := by
  unfold cel celK
  rw [h]
  rfl
theorem oB_2 {g : GC} {c : Nat} (h : kd c = 2) : oB g RX2 c := ⟨kd_lt h (by decide), fun M => ⟨2, _, _, cel_2 h, rfl, rfl⟩⟩
theorem cel_3 {g : GC} {M : Mem} {c : Nat} (h : kd c = 3) : cel g M c = .inr (3, [.ref (gz g + 3), .ref (gz g + 164), .ref (gz g + 170)]) := by
  unfold cel celK
  rw [h]
  rfl
theorem oB_3 {g : GC} {c : Nat} (h : kd c = 3) : oB g RX3 c := ⟨kd_lt h (by decide), fun M => ⟨3, _, _, cel_3 h, rfl, rfl⟩⟩
theorem cel_4 {g : GC} {M : Mem} {c : Nat} (h : kd c = 4) : cel g M c = .inr (4, [.ref (gz g + (c + 1)), .int (M c 1), .int (M c 2), .int (M c 3), .int (M c 4)]) := by
  unfold cel celK
  rw [h]
  rfl
theorem oB_4 {g : GC} {c : Nat} (h : kd c = 4) : oB g RX4 c := ⟨kd_lt h (by decide), fun M => ⟨4, _, _, cel_4 h, rfl, rfl⟩⟩
theorem cel_5 {g : GC} {M : Mem} {c : Nat} (h : kd c = 5) : cel g M c = .inr (5, [.int (M c 0), .int (M c 1), .int (M c 2), .int (M c 3), .int (M c 4), .int (M c 5), .ref (gz g + (c + 1)), .ref (gz g + (c + 2)), .ref (gz g + (c + 3)), .ref (gz g + (c + 4)), .ref (gz g + (c + 5))]) := by
  unfold cel celK
  rw [h]
  rfl
theorem oB_5 {g : GC} {c : Nat} (h : kd c = 5) : oB g RX5 c := ⟨kd_lt h (by decide), fun M => ⟨5, _, _, cel_5 h, rfl, rfl⟩⟩
theorem cel_6 {g : GC} {M : Mem} {c : Nat} (h : kd c = 6) : cel g M c = .inr (6, [.ref (gz g + 1), .ref (gz g + 2), .ref (gz g + 3), .ref (gz g + 9), .ref (gz g + 15), .ref (gz g + 17), .ref (gz g + 163), .ref (gz g + 249), .int (M c 8), .int (M c 9)]) := by
  unfold cel celK
  rw [h]
  rfl
theorem oB_6 {g : GC} {c : Nat} (h : kd c = 6) : oB g RX6 c := ⟨kd_lt h (by decide), fun M => ⟨6, _, _, cel_6 h, rfl, rfl⟩⟩
theorem cel_7 {g : GC} {M : Mem} {c : Nat} (h : kd c = 7) : cel g M c = .inr (7, [.ref (gz g + 280), .int (M c 1), .ref (gz g + 281), .int (M c 3), .int (M c 4), .int (M c 5), .ref (gz g + 282), .ref (gz g + 283), .ref (gz g + 284), .ref (gz g + 285), .int (M c 10), .int (M c 11), .int (M c 12), .ref (gz g + 286), .ref (gz g + 287), .ref (gz g + 288), .ref (gz g + 289), .int (M c 17)]) := by
  unfold cel celK
  rw [h]
  rfl
theorem oB_7 {g : GC} {c : Nat} (h : kd c = 7) : oB g RX7 c := ⟨kd_lt h (by decide), fun M => ⟨7, _, _, cel_7 h, rfl, rfl⟩⟩
/-- a row of n ints, of booleans, of references -/
def iA (g : GC) (c n : Nat) : Prop := c < 290 ∧ ∀ M, cel g M c = .inl (g.2.1 0, n, .inl (M c))
def iZ (g : GC) (c n : Nat) : Prop := c < 290 ∧ ∀ M, cel g M c = .inl (g.2.1 1, n, .inl (M c))
theorem iA_8 {g : GC} {c : Nat} (h : kd c = 8) : iA g c 6 := ⟨kd_lt h (by decide), fun M => by unfold cel celK; rw [h]; rfl⟩
theorem iA_9 {g : GC} {c : Nat} (h : kd c = 9) : iA g c 12 := ⟨kd_lt h (by decide), fun M => by unfold cel celK; rw [h]; rfl⟩
theorem iA_10 {g : GC} {c : Nat} (h : kd c = 10) : iA g c 40 := ⟨kd_lt h (by decide), fun M => by unfold cel celK; rw [h]; rfl⟩
theorem iA_11 {g : GC} {c : Nat} (h : kd c = 11) : iA g c 100 := ⟨kd_lt h (by decide), fun M => by unfold cel celK; rw [h]; rfl⟩
theorem iA_12 {g : GC} {c : Nat} (h : kd c = 12) : iA g c 16 := ⟨kd_lt h (by decide), fun M => by unfold cel celK; rw [h]; rfl⟩
theorem iA_13 {g : GC} {c : Nat} (h : kd c = 13) : iA g c 1247 := ⟨kd_lt h (by decide), fun M => by unfold cel celK; rw [h]; rfl⟩
theorem iA_14 {g : GC} {c : Nat} (h : kd c = 14) : iA g c 8 := ⟨kd_lt h (by decide), fun M => by unfold cel celK; rw [h]; rfl⟩
theorem iA_15 {g : GC} {c : Nat} (h : kd c = 15) : iA g c 320 := ⟨kd_lt h (by decide), fun M => by unfold cel celK; rw [h]; rfl⟩
theorem iA_16 {g : GC} {c : Nat} (h : kd c = 16) : iA g c 30 := ⟨kd_lt h (by decide), fun M => by unfold cel celK; rw [h]; rfl⟩
theorem iZ_17 {g : GC} {c : Nat} (h : kd c = 17) : iZ g c 2 := ⟨kd_lt h (by decide), fun M => by unfold cel celK; rw [h]; rfl⟩
theorem iA_cel {g : GC} {c n : Nat} (h : iA g c n) (M : Mem) (f : Nat → Int32) : cel g (va_up M c f) c = .inl (g.2.1 0, n, .inl f) := by
  rw [h.2, va_up_self]
theorem iZ_cel {g : GC} {c n : Nat} (h : iZ g c n) (M : Mem) (f : Nat → Int32) : cel g (va_up M c f) c = .inl (g.2.1 1, n, .inl f) := by
  rw [h.2, va_up_self]
theorem kc_0 : kd 0 = 6 := by decide +kernel
theorem kc_1 : kd 1 = 18 := by decide +kernel
theorem kc_2 : kd 2 = 19 := by decide +kernel
theorem kc_3 : kd 3 = 5 := by decide +kernel
theorem kc_9 : kd 9 = 5 := by decide +kernel
theorem kc_15 : kd 15 = 4 := by decide +kernel
theorem kc_16 : kd 16 = 11 := by decide +kernel
theorem kc_17 : kd 17 = 1 := by decide +kernel
theorem kc_18 : kd 18 = 20 := by decide +kernel
theorem kc_163 : kd 163 = 3 := by decide +kernel
theorem kc_164 : kd 164 = 5 := by decide +kernel
theorem kc_170 : kd 170 = 21 := by decide +kernel
theorem kc_249 : kd 249 = 0 := by decide +kernel
theorem kc_250 : kd 250 = 12 := by decide +kernel
theorem kc_279 : kd 279 = 7 := by decide +kernel
theorem kc_280 : kd 280 = 13 := by decide +kernel
theorem kc_281 : kd 281 = 11 := by decide +kernel
theorem kc_282 : kd 282 = 14 := by decide +kernel
theorem kc_283 : kd 283 = 14 := by decide +kernel
theorem kc_284 : kd 284 = 15 := by decide +kernel
theorem kc_285 : kd 285 = 10 := by decide +kernel
theorem kc_286 : kd 286 = 16 := by decide +kernel
theorem kc_287 : kd 287 = 9 := by decide +kernel
theorem kc_288 : kd 288 = 17 := by decide +kernel
theorem kc_289 : kd 289 = 12 := by decide +kernel
theorem kdW1 {c : Nat} (h : kd c = 5) : kd (c + 1) = 9 := by
  have hl := kd_lt h (by decide)
  have key : ∀ c, c < 290 → kd c = 5 → kd (c + 1) = 9 := by decide +kernel
  exact key c hl h
theorem kdW2 {c : Nat} (h : kd c = 5) : kd (c + 2) = 8 := by
  have hl := kd_lt h (by decide)
  have key : ∀ c, c < 290 → kd c = 5 → kd (c + 2) = 8 := by decide +kernel
  exact key c hl h
theorem kdW3 {c : Nat} (h : kd c = 5) : kd (c + 3) = 8 := by
  have hl := kd_lt h (by decide)
  have key : ∀ c, c < 290 → kd c = 5 → kd (c + 3) = 8 := by decide +kernel
  exact key c hl h
theorem kdW4 {c : Nat} (h : kd c = 5) : kd (c + 4) = 8 := by
  have hl := kd_lt h (by decide)
  have key : ∀ c, c < 290 → kd c = 5 → kd (c + 4) = 8 := by decide +kernel
  exact key c hl h
theorem kdW5 {c : Nat} (h : kd c = 5) : kd (c + 5) = 8 := by
  have hl := kd_lt h (by decide)
  have key : ∀ c, c < 290 → kd c = 5 → kd (c + 5) = 8 := by decide +kernel
  exact key c hl h
theorem kdR1 {c : Nat} (h : kd c = 2) : kd (c + 1) = 10 := by
  have hl := kd_lt h (by decide)
  have key : ∀ c, c < 290 → kd c = 2 → kd (c + 1) = 10 := by decide +kernel
  exact key c hl h
theorem kd_kept {i : Int32} (h : vp_in i 24) : kd (19 + 6 * i.toNatClampNeg) = 5 := by
  have hl : i.toNatClampNeg < 24 := Nat.not_le.mp fun q => h (Or.inr q)
  have key : ∀ n, n < 24 → kd (19 + 6 * n) = 5 := by decide +kernel
  exact key _ hl
theorem kd_cases {i : Int32} (h : vp_in i 13) : kd (171 + 6 * i.toNatClampNeg) = 5 := by
  have hl : i.toNatClampNeg < 13 := Nat.not_le.mp fun q => h (Or.inr q)
  have key : ∀ n, n < 13 → kd (171 + 6 * n) = 5 := by decide +kernel
  exact key _ hl
theorem kd_images {i : Int32} (h : vp_in i 2) : kd (267 + 6 * i.toNatClampNeg) = 5 := by
  have hl : i.toNatClampNeg < 2 := Nat.not_le.mp fun q => h (Or.inr q)
  have key : ∀ n, n < 2 → kd (267 + 6 * n) = 5 := by decide +kernel
  exact key _ hl
theorem kd_rows {i : Int32} (h : vp_in i 8) : kd (251 + 2 * i.toNatClampNeg) = 2 := by
  have hl : i.toNatClampNeg < 8 := Nat.not_le.mp fun q => h (Or.inr q)
  have key : ∀ n, n < 8 → kd (251 + 2 * n) = 2 := by decide +kernel
  exact key _ hl
section ROWS
variable {p : Program} {l : Launch} {e : Env} {R : Room} {s : State} {m : MethodId} {args : Array Value} {below : List Frame} {meth : Method} {c0 : Code} {H : Heap} {locs : List Loc} {cells slots : Nat} {Q : State → Prop}
variable {pc : Nat} {ls : Array Slot} {rest : List Value} {cc : ByteArray} {nL : Nat} {own : String} {ret0 : Option FieldType} {g : GC} {M : Mem} {c idx : Nat}
theorem gf_0_0 (X : Bx p s m args meth c0 own cc nL ret0 g) (hP : va_P g.1 vwCl (gW g M) H) (hk : kd c = 0) (hlk : Cond.fieldLink own idx "MusicBox$Asking" "now" "LMusicBox$Works;" ∈ tbG) (hdg : decode cc pc = .ok (.getfield idx, 3)) (kk : W p l e R s m args below meth c0 H locs cells slots Q (F0 m (pc + 3) ls (.ref (gz g + 3) :: rest))) : W p l e R s m args below meth c0 H locs cells slots Q (F0 m pc ls (.ref (gz g + c) :: rest)) :=
  va_get (T := TX0) (N := 3) X.1 X.2.1 X.2.2.2.2.1 inX0 X.2.2.2.1 X.2.2.2.2.2.1 hP c (by rw [gW_get (kd_lt hk (by decide)), cel_0 hk]) rfl 0 (by decide) (X.2.2.2.2.1 _ hlk) (fun _ h => h) rfl hdg kk
theorem gf_0_1 (X : Bx p s m args meth c0 own cc nL ret0 g) (hP : va_P g.1 vwCl (gW g M) H) (hk : kd c = 0) (hlk : Cond.fieldLink own idx "MusicBox$Asking" "left" "[I" ∈ tbG) (hdg : decode cc pc = .ok (.getfield idx, 3)) (kk : W p l e R s m args below meth c0 H locs cells slots Q (F0 m (pc + 3) ls (.ref (gz g + (c + 1)) :: rest))) : W p l e R s m args below meth c0 H locs cells slots Q (F0 m pc ls (.ref (gz g + c) :: rest)) :=
  va_get (T := TX0) (N := 3) X.1 X.2.1 X.2.2.2.2.1 inX0 X.2.2.2.1 X.2.2.2.2.2.1 hP c (by rw [gW_get (kd_lt hk (by decide)), cel_0 hk]) rfl 1 (by decide) (X.2.2.2.2.1 _ hlk) (fun _ h => h) rfl hdg kk
theorem gf_0_2 (X : Bx p s m args meth c0 own cc nL ret0 g) (hP : va_P g.1 vwCl (gW g M) H) (hk : kd c = 0) (hlk : Cond.fieldLink own idx "MusicBox$Asking" "length" "I" ∈ tbG) (hdg : decode cc pc = .ok (.getfield idx, 3)) (kk : W p l e R s m args below meth c0 H locs cells slots Q (F0 m (pc + 3) ls (.int (M c 2) :: rest))) : W p l e R s m args below meth c0 H locs cells slots Q (F0 m pc ls (.ref (gz g + c) :: rest)) :=
  va_get (T := TX0) (N := 3) X.1 X.2.1 X.2.2.2.2.1 inX0 X.2.2.2.1 X.2.2.2.2.2.1 hP c (by rw [gW_get (kd_lt hk (by decide)), cel_0 hk]) rfl 2 (by decide) (X.2.2.2.2.1 _ hlk) (fun _ h => h) rfl hdg kk
theorem gp_0_2 {x : Int32} (X : Bx p s m args meth c0 own cc nL ret0 g) (hP : va_P g.1 vwCl (gW g M) H) (hS : va_S (gA g) s.heap H locs) (hk : kd c = 0) (hlk : Cond.fieldLink own idx "MusicBox$Asking" "length" "I" ∈ tbG) (hdg : decode cc pc = .ok (.putfield idx, 3)) (kk : ∀ (H1 : Heap) (locs1 : List Loc) (M1 : Mem), M1 = up2 M c 2 x → va_P g.1 vwCl (gW g M1) H1 → va_S (gA g) s.heap H1 locs1 → W p l e R s m args below meth c0 H1 locs1 cells slots Q (F0 m (pc + 3) ls rest)) : W p l e R s m args below meth c0 H locs cells slots Q (F0 m pc ls (.int x :: .ref (gz g + c) :: rest)) := by
  refine va_put (T := TX0) (N := 3) (ty := .int) X.1 X.2.1 X.2.2.2.2.1 inX0 tyX0 tyX0_ok nmX0 X.2.2.2.1 X.2.2.2.2.2.1 hP (gW_D g M) hS c (by rw [gW_get (kd_lt hk (by decide)), cel_0 hk]) rfl 2 (by decide) (X.2.2.2.2.1 _ hlk) (fun _ h => h) rfl (by decide +kernel) rfl rfl (Nat.le_of_ble_eq_true rfl) hdg (fun H1 locs1 hP1 _ hS1 => kk H1 locs1 _ rfl ?_ hS1)
  rw [gW_set (M' := up2 M c 2 x) (by rw [cel_0 hk]; simp [up2, va_up_self, upd]) (fun b hb => va_up_ne _ _ hb)] at hP1
  exact hP1
theorem gf_1_0 (X : Bx p s m args meth c0 own cc nL ret0 g) (hP : va_P g.1 vwCl (gW g M) H) (hk : kd c = 1) (hlk : Cond.fieldLink own idx "MusicBox$Past" "kept" "[LMusicBox$Works;" ∈ tbG) (hdg : decode cc pc = .ok (.getfield idx, 3)) (kk : W p l e R s m args below meth c0 H locs cells slots Q (F0 m (pc + 3) ls (.ref (gz g + (c + 1)) :: rest))) : W p l e R s m args below meth c0 H locs cells slots Q (F0 m pc ls (.ref (gz g + c) :: rest)) :=
  va_get (T := TX1) (N := 3) X.1 X.2.1 X.2.2.2.2.1 inX1 X.2.2.2.1 X.2.2.2.2.2.1 hP c (by rw [gW_get (kd_lt hk (by decide)), cel_1 hk]) rfl 0 (by decide) (X.2.2.2.2.1 _ hlk) (fun _ h => h) rfl hdg kk
theorem gf_1_1 (X : Bx p s m args meth c0 own cc nL ret0 g) (hP : va_P g.1 vwCl (gW g M) H) (hk : kd c = 1) (hlk : Cond.fieldLink own idx "MusicBox$Past" "next" "I" ∈ tbG) (hdg : decode cc pc = .ok (.getfield idx, 3)) (kk : W p l e R s m args below meth c0 H locs cells slots Q (F0 m (pc + 3) ls (.int (M c 1) :: rest))) : W p l e R s m args below meth c0 H locs cells slots Q (F0 m pc ls (.ref (gz g + c) :: rest)) :=
  va_get (T := TX1) (N := 3) X.1 X.2.1 X.2.2.2.2.1 inX1 X.2.2.2.1 X.2.2.2.2.2.1 hP c (by rw [gW_get (kd_lt hk (by decide)), cel_1 hk]) rfl 1 (by decide) (X.2.2.2.2.1 _ hlk) (fun _ h => h) rfl hdg kk
theorem gp_1_1 {x : Int32} (X : Bx p s m args meth c0 own cc nL ret0 g) (hP : va_P g.1 vwCl (gW g M) H) (hS : va_S (gA g) s.heap H locs) (hk : kd c = 1) (hlk : Cond.fieldLink own idx "MusicBox$Past" "next" "I" ∈ tbG) (hdg : decode cc pc = .ok (.putfield idx, 3)) (kk : ∀ (H1 : Heap) (locs1 : List Loc) (M1 : Mem), M1 = up2 M c 1 x → va_P g.1 vwCl (gW g M1) H1 → va_S (gA g) s.heap H1 locs1 → W p l e R s m args below meth c0 H1 locs1 cells slots Q (F0 m (pc + 3) ls rest)) : W p l e R s m args below meth c0 H locs cells slots Q (F0 m pc ls (.int x :: .ref (gz g + c) :: rest)) := by
  refine va_put (T := TX1) (N := 3) (ty := .int) X.1 X.2.1 X.2.2.2.2.1 inX1 tyX1 tyX1_ok nmX1 X.2.2.2.1 X.2.2.2.2.2.1 hP (gW_D g M) hS c (by rw [gW_get (kd_lt hk (by decide)), cel_1 hk]) rfl 1 (by decide) (X.2.2.2.2.1 _ hlk) (fun _ h => h) rfl (by decide +kernel) rfl rfl (Nat.le_of_ble_eq_true rfl) hdg (fun H1 locs1 hP1 _ hS1 => kk H1 locs1 _ rfl ?_ hS1)
  rw [gW_set (M' := up2 M c 1 x) (by rw [cel_1 hk]; simp [up2, va_up_self, upd]) (fun b hb => va_up_ne _ _ hb)] at hP1
  exact hP1
theorem gf_1_2 (X : Bx p s m args meth c0 own cc nL ret0 g) (hP : va_P g.1 vwCl (gW g M) H) (hk : kd c = 1) (hlk : Cond.fieldLink own idx "MusicBox$Past" "size" "I" ∈ tbG) (hdg : decode cc pc = .ok (.getfield idx, 3)) (kk : W p l e R s m args below meth c0 H locs cells slots Q (F0 m (pc + 3) ls (.int (M c 2) :: rest))) : W p l e R s m args below meth c0 H locs cells slots Q (F0 m pc ls (.ref (gz g + c) :: rest)) :=
  va_get (T := TX1) (N := 3) X.1 X.2.1 X.2.2.2.2.1 inX1 X.2.2.2.1 X.2.2.2.2.2.1 hP c (by rw [gW_get (kd_lt hk (by decide)), cel_1 hk]) rfl 2 (by decide) (X.2.2.2.2.1 _ hlk) (fun _ h => h) rfl hdg kk
theorem gp_1_2 {x : Int32} (X : Bx p s m args meth c0 own cc nL ret0 g) (hP : va_P g.1 vwCl (gW g M) H) (hS : va_S (gA g) s.heap H locs) (hk : kd c = 1) (hlk : Cond.fieldLink own idx "MusicBox$Past" "size" "I" ∈ tbG) (hdg : decode cc pc = .ok (.putfield idx, 3)) (kk : ∀ (H1 : Heap) (locs1 : List Loc) (M1 : Mem), M1 = up2 M c 2 x → va_P g.1 vwCl (gW g M1) H1 → va_S (gA g) s.heap H1 locs1 → W p l e R s m args below meth c0 H1 locs1 cells slots Q (F0 m (pc + 3) ls rest)) : W p l e R s m args below meth c0 H locs cells slots Q (F0 m pc ls (.int x :: .ref (gz g + c) :: rest)) := by
  refine va_put (T := TX1) (N := 3) (ty := .int) X.1 X.2.1 X.2.2.2.2.1 inX1 tyX1 tyX1_ok nmX1 X.2.2.2.1 X.2.2.2.2.2.1 hP (gW_D g M) hS c (by rw [gW_get (kd_lt hk (by decide)), cel_1 hk]) rfl 2 (by decide) (X.2.2.2.2.1 _ hlk) (fun _ h => h) rfl (by decide +kernel) rfl rfl (Nat.le_of_ble_eq_true rfl) hdg (fun H1 locs1 hP1 _ hS1 => kk H1 locs1 _ rfl ?_ hS1)
  rw [gW_set (M' := up2 M c 2 x) (by rw [cel_1 hk]; simp [up2, va_up_self, upd]) (fun b hb => va_up_ne _ _ hb)] at hP1
  exact hP1
theorem gf_2_0 (X : Bx p s m args meth c0 own cc nL ret0 g) (hP : va_P g.1 vwCl (gW g M) H) (hk : kd c = 2) (hlk : Cond.fieldLink own idx "MusicBox$Row" "items" "[I" ∈ tbG) (hdg : decode cc pc = .ok (.getfield idx, 3)) (kk : W p l e R s m args below meth c0 H locs cells slots Q (F0 m (pc + 3) ls (.ref (gz g + (c + 1)) :: rest))) : W p l e R s m args below meth c0 H locs cells slots Q (F0 m pc ls (.ref (gz g + c) :: rest)) :=
  va_get (T := TX2) (N := 4) X.1 X.2.1 X.2.2.2.2.1 inX2 X.2.2.2.1 X.2.2.2.2.2.1 hP c (by rw [gW_get (kd_lt hk (by decide)), cel_2 hk]) rfl 0 (by decide) (X.2.2.2.2.1 _ hlk) (fun _ h => h) rfl hdg kk
theorem gf_2_1 (X : Bx p s m args meth c0 own cc nL ret0 g) (hP : va_P g.1 vwCl (gW g M) H) (hk : kd c = 2) (hlk : Cond.fieldLink own idx "MusicBox$Row" "there" "Z" ∈ tbG) (hdg : decode cc pc = .ok (.getfield idx, 3)) (kk : W p l e R s m args below meth c0 H locs cells slots Q (F0 m (pc + 3) ls (.int (M c 1) :: rest))) : W p l e R s m args below meth c0 H locs cells slots Q (F0 m pc ls (.ref (gz g + c) :: rest)) :=
  va_get (T := TX2) (N := 4) X.1 X.2.1 X.2.2.2.2.1 inX2 X.2.2.2.1 X.2.2.2.2.2.1 hP c (by rw [gW_get (kd_lt hk (by decide)), cel_2 hk]) rfl 1 (by decide) (X.2.2.2.2.1 _ hlk) (fun _ h => h) rfl hdg kk
theorem gp_2_1 {x : Int32} (X : Bx p s m args meth c0 own cc nL ret0 g) (hP : va_P g.1 vwCl (gW g M) H) (hS : va_S (gA g) s.heap H locs) (hk : kd c = 2) (hz : narrow .boolean (.int x) = .int x) (hft : fits .boolean (.int x) = true) (hlk : Cond.fieldLink own idx "MusicBox$Row" "there" "Z" ∈ tbG) (hdg : decode cc pc = .ok (.putfield idx, 3)) (kk : ∀ (H1 : Heap) (locs1 : List Loc) (M1 : Mem), M1 = up2 M c 1 x → va_P g.1 vwCl (gW g M1) H1 → va_S (gA g) s.heap H1 locs1 → W p l e R s m args below meth c0 H1 locs1 cells slots Q (F0 m (pc + 3) ls rest)) : W p l e R s m args below meth c0 H locs cells slots Q (F0 m pc ls (.int x :: .ref (gz g + c) :: rest)) := by
  refine va_put (T := TX2) (N := 4) (ty := .boolean) X.1 X.2.1 X.2.2.2.2.1 inX2 tyX2 tyX2_ok nmX2 X.2.2.2.1 X.2.2.2.2.2.1 hP (gW_D g M) hS c (by rw [gW_get (kd_lt hk (by decide)), cel_2 hk]) rfl 1 (by decide) (X.2.2.2.2.1 _ hlk) (fun _ h => h) rfl (by decide +kernel) hz hft (Nat.le_of_ble_eq_true rfl) hdg (fun H1 locs1 hP1 _ hS1 => kk H1 locs1 _ rfl ?_ hS1)
  rw [gW_set (M' := up2 M c 1 x) (by rw [cel_2 hk]; simp [up2, va_up_self, upd]) (fun b hb => va_up_ne _ _ hb)] at hP1
  exact hP1
theorem gf_2_2 (X : Bx p s m args meth c0 own cc nL ret0 g) (hP : va_P g.1 vwCl (gW g M) H) (hk : kd c = 2) (hlk : Cond.fieldLink own idx "MusicBox$Row" "lane" "I" ∈ tbG) (hdg : decode cc pc = .ok (.getfield idx, 3)) (kk : W p l e R s m args below meth c0 H locs cells slots Q (F0 m (pc + 3) ls (.int (M c 2) :: rest))) : W p l e R s m args below meth c0 H locs cells slots Q (F0 m pc ls (.ref (gz g + c) :: rest)) :=
  va_get (T := TX2) (N := 4) X.1 X.2.1 X.2.2.2.2.1 inX2 X.2.2.2.1 X.2.2.2.2.2.1 hP c (by rw [gW_get (kd_lt hk (by decide)), cel_2 hk]) rfl 2 (by decide) (X.2.2.2.2.1 _ hlk) (fun _ h => h) rfl hdg kk
theorem gp_2_2 {x : Int32} (X : Bx p s m args meth c0 own cc nL ret0 g) (hP : va_P g.1 vwCl (gW g M) H) (hS : va_S (gA g) s.heap H locs) (hk : kd c = 2) (hlk : Cond.fieldLink own idx "MusicBox$Row" "lane" "I" ∈ tbG) (hdg : decode cc pc = .ok (.putfield idx, 3)) (kk : ∀ (H1 : Heap) (locs1 : List Loc) (M1 : Mem), M1 = up2 M c 2 x → va_P g.1 vwCl (gW g M1) H1 → va_S (gA g) s.heap H1 locs1 → W p l e R s m args below meth c0 H1 locs1 cells slots Q (F0 m (pc + 3) ls rest)) : W p l e R s m args below meth c0 H locs cells slots Q (F0 m pc ls (.int x :: .ref (gz g + c) :: rest)) := by
  refine va_put (T := TX2) (N := 4) (ty := .int) X.1 X.2.1 X.2.2.2.2.1 inX2 tyX2 tyX2_ok nmX2 X.2.2.2.1 X.2.2.2.2.2.1 hP (gW_D g M) hS c (by rw [gW_get (kd_lt hk (by decide)), cel_2 hk]) rfl 2 (by decide) (X.2.2.2.2.1 _ hlk) (fun _ h => h) rfl (by decide +kernel) rfl rfl (Nat.le_of_ble_eq_true rfl) hdg (fun H1 locs1 hP1 _ hS1 => kk H1 locs1 _ rfl ?_ hS1)
  rw [gW_set (M' := up2 M c 2 x) (by rw [cel_2 hk]; simp [up2, va_up_self, upd]) (fun b hb => va_up_ne _ _ hb)] at hP1
  exact hP1
theorem gf_2_3 (X : Bx p s m args meth c0 own cc nL ret0 g) (hP : va_P g.1 vwCl (gW g M) H) (hk : kd c = 2) (hlk : Cond.fieldLink own idx "MusicBox$Row" "size" "I" ∈ tbG) (hdg : decode cc pc = .ok (.getfield idx, 3)) (kk : W p l e R s m args below meth c0 H locs cells slots Q (F0 m (pc + 3) ls (.int (M c 3) :: rest))) : W p l e R s m args below meth c0 H locs cells slots Q (F0 m pc ls (.ref (gz g + c) :: rest)) :=
  va_get (T := TX2) (N := 4) X.1 X.2.1 X.2.2.2.2.1 inX2 X.2.2.2.1 X.2.2.2.2.2.1 hP c (by rw [gW_get (kd_lt hk (by decide)), cel_2 hk]) rfl 3 (by decide) (X.2.2.2.2.1 _ hlk) (fun _ h => h) rfl hdg kk
theorem gp_2_3 {x : Int32} (X : Bx p s m args meth c0 own cc nL ret0 g) (hP : va_P g.1 vwCl (gW g M) H) (hS : va_S (gA g) s.heap H locs) (hk : kd c = 2) (hlk : Cond.fieldLink own idx "MusicBox$Row" "size" "I" ∈ tbG) (hdg : decode cc pc = .ok (.putfield idx, 3)) (kk : ∀ (H1 : Heap) (locs1 : List Loc) (M1 : Mem), M1 = up2 M c 3 x → va_P g.1 vwCl (gW g M1) H1 → va_S (gA g) s.heap H1 locs1 → W p l e R s m args below meth c0 H1 locs1 cells slots Q (F0 m (pc + 3) ls rest)) : W p l e R s m args below meth c0 H locs cells slots Q (F0 m pc ls (.int x :: .ref (gz g + c) :: rest)) := by
  refine va_put (T := TX2) (N := 4) (ty := .int) X.1 X.2.1 X.2.2.2.2.1 inX2 tyX2 tyX2_ok nmX2 X.2.2.2.1 X.2.2.2.2.2.1 hP (gW_D g M) hS c (by rw [gW_get (kd_lt hk (by decide)), cel_2 hk]) rfl 3 (by decide) (X.2.2.2.2.1 _ hlk) (fun _ h => h) rfl (by decide +kernel) rfl rfl (Nat.le_of_ble_eq_true rfl) hdg (fun H1 locs1 hP1 _ hS1 => kk H1 locs1 _ rfl ?_ hS1)
  rw [gW_set (M' := up2 M c 3 x) (by rw [cel_2 hk]; simp [up2, va_up_self, upd]) (fun b hb => va_up_ne _ _ hb)] at hP1
  exact hP1
theorem gf_3_0 (X : Bx p s m args meth c0 own cc nL ret0 g) (hP : va_P g.1 vwCl (gW g M) H) (hk : kd c = 3) (hlk : Cond.fieldLink own idx "MusicBox$Seer" "now" "LMusicBox$Works;" ∈ tbG) (hdg : decode cc pc = .ok (.getfield idx, 3)) (kk : W p l e R s m args below meth c0 H locs cells slots Q (F0 m (pc + 3) ls (.ref (gz g + 3) :: rest))) : W p l e R s m args below meth c0 H locs cells slots Q (F0 m pc ls (.ref (gz g + c) :: rest)) :=
  va_get (T := TX3) (N := 3) X.1 X.2.1 X.2.2.2.2.1 inX3 X.2.2.2.1 X.2.2.2.2.2.1 hP c (by rw [gW_get (kd_lt hk (by decide)), cel_3 hk]) rfl 0 (by decide) (X.2.2.2.2.1 _ hlk) (fun _ h => h) rfl hdg kk
theorem gf_3_1 (X : Bx p s m args meth c0 own cc nL ret0 g) (hP : va_P g.1 vwCl (gW g M) H) (hk : kd c = 3) (hlk : Cond.fieldLink own idx "MusicBox$Seer" "trial" "LMusicBox$Works;" ∈ tbG) (hdg : decode cc pc = .ok (.getfield idx, 3)) (kk : W p l e R s m args below meth c0 H locs cells slots Q (F0 m (pc + 3) ls (.ref (gz g + 164) :: rest))) : W p l e R s m args below meth c0 H locs cells slots Q (F0 m pc ls (.ref (gz g + c) :: rest)) :=
  va_get (T := TX3) (N := 3) X.1 X.2.1 X.2.2.2.2.1 inX3 X.2.2.2.1 X.2.2.2.2.2.1 hP c (by rw [gW_get (kd_lt hk (by decide)), cel_3 hk]) rfl 1 (by decide) (X.2.2.2.2.1 _ hlk) (fun _ h => h) rfl hdg kk
theorem gf_3_2 (X : Bx p s m args meth c0 own cc nL ret0 g) (hP : va_P g.1 vwCl (gW g M) H) (hk : kd c = 3) (hlk : Cond.fieldLink own idx "MusicBox$Seer" "cases" "[LMusicBox$Works;" ∈ tbG) (hdg : decode cc pc = .ok (.getfield idx, 3)) (kk : W p l e R s m args below meth c0 H locs cells slots Q (F0 m (pc + 3) ls (.ref (gz g + 170) :: rest))) : W p l e R s m args below meth c0 H locs cells slots Q (F0 m pc ls (.ref (gz g + c) :: rest)) :=
  va_get (T := TX3) (N := 3) X.1 X.2.1 X.2.2.2.2.1 inX3 X.2.2.2.1 X.2.2.2.2.2.1 hP c (by rw [gW_get (kd_lt hk (by decide)), cel_3 hk]) rfl 2 (by decide) (X.2.2.2.2.1 _ hlk) (fun _ h => h) rfl hdg kk
theorem gf_4_0 (X : Bx p s m args meth c0 own cc nL ret0 g) (hP : va_P g.1 vwCl (gW g M) H) (hk : kd c = 4) (hlk : Cond.fieldLink own idx "MusicBox$Tape" "bytes" "[I" ∈ tbG) (hdg : decode cc pc = .ok (.getfield idx, 3)) (kk : W p l e R s m args below meth c0 H locs cells slots Q (F0 m (pc + 3) ls (.ref (gz g + (c + 1)) :: rest))) : W p l e R s m args below meth c0 H locs cells slots Q (F0 m pc ls (.ref (gz g + c) :: rest)) :=
  va_get (T := TX4) (N := 5) X.1 X.2.1 X.2.2.2.2.1 inX4 X.2.2.2.1 X.2.2.2.2.2.1 hP c (by rw [gW_get (kd_lt hk (by decide)), cel_4 hk]) rfl 0 (by decide) (X.2.2.2.2.1 _ hlk) (fun _ h => h) rfl hdg kk
theorem gf_4_1 (X : Bx p s m args meth c0 own cc nL ret0 g) (hP : va_P g.1 vwCl (gW g M) H) (hk : kd c = 4) (hlk : Cond.fieldLink own idx "MusicBox$Tape" "length" "I" ∈ tbG) (hdg : decode cc pc = .ok (.getfield idx, 3)) (kk : W p l e R s m args below meth c0 H locs cells slots Q (F0 m (pc + 3) ls (.int (M c 1) :: rest))) : W p l e R s m args below meth c0 H locs cells slots Q (F0 m pc ls (.ref (gz g + c) :: rest)) :=
  va_get (T := TX4) (N := 5) X.1 X.2.1 X.2.2.2.2.1 inX4 X.2.2.2.1 X.2.2.2.2.2.1 hP c (by rw [gW_get (kd_lt hk (by decide)), cel_4 hk]) rfl 1 (by decide) (X.2.2.2.2.1 _ hlk) (fun _ h => h) rfl hdg kk
theorem gp_4_1 {x : Int32} (X : Bx p s m args meth c0 own cc nL ret0 g) (hP : va_P g.1 vwCl (gW g M) H) (hS : va_S (gA g) s.heap H locs) (hk : kd c = 4) (hlk : Cond.fieldLink own idx "MusicBox$Tape" "length" "I" ∈ tbG) (hdg : decode cc pc = .ok (.putfield idx, 3)) (kk : ∀ (H1 : Heap) (locs1 : List Loc) (M1 : Mem), M1 = up2 M c 1 x → va_P g.1 vwCl (gW g M1) H1 → va_S (gA g) s.heap H1 locs1 → W p l e R s m args below meth c0 H1 locs1 cells slots Q (F0 m (pc + 3) ls rest)) : W p l e R s m args below meth c0 H locs cells slots Q (F0 m pc ls (.int x :: .ref (gz g + c) :: rest)) := by
  refine va_put (T := TX4) (N := 5) (ty := .int) X.1 X.2.1 X.2.2.2.2.1 inX4 tyX4 tyX4_ok nmX4 X.2.2.2.1 X.2.2.2.2.2.1 hP (gW_D g M) hS c (by rw [gW_get (kd_lt hk (by decide)), cel_4 hk]) rfl 1 (by decide) (X.2.2.2.2.1 _ hlk) (fun _ h => h) rfl (by decide +kernel) rfl rfl (Nat.le_of_ble_eq_true rfl) hdg (fun H1 locs1 hP1 _ hS1 => kk H1 locs1 _ rfl ?_ hS1)
  rw [gW_set (M' := up2 M c 1 x) (by rw [cel_4 hk]; simp [up2, va_up_self, upd]) (fun b hb => va_up_ne _ _ hb)] at hP1
  exact hP1
theorem gf_4_2 (X : Bx p s m args meth c0 own cc nL ret0 g) (hP : va_P g.1 vwCl (gW g M) H) (hk : kd c = 4) (hlk : Cond.fieldLink own idx "MusicBox$Tape" "at" "I" ∈ tbG) (hdg : decode cc pc = .ok (.getfield idx, 3)) (kk : W p l e R s m args below meth c0 H locs cells slots Q (F0 m (pc + 3) ls (.int (M c 2) :: rest))) : W p l e R s m args below meth c0 H locs cells slots Q (F0 m pc ls (.ref (gz g + c) :: rest)) :=
  va_get (T := TX4) (N := 5) X.1 X.2.1 X.2.2.2.2.1 inX4 X.2.2.2.1 X.2.2.2.2.2.1 hP c (by rw [gW_get (kd_lt hk (by decide)), cel_4 hk]) rfl 2 (by decide) (X.2.2.2.2.1 _ hlk) (fun _ h => h) rfl hdg kk
theorem gp_4_2 {x : Int32} (X : Bx p s m args meth c0 own cc nL ret0 g) (hP : va_P g.1 vwCl (gW g M) H) (hS : va_S (gA g) s.heap H locs) (hk : kd c = 4) (hlk : Cond.fieldLink own idx "MusicBox$Tape" "at" "I" ∈ tbG) (hdg : decode cc pc = .ok (.putfield idx, 3)) (kk : ∀ (H1 : Heap) (locs1 : List Loc) (M1 : Mem), M1 = up2 M c 2 x → va_P g.1 vwCl (gW g M1) H1 → va_S (gA g) s.heap H1 locs1 → W p l e R s m args below meth c0 H1 locs1 cells slots Q (F0 m (pc + 3) ls rest)) : W p l e R s m args below meth c0 H locs cells slots Q (F0 m pc ls (.int x :: .ref (gz g + c) :: rest)) := by
  refine va_put (T := TX4) (N := 5) (ty := .int) X.1 X.2.1 X.2.2.2.2.1 inX4 tyX4 tyX4_ok nmX4 X.2.2.2.1 X.2.2.2.2.2.1 hP (gW_D g M) hS c (by rw [gW_get (kd_lt hk (by decide)), cel_4 hk]) rfl 2 (by decide) (X.2.2.2.2.1 _ hlk) (fun _ h => h) rfl (by decide +kernel) rfl rfl (Nat.le_of_ble_eq_true rfl) hdg (fun H1 locs1 hP1 _ hS1 => kk H1 locs1 _ rfl ?_ hS1)
  rw [gW_set (M' := up2 M c 2 x) (by rw [cel_4 hk]; simp [up2, va_up_self, upd]) (fun b hb => va_up_ne _ _ hb)] at hP1
  exact hP1
theorem gf_4_3 (X : Bx p s m args meth c0 own cc nL ret0 g) (hP : va_P g.1 vwCl (gW g M) H) (hk : kd c = 4) (hlk : Cond.fieldLink own idx "MusicBox$Tape" "fault" "I" ∈ tbG) (hdg : decode cc pc = .ok (.getfield idx, 3)) (kk : W p l e R s m args below meth c0 H locs cells slots Q (F0 m (pc + 3) ls (.int (M c 3) :: rest))) : W p l e R s m args below meth c0 H locs cells slots Q (F0 m pc ls (.ref (gz g + c) :: rest)) :=
  va_get (T := TX4) (N := 5) X.1 X.2.1 X.2.2.2.2.1 inX4 X.2.2.2.1 X.2.2.2.2.2.1 hP c (by rw [gW_get (kd_lt hk (by decide)), cel_4 hk]) rfl 3 (by decide) (X.2.2.2.2.1 _ hlk) (fun _ h => h) rfl hdg kk
theorem gp_4_3 {x : Int32} (X : Bx p s m args meth c0 own cc nL ret0 g) (hP : va_P g.1 vwCl (gW g M) H) (hS : va_S (gA g) s.heap H locs) (hk : kd c = 4) (hlk : Cond.fieldLink own idx "MusicBox$Tape" "fault" "I" ∈ tbG) (hdg : decode cc pc = .ok (.putfield idx, 3)) (kk : ∀ (H1 : Heap) (locs1 : List Loc) (M1 : Mem), M1 = up2 M c 3 x → va_P g.1 vwCl (gW g M1) H1 → va_S (gA g) s.heap H1 locs1 → W p l e R s m args below meth c0 H1 locs1 cells slots Q (F0 m (pc + 3) ls rest)) : W p l e R s m args below meth c0 H locs cells slots Q (F0 m pc ls (.int x :: .ref (gz g + c) :: rest)) := by
  refine va_put (T := TX4) (N := 5) (ty := .int) X.1 X.2.1 X.2.2.2.2.1 inX4 tyX4 tyX4_ok nmX4 X.2.2.2.1 X.2.2.2.2.2.1 hP (gW_D g M) hS c (by rw [gW_get (kd_lt hk (by decide)), cel_4 hk]) rfl 3 (by decide) (X.2.2.2.2.1 _ hlk) (fun _ h => h) rfl (by decide +kernel) rfl rfl (Nat.le_of_ble_eq_true rfl) hdg (fun H1 locs1 hP1 _ hS1 => kk H1 locs1 _ rfl ?_ hS1)
  rw [gW_set (M' := up2 M c 3 x) (by rw [cel_4 hk]; simp [up2, va_up_self, upd]) (fun b hb => va_up_ne _ _ hb)] at hP1
  exact hP1
theorem gf_4_4 (X : Bx p s m args meth c0 own cc nL ret0 g) (hP : va_P g.1 vwCl (gW g M) H) (hk : kd c = 4) (hlk : Cond.fieldLink own idx "MusicBox$Tape" "number" "I" ∈ tbG) (hdg : decode cc pc = .ok (.getfield idx, 3)) (kk : W p l e R s m args below meth c0 H locs cells slots Q (F0 m (pc + 3) ls (.int (M c 4) :: rest))) : W p l e R s m args below meth c0 H locs cells slots Q (F0 m pc ls (.ref (gz g + c) :: rest)) :=
  va_get (T := TX4) (N := 5) X.1 X.2.1 X.2.2.2.2.1 inX4 X.2.2.2.1 X.2.2.2.2.2.1 hP c (by rw [gW_get (kd_lt hk (by decide)), cel_4 hk]) rfl 4 (by decide) (X.2.2.2.2.1 _ hlk) (fun _ h => h) rfl hdg kk
theorem gp_4_4 {x : Int32} (X : Bx p s m args meth c0 own cc nL ret0 g) (hP : va_P g.1 vwCl (gW g M) H) (hS : va_S (gA g) s.heap H locs) (hk : kd c = 4) (hlk : Cond.fieldLink own idx "MusicBox$Tape" "number" "I" ∈ tbG) (hdg : decode cc pc = .ok (.putfield idx, 3)) (kk : ∀ (H1 : Heap) (locs1 : List Loc) (M1 : Mem), M1 = up2 M c 4 x → va_P g.1 vwCl (gW g M1) H1 → va_S (gA g) s.heap H1 locs1 → W p l e R s m args below meth c0 H1 locs1 cells slots Q (F0 m (pc + 3) ls rest)) : W p l e R s m args below meth c0 H locs cells slots Q (F0 m pc ls (.int x :: .ref (gz g + c) :: rest)) := by
  refine va_put (T := TX4) (N := 5) (ty := .int) X.1 X.2.1 X.2.2.2.2.1 inX4 tyX4 tyX4_ok nmX4 X.2.2.2.1 X.2.2.2.2.2.1 hP (gW_D g M) hS c (by rw [gW_get (kd_lt hk (by decide)), cel_4 hk]) rfl 4 (by decide) (X.2.2.2.2.1 _ hlk) (fun _ h => h) rfl (by decide +kernel) rfl rfl (Nat.le_of_ble_eq_true rfl) hdg (fun H1 locs1 hP1 _ hS1 => kk H1 locs1 _ rfl ?_ hS1)
  rw [gW_set (M' := up2 M c 4 x) (by rw [cel_4 hk]; simp [up2, va_up_self, upd]) (fun b hb => va_up_ne _ _ hb)] at hP1
  exact hP1
theorem gf_5_0 (X : Bx p s m args meth c0 own cc nL ret0 g) (hP : va_P g.1 vwCl (gW g M) H) (hk : kd c = 5) (hlk : Cond.fieldLink own idx "MusicBox$Works" "columns" "I" ∈ tbG) (hdg : decode cc pc = .ok (.getfield idx, 3)) (kk : W p l e R s m args below meth c0 H locs cells slots Q (F0 m (pc + 3) ls (.int (M c 0) :: rest))) : W p l e R s m args below meth c0 H locs cells slots Q (F0 m pc ls (.ref (gz g + c) :: rest)) :=
  va_get (T := TX5) (N := 11) X.1 X.2.1 X.2.2.2.2.1 inX5 X.2.2.2.1 X.2.2.2.2.2.1 hP c (by rw [gW_get (kd_lt hk (by decide)), cel_5 hk]) rfl 0 (by decide) (X.2.2.2.2.1 _ hlk) (fun _ h => h) rfl hdg kk
theorem gp_5_0 {x : Int32} (X : Bx p s m args meth c0 own cc nL ret0 g) (hP : va_P g.1 vwCl (gW g M) H) (hS : va_S (gA g) s.heap H locs) (hk : kd c = 5) (hlk : Cond.fieldLink own idx "MusicBox$Works" "columns" "I" ∈ tbG) (hdg : decode cc pc = .ok (.putfield idx, 3)) (kk : ∀ (H1 : Heap) (locs1 : List Loc) (M1 : Mem), M1 = up2 M c 0 x → va_P g.1 vwCl (gW g M1) H1 → va_S (gA g) s.heap H1 locs1 → W p l e R s m args below meth c0 H1 locs1 cells slots Q (F0 m (pc + 3) ls rest)) : W p l e R s m args below meth c0 H locs cells slots Q (F0 m pc ls (.int x :: .ref (gz g + c) :: rest)) := by
  refine va_put (T := TX5) (N := 11) (ty := .int) X.1 X.2.1 X.2.2.2.2.1 inX5 tyX5 tyX5_ok nmX5 X.2.2.2.1 X.2.2.2.2.2.1 hP (gW_D g M) hS c (by rw [gW_get (kd_lt hk (by decide)), cel_5 hk]) rfl 0 (by decide) (X.2.2.2.2.1 _ hlk) (fun _ h => h) rfl (by decide +kernel) rfl rfl (Nat.le_of_ble_eq_true rfl) hdg (fun H1 locs1 hP1 _ hS1 => kk H1 locs1 _ rfl ?_ hS1)
  rw [gW_set (M' := up2 M c 0 x) (by rw [cel_5 hk]; simp [up2, va_up_self, upd]) (fun b hb => va_up_ne _ _ hb)] at hP1
  exact hP1
theorem gf_5_1 (X : Bx p s m args meth c0 own cc nL ret0 g) (hP : va_P g.1 vwCl (gW g M) H) (hk : kd c = 5) (hlk : Cond.fieldLink own idx "MusicBox$Works" "teeth" "I" ∈ tbG) (hdg : decode cc pc = .ok (.getfield idx, 3)) (kk : W p l e R s m args below meth c0 H locs cells slots Q (F0 m (pc + 3) ls (.int (M c 1) :: rest))) : W p l e R s m args below meth c0 H locs cells slots Q (F0 m pc ls (.ref (gz g + c) :: rest)) :=
  va_get (T := TX5) (N := 11) X.1 X.2.1 X.2.2.2.2.1 inX5 X.2.2.2.1 X.2.2.2.2.2.1 hP c (by rw [gW_get (kd_lt hk (by decide)), cel_5 hk]) rfl 1 (by decide) (X.2.2.2.2.1 _ hlk) (fun _ h => h) rfl hdg kk
theorem gp_5_1 {x : Int32} (X : Bx p s m args meth c0 own cc nL ret0 g) (hP : va_P g.1 vwCl (gW g M) H) (hS : va_S (gA g) s.heap H locs) (hk : kd c = 5) (hlk : Cond.fieldLink own idx "MusicBox$Works" "teeth" "I" ∈ tbG) (hdg : decode cc pc = .ok (.putfield idx, 3)) (kk : ∀ (H1 : Heap) (locs1 : List Loc) (M1 : Mem), M1 = up2 M c 1 x → va_P g.1 vwCl (gW g M1) H1 → va_S (gA g) s.heap H1 locs1 → W p l e R s m args below meth c0 H1 locs1 cells slots Q (F0 m (pc + 3) ls rest)) : W p l e R s m args below meth c0 H locs cells slots Q (F0 m pc ls (.int x :: .ref (gz g + c) :: rest)) := by
  refine va_put (T := TX5) (N := 11) (ty := .int) X.1 X.2.1 X.2.2.2.2.1 inX5 tyX5 tyX5_ok nmX5 X.2.2.2.1 X.2.2.2.2.2.1 hP (gW_D g M) hS c (by rw [gW_get (kd_lt hk (by decide)), cel_5 hk]) rfl 1 (by decide) (X.2.2.2.2.1 _ hlk) (fun _ h => h) rfl (by decide +kernel) rfl rfl (Nat.le_of_ble_eq_true rfl) hdg (fun H1 locs1 hP1 _ hS1 => kk H1 locs1 _ rfl ?_ hS1)
  rw [gW_set (M' := up2 M c 1 x) (by rw [cel_5 hk]; simp [up2, va_up_self, upd]) (fun b hb => va_up_ne _ _ hb)] at hP1
  exact hP1
theorem gf_5_2 (X : Bx p s m args meth c0 own cc nL ret0 g) (hP : va_P g.1 vwCl (gW g M) H) (hk : kd c = 5) (hlk : Cond.fieldLink own idx "MusicBox$Works" "spring" "I" ∈ tbG) (hdg : decode cc pc = .ok (.getfield idx, 3)) (kk : W p l e R s m args below meth c0 H locs cells slots Q (F0 m (pc + 3) ls (.int (M c 2) :: rest))) : W p l e R s m args below meth c0 H locs cells slots Q (F0 m pc ls (.ref (gz g + c) :: rest)) :=
  va_get (T := TX5) (N := 11) X.1 X.2.1 X.2.2.2.2.1 inX5 X.2.2.2.1 X.2.2.2.2.2.1 hP c (by rw [gW_get (kd_lt hk (by decide)), cel_5 hk]) rfl 2 (by decide) (X.2.2.2.2.1 _ hlk) (fun _ h => h) rfl hdg kk
theorem gp_5_2 {x : Int32} (X : Bx p s m args meth c0 own cc nL ret0 g) (hP : va_P g.1 vwCl (gW g M) H) (hS : va_S (gA g) s.heap H locs) (hk : kd c = 5) (hlk : Cond.fieldLink own idx "MusicBox$Works" "spring" "I" ∈ tbG) (hdg : decode cc pc = .ok (.putfield idx, 3)) (kk : ∀ (H1 : Heap) (locs1 : List Loc) (M1 : Mem), M1 = up2 M c 2 x → va_P g.1 vwCl (gW g M1) H1 → va_S (gA g) s.heap H1 locs1 → W p l e R s m args below meth c0 H1 locs1 cells slots Q (F0 m (pc + 3) ls rest)) : W p l e R s m args below meth c0 H locs cells slots Q (F0 m pc ls (.int x :: .ref (gz g + c) :: rest)) := by
  refine va_put (T := TX5) (N := 11) (ty := .int) X.1 X.2.1 X.2.2.2.2.1 inX5 tyX5 tyX5_ok nmX5 X.2.2.2.1 X.2.2.2.2.2.1 hP (gW_D g M) hS c (by rw [gW_get (kd_lt hk (by decide)), cel_5 hk]) rfl 2 (by decide) (X.2.2.2.2.1 _ hlk) (fun _ h => h) rfl (by decide +kernel) rfl rfl (Nat.le_of_ble_eq_true rfl) hdg (fun H1 locs1 hP1 _ hS1 => kk H1 locs1 _ rfl ?_ hS1)
  rw [gW_set (M' := up2 M c 2 x) (by rw [cel_5 hk]; simp [up2, va_up_self, upd]) (fun b hb => va_up_ne _ _ hb)] at hP1
  exact hP1
theorem gf_5_3 (X : Bx p s m args meth c0 own cc nL ret0 g) (hP : va_P g.1 vwCl (gW g M) H) (hk : kd c = 5) (hlk : Cond.fieldLink own idx "MusicBox$Works" "column" "I" ∈ tbG) (hdg : decode cc pc = .ok (.getfield idx, 3)) (kk : W p l e R s m args below meth c0 H locs cells slots Q (F0 m (pc + 3) ls (.int (M c 3) :: rest))) : W p l e R s m args below meth c0 H locs cells slots Q (F0 m pc ls (.ref (gz g + c) :: rest)) :=
  va_get (T := TX5) (N := 11) X.1 X.2.1 X.2.2.2.2.1 inX5 X.2.2.2.1 X.2.2.2.2.2.1 hP c (by rw [gW_get (kd_lt hk (by decide)), cel_5 hk]) rfl 3 (by decide) (X.2.2.2.2.1 _ hlk) (fun _ h => h) rfl hdg kk
theorem gp_5_3 {x : Int32} (X : Bx p s m args meth c0 own cc nL ret0 g) (hP : va_P g.1 vwCl (gW g M) H) (hS : va_S (gA g) s.heap H locs) (hk : kd c = 5) (hlk : Cond.fieldLink own idx "MusicBox$Works" "column" "I" ∈ tbG) (hdg : decode cc pc = .ok (.putfield idx, 3)) (kk : ∀ (H1 : Heap) (locs1 : List Loc) (M1 : Mem), M1 = up2 M c 3 x → va_P g.1 vwCl (gW g M1) H1 → va_S (gA g) s.heap H1 locs1 → W p l e R s m args below meth c0 H1 locs1 cells slots Q (F0 m (pc + 3) ls rest)) : W p l e R s m args below meth c0 H locs cells slots Q (F0 m pc ls (.int x :: .ref (gz g + c) :: rest)) := by
  refine va_put (T := TX5) (N := 11) (ty := .int) X.1 X.2.1 X.2.2.2.2.1 inX5 tyX5 tyX5_ok nmX5 X.2.2.2.1 X.2.2.2.2.2.1 hP (gW_D g M) hS c (by rw [gW_get (kd_lt hk (by decide)), cel_5 hk]) rfl 3 (by decide) (X.2.2.2.2.1 _ hlk) (fun _ h => h) rfl (by decide +kernel) rfl rfl (Nat.le_of_ble_eq_true rfl) hdg (fun H1 locs1 hP1 _ hS1 => kk H1 locs1 _ rfl ?_ hS1)
  rw [gW_set (M' := up2 M c 3 x) (by rw [cel_5 hk]; simp [up2, va_up_self, upd]) (fun b hb => va_up_ne _ _ hb)] at hP1
  exact hP1
theorem gf_5_4 (X : Bx p s m args meth c0 own cc nL ret0 g) (hP : va_P g.1 vwCl (gW g M) H) (hk : kd c = 5) (hlk : Cond.fieldLink own idx "MusicBox$Works" "tick" "I" ∈ tbG) (hdg : decode cc pc = .ok (.getfield idx, 3)) (kk : W p l e R s m args below meth c0 H locs cells slots Q (F0 m (pc + 3) ls (.int (M c 4) :: rest))) : W p l e R s m args below meth c0 H locs cells slots Q (F0 m pc ls (.ref (gz g + c) :: rest)) :=
  va_get (T := TX5) (N := 11) X.1 X.2.1 X.2.2.2.2.1 inX5 X.2.2.2.1 X.2.2.2.2.2.1 hP c (by rw [gW_get (kd_lt hk (by decide)), cel_5 hk]) rfl 4 (by decide) (X.2.2.2.2.1 _ hlk) (fun _ h => h) rfl hdg kk
theorem gp_5_4 {x : Int32} (X : Bx p s m args meth c0 own cc nL ret0 g) (hP : va_P g.1 vwCl (gW g M) H) (hS : va_S (gA g) s.heap H locs) (hk : kd c = 5) (hlk : Cond.fieldLink own idx "MusicBox$Works" "tick" "I" ∈ tbG) (hdg : decode cc pc = .ok (.putfield idx, 3)) (kk : ∀ (H1 : Heap) (locs1 : List Loc) (M1 : Mem), M1 = up2 M c 4 x → va_P g.1 vwCl (gW g M1) H1 → va_S (gA g) s.heap H1 locs1 → W p l e R s m args below meth c0 H1 locs1 cells slots Q (F0 m (pc + 3) ls rest)) : W p l e R s m args below meth c0 H locs cells slots Q (F0 m pc ls (.int x :: .ref (gz g + c) :: rest)) := by
  refine va_put (T := TX5) (N := 11) (ty := .int) X.1 X.2.1 X.2.2.2.2.1 inX5 tyX5 tyX5_ok nmX5 X.2.2.2.1 X.2.2.2.2.2.1 hP (gW_D g M) hS c (by rw [gW_get (kd_lt hk (by decide)), cel_5 hk]) rfl 4 (by decide) (X.2.2.2.2.1 _ hlk) (fun _ h => h) rfl (by decide +kernel) rfl rfl (Nat.le_of_ble_eq_true rfl) hdg (fun H1 locs1 hP1 _ hS1 => kk H1 locs1 _ rfl ?_ hS1)
  rw [gW_set (M' := up2 M c 4 x) (by rw [cel_5 hk]; simp [up2, va_up_self, upd]) (fun b hb => va_up_ne _ _ hb)] at hP1
  exact hP1
theorem gf_5_5 (X : Bx p s m args meth c0 own cc nL ret0 g) (hP : va_P g.1 vwCl (gW g M) H) (hk : kd c = 5) (hlk : Cond.fieldLink own idx "MusicBox$Works" "broken" "I" ∈ tbG) (hdg : decode cc pc = .ok (.getfield idx, 3)) (kk : W p l e R s m args below meth c0 H locs cells slots Q (F0 m (pc + 3) ls (.int (M c 5) :: rest))) : W p l e R s m args below meth c0 H locs cells slots Q (F0 m pc ls (.ref (gz g + c) :: rest)) :=
  va_get (T := TX5) (N := 11) X.1 X.2.1 X.2.2.2.2.1 inX5 X.2.2.2.1 X.2.2.2.2.2.1 hP c (by rw [gW_get (kd_lt hk (by decide)), cel_5 hk]) rfl 5 (by decide) (X.2.2.2.2.1 _ hlk) (fun _ h => h) rfl hdg kk
theorem gp_5_5 {x : Int32} (X : Bx p s m args meth c0 own cc nL ret0 g) (hP : va_P g.1 vwCl (gW g M) H) (hS : va_S (gA g) s.heap H locs) (hk : kd c = 5) (hlk : Cond.fieldLink own idx "MusicBox$Works" "broken" "I" ∈ tbG) (hdg : decode cc pc = .ok (.putfield idx, 3)) (kk : ∀ (H1 : Heap) (locs1 : List Loc) (M1 : Mem), M1 = up2 M c 5 x → va_P g.1 vwCl (gW g M1) H1 → va_S (gA g) s.heap H1 locs1 → W p l e R s m args below meth c0 H1 locs1 cells slots Q (F0 m (pc + 3) ls rest)) : W p l e R s m args below meth c0 H locs cells slots Q (F0 m pc ls (.int x :: .ref (gz g + c) :: rest)) := by
  refine va_put (T := TX5) (N := 11) (ty := .int) X.1 X.2.1 X.2.2.2.2.1 inX5 tyX5 tyX5_ok nmX5 X.2.2.2.1 X.2.2.2.2.2.1 hP (gW_D g M) hS c (by rw [gW_get (kd_lt hk (by decide)), cel_5 hk]) rfl 5 (by decide) (X.2.2.2.2.1 _ hlk) (fun _ h => h) rfl (by decide +kernel) rfl rfl (Nat.le_of_ble_eq_true rfl) hdg (fun H1 locs1 hP1 _ hS1 => kk H1 locs1 _ rfl ?_ hS1)
  rw [gW_set (M' := up2 M c 5 x) (by rw [cel_5 hk]; simp [up2, va_up_self, upd]) (fun b hb => va_up_ne _ _ hb)] at hP1
  exact hP1
theorem gf_5_6 (X : Bx p s m args meth c0 own cc nL ret0 g) (hP : va_P g.1 vwCl (gW g M) H) (hk : kd c = 5) (hlk : Cond.fieldLink own idx "MusicBox$Works" "pinned" "[I" ∈ tbG) (hdg : decode cc pc = .ok (.getfield idx, 3)) (kk : W p l e R s m args below meth c0 H locs cells slots Q (F0 m (pc + 3) ls (.ref (gz g + (c + 1)) :: rest))) : W p l e R s m args below meth c0 H locs cells slots Q (F0 m pc ls (.ref (gz g + c) :: rest)) :=
  va_get (T := TX5) (N := 11) X.1 X.2.1 X.2.2.2.2.1 inX5 X.2.2.2.1 X.2.2.2.2.2.1 hP c (by rw [gW_get (kd_lt hk (by decide)), cel_5 hk]) rfl 6 (by decide) (X.2.2.2.2.1 _ hlk) (fun _ h => h) rfl hdg kk
theorem gf_5_7 (X : Bx p s m args meth c0 own cc nL ret0 g) (hP : va_P g.1 vwCl (gW g M) H) (hk : kd c = 5) (hlk : Cond.fieldLink own idx "MusicBox$Works" "kinds" "[I" ∈ tbG) (hdg : decode cc pc = .ok (.getfield idx, 3)) (kk : W p l e R s m args below meth c0 H locs cells slots Q (F0 m (pc + 3) ls (.ref (gz g + (c + 2)) :: rest))) : W p l e R s m args below meth c0 H locs cells slots Q (F0 m pc ls (.ref (gz g + c) :: rest)) :=
  va_get (T := TX5) (N := 11) X.1 X.2.1 X.2.2.2.2.1 inX5 X.2.2.2.1 X.2.2.2.2.2.1 hP c (by rw [gW_get (kd_lt hk (by decide)), cel_5 hk]) rfl 7 (by decide) (X.2.2.2.2.1 _ hlk) (fun _ h => h) rfl hdg kk
theorem gf_5_8 (X : Bx p s m args meth c0 own cc nL ret0 g) (hP : va_P g.1 vwCl (gW g M) H) (hk : kd c = 5) (hlk : Cond.fieldLink own idx "MusicBox$Works" "tuned" "[I" ∈ tbG) (hdg : decode cc pc = .ok (.getfield idx, 3)) (kk : W p l e R s m args below meth c0 H locs cells slots Q (F0 m (pc + 3) ls (.ref (gz g + (c + 3)) :: rest))) : W p l e R s m args below meth c0 H locs cells slots Q (F0 m pc ls (.ref (gz g + c) :: rest)) :=
  va_get (T := TX5) (N := 11) X.1 X.2.1 X.2.2.2.2.1 inX5 X.2.2.2.1 X.2.2.2.2.2.1 hP c (by rw [gW_get (kd_lt hk (by decide)), cel_5 hk]) rfl 8 (by decide) (X.2.2.2.2.1 _ hlk) (fun _ h => h) rfl hdg kk
theorem gf_5_9 (X : Bx p s m args meth c0 own cc nL ret0 g) (hP : va_P g.1 vwCl (gW g M) H) (hk : kd c = 5) (hlk : Cond.fieldLink own idx "MusicBox$Works" "rings" "[I" ∈ tbG) (hdg : decode cc pc = .ok (.getfield idx, 3)) (kk : W p l e R s m args below meth c0 H locs cells slots Q (F0 m (pc + 3) ls (.ref (gz g + (c + 4)) :: rest))) : W p l e R s m args below meth c0 H locs cells slots Q (F0 m pc ls (.ref (gz g + c) :: rest)) :=
  va_get (T := TX5) (N := 11) X.1 X.2.1 X.2.2.2.2.1 inX5 X.2.2.2.1 X.2.2.2.2.2.1 hP c (by rw [gW_get (kd_lt hk (by decide)), cel_5 hk]) rfl 9 (by decide) (X.2.2.2.2.1 _ hlk) (fun _ h => h) rfl hdg kk
theorem gf_5_10 (X : Bx p s m args meth c0 own cc nL ret0 g) (hP : va_P g.1 vwCl (gW g M) H) (hk : kd c = 5) (hlk : Cond.fieldLink own idx "MusicBox$Works" "plucked" "[I" ∈ tbG) (hdg : decode cc pc = .ok (.getfield idx, 3)) (kk : W p l e R s m args below meth c0 H locs cells slots Q (F0 m (pc + 3) ls (.ref (gz g + (c + 5)) :: rest))) : W p l e R s m args below meth c0 H locs cells slots Q (F0 m pc ls (.ref (gz g + c) :: rest)) :=
  va_get (T := TX5) (N := 11) X.1 X.2.1 X.2.2.2.2.1 inX5 X.2.2.2.1 X.2.2.2.2.2.1 hP c (by rw [gW_get (kd_lt hk (by decide)), cel_5 hk]) rfl 10 (by decide) (X.2.2.2.2.1 _ hlk) (fun _ h => h) rfl hdg kk
theorem gf_6_0 (X : Bx p s m args meth c0 own cc nL ret0 g) (hP : va_P g.1 vwCl (gW g M) H) (hk : kd c = 6) (hlk : Cond.fieldLink own idx "MusicBox" "rows" "[LMusicBox$Row;" ∈ tbG) (hdg : decode cc pc = .ok (.getfield idx, 3)) (kk : W p l e R s m args below meth c0 H locs cells slots Q (F0 m (pc + 3) ls (.ref (gz g + 1) :: rest))) : W p l e R s m args below meth c0 H locs cells slots Q (F0 m pc ls (.ref (gz g + c) :: rest)) :=
  va_get (T := TX6) (N := 10) X.1 X.2.1 X.2.2.2.2.1 inX6 X.2.2.2.1 X.2.2.2.2.2.1 hP c (by rw [gW_get (kd_lt hk (by decide)), cel_6 hk]) rfl 0 (by decide) (X.2.2.2.2.1 _ hlk) (fun _ h => h) rfl hdg kk
theorem gf_6_1 (X : Bx p s m args meth c0 own cc nL ret0 g) (hP : va_P g.1 vwCl (gW g M) H) (hk : kd c = 6) (hlk : Cond.fieldLink own idx "MusicBox" "images" "[LMusicBox$Works;" ∈ tbG) (hdg : decode cc pc = .ok (.getfield idx, 3)) (kk : W p l e R s m args below meth c0 H locs cells slots Q (F0 m (pc + 3) ls (.ref (gz g + 2) :: rest))) : W p l e R s m args below meth c0 H locs cells slots Q (F0 m pc ls (.ref (gz g + c) :: rest)) :=
  va_get (T := TX6) (N := 10) X.1 X.2.1 X.2.2.2.2.1 inX6 X.2.2.2.1 X.2.2.2.2.2.1 hP c (by rw [gW_get (kd_lt hk (by decide)), cel_6 hk]) rfl 1 (by decide) (X.2.2.2.2.1 _ hlk) (fun _ h => h) rfl hdg kk
theorem gf_6_2 (X : Bx p s m args meth c0 own cc nL ret0 g) (hP : va_P g.1 vwCl (gW g M) H) (hk : kd c = 6) (hlk : Cond.fieldLink own idx "MusicBox" "now" "LMusicBox$Works;" ∈ tbG) (hdg : decode cc pc = .ok (.getfield idx, 3)) (kk : W p l e R s m args below meth c0 H locs cells slots Q (F0 m (pc + 3) ls (.ref (gz g + 3) :: rest))) : W p l e R s m args below meth c0 H locs cells slots Q (F0 m pc ls (.ref (gz g + c) :: rest)) :=
  va_get (T := TX6) (N := 10) X.1 X.2.1 X.2.2.2.2.1 inX6 X.2.2.2.1 X.2.2.2.2.2.1 hP c (by rw [gW_get (kd_lt hk (by decide)), cel_6 hk]) rfl 2 (by decide) (X.2.2.2.2.1 _ hlk) (fun _ h => h) rfl hdg kk
theorem gf_6_3 (X : Bx p s m args meth c0 own cc nL ret0 g) (hP : va_P g.1 vwCl (gW g M) H) (hk : kd c = 6) (hlk : Cond.fieldLink own idx "MusicBox" "draft" "LMusicBox$Works;" ∈ tbG) (hdg : decode cc pc = .ok (.getfield idx, 3)) (kk : W p l e R s m args below meth c0 H locs cells slots Q (F0 m (pc + 3) ls (.ref (gz g + 9) :: rest))) : W p l e R s m args below meth c0 H locs cells slots Q (F0 m pc ls (.ref (gz g + c) :: rest)) :=
  va_get (T := TX6) (N := 10) X.1 X.2.1 X.2.2.2.2.1 inX6 X.2.2.2.1 X.2.2.2.2.2.1 hP c (by rw [gW_get (kd_lt hk (by decide)), cel_6 hk]) rfl 3 (by decide) (X.2.2.2.2.1 _ hlk) (fun _ h => h) rfl hdg kk
theorem gf_6_4 (X : Bx p s m args meth c0 own cc nL ret0 g) (hP : va_P g.1 vwCl (gW g M) H) (hk : kd c = 6) (hlk : Cond.fieldLink own idx "MusicBox" "tape" "LMusicBox$Tape;" ∈ tbG) (hdg : decode cc pc = .ok (.getfield idx, 3)) (kk : W p l e R s m args below meth c0 H locs cells slots Q (F0 m (pc + 3) ls (.ref (gz g + 15) :: rest))) : W p l e R s m args below meth c0 H locs cells slots Q (F0 m pc ls (.ref (gz g + c) :: rest)) :=
  va_get (T := TX6) (N := 10) X.1 X.2.1 X.2.2.2.2.1 inX6 X.2.2.2.1 X.2.2.2.2.2.1 hP c (by rw [gW_get (kd_lt hk (by decide)), cel_6 hk]) rfl 4 (by decide) (X.2.2.2.2.1 _ hlk) (fun _ h => h) rfl hdg kk
theorem gf_6_5 (X : Bx p s m args meth c0 own cc nL ret0 g) (hP : va_P g.1 vwCl (gW g M) H) (hk : kd c = 6) (hlk : Cond.fieldLink own idx "MusicBox" "past" "LMusicBox$Past;" ∈ tbG) (hdg : decode cc pc = .ok (.getfield idx, 3)) (kk : W p l e R s m args below meth c0 H locs cells slots Q (F0 m (pc + 3) ls (.ref (gz g + 17) :: rest))) : W p l e R s m args below meth c0 H locs cells slots Q (F0 m pc ls (.ref (gz g + c) :: rest)) :=
  va_get (T := TX6) (N := 10) X.1 X.2.1 X.2.2.2.2.1 inX6 X.2.2.2.1 X.2.2.2.2.2.1 hP c (by rw [gW_get (kd_lt hk (by decide)), cel_6 hk]) rfl 5 (by decide) (X.2.2.2.2.1 _ hlk) (fun _ h => h) rfl hdg kk
theorem gf_6_6 (X : Bx p s m args meth c0 own cc nL ret0 g) (hP : va_P g.1 vwCl (gW g M) H) (hk : kd c = 6) (hlk : Cond.fieldLink own idx "MusicBox" "seer" "LMusicBox$Seer;" ∈ tbG) (hdg : decode cc pc = .ok (.getfield idx, 3)) (kk : W p l e R s m args below meth c0 H locs cells slots Q (F0 m (pc + 3) ls (.ref (gz g + 163) :: rest))) : W p l e R s m args below meth c0 H locs cells slots Q (F0 m pc ls (.ref (gz g + c) :: rest)) :=
  va_get (T := TX6) (N := 10) X.1 X.2.1 X.2.2.2.2.1 inX6 X.2.2.2.1 X.2.2.2.2.2.1 hP c (by rw [gW_get (kd_lt hk (by decide)), cel_6 hk]) rfl 6 (by decide) (X.2.2.2.2.1 _ hlk) (fun _ h => h) rfl hdg kk
theorem gf_6_7 (X : Bx p s m args meth c0 own cc nL ret0 g) (hP : va_P g.1 vwCl (gW g M) H) (hk : kd c = 6) (hlk : Cond.fieldLink own idx "MusicBox" "asking" "LMusicBox$Asking;" ∈ tbG) (hdg : decode cc pc = .ok (.getfield idx, 3)) (kk : W p l e R s m args below meth c0 H locs cells slots Q (F0 m (pc + 3) ls (.ref (gz g + 249) :: rest))) : W p l e R s m args below meth c0 H locs cells slots Q (F0 m pc ls (.ref (gz g + c) :: rest)) :=
  va_get (T := TX6) (N := 10) X.1 X.2.1 X.2.2.2.2.1 inX6 X.2.2.2.1 X.2.2.2.2.2.1 hP c (by rw [gW_get (kd_lt hk (by decide)), cel_6 hk]) rfl 7 (by decide) (X.2.2.2.2.1 _ hlk) (fun _ h => h) rfl hdg kk
theorem gf_6_8 (X : Bx p s m args meth c0 own cc nL ret0 g) (hP : va_P g.1 vwCl (gW g M) H) (hk : kd c = 6) (hlk : Cond.fieldLink own idx "MusicBox" "latestFinding" "I" ∈ tbG) (hdg : decode cc pc = .ok (.getfield idx, 3)) (kk : W p l e R s m args below meth c0 H locs cells slots Q (F0 m (pc + 3) ls (.int (M c 8) :: rest))) : W p l e R s m args below meth c0 H locs cells slots Q (F0 m pc ls (.ref (gz g + c) :: rest)) :=
  va_get (T := TX6) (N := 10) X.1 X.2.1 X.2.2.2.2.1 inX6 X.2.2.2.1 X.2.2.2.2.2.1 hP c (by rw [gW_get (kd_lt hk (by decide)), cel_6 hk]) rfl 8 (by decide) (X.2.2.2.2.1 _ hlk) (fun _ h => h) rfl hdg kk
theorem gp_6_8 {x : Int32} (X : Bx p s m args meth c0 own cc nL ret0 g) (hP : va_P g.1 vwCl (gW g M) H) (hS : va_S (gA g) s.heap H locs) (hk : kd c = 6) (hlk : Cond.fieldLink own idx "MusicBox" "latestFinding" "I" ∈ tbG) (hdg : decode cc pc = .ok (.putfield idx, 3)) (kk : ∀ (H1 : Heap) (locs1 : List Loc) (M1 : Mem), M1 = up2 M c 8 x → va_P g.1 vwCl (gW g M1) H1 → va_S (gA g) s.heap H1 locs1 → W p l e R s m args below meth c0 H1 locs1 cells slots Q (F0 m (pc + 3) ls rest)) : W p l e R s m args below meth c0 H locs cells slots Q (F0 m pc ls (.int x :: .ref (gz g + c) :: rest)) := by
  refine va_put (T := TX6) (N := 10) (ty := .int) X.1 X.2.1 X.2.2.2.2.1 inX6 tyX6 tyX6_ok nmX6 X.2.2.2.1 X.2.2.2.2.2.1 hP (gW_D g M) hS c (by rw [gW_get (kd_lt hk (by decide)), cel_6 hk]) rfl 8 (by decide) (X.2.2.2.2.1 _ hlk) (fun _ h => h) rfl (by decide +kernel) rfl rfl (Nat.le_of_ble_eq_true rfl) hdg (fun H1 locs1 hP1 _ hS1 => kk H1 locs1 _ rfl ?_ hS1)
  rw [gW_set (M' := up2 M c 8 x) (by rw [cel_6 hk]; simp [up2, va_up_self, upd]) (fun b hb => va_up_ne _ _ hb)] at hP1
  exact hP1
theorem gf_6_9 (X : Bx p s m args meth c0 own cc nL ret0 g) (hP : va_P g.1 vwCl (gW g M) H) (hk : kd c = 6) (hlk : Cond.fieldLink own idx "MusicBox" "latestFault" "I" ∈ tbG) (hdg : decode cc pc = .ok (.getfield idx, 3)) (kk : W p l e R s m args below meth c0 H locs cells slots Q (F0 m (pc + 3) ls (.int (M c 9) :: rest))) : W p l e R s m args below meth c0 H locs cells slots Q (F0 m pc ls (.ref (gz g + c) :: rest)) :=
  va_get (T := TX6) (N := 10) X.1 X.2.1 X.2.2.2.2.1 inX6 X.2.2.2.1 X.2.2.2.2.2.1 hP c (by rw [gW_get (kd_lt hk (by decide)), cel_6 hk]) rfl 9 (by decide) (X.2.2.2.2.1 _ hlk) (fun _ h => h) rfl hdg kk
theorem gp_6_9 {x : Int32} (X : Bx p s m args meth c0 own cc nL ret0 g) (hP : va_P g.1 vwCl (gW g M) H) (hS : va_S (gA g) s.heap H locs) (hk : kd c = 6) (hlk : Cond.fieldLink own idx "MusicBox" "latestFault" "I" ∈ tbG) (hdg : decode cc pc = .ok (.putfield idx, 3)) (kk : ∀ (H1 : Heap) (locs1 : List Loc) (M1 : Mem), M1 = up2 M c 9 x → va_P g.1 vwCl (gW g M1) H1 → va_S (gA g) s.heap H1 locs1 → W p l e R s m args below meth c0 H1 locs1 cells slots Q (F0 m (pc + 3) ls rest)) : W p l e R s m args below meth c0 H locs cells slots Q (F0 m pc ls (.int x :: .ref (gz g + c) :: rest)) := by
  refine va_put (T := TX6) (N := 10) (ty := .int) X.1 X.2.1 X.2.2.2.2.1 inX6 tyX6 tyX6_ok nmX6 X.2.2.2.1 X.2.2.2.2.2.1 hP (gW_D g M) hS c (by rw [gW_get (kd_lt hk (by decide)), cel_6 hk]) rfl 9 (by decide) (X.2.2.2.2.1 _ hlk) (fun _ h => h) rfl (by decide +kernel) rfl rfl (Nat.le_of_ble_eq_true rfl) hdg (fun H1 locs1 hP1 _ hS1 => kk H1 locs1 _ rfl ?_ hS1)
  rw [gW_set (M' := up2 M c 9 x) (by rw [cel_6 hk]; simp [up2, va_up_self, upd]) (fun b hb => va_up_ne _ _ hb)] at hP1
  exact hP1
theorem gf_7_0 (X : Bx p s m args meth c0 own cc nL ret0 g) (hP : va_P g.1 vwCl (gW g M) H) (hk : kd c = 7) (hlk : Cond.fieldLink own idx "MusicBoxModel" "w" "[I" ∈ tbG) (hdg : decode cc pc = .ok (.getfield idx, 3)) (kk : W p l e R s m args below meth c0 H locs cells slots Q (F0 m (pc + 3) ls (.ref (gz g + 280) :: rest))) : W p l e R s m args below meth c0 H locs cells slots Q (F0 m pc ls (.ref (gz g + c) :: rest)) :=
  va_get (T := TX7) (N := 18) X.1 X.2.1 X.2.2.2.2.1 inX7 X.2.2.2.1 X.2.2.2.2.2.1 hP c (by rw [gW_get (kd_lt hk (by decide)), cel_7 hk]) rfl 0 (by decide) (X.2.2.2.2.1 _ hlk) (fun _ h => h) rfl hdg kk
theorem gf_7_1 (X : Bx p s m args meth c0 own cc nL ret0 g) (hP : va_P g.1 vwCl (gW g M) H) (hk : kd c = 7) (hlk : Cond.fieldLink own idx "MusicBoxModel" "undoes" "I" ∈ tbG) (hdg : decode cc pc = .ok (.getfield idx, 3)) (kk : W p l e R s m args below meth c0 H locs cells slots Q (F0 m (pc + 3) ls (.int (M c 1) :: rest))) : W p l e R s m args below meth c0 H locs cells slots Q (F0 m pc ls (.ref (gz g + c) :: rest)) :=
  va_get (T := TX7) (N := 18) X.1 X.2.1 X.2.2.2.2.1 inX7 X.2.2.2.1 X.2.2.2.2.2.1 hP c (by rw [gW_get (kd_lt hk (by decide)), cel_7 hk]) rfl 1 (by decide) (X.2.2.2.2.1 _ hlk) (fun _ h => h) rfl hdg kk
theorem gp_7_1 {x : Int32} (X : Bx p s m args meth c0 own cc nL ret0 g) (hP : va_P g.1 vwCl (gW g M) H) (hS : va_S (gA g) s.heap H locs) (hk : kd c = 7) (hlk : Cond.fieldLink own idx "MusicBoxModel" "undoes" "I" ∈ tbG) (hdg : decode cc pc = .ok (.putfield idx, 3)) (kk : ∀ (H1 : Heap) (locs1 : List Loc) (M1 : Mem), M1 = up2 M c 1 x → va_P g.1 vwCl (gW g M1) H1 → va_S (gA g) s.heap H1 locs1 → W p l e R s m args below meth c0 H1 locs1 cells slots Q (F0 m (pc + 3) ls rest)) : W p l e R s m args below meth c0 H locs cells slots Q (F0 m pc ls (.int x :: .ref (gz g + c) :: rest)) := by
  refine va_put (T := TX7) (N := 18) (ty := .int) X.1 X.2.1 X.2.2.2.2.1 inX7 tyX7 tyX7_ok nmX7 X.2.2.2.1 X.2.2.2.2.2.1 hP (gW_D g M) hS c (by rw [gW_get (kd_lt hk (by decide)), cel_7 hk]) rfl 1 (by decide) (X.2.2.2.2.1 _ hlk) (fun _ h => h) rfl (by decide +kernel) rfl rfl (Nat.le_of_ble_eq_true rfl) hdg (fun H1 locs1 hP1 _ hS1 => kk H1 locs1 _ rfl ?_ hS1)
  rw [gW_set (M' := up2 M c 1 x) (by rw [cel_7 hk]; simp [up2, va_up_self, upd]) (fun b hb => va_up_ne _ _ hb)] at hP1
  exact hP1
theorem gf_7_2 (X : Bx p s m args meth c0 own cc nL ret0 g) (hP : va_P g.1 vwCl (gW g M) H) (hk : kd c = 7) (hlk : Cond.fieldLink own idx "MusicBoxModel" "tape" "[I" ∈ tbG) (hdg : decode cc pc = .ok (.getfield idx, 3)) (kk : W p l e R s m args below meth c0 H locs cells slots Q (F0 m (pc + 3) ls (.ref (gz g + 281) :: rest))) : W p l e R s m args below meth c0 H locs cells slots Q (F0 m pc ls (.ref (gz g + c) :: rest)) :=
  va_get (T := TX7) (N := 18) X.1 X.2.1 X.2.2.2.2.1 inX7 X.2.2.2.1 X.2.2.2.2.2.1 hP c (by rw [gW_get (kd_lt hk (by decide)), cel_7 hk]) rfl 2 (by decide) (X.2.2.2.2.1 _ hlk) (fun _ h => h) rfl hdg kk
theorem gf_7_3 (X : Bx p s m args meth c0 own cc nL ret0 g) (hP : va_P g.1 vwCl (gW g M) H) (hk : kd c = 7) (hlk : Cond.fieldLink own idx "MusicBoxModel" "taped" "I" ∈ tbG) (hdg : decode cc pc = .ok (.getfield idx, 3)) (kk : W p l e R s m args below meth c0 H locs cells slots Q (F0 m (pc + 3) ls (.int (M c 3) :: rest))) : W p l e R s m args below meth c0 H locs cells slots Q (F0 m pc ls (.ref (gz g + c) :: rest)) :=
  va_get (T := TX7) (N := 18) X.1 X.2.1 X.2.2.2.2.1 inX7 X.2.2.2.1 X.2.2.2.2.2.1 hP c (by rw [gW_get (kd_lt hk (by decide)), cel_7 hk]) rfl 3 (by decide) (X.2.2.2.2.1 _ hlk) (fun _ h => h) rfl hdg kk
theorem gp_7_3 {x : Int32} (X : Bx p s m args meth c0 own cc nL ret0 g) (hP : va_P g.1 vwCl (gW g M) H) (hS : va_S (gA g) s.heap H locs) (hk : kd c = 7) (hlk : Cond.fieldLink own idx "MusicBoxModel" "taped" "I" ∈ tbG) (hdg : decode cc pc = .ok (.putfield idx, 3)) (kk : ∀ (H1 : Heap) (locs1 : List Loc) (M1 : Mem), M1 = up2 M c 3 x → va_P g.1 vwCl (gW g M1) H1 → va_S (gA g) s.heap H1 locs1 → W p l e R s m args below meth c0 H1 locs1 cells slots Q (F0 m (pc + 3) ls rest)) : W p l e R s m args below meth c0 H locs cells slots Q (F0 m pc ls (.int x :: .ref (gz g + c) :: rest)) := by
  refine va_put (T := TX7) (N := 18) (ty := .int) X.1 X.2.1 X.2.2.2.2.1 inX7 tyX7 tyX7_ok nmX7 X.2.2.2.1 X.2.2.2.2.2.1 hP (gW_D g M) hS c (by rw [gW_get (kd_lt hk (by decide)), cel_7 hk]) rfl 3 (by decide) (X.2.2.2.2.1 _ hlk) (fun _ h => h) rfl (by decide +kernel) rfl rfl (Nat.le_of_ble_eq_true rfl) hdg (fun H1 locs1 hP1 _ hS1 => kk H1 locs1 _ rfl ?_ hS1)
  rw [gW_set (M' := up2 M c 3 x) (by rw [cel_7 hk]; simp [up2, va_up_self, upd]) (fun b hb => va_up_ne _ _ hb)] at hP1
  exact hP1
theorem gf_7_4 (X : Bx p s m args meth c0 own cc nL ret0 g) (hP : va_P g.1 vwCl (gW g M) H) (hk : kd c = 7) (hlk : Cond.fieldLink own idx "MusicBoxModel" "faulty" "I" ∈ tbG) (hdg : decode cc pc = .ok (.getfield idx, 3)) (kk : W p l e R s m args below meth c0 H locs cells slots Q (F0 m (pc + 3) ls (.int (M c 4) :: rest))) : W p l e R s m args below meth c0 H locs cells slots Q (F0 m pc ls (.ref (gz g + c) :: rest)) :=
  va_get (T := TX7) (N := 18) X.1 X.2.1 X.2.2.2.2.1 inX7 X.2.2.2.1 X.2.2.2.2.2.1 hP c (by rw [gW_get (kd_lt hk (by decide)), cel_7 hk]) rfl 4 (by decide) (X.2.2.2.2.1 _ hlk) (fun _ h => h) rfl hdg kk
theorem gp_7_4 {x : Int32} (X : Bx p s m args meth c0 own cc nL ret0 g) (hP : va_P g.1 vwCl (gW g M) H) (hS : va_S (gA g) s.heap H locs) (hk : kd c = 7) (hlk : Cond.fieldLink own idx "MusicBoxModel" "faulty" "I" ∈ tbG) (hdg : decode cc pc = .ok (.putfield idx, 3)) (kk : ∀ (H1 : Heap) (locs1 : List Loc) (M1 : Mem), M1 = up2 M c 4 x → va_P g.1 vwCl (gW g M1) H1 → va_S (gA g) s.heap H1 locs1 → W p l e R s m args below meth c0 H1 locs1 cells slots Q (F0 m (pc + 3) ls rest)) : W p l e R s m args below meth c0 H locs cells slots Q (F0 m pc ls (.int x :: .ref (gz g + c) :: rest)) := by
  refine va_put (T := TX7) (N := 18) (ty := .int) X.1 X.2.1 X.2.2.2.2.1 inX7 tyX7 tyX7_ok nmX7 X.2.2.2.1 X.2.2.2.2.2.1 hP (gW_D g M) hS c (by rw [gW_get (kd_lt hk (by decide)), cel_7 hk]) rfl 4 (by decide) (X.2.2.2.2.1 _ hlk) (fun _ h => h) rfl (by decide +kernel) rfl rfl (Nat.le_of_ble_eq_true rfl) hdg (fun H1 locs1 hP1 _ hS1 => kk H1 locs1 _ rfl ?_ hS1)
  rw [gW_set (M' := up2 M c 4 x) (by rw [cel_7 hk]; simp [up2, va_up_self, upd]) (fun b hb => va_up_ne _ _ hb)] at hP1
  exact hP1
theorem gf_7_5 (X : Bx p s m args meth c0 own cc nL ret0 g) (hP : va_P g.1 vwCl (gW g M) H) (hk : kd c = 7) (hlk : Cond.fieldLink own idx "MusicBoxModel" "status" "I" ∈ tbG) (hdg : decode cc pc = .ok (.getfield idx, 3)) (kk : W p l e R s m args below meth c0 H locs cells slots Q (F0 m (pc + 3) ls (.int (M c 5) :: rest))) : W p l e R s m args below meth c0 H locs cells slots Q (F0 m pc ls (.ref (gz g + c) :: rest)) :=
  va_get (T := TX7) (N := 18) X.1 X.2.1 X.2.2.2.2.1 inX7 X.2.2.2.1 X.2.2.2.2.2.1 hP c (by rw [gW_get (kd_lt hk (by decide)), cel_7 hk]) rfl 5 (by decide) (X.2.2.2.2.1 _ hlk) (fun _ h => h) rfl hdg kk
theorem gp_7_5 {x : Int32} (X : Bx p s m args meth c0 own cc nL ret0 g) (hP : va_P g.1 vwCl (gW g M) H) (hS : va_S (gA g) s.heap H locs) (hk : kd c = 7) (hlk : Cond.fieldLink own idx "MusicBoxModel" "status" "I" ∈ tbG) (hdg : decode cc pc = .ok (.putfield idx, 3)) (kk : ∀ (H1 : Heap) (locs1 : List Loc) (M1 : Mem), M1 = up2 M c 5 x → va_P g.1 vwCl (gW g M1) H1 → va_S (gA g) s.heap H1 locs1 → W p l e R s m args below meth c0 H1 locs1 cells slots Q (F0 m (pc + 3) ls rest)) : W p l e R s m args below meth c0 H locs cells slots Q (F0 m pc ls (.int x :: .ref (gz g + c) :: rest)) := by
  refine va_put (T := TX7) (N := 18) (ty := .int) X.1 X.2.1 X.2.2.2.2.1 inX7 tyX7 tyX7_ok nmX7 X.2.2.2.1 X.2.2.2.2.2.1 hP (gW_D g M) hS c (by rw [gW_get (kd_lt hk (by decide)), cel_7 hk]) rfl 5 (by decide) (X.2.2.2.2.1 _ hlk) (fun _ h => h) rfl (by decide +kernel) rfl rfl (Nat.le_of_ble_eq_true rfl) hdg (fun H1 locs1 hP1 _ hS1 => kk H1 locs1 _ rfl ?_ hS1)
  rw [gW_set (M' := up2 M c 5 x) (by rw [cel_7 hk]; simp [up2, va_up_self, upd]) (fun b hb => va_up_ne _ _ hb)] at hP1
  exact hP1
theorem gf_7_6 (X : Bx p s m args meth c0 own cc nL ret0 g) (hP : va_P g.1 vwCl (gW g M) H) (hk : kd c = 7) (hlk : Cond.fieldLink own idx "MusicBoxModel" "many" "[I" ∈ tbG) (hdg : decode cc pc = .ok (.getfield idx, 3)) (kk : W p l e R s m args below meth c0 H locs cells slots Q (F0 m (pc + 3) ls (.ref (gz g + 282) :: rest))) : W p l e R s m args below meth c0 H locs cells slots Q (F0 m pc ls (.ref (gz g + c) :: rest)) :=
  va_get (T := TX7) (N := 18) X.1 X.2.1 X.2.2.2.2.1 inX7 X.2.2.2.1 X.2.2.2.2.2.1 hP c (by rw [gW_get (kd_lt hk (by decide)), cel_7 hk]) rfl 6 (by decide) (X.2.2.2.2.1 _ hlk) (fun _ h => h) rfl hdg kk
theorem gf_7_7 (X : Bx p s m args meth c0 own cc nL ret0 g) (hP : va_P g.1 vwCl (gW g M) H) (hk : kd c = 7) (hlk : Cond.fieldLink own idx "MusicBoxModel" "lane" "[I" ∈ tbG) (hdg : decode cc pc = .ok (.getfield idx, 3)) (kk : W p l e R s m args below meth c0 H locs cells slots Q (F0 m (pc + 3) ls (.ref (gz g + 283) :: rest))) : W p l e R s m args below meth c0 H locs cells slots Q (F0 m pc ls (.ref (gz g + c) :: rest)) :=
  va_get (T := TX7) (N := 18) X.1 X.2.1 X.2.2.2.2.1 inX7 X.2.2.2.1 X.2.2.2.2.2.1 hP c (by rw [gW_get (kd_lt hk (by decide)), cel_7 hk]) rfl 7 (by decide) (X.2.2.2.2.1 _ hlk) (fun _ h => h) rfl hdg kk
theorem gf_7_8 (X : Bx p s m args meth c0 own cc nL ret0 g) (hP : va_P g.1 vwCl (gW g M) H) (hk : kd c = 7) (hlk : Cond.fieldLink own idx "MusicBoxModel" "items" "[I" ∈ tbG) (hdg : decode cc pc = .ok (.getfield idx, 3)) (kk : W p l e R s m args below meth c0 H locs cells slots Q (F0 m (pc + 3) ls (.ref (gz g + 284) :: rest))) : W p l e R s m args below meth c0 H locs cells slots Q (F0 m pc ls (.ref (gz g + c) :: rest)) :=
  va_get (T := TX7) (N := 18) X.1 X.2.1 X.2.2.2.2.1 inX7 X.2.2.2.1 X.2.2.2.2.2.1 hP c (by rw [gW_get (kd_lt hk (by decide)), cel_7 hk]) rfl 8 (by decide) (X.2.2.2.2.1 _ hlk) (fun _ h => h) rfl hdg kk
theorem gf_7_9 (X : Bx p s m args meth c0 own cc nL ret0 g) (hP : va_P g.1 vwCl (gW g M) H) (hk : kd c = 7) (hlk : Cond.fieldLink own idx "MusicBoxModel" "held" "[I" ∈ tbG) (hdg : decode cc pc = .ok (.getfield idx, 3)) (kk : W p l e R s m args below meth c0 H locs cells slots Q (F0 m (pc + 3) ls (.ref (gz g + 285) :: rest))) : W p l e R s m args below meth c0 H locs cells slots Q (F0 m pc ls (.ref (gz g + c) :: rest)) :=
  va_get (T := TX7) (N := 18) X.1 X.2.1 X.2.2.2.2.1 inX7 X.2.2.2.1 X.2.2.2.2.2.1 hP c (by rw [gW_get (kd_lt hk (by decide)), cel_7 hk]) rfl 9 (by decide) (X.2.2.2.2.1 _ hlk) (fun _ h => h) rfl hdg kk
theorem gf_7_10 (X : Bx p s m args meth c0 own cc nL ret0 g) (hP : va_P g.1 vwCl (gW g M) H) (hk : kd c = 7) (hlk : Cond.fieldLink own idx "MusicBoxModel" "at" "I" ∈ tbG) (hdg : decode cc pc = .ok (.getfield idx, 3)) (kk : W p l e R s m args below meth c0 H locs cells slots Q (F0 m (pc + 3) ls (.int (M c 10) :: rest))) : W p l e R s m args below meth c0 H locs cells slots Q (F0 m pc ls (.ref (gz g + c) :: rest)) :=
  va_get (T := TX7) (N := 18) X.1 X.2.1 X.2.2.2.2.1 inX7 X.2.2.2.1 X.2.2.2.2.2.1 hP c (by rw [gW_get (kd_lt hk (by decide)), cel_7 hk]) rfl 10 (by decide) (X.2.2.2.2.1 _ hlk) (fun _ h => h) rfl hdg kk
theorem gp_7_10 {x : Int32} (X : Bx p s m args meth c0 own cc nL ret0 g) (hP : va_P g.1 vwCl (gW g M) H) (hS : va_S (gA g) s.heap H locs) (hk : kd c = 7) (hlk : Cond.fieldLink own idx "MusicBoxModel" "at" "I" ∈ tbG) (hdg : decode cc pc = .ok (.putfield idx, 3)) (kk : ∀ (H1 : Heap) (locs1 : List Loc) (M1 : Mem), M1 = up2 M c 10 x → va_P g.1 vwCl (gW g M1) H1 → va_S (gA g) s.heap H1 locs1 → W p l e R s m args below meth c0 H1 locs1 cells slots Q (F0 m (pc + 3) ls rest)) : W p l e R s m args below meth c0 H locs cells slots Q (F0 m pc ls (.int x :: .ref (gz g + c) :: rest)) := by
  refine va_put (T := TX7) (N := 18) (ty := .int) X.1 X.2.1 X.2.2.2.2.1 inX7 tyX7 tyX7_ok nmX7 X.2.2.2.1 X.2.2.2.2.2.1 hP (gW_D g M) hS c (by rw [gW_get (kd_lt hk (by decide)), cel_7 hk]) rfl 10 (by decide) (X.2.2.2.2.1 _ hlk) (fun _ h => h) rfl (by decide +kernel) rfl rfl (Nat.le_of_ble_eq_true rfl) hdg (fun H1 locs1 hP1 _ hS1 => kk H1 locs1 _ rfl ?_ hS1)
  rw [gW_set (M' := up2 M c 10 x) (by rw [cel_7 hk]; simp [up2, va_up_self, upd]) (fun b hb => va_up_ne _ _ hb)] at hP1
  exact hP1
theorem gf_7_11 (X : Bx p s m args meth c0 own cc nL ret0 g) (hP : va_P g.1 vwCl (gW g M) H) (hk : kd c = 7) (hlk : Cond.fieldLink own idx "MusicBoxModel" "start" "I" ∈ tbG) (hdg : decode cc pc = .ok (.getfield idx, 3)) (kk : W p l e R s m args below meth c0 H locs cells slots Q (F0 m (pc + 3) ls (.int (M c 11) :: rest))) : W p l e R s m args below meth c0 H locs cells slots Q (F0 m pc ls (.ref (gz g + c) :: rest)) :=
  va_get (T := TX7) (N := 18) X.1 X.2.1 X.2.2.2.2.1 inX7 X.2.2.2.1 X.2.2.2.2.2.1 hP c (by rw [gW_get (kd_lt hk (by decide)), cel_7 hk]) rfl 11 (by decide) (X.2.2.2.2.1 _ hlk) (fun _ h => h) rfl hdg kk
theorem gp_7_11 {x : Int32} (X : Bx p s m args meth c0 own cc nL ret0 g) (hP : va_P g.1 vwCl (gW g M) H) (hS : va_S (gA g) s.heap H locs) (hk : kd c = 7) (hlk : Cond.fieldLink own idx "MusicBoxModel" "start" "I" ∈ tbG) (hdg : decode cc pc = .ok (.putfield idx, 3)) (kk : ∀ (H1 : Heap) (locs1 : List Loc) (M1 : Mem), M1 = up2 M c 11 x → va_P g.1 vwCl (gW g M1) H1 → va_S (gA g) s.heap H1 locs1 → W p l e R s m args below meth c0 H1 locs1 cells slots Q (F0 m (pc + 3) ls rest)) : W p l e R s m args below meth c0 H locs cells slots Q (F0 m pc ls (.int x :: .ref (gz g + c) :: rest)) := by
  refine va_put (T := TX7) (N := 18) (ty := .int) X.1 X.2.1 X.2.2.2.2.1 inX7 tyX7 tyX7_ok nmX7 X.2.2.2.1 X.2.2.2.2.2.1 hP (gW_D g M) hS c (by rw [gW_get (kd_lt hk (by decide)), cel_7 hk]) rfl 11 (by decide) (X.2.2.2.2.1 _ hlk) (fun _ h => h) rfl (by decide +kernel) rfl rfl (Nat.le_of_ble_eq_true rfl) hdg (fun H1 locs1 hP1 _ hS1 => kk H1 locs1 _ rfl ?_ hS1)
  rw [gW_set (M' := up2 M c 11 x) (by rw [cel_7 hk]; simp [up2, va_up_self, upd]) (fun b hb => va_up_ne _ _ hb)] at hP1
  exact hP1
theorem gf_7_12 (X : Bx p s m args meth c0 own cc nL ret0 g) (hP : va_P g.1 vwCl (gW g M) H) (hk : kd c = 7) (hlk : Cond.fieldLink own idx "MusicBoxModel" "number" "I" ∈ tbG) (hdg : decode cc pc = .ok (.getfield idx, 3)) (kk : W p l e R s m args below meth c0 H locs cells slots Q (F0 m (pc + 3) ls (.int (M c 12) :: rest))) : W p l e R s m args below meth c0 H locs cells slots Q (F0 m pc ls (.ref (gz g + c) :: rest)) :=
  va_get (T := TX7) (N := 18) X.1 X.2.1 X.2.2.2.2.1 inX7 X.2.2.2.1 X.2.2.2.2.2.1 hP c (by rw [gW_get (kd_lt hk (by decide)), cel_7 hk]) rfl 12 (by decide) (X.2.2.2.2.1 _ hlk) (fun _ h => h) rfl hdg kk
theorem gp_7_12 {x : Int32} (X : Bx p s m args meth c0 own cc nL ret0 g) (hP : va_P g.1 vwCl (gW g M) H) (hS : va_S (gA g) s.heap H locs) (hk : kd c = 7) (hlk : Cond.fieldLink own idx "MusicBoxModel" "number" "I" ∈ tbG) (hdg : decode cc pc = .ok (.putfield idx, 3)) (kk : ∀ (H1 : Heap) (locs1 : List Loc) (M1 : Mem), M1 = up2 M c 12 x → va_P g.1 vwCl (gW g M1) H1 → va_S (gA g) s.heap H1 locs1 → W p l e R s m args below meth c0 H1 locs1 cells slots Q (F0 m (pc + 3) ls rest)) : W p l e R s m args below meth c0 H locs cells slots Q (F0 m pc ls (.int x :: .ref (gz g + c) :: rest)) := by
  refine va_put (T := TX7) (N := 18) (ty := .int) X.1 X.2.1 X.2.2.2.2.1 inX7 tyX7 tyX7_ok nmX7 X.2.2.2.1 X.2.2.2.2.2.1 hP (gW_D g M) hS c (by rw [gW_get (kd_lt hk (by decide)), cel_7 hk]) rfl 12 (by decide) (X.2.2.2.2.1 _ hlk) (fun _ h => h) rfl (by decide +kernel) rfl rfl (Nat.le_of_ble_eq_true rfl) hdg (fun H1 locs1 hP1 _ hS1 => kk H1 locs1 _ rfl ?_ hS1)
  rw [gW_set (M' := up2 M c 12 x) (by rw [cel_7 hk]; simp [up2, va_up_self, upd]) (fun b hb => va_up_ne _ _ hb)] at hP1
  exact hP1
theorem gf_7_13 (X : Bx p s m args meth c0 own cc nL ret0 g) (hP : va_P g.1 vwCl (gW g M) H) (hk : kd c = 7) (hlk : Cond.fieldLink own idx "MusicBoxModel" "value" "[I" ∈ tbG) (hdg : decode cc pc = .ok (.getfield idx, 3)) (kk : W p l e R s m args below meth c0 H locs cells slots Q (F0 m (pc + 3) ls (.ref (gz g + 286) :: rest))) : W p l e R s m args below meth c0 H locs cells slots Q (F0 m pc ls (.ref (gz g + c) :: rest)) :=
  va_get (T := TX7) (N := 18) X.1 X.2.1 X.2.2.2.2.1 inX7 X.2.2.2.1 X.2.2.2.2.2.1 hP c (by rw [gW_get (kd_lt hk (by decide)), cel_7 hk]) rfl 13 (by decide) (X.2.2.2.2.1 _ hlk) (fun _ h => h) rfl hdg kk
theorem gf_7_14 (X : Bx p s m args meth c0 own cc nL ret0 g) (hP : va_P g.1 vwCl (gW g M) H) (hk : kd c = 7) (hlk : Cond.fieldLink own idx "MusicBoxModel" "hasPin" "[I" ∈ tbG) (hdg : decode cc pc = .ok (.getfield idx, 3)) (kk : W p l e R s m args below meth c0 H locs cells slots Q (F0 m (pc + 3) ls (.ref (gz g + 287) :: rest))) : W p l e R s m args below meth c0 H locs cells slots Q (F0 m pc ls (.ref (gz g + c) :: rest)) :=
  va_get (T := TX7) (N := 18) X.1 X.2.1 X.2.2.2.2.1 inX7 X.2.2.2.1 X.2.2.2.2.2.1 hP c (by rw [gW_get (kd_lt hk (by decide)), cel_7 hk]) rfl 14 (by decide) (X.2.2.2.2.1 _ hlk) (fun _ h => h) rfl hdg kk
theorem gf_7_15 (X : Bx p s m args meth c0 own cc nL ret0 g) (hP : va_P g.1 vwCl (gW g M) H) (hk : kd c = 7) (hlk : Cond.fieldLink own idx "MusicBoxModel" "isKept" "[Z" ∈ tbG) (hdg : decode cc pc = .ok (.getfield idx, 3)) (kk : W p l e R s m args below meth c0 H locs cells slots Q (F0 m (pc + 3) ls (.ref (gz g + 288) :: rest))) : W p l e R s m args below meth c0 H locs cells slots Q (F0 m pc ls (.ref (gz g + c) :: rest)) :=
  va_get (T := TX7) (N := 18) X.1 X.2.1 X.2.2.2.2.1 inX7 X.2.2.2.1 X.2.2.2.2.2.1 hP c (by rw [gW_get (kd_lt hk (by decide)), cel_7 hk]) rfl 15 (by decide) (X.2.2.2.2.1 _ hlk) (fun _ h => h) rfl hdg kk
theorem gf_7_16 (X : Bx p s m args meth c0 own cc nL ret0 g) (hP : va_P g.1 vwCl (gW g M) H) (hk : kd c = 7) (hlk : Cond.fieldLink own idx "MusicBoxModel" "trace" "[I" ∈ tbG) (hdg : decode cc pc = .ok (.getfield idx, 3)) (kk : W p l e R s m args below meth c0 H locs cells slots Q (F0 m (pc + 3) ls (.ref (gz g + 289) :: rest))) : W p l e R s m args below meth c0 H locs cells slots Q (F0 m pc ls (.ref (gz g + c) :: rest)) :=
  va_get (T := TX7) (N := 18) X.1 X.2.1 X.2.2.2.2.1 inX7 X.2.2.2.1 X.2.2.2.2.2.1 hP c (by rw [gW_get (kd_lt hk (by decide)), cel_7 hk]) rfl 16 (by decide) (X.2.2.2.2.1 _ hlk) (fun _ h => h) rfl hdg kk
theorem gf_7_17 (X : Bx p s m args meth c0 own cc nL ret0 g) (hP : va_P g.1 vwCl (gW g M) H) (hk : kd c = 7) (hlk : Cond.fieldLink own idx "MusicBoxModel" "traced" "I" ∈ tbG) (hdg : decode cc pc = .ok (.getfield idx, 3)) (kk : W p l e R s m args below meth c0 H locs cells slots Q (F0 m (pc + 3) ls (.int (M c 17) :: rest))) : W p l e R s m args below meth c0 H locs cells slots Q (F0 m pc ls (.ref (gz g + c) :: rest)) :=
  va_get (T := TX7) (N := 18) X.1 X.2.1 X.2.2.2.2.1 inX7 X.2.2.2.1 X.2.2.2.2.2.1 hP c (by rw [gW_get (kd_lt hk (by decide)), cel_7 hk]) rfl 17 (by decide) (X.2.2.2.2.1 _ hlk) (fun _ h => h) rfl hdg kk
theorem gp_7_17 {x : Int32} (X : Bx p s m args meth c0 own cc nL ret0 g) (hP : va_P g.1 vwCl (gW g M) H) (hS : va_S (gA g) s.heap H locs) (hk : kd c = 7) (hlk : Cond.fieldLink own idx "MusicBoxModel" "traced" "I" ∈ tbG) (hdg : decode cc pc = .ok (.putfield idx, 3)) (kk : ∀ (H1 : Heap) (locs1 : List Loc) (M1 : Mem), M1 = up2 M c 17 x → va_P g.1 vwCl (gW g M1) H1 → va_S (gA g) s.heap H1 locs1 → W p l e R s m args below meth c0 H1 locs1 cells slots Q (F0 m (pc + 3) ls rest)) : W p l e R s m args below meth c0 H locs cells slots Q (F0 m pc ls (.int x :: .ref (gz g + c) :: rest)) := by
  refine va_put (T := TX7) (N := 18) (ty := .int) X.1 X.2.1 X.2.2.2.2.1 inX7 tyX7 tyX7_ok nmX7 X.2.2.2.1 X.2.2.2.2.2.1 hP (gW_D g M) hS c (by rw [gW_get (kd_lt hk (by decide)), cel_7 hk]) rfl 17 (by decide) (X.2.2.2.2.1 _ hlk) (fun _ h => h) rfl (by decide +kernel) rfl rfl (Nat.le_of_ble_eq_true rfl) hdg (fun H1 locs1 hP1 _ hS1 => kk H1 locs1 _ rfl ?_ hS1)
  rw [gW_set (M' := up2 M c 17 x) (by rw [cel_7 hk]; simp [up2, va_up_self, upd]) (fun b hb => va_up_ne _ _ hb)] at hP1
  exact hP1
theorem ga_ld {i : Int32} {n : Nat} (X : Bx p s m args meth c0 own cc nL ret0 g) (hP : va_P g.1 vwCl (gW g M) H) (hk : iA g c n) (hin : vp_in i n) (hdg : decode cc pc = .ok (.iaload, 1)) (kk : W p l e R s m args below meth c0 H locs cells slots Q (F0 m (pc + 1) ls (.int (M c i.toNatClampNeg) :: rest))) : W p l e R s m args below meth c0 H locs cells slots Q (F0 m pc ls (.int i :: .ref (gz g + c) :: rest)) :=
  va_iald X.1 X.2.1 X.2.2.2.2.2.1 hP c 0 (by rw [gW_get hk.1, hk.2]) rfl hin hdg kk
theorem ga_st {i x : Int32} {n : Nat} (X : Bx p s m args meth c0 own cc nL ret0 g) (hP : va_P g.1 vwCl (gW g M) H) (hS : va_S (gA g) s.heap H locs) (hk : iA g c n) (hin : vp_in i n) (hdg : decode cc pc = .ok (.iastore, 1)) (kk : ∀ (H1 : Heap) (locs1 : List Loc) (M1 : Mem), M1 = up2 M c i.toNatClampNeg x → va_P g.1 vwCl (gW g M1) H1 → va_S (gA g) s.heap H1 locs1 → W p l e R s m args below meth c0 H1 locs1 cells slots Q (F0 m (pc + 1) ls rest)) : W p l e R s m args below meth c0 H locs cells slots Q (F0 m pc ls (.int x :: .int i :: .ref (gz g + c) :: rest)) := by
  refine va_iast X.1 X.2.1 X.2.2.2.2.2.1 hP (gW_D g M) hS c 0 (by rw [gW_get hk.1, hk.2]) rfl hin hdg (fun H1 locs1 hP1 _ hS1 => kk H1 locs1 _ rfl ?_ hS1)
  rw [gW_set (M' := up2 M c i.toNatClampNeg x) (iA_cel hk M _) (fun b hb => va_up_ne _ _ hb)] at hP1
  exact hP1
theorem gz_ld {i : Int32} {n : Nat} (X : Bx p s m args meth c0 own cc nL ret0 g) (hP : va_P g.1 vwCl (gW g M) H) (hk : iZ g c n) (hin : vp_in i n) (hdg : decode cc pc = .ok (.baload, 1)) (kk : W p l e R s m args below meth c0 H locs cells slots Q (F0 m (pc + 1) ls (.int (M c i.toNatClampNeg) :: rest))) : W p l e R s m args below meth c0 H locs cells slots Q (F0 m pc ls (.int i :: .ref (gz g + c) :: rest)) :=
  va_zald X.1 X.2.1 X.2.2.2.2.2.1 hP c 1 (by rw [gW_get hk.1, hk.2]) rfl hin hdg kk
theorem gz_st {i x : Int32} {n : Nat} (X : Bx p s m args meth c0 own cc nL ret0 g) (hP : va_P g.1 vwCl (gW g M) H) (hS : va_S (gA g) s.heap H locs) (hk : iZ g c n) (hin : vp_in i n) (hdg : decode cc pc = .ok (.bastore, 1)) (kk : ∀ (H1 : Heap) (locs1 : List Loc) (M1 : Mem), M1 = up2 M c i.toNatClampNeg (vp_nar .boolean x) → va_P g.1 vwCl (gW g M1) H1 → va_S (gA g) s.heap H1 locs1 → W p l e R s m args below meth c0 H1 locs1 cells slots Q (F0 m (pc + 1) ls rest)) : W p l e R s m args below meth c0 H locs cells slots Q (F0 m pc ls (.int x :: .int i :: .ref (gz g + c) :: rest)) := by
  refine va_zast X.1 X.2.1 X.2.2.2.2.2.1 hP (gW_D g M) hS c 1 (by rw [gW_get hk.1, hk.2]) rfl hin hdg (fun H1 locs1 hP1 _ hS1 => kk H1 locs1 _ rfl ?_ hS1)
  rw [gW_set (M' := up2 M c i.toNatClampNeg (vp_nar .boolean x)) (iZ_cel hk M _) (fun b hb => va_up_ne _ _ hb)] at hP1
  exact hP1
theorem ga_ldj {i : Int32} {n j : Nat} (X : Bx p s m args meth c0 own cc nL ret0 g) (hP : va_P g.1 vwCl (gW g M) H) (hk : iA g c n) (hin : vp_in i n) (hj : i.toNatClampNeg = j) (hdg : decode cc pc = .ok (.iaload, 1)) (kk : W p l e R s m args below meth c0 H locs cells slots Q (F0 m (pc + 1) ls (.int (M c j) :: rest))) : W p l e R s m args below meth c0 H locs cells slots Q (F0 m pc ls (.int i :: .ref (gz g + c) :: rest)) := by
  subst hj
  exact ga_ld X hP hk hin hdg kk
theorem ga_stj {i x : Int32} {n j : Nat} (X : Bx p s m args meth c0 own cc nL ret0 g) (hP : va_P g.1 vwCl (gW g M) H) (hS : va_S (gA g) s.heap H locs) (hk : iA g c n) (hin : vp_in i n) (hj : i.toNatClampNeg = j) (hdg : decode cc pc = .ok (.iastore, 1)) (kk : ∀ (H1 : Heap) (locs1 : List Loc) (M1 : Mem), M1 = up2 M c j x → va_P g.1 vwCl (gW g M1) H1 → va_S (gA g) s.heap H1 locs1 → W p l e R s m args below meth c0 H1 locs1 cells slots Q (F0 m (pc + 1) ls rest)) : W p l e R s m args below meth c0 H locs cells slots Q (F0 m pc ls (.int x :: .int i :: .ref (gz g + c) :: rest)) := by
  subst hj
  exact ga_st X hP hS hk hin hdg kk
theorem ga_len {n : Nat} (X : Bx p s m args meth c0 own cc nL ret0 g) (hP : va_P g.1 vwCl (gW g M) H) (hk : iA g c n) (hdg : decode cc pc = .ok (.arraylength, 1)) (kk : W p l e R s m args below meth c0 H locs cells slots Q (F0 m (pc + 1) ls (.int (Int32.ofNat n) :: rest))) : W p l e R s m args below meth c0 H locs cells slots Q (F0 m pc ls (.ref (gz g + c) :: rest)) :=
  va_alen X.1 X.2.1 X.2.2.2.2.2.1 hP c 0 (by rw [gW_get hk.1, hk.2]) rfl rfl hdg kk
theorem gr_rows {i : Int32} (X : Bx p s m args meth c0 own cc nL ret0 g) (hP : va_P g.1 vwCl (gW g M) H) (hk : kd c = 18) (hin : vp_in i 8) (hdg : decode cc pc = .ok (.aaload, 1)) (kk : W p l e R s m args below meth c0 H locs cells slots Q (F0 m (pc + 1) ls (.ref (gz g + (251 + 2 * i.toNatClampNeg)) :: rest))) : W p l e R s m args below meth c0 H locs cells slots Q (F0 m pc ls (.int i :: .ref (gz g + c) :: rest)) :=
  va_aldq (C := RX2) X.1 X.2.1 X.2.2.2.2.2.1 hP c 2 (f := fun i => some (gz g + (251 + 2 * i))) (cA := g.2.1 2) (n := 8) (by rw [gW_get (kd_lt hk (by decide))]; unfold cel celK; rw [hk]; rfl) rfl hin hdg kk
theorem gr_images {i : Int32} (X : Bx p s m args meth c0 own cc nL ret0 g) (hP : va_P g.1 vwCl (gW g M) H) (hk : kd c = 19) (hin : vp_in i 2) (hdg : decode cc pc = .ok (.aaload, 1)) (kk : W p l e R s m args below meth c0 H locs cells slots Q (F0 m (pc + 1) ls (.ref (gz g + (267 + 6 * i.toNatClampNeg)) :: rest))) : W p l e R s m args below meth c0 H locs cells slots Q (F0 m pc ls (.int i :: .ref (gz g + c) :: rest)) :=
  va_aldq (C := RX5) X.1 X.2.1 X.2.2.2.2.2.1 hP c 3 (f := fun i => some (gz g + (267 + 6 * i))) (cA := g.2.1 3) (n := 2) (by rw [gW_get (kd_lt hk (by decide))]; unfold cel celK; rw [hk]; rfl) rfl hin hdg kk
theorem gr_kept {i : Int32} (X : Bx p s m args meth c0 own cc nL ret0 g) (hP : va_P g.1 vwCl (gW g M) H) (hk : kd c = 20) (hin : vp_in i 24) (hdg : decode cc pc = .ok (.aaload, 1)) (kk : W p l e R s m args below meth c0 H locs cells slots Q (F0 m (pc + 1) ls (.ref (gz g + (19 + 6 * i.toNatClampNeg)) :: rest))) : W p l e R s m args below meth c0 H locs cells slots Q (F0 m pc ls (.int i :: .ref (gz g + c) :: rest)) :=
  va_aldq (C := RX5) X.1 X.2.1 X.2.2.2.2.2.1 hP c 3 (f := fun i => some (gz g + (19 + 6 * i))) (cA := g.2.1 3) (n := 24) (by rw [gW_get (kd_lt hk (by decide))]; unfold cel celK; rw [hk]; rfl) rfl hin hdg kk
theorem gr_cases {i : Int32} (X : Bx p s m args meth c0 own cc nL ret0 g) (hP : va_P g.1 vwCl (gW g M) H) (hk : kd c = 21) (hin : vp_in i 13) (hdg : decode cc pc = .ok (.aaload, 1)) (kk : W p l e R s m args below meth c0 H locs cells slots Q (F0 m (pc + 1) ls (.ref (gz g + (171 + 6 * i.toNatClampNeg)) :: rest))) : W p l e R s m args below meth c0 H locs cells slots Q (F0 m pc ls (.int i :: .ref (gz g + c) :: rest)) :=
  va_aldq (C := RX5) X.1 X.2.1 X.2.2.2.2.2.1 hP c 3 (f := fun i => some (gz g + (171 + 6 * i))) (cA := g.2.1 3) (n := 13) (by rw [gW_get (kd_lt hk (by decide))]; unfold cel celK; rw [hk]; rfl) rfl hin hdg kk
theorem g_copy {sp dp n : Int32} {d n0 n1 : Nat} (X : Bx p s m args meth c0 own cc nL ret0 g) (hP : va_P g.1 vwCl (gW g M) H) (hS : va_S (gA g) s.heap H locs) (hk : iA g c n0) (hd : iA g d n1) (hc : ¬ sp < 0 ∧ ¬ dp < 0 ∧ ¬ n < 0 ∧ sp.toNatClampNeg + n.toNatClampNeg ≤ n0 ∧ dp.toNatClampNeg + n.toNatClampNeg ≤ n1) (hml : ls.size = nL) (hlk : Cond.methodLink own idx arraycopyName ∈ tbG) (hR : 1 ≤ R.frames ∧ 8 + (nativeFrameWords "java/lang/System" "arraycopy" 5 + 11) ≤ R.locals) (hrm : (rest.map fun v => v.category).sum ≤ 8) (hdg : decode cc pc = .ok (.invokestatic idx, 3)) (kk : ∀ (H1 : Heap) (locs1 : List Loc) (M1 : Mem), M1 = va_up M d (va_cpy (M c) (M d) sp.toNatClampNeg dp.toNatClampNeg n.toNatClampNeg) → va_P g.1 vwCl (gW g M1) H1 → va_S (gA g) s.heap H1 locs1 → W p l e R s m args below meth c0 H1 locs1 cells slots Q (F0 m (pc + 3) ls rest)) : W p l e R s m args below meth c0 H locs cells slots Q (F0 m pc ls (.int n :: .int dp :: .ref (gz g + d) :: .int sp :: .ref (gz g + c) :: rest)) := by
  refine va_copyi (ty := .int) X.1 X.2.1 (by rw [X.2.2.1, hml]) X.2.2.2.1 (X.2.2.2.2.1 _ hlk) (X.2.2.2.2.1 _ q2_41) (X.2.2.2.2.1 _ q2_40) (X.2.2.2.2.1 _ q1_10) X.2.2.2.2.2.1 hP (gW_D g M) hS c d 0 0 (by rw [gW_get hk.1, hk.2]) (by rw [gW_get hd.1, hd.2]) rfl rfl rfl hc.1 hc.2.1 hc.2.2.1 hc.2.2.2.1 hc.2.2.2.2 (fun _ _ => rfl) hR.1 (by omega) hdg (fun H1 locs1 hP1 _ hS1 => kk H1 locs1 _ rfl ?_ hS1)
  rw [gW_set (M' := va_up M d (va_cpy (M c) (M d) sp.toNatClampNeg dp.toNatClampNeg n.toNatClampNeg)) (iA_cel hd M _) (fun b hb => va_up_ne _ _ hb)] at hP1
  exact hP1
theorem g_copyj {sp dp n : Int32} {d n0 n1 a b k : Nat} (X : Bx p s m args meth c0 own cc nL ret0 g) (hP : va_P g.1 vwCl (gW g M) H) (hS : va_S (gA g) s.heap H locs) (hk : iA g c n0) (hd : iA g d n1) (hc : ¬ sp < 0 ∧ ¬ dp < 0 ∧ ¬ n < 0 ∧ sp.toNatClampNeg + n.toNatClampNeg ≤ n0 ∧ dp.toNatClampNeg + n.toNatClampNeg ≤ n1) (hml : ls.size = nL) (hlk : Cond.methodLink own idx arraycopyName ∈ tbG) (hR : 1 ≤ R.frames ∧ 8 + (nativeFrameWords "java/lang/System" "arraycopy" 5 + 11) ≤ R.locals) (hrm : (rest.map fun v => v.category).sum ≤ 8) (hdg : decode cc pc = .ok (.invokestatic idx, 3)) (ha : sp.toNatClampNeg = a) (hb : dp.toNatClampNeg = b) (hn : n.toNatClampNeg = k) (kk : ∀ (H1 : Heap) (locs1 : List Loc) (M1 : Mem), M1 = va_up M d (va_cpy (M c) (M d) a b k) → va_P g.1 vwCl (gW g M1) H1 → va_S (gA g) s.heap H1 locs1 → W p l e R s m args below meth c0 H1 locs1 cells slots Q (F0 m (pc + 3) ls rest)) : W p l e R s m args below meth c0 H locs cells slots Q (F0 m pc ls (.int n :: .int dp :: .ref (gz g + d) :: .int sp :: .ref (gz g + c) :: rest)) := by
  subst ha
  subst hb
  subst hn
  exact g_copy X hP hS hk hd hc hml hlk hR hrm hdg kk
theorem gs_1 (X : Bx p s m args meth c0 own cc nL ret0 g) (hS : va_S (gA g) s.heap H locs) (hlk : Cond.fieldLink own idx "MusicBox" "WIDER_KINDS" "[I" ∈ tbG) (hdg : decode cc pc = .ok (.getstatic idx, 3)) (kk : W p l e R s m args below meth c0 H locs cells slots Q (F0 m (pc + 3) ls (.ref (g.2.2 1) :: rest))) : W p l e R s m args below meth c0 H locs cells slots Q (F0 m pc ls rest) :=
  va_gets X.1 X.2.1 X.2.2.2.2.2.2.1.1.1 hS X.2.2.2.1 (X.2.2.2.2.1 _ hlk) (fun _ h => h) hdg kk
def tb1 (i : Nat) : Int32 := ([0, 0, 1, 1, 0, 4] : List Int32).getD i 0
theorem gt_1 {i : Int32} (X : Bx p s m args meth c0 own cc nL ret0 g) (hS : va_S (gA g) s.heap H locs) (hin : vp_in i 6) (hdg : decode cc pc = .ok (.iaload, 1)) (kk : W p l e R s m args below meth c0 H locs cells slots Q (F0 m (pc + 1) ls (.int (tb1 i.toNatClampNeg) :: rest))) : W p l e R s m args below meth c0 H locs cells slots Q (F0 m pc ls (.int i :: .ref (g.2.2 1) :: rest)) :=
  va_ti X.1 X.2.1 X.2.2.2.2.2.2.1.1.2 hS hin rfl hdg kk
theorem gs_2 (X : Bx p s m args meth c0 own cc nL ret0 g) (hS : va_S (gA g) s.heap H locs) (hlk : Cond.fieldLink own idx "MusicBox$Asking" "SIZE_BODIES" "[I" ∈ tbG) (hdg : decode cc pc = .ok (.getstatic idx, 3)) (kk : W p l e R s m args below meth c0 H locs cells slots Q (F0 m (pc + 3) ls (.ref (g.2.2 2) :: rest))) : W p l e R s m args below meth c0 H locs cells slots Q (F0 m pc ls rest) :=
  va_gets X.1 X.2.1 X.2.2.2.2.2.2.1.2.1.1 hS X.2.2.2.1 (X.2.2.2.2.1 _ hlk) (fun _ h => h) hdg kk
def tb2 (i : Nat) : Int32 := ([10, 11, 12, 11, 13, 14] : List Int32).getD i 0
theorem gt_2 {i : Int32} (X : Bx p s m args meth c0 own cc nL ret0 g) (hS : va_S (gA g) s.heap H locs) (hin : vp_in i 6) (hdg : decode cc pc = .ok (.iaload, 1)) (kk : W p l e R s m args below meth c0 H locs cells slots Q (F0 m (pc + 1) ls (.int (tb2 i.toNatClampNeg) :: rest))) : W p l e R s m args below meth c0 H locs cells slots Q (F0 m pc ls (.int i :: .ref (g.2.2 2) :: rest)) :=
  va_ti X.1 X.2.1 X.2.2.2.2.2.2.1.2.1.2 hS hin rfl hdg kk
theorem gs_3 (X : Bx p s m args meth c0 own cc nL ret0 g) (hS : va_S (gA g) s.heap H locs) (hlk : Cond.fieldLink own idx "MusicBox$Asking" "MARK_BODIES" "[I" ∈ tbG) (hdg : decode cc pc = .ok (.getstatic idx, 3)) (kk : W p l e R s m args below meth c0 H locs cells slots Q (F0 m (pc + 3) ls (.ref (g.2.2 3) :: rest))) : W p l e R s m args below meth c0 H locs cells slots Q (F0 m pc ls rest) :=
  va_gets X.1 X.2.1 X.2.2.2.2.2.2.1.2.2.1 hS X.2.2.2.1 (X.2.2.2.2.1 _ hlk) (fun _ h => h) hdg kk
def tb3 (i : Nat) : Int32 := ([20, 21, 24, 22, 23, 23] : List Int32).getD i 0
theorem gt_3 {i : Int32} (X : Bx p s m args meth c0 own cc nL ret0 g) (hS : va_S (gA g) s.heap H locs) (hin : vp_in i 6) (hdg : decode cc pc = .ok (.iaload, 1)) (kk : W p l e R s m args below meth c0 H locs cells slots Q (F0 m (pc + 1) ls (.int (tb3 i.toNatClampNeg) :: rest))) : W p l e R s m args below meth c0 H locs cells slots Q (F0 m pc ls (.int i :: .ref (g.2.2 3) :: rest)) :=
  va_ti X.1 X.2.1 X.2.2.2.2.2.2.1.2.2.2 hS hin rfl hdg kk
theorem g_iret {v : Int32} {out : Int32 × Mem} (X : Bx p s m args meth c0 own cc nL (some .int) g) (hP : va_P g.1 vwCl (gW g M) H) (hS : va_S (gA g) s.heap H locs) (ho : (v, M) = out) (hdg : decode cc pc = .ok (.ireturn, 1)) : W p l e R s m args below meth c0 H locs 0 0 (MQ below (qI g out) args s 0 0 (gA g)) (F0 m pc ls [.int v]) := by
  subst ho
  exact W.iret X.1 X.2.1 X.2.2.2.2.2.2.2.1 (fun t ht hW => ⟨⟨v, M, rfl, ⟨rfl, rfl⟩, gI_at hP X.2.2.2.2.2.1 X.2.2.2.2.2.2.1 hS ht hW⟩, hS.F ht⟩) hS.2.2 hdg X.2.2.2.2.2.2.2.2
theorem g_zret {v : Int32} {out : Int32 × Mem} (X : Bx p s m args meth c0 own cc nL (some .boolean) g) (hP : va_P g.1 vwCl (gW g M) H) (hS : va_S (gA g) s.heap H locs) (hn : narrow .boolean (.int v) = .int v) (ho : (v, M) = out) (hdg : decode cc pc = .ok (.ireturn, 1)) : W p l e R s m args below meth c0 H locs 0 0 (MQ below (qI g out) args s 0 0 (gA g)) (F0 m pc ls [.int v]) := by
  subst ho
  exact W.zret X.1 X.2.1 X.2.2.2.2.2.2.2.1 hn (fun t ht hW => ⟨⟨v, M, rfl, ⟨rfl, rfl⟩, gI_at hP X.2.2.2.2.2.1 X.2.2.2.2.2.2.1 hS ht hW⟩, hS.F ht⟩) hS.2.2 hdg X.2.2.2.2.2.2.2.2
theorem g_lret {v : Int64} {out : Int64 × Mem} (X : Bx p s m args meth c0 own cc nL (some .long) g) (hP : va_P g.1 vwCl (gW g M) H) (hS : va_S (gA g) s.heap H locs) (ho : (v, M) = out) (hdg : decode cc pc = .ok (.lreturn, 1)) : W p l e R s m args below meth c0 H locs 0 0 (MQ below (qL g out) args s 0 0 (gA g)) (F0 m pc ls [.long v]) := by
  subst ho
  exact W.lret X.1 X.2.1 X.2.2.2.2.2.2.2.1 (fun t ht hW => ⟨⟨v, M, rfl, ⟨rfl, rfl⟩, gI_at hP X.2.2.2.2.2.1 X.2.2.2.2.2.2.1 hS ht hW⟩, hS.F ht⟩) hS.2.2 hdg X.2.2.2.2.2.2.2.2
theorem g_vret {out : Mem} (X : Bx p s m args meth c0 own cc nL none g) (hP : va_P g.1 vwCl (gW g M) H) (hS : va_S (gA g) s.heap H locs) (ho : M = out) (hdg : decode cc pc = .ok (.return_, 1)) : W p l e R s m args below meth c0 H locs 0 0 (MQ below (qV g out) args s 0 0 (gA g)) (F0 m pc ls []) := by
  subst ho
  exact W.vret X.1 X.2.1 X.2.2.2.2.2.2.2.1 (fun t ht hW => ⟨⟨M, rfl, rfl, gI_at hP X.2.2.2.2.2.1 X.2.2.2.2.2.2.1 hS ht hW⟩, hS.F ht⟩) hS.2.2 hdg X.2.2.2.2.2.2.2.2

end ROWS
/-- a contract out of a walk from the entry -/
theorem g_met {l : Launch} {g : GC} {y : MethodName} {b : ByteArray} {n : Nat} {ret : Option FieldType} {rm : Room} {av : List Value} {M : Mem} {Qc : Array Value → State → Outcome → State → Prop} (hy : plainName y.cls = true) (hn : (lg_sl av).length ≤ n)
    (body : ∀ (p : Program) (e : Env) (s : State) (m : MethodId) (below : List Frame) (meth : Method) (c : Code), Bx p s m av.toArray meth c y.cls b n ret g → va_P g.1 vwCl (gW g M) s.heap → va_S (gA g) s.heap s.heap [] → ∀ ls : Array Slot, lv_has ls n (lv_args 0 av) → W p l e rm s m av.toArray below meth c s.heap [] 0 0 (MQ below Qc av.toArray s 0 0 (gA g)) (F0 m 0 ls [])) : Met l y (wG y b n ret) rm (va_Pc av (gI g M)) Qc 0 0 (gA g) := by
  refine Met.ofW (cc := b) (maxL := n) (ret := ret) hy rfl ?_
  intro p e s m args below meth c s₁ B hml hv
  obtain ⟨rfl, hP, hK, hT⟩ := hv
  have hts := atoms_spec (ws := wG y b n ret) B.pre
  have hl := lv_entry av (n := n) hn
  rw [lg_entry_eq]
  exact body p e s m below meth c ⟨B.exec, B.bytes, hml, findClass_of_methodNamed B.named, fun w h => hts w (List.mem_cons_of_mem _ h), hK, hT, B.returns, B.notSynchronized⟩ hP va_S.rf _ hl
