/-! constructors with loops -/
def lE (g : GC) (a N base i : Nat) (E : Nat → va_E) : Nat → va_E := fun k => if k = a then .inl (g.2.1 3, N, .inr (.inr (.inr (.inr (fun j => if j < i then some (gz g + (base + 6 * j)) else none))))) else if base ≤ k ∧ k < base + 6 * i then celK g (fun _ => 0) k (kdW.getD ((k - base) % 6) 99) else E k
theorem lE_a {g : GC} {a N base i : Nat} {E : Nat → va_E} : lE g a N base i E a = .inl (g.2.1 3, N, .inr (.inr (.inr (.inr (fun j => if j < i then some (gz g + (base + 6 * j)) else none))))) := if_pos rfl
theorem lE_o {g : GC} {a N base i k : Nat} {E : Nat → va_E} (h1 : k ≠ a) (h2 : k < base ∨ base + 6 * i ≤ k) : lE g a N base i E k = E k := by
  unfold lE
  rw [if_neg h1, if_neg (by omega)]
theorem lE_0 {g : GC} {a N base k : Nat} {E : Nat → va_E} : upE E a (.inl (g.2.1 3, N, .inr (.inr (.inr (.inr (fun _ => none)))))) k = lE g a N base 0 E k := by
  unfold lE upE
  by_cases h : k = a
  · rw [if_pos h, if_pos h]
    congr 6
  · rw [if_neg h, if_neg h, if_neg (by omega)]
theorem lE_s {g : GC} {a N base i k : Nat} {E : Nat → va_E} {j : Int32} (ha : a < base) (hj : j.toNatClampNeg = i) (hk : k < base + 6 * i + 6) : upE (wE g (base + 6 * i) (upE (lE g a N base i E) (base + 6 * i) (.inr (5, wz)))) a (.inl (g.2.1 3, N, .inr (.inr (.inr (.inr (va_up (fun j => if j < i then some (gz g + (base + 6 * j)) else none) j.toNatClampNeg (some (gz g + (base + 6 * i))))))))) k = lE g a N base (i + 1) E k := by
  rw [hj]
  by_cases h : k = a
  · subst h
    rw [upE_s, lE_a]
    refine congrArg (fun f => (Sum.inl (g.2.1 3, N, Sum.inr (Sum.inr (Sum.inr (Sum.inr f)))) : va_E)) ?_
    funext u
    by_cases q : u = i
    · subst q
      rw [va_up_self, if_pos (by omega)]
    · rw [va_up_ne _ _ q]
      by_cases q2 : u < i
      · rw [if_pos q2, if_pos (by omega)]
      · rw [if_neg q2, if_neg (by omega)]
  · rw [upE_n h]
    unfold wE
    by_cases q : base + 6 * i ≤ k ∧ k < base + 6 * i + 6
    · rw [if_pos q]
      unfold lE
      rw [if_neg h, if_pos (by omega), show (k - base) % 6 = k - (base + 6 * i) by omega]
    · rw [if_neg q, upE_n (by omega)]
      unfold lE
      rw [if_neg h, if_neg h]
      by_cases q2 : base ≤ k ∧ k < base + 6 * i
      · rw [if_pos q2, if_pos (by omega)]
      · rw [if_neg q2, if_neg (by omega)]
theorem wz_ok : ∀ j, j < 11 → defaultValue (tyX5 j) = vp_V wz j := by
  intro j hj
  rcases (show j = 0 ∨ j = 1 ∨ j = 2 ∨ j = 3 ∨ j = 4 ∨ j = 5 ∨ j = 6 ∨ j = 7 ∨ j = 8 ∨ j = 9 ∨ j = 10 by omega) with rfl | rfl | rfl | rfl | rfl | rfl | rfl | rfl | rfl | rfl | rfl <;> rfl
theorem d_X5 : yX5_init.cls ≠ "java/lang/invoke/MethodHandle" ∧ yX5_init.cls ≠ "java/lang/invoke/VarHandle" ∧ (parseMethodDescriptor yX5_init.desc).map (fun d => d.parameters.length) = some 0 := ⟨by decide, by decide, by decide +kernel⟩
theorem vin {i N : Nat} (h : i < N) (hN : N < 2147483648) : vp_in (nI i) N := by
  unfold vp_in
  rw [nlt0 (by omega), nI_cl (by omega)]
  intro h
  rcases h with h | h
  · exact h
  · omega
set_option maxRecDepth 20000 in
theorem b_X1 {p : Program} {l : Launch} {e : Env} {s : State} {m : MethodId} {args : Array Value} {below : List Frame} {meth : Method} {c : Code} {g : GC} {c0 : Nat} {E : Nat → va_E} {Q : State → Prop} (X : Kx p s m args meth c RX1 cX1_init 2 g) (h0 : s.heap.size = gz g + (c0 + 1)) (hE : E (c0) = .inr (1, [.ref (gz g + (c0 + 1)), .int 0, .int 0]))
    (hx9 : ∀ (H : Heap) (locs : List Loc) (ls : Array Slot), va_P g.1 vwCl (kW g (c0 + 2 + 6 * 24) (lE g (c0 + 1) 24 (c0 + 2) 24 E)) H → va_S (gA g) s.heap H locs → lv_has ls 2 [(0, .ref (gz g + c0)), (1, .int (nI 24))] → W p l e (rK 2 60 145 1152) s m args below meth c H locs (1 + 6 * 24) (24 + 47 * 24) Q (F0 m 40 ls [])) :
    ∀ (d i : Nat) (H : Heap) (locs : List Loc) (ls : Array Slot), i + d = 24 → va_P g.1 vwCl (kW g (c0 + 2 + 6 * i) (lE g (c0 + 1) 24 (c0 + 2) i E)) H → va_S (gA g) s.heap H locs → lv_has ls 2 [(0, .ref (gz g + c0)), (1, .int (nI i))] → W p l e (rK 2 60 145 1152) s m args below meth c H locs (1 + 6 * i) (24 + 47 * i) Q (F0 m 15 ls []) := by
  have hx := X.1.1
  have hb := X.1.2.1
  intro d
  induction d with
  | zero =>
    intro i H locs ls hi hP hS hl
    have hi2 : i = 24 := by omega
    subst hi2
    refine lv_iload_n hx hb dX1_init_15 rfl (lv_at hl 1 rfl) ?_
    refine lv_bipush (v := (24 : Int32)) hx hb dX1_init_16 (by decide) ?_
    refine lv_icmp_ge (tgt := 40) hx hb dX1_init_18 (by decide) (fun h_1 => ?_) (fun h_1 => absurd h_1 (by decide))
    exact hx9 H locs ls hP hS hl
  | succ d ih =>
    intro i H locs ls hi hP hS hl
    refine lv_iload_n hx hb dX1_init_15 rfl (lv_at hl 1 rfl) ?_
    refine lv_bipush (v := (24 : Int32)) hx hb dX1_init_16 (by decide) ?_
    refine lv_icmp_ge (tgt := 40) hx hb dX1_init_18 (by decide) (fun h_1 => ?_) (fun h_1 => ?_)
    · exfalso
      revert h_1
      rw [l_24, nle (by omega) (by omega)]; omega
    refine lv_aload_n hx hb dX1_init_21 rfl (lv_at hl 0 rfl) ?_
    refine va_get (T := TX1) (N := 3) (ci := 1) (fs := [.ref (gz g + (c0 + 1)), .int 0, .int 0]) hx hb X.1.2.2.2.2.1 inX1 X.1.2.2.2.1 X.1.2.2.2.2.2.1 hP (c0) (by rw [kW_get (by omega), lE_o (by omega) (by omega), hE]) rfl 0 (by decide) (X.1.2.2.2.2.1 _ q1_128) (fun _ h => h) rfl dX1_init_22 ?_
    refine lv_iload_n hx hb dX1_init_25 rfl (lv_at hl 1 rfl) ?_
    refine k_size h0 (by omega) hP (fun hZ => ?_)
    refine k_new (C := RX5) (T := TX5) (N := 11) (ci := 5) (ty := tyX5) (fs := wz) X hP hZ hS inX5 tyX5_ok q1_126 q1_25 q1_2 rfl wz_ok (by show _ ≤ 145; omega) (by show _ ≤ 1152; omega) dX1_init_26 (fun H hP hZ hS => ?_)
    refine lv_dup hx hb dX1_init_29 rfl ?_
    refine k_call (As := []) (c := c0 + 2 + 6 * i) (rest := [.ref (gz g + (c0 + 2 + 6 * i)), .int (nI i), .ref (gz g + (c0 + 1))]) X (c_X5_init l g (upE_s _ _ _)) rfl q1_28 q1_2 q1_27 q1_127 d_X5 ⟨Nat.le_of_ble_eq_true rfl, Nat.le_of_ble_eq_true rfl⟩ hP hZ hS rfl hl.1 rfl (Nat.le_of_ble_eq_true rfl) ⟨by show _ ≤ 145; omega, by show _ ≤ 1152; omega⟩ dX1_init_30 (fun H locs hP hZ hS => ?_)
    refine k_ast (t0 := 3) (N := 24) (qk := c0 + 2 + 6 * i) (ci := 5) (r := (RX5, TX5, 11)) (vs := [.int 0, .int 0, .int 0, .int 0, .int 0, .int 0, .ref (gz g + (c0 + 2 + 6 * i + 1)), .ref (gz g + (c0 + 2 + 6 * i + 2)), .ref (gz g + (c0 + 2 + 6 * i + 3)), .ref (gz g + (c0 + 2 + 6 * i + 4)), .ref (gz g + (c0 + 2 + 6 * i + 5))]) X hP hS (c := c0 + 1) (by omega) (by unfold wE; rw [if_neg (by omega), upE_n (by omega), lE_a]) rfl (by omega) (by unfold wE; rw [if_pos (by omega), Nat.sub_self]; rfl) rfl (vin (by omega) (by decide)) dX1_init_33 (fun H locs hP hS => ?_)
    rw [kW_ext (fun k hk => lE_s (by omega) (nI_cl (by omega)) (by omega)), show c0 + 2 + 6 * i + 6 = c0 + 2 + 6 * (i + 1) by omega] at hP
    refine lv_iinc (v := nI (i + 1)) (lv' := [(1, .int (nI (i + 1))), (0, .ref (gz g + c0))]) hx hb dX1_init_34 hl (k := 1) rfl (nI_1 i) (by decide) rfl (fun ls hl => ?_)
    refine lv_goto (tgt := 15) hx hb dX1_init_37 (by decide) ?_
    rw [show 1 + 6 * i + 1 + 5 = 1 + 6 * (i + 1) by omega, show 24 + 47 * i + 11 + 36 = 24 + 47 * (i + 1) by omega]
    exact ih (i + 1) H locs ls (by omega) hP hS (lv_sub hl [1, 0] rfl)
theorem lE_up {g : GC} {a N base i k c0 : Nat} {E : Nat → va_E} {x y : va_E} (h1 : c0 ≠ a) (h2 : c0 < base) : lE g a N base i (upE E c0 x) k = upE (lE g a N base i E) c0 x k := by
  unfold lE upE
  by_cases q : k = c0
  · subst q
    rw [if_neg h1, if_neg (by omega), if_pos rfl, if_pos rfl]
  · rw [if_neg q, if_neg q]
/-- what was done: an object, an array of boxes, the boxes -/
def pE (g : GC) (c0 : Nat) (E : Nat → va_E) : Nat → va_E := lE g (c0 + 1) 24 (c0 + 2) 24 (upE E c0 (.inr (1, [.ref (gz g + (c0 + 1)), .int 0, .int 0])))
set_option maxRecDepth 20000 in
theorem c_X1_init (l : Launch) (g : GC) {c0 : Nat} {E : Nat → va_E} (hE : E c0 = .inr (1, [.null, .int 0, .int 0])) : cK l g yX1_init cX1_init 2 (rK 2 60 145 1152) [.ref (gz g + c0)] (c0 + 1) E (c0 + 146) (pE g c0 E) 145 1152 := by
  refine k_met (by decide) rfl (Nat.le_of_ble_eq_true rfl) ?_
  intro p e s m below meth c X hP hZ hS ls hl
  have X : Kx p s m _ meth c RX1 cX1_init 2 g := X
  have hl : lv_has ls 2 [(0, .ref (gz g + c0))] := hl
  have hx := X.1.1
  have hb := X.1.2.1
  have h0 := hZ
  refine lv_aload_n hx hb dX1_init_0 rfl (lv_at hl 0 rfl) ?_
  refine k_obj X q1_125 hl.1 ⟨Nat.le_of_ble_eq_true rfl, Nat.le_of_ble_eq_true rfl⟩ dX1_init_1 ?_
  refine lv_aload_n hx hb dX1_init_4 rfl (lv_at hl 0 rfl) ?_
  refine lv_bipush (v := (24 : Int32)) hx hb dX1_init_5 (by decide) ?_
  refine k_anew (C := RX5) (t0 := 3) X hP hZ hS (N := 24) (by decide) rfl (by decide) (Nat.le_of_ble_eq_true rfl) (Nat.le_of_ble_eq_true rfl) q1_126 X.2.1.2 rfl dX1_init_7 (fun H hP hZ hS => ?_)
  refine k_putF (T := TX1) (N := 3) (ty := .array (.object "MusicBox$Works")) X hP hS inX1 tyX1_ok nmX1 (ci := 1) (fs := [.null, .int 0, .int 0]) (c := c0) (by omega) (by simp (disch := omega) only [upE_s, upE_n, hE] <;> rfl) rfl 0 (by decide) q1_128 rfl rfl (by decide +kernel) rfl rfl (Nat.le_of_ble_eq_true rfl) dX1_init_10 (fun H locs hP hS => ?_)
  refine lv_iconst (v := (0 : Int32)) hx hb dX1_init_13 (by decide) ?_
  refine lv_istore_n (lv' := [(1, .int (0 : Int32)), (0, .ref (gz g + c0))]) hx hb dX1_init_14 rfl hl (by decide) rfl (fun ls hl => ?_)
  have eW : kW g (c0 + 1 + 1) (upE (upE E (c0 + 1) (.inl (g.2.1 3, 24, .inr (.inr (.inr (.inr (fun _ => none))))))) c0 (.inr (1, [.ref (gz g + (c0 + 1)), .int 0, .int 0]))) = kW g (c0 + 2 + 6 * 0) (lE g (c0 + 1) 24 (c0 + 2) 0 (upE E c0 (.inr (1, [.ref (gz g + (c0 + 1)), .int 0, .int 0])))) := by
    refine kW_ext (fun k hk => ?_)
    rw [← lE_0]
    unfold upE
    by_cases q : k = c0
    · rw [if_pos q, if_neg (by omega), if_pos q]
    · rw [if_neg q, if_neg q]
  have hP : va_P g.1 vwCl (kW g (c0 + 2 + 6 * 0) (lE g (c0 + 1) 24 (c0 + 2) 0 (upE E c0 (.inr (1, [.ref (gz g + (c0 + 1)), .int 0, .int 0]))))) H := by
    rw [← eW]
    exact hP
  refine b_X1 X h0 (upE_s _ _ _) (fun H locs ls hP hS hl => ?_) 24 0 H locs ls (by omega) hP hS (lv_sub hl [1, 0] rfl)
  refine k_size h0 (by omega) hP (fun hZ => ?_)
  exact k_vret X hP hZ hS (fun i hi => rfl) dX1_init_40
