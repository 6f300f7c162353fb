/-! the music box comes to be -/
def lR (g : GC) (i : Nat) (E : Nat → va_E) : Nat → va_E := fun k => if k = 1 then .inl (g.2.1 2, 8, .inr (.inr (.inr (.inr (fun j => if j < i then some (gz g + (251 + 2 * j)) else none))))) else if 251 ≤ k ∧ k < 251 + 2 * i then celK g (fun _ => 0) k (([2, 10] : List Nat).getD ((k - 251) % 2) 99) else E k
theorem lR_a {g : GC} {i : Nat} {E : Nat → va_E} : lR g i E 1 = .inl (g.2.1 2, 8, .inr (.inr (.inr (.inr (fun j => if j < i then some (gz g + (251 + 2 * j)) else none))))) := if_pos rfl
theorem lR_o {g : GC} {i k : Nat} {E : Nat → va_E} (h1 : k ≠ 1) (h2 : k < 251 ∨ 251 + 2 * i ≤ k) : lR g i E k = E k := by
  unfold lR
  rw [if_neg h1, if_neg (by omega)]
theorem rE_in {g : GC} {c0 i : Nat} {E : Nat → va_E} (h : c0 ≤ i ∧ i < c0 + 2) : rE g c0 E i = celK g (fun _ => 0) i (([2, 10] : List Nat).getD (i - c0) 99) := if_pos h
theorem rE_out {g : GC} {c0 i : Nat} {E : Nat → va_E} (h : i < c0 ∨ c0 + 2 ≤ i) : rE g c0 E i = E i := if_neg (by omega)
theorem tE_in {g : GC} {c0 i : Nat} {E : Nat → va_E} (h : c0 ≤ i ∧ i < c0 + 2) : tE g c0 E i = celK g (fun _ => 0) i (([4, 11] : List Nat).getD (i - c0) 99) := if_pos h
theorem tE_out {g : GC} {c0 i : Nat} {E : Nat → va_E} (h : i < c0 ∨ c0 + 2 ≤ i) : tE g c0 E i = E i := if_neg (by omega)
theorem aE_in {g : GC} {c0 i : Nat} {E : Nat → va_E} (h : c0 ≤ i ∧ i < c0 + 2) : aE g c0 E i = celK g (fun _ => 0) i (([0, 12] : List Nat).getD (i - c0) 99) := if_pos h
theorem aE_out {g : GC} {c0 i : Nat} {E : Nat → va_E} (h : i < c0 ∨ c0 + 2 ≤ i) : aE g c0 E i = E i := if_neg (by omega)
theorem lE_in {g : GC} {a N base i k : Nat} {E : Nat → va_E} (h1 : k ≠ a) (h2 : base ≤ k ∧ k < base + 6 * i) : lE g a N base i E k = celK g (fun _ => 0) k (kdW.getD ((k - base) % 6) 99) := by
  unfold lE
  rw [if_neg h1, if_pos h2]
theorem lR_s {g : GC} {i k : Nat} {E : Nat → va_E} {j : Int32} {z : List Value} (hj : j.toNatClampNeg = i) (hk : k < 251 + 2 * i + 2) : upE (rE g (251 + 2 * i) (upE (lR g i E) (251 + 2 * i) (.inr (2, z)))) 1 (.inl (g.2.1 2, 8, .inr (.inr (.inr (.inr (va_up (fun j => if j < i then some (gz g + (251 + 2 * j)) else none) j.toNatClampNeg (some (gz g + (251 + 2 * i))))))))) k = lR g (i + 1) E k := by
  rw [hj]
  by_cases h : k = 1
  · subst h
    rw [upE_s, lR_a]
    refine congrArg (fun f => (Sum.inl (g.2.1 2, 8, Sum.inr (Sum.inr (Sum.inr (Sum.inr f)))) : va_E)) ?_
    funext u
    by_cases q : u = i
    · subst q
      rw [va_up_self, if_pos (by omega)]
    · rw [va_up_ne _ _ q]
      by_cases q2 : u < i
      · rw [if_pos q2, if_pos (by omega)]
      · rw [if_neg q2, if_neg (by omega)]
  · rw [upE_n h]
    by_cases q : 251 + 2 * i ≤ k ∧ k < 251 + 2 * i + 2
    · rw [rE_in q]
      unfold lR
      rw [if_neg h, if_pos (by omega), show (k - 251) % 2 = k - (251 + 2 * i) by omega]
    · rw [rE_out (by omega), upE_n (by omega)]
      unfold lR
      rw [if_neg h, if_neg h]
      by_cases q2 : 251 ≤ k ∧ k < 251 + 2 * i
      · rw [if_pos q2, if_pos (by omega)]
      · rw [if_neg q2, if_neg (by omega)]
theorem rz_ok : ∀ j, j < 4 → defaultValue (tyX2 j) = vp_V [.null, .int 0, .int 0, .int 0] j := by
  intro j hj
  rcases (show j = 0 ∨ j = 1 ∨ j = 2 ∨ j = 3 by omega) with rfl | rfl | rfl | rfl <;> rfl
theorem d_X2 : yX2_init.cls ≠ "java/lang/invoke/MethodHandle" ∧ yX2_init.cls ≠ "java/lang/invoke/VarHandle" ∧ (parseMethodDescriptor yX2_init.desc).map (fun d => d.parameters.length) = some 0 := ⟨by decide, by decide, by decide +kernel⟩
theorem d_X4 : yX4_init.cls ≠ "java/lang/invoke/MethodHandle" ∧ yX4_init.cls ≠ "java/lang/invoke/VarHandle" ∧ (parseMethodDescriptor yX4_init.desc).map (fun d => d.parameters.length) = some 0 := ⟨by decide, by decide, by decide +kernel⟩
theorem d_X1 : yX1_init.cls ≠ "java/lang/invoke/MethodHandle" ∧ yX1_init.cls ≠ "java/lang/invoke/VarHandle" ∧ (parseMethodDescriptor yX1_init.desc).map (fun d => d.parameters.length) = some 0 := ⟨by decide, by decide, by decide +kernel⟩
theorem d_X3 : yX3_init.cls ≠ "java/lang/invoke/MethodHandle" ∧ yX3_init.cls ≠ "java/lang/invoke/VarHandle" ∧ (parseMethodDescriptor yX3_init.desc).map (fun d => d.parameters.length) = some 1 := ⟨by decide, by decide, by decide +kernel⟩
theorem d_X0 : yX0_init.cls ≠ "java/lang/invoke/MethodHandle" ∧ yX0_init.cls ≠ "java/lang/invoke/VarHandle" ∧ (parseMethodDescriptor yX0_init.desc).map (fun d => d.parameters.length) = some 1 := ⟨by decide, by decide, by decide +kernel⟩
theorem z4_ok : ∀ j, j < 5 → defaultValue (tyX4 j) = vp_V [.null, .int 0, .int 0, .int 0, .int 0] j := by
  intro j hj
  rcases (show j = 0 ∨ j = 1 ∨ j = 2 ∨ j = 3 ∨ j = 4 by omega) with rfl | rfl | rfl | rfl | rfl <;> rfl
theorem z1_ok : ∀ j, j < 3 → defaultValue (tyX1 j) = vp_V [.null, .int 0, .int 0] j := by
  intro j hj
  rcases (show j = 0 ∨ j = 1 ∨ j = 2 by omega) with rfl | rfl | rfl <;> rfl
theorem z3_ok : ∀ j, j < 3 → defaultValue (tyX3 j) = vp_V [.null, .null, .null] j := by
  intro j hj
  rcases (show j = 0 ∨ j = 1 ∨ j = 2 by omega) with rfl | rfl | rfl <;> rfl
theorem z0_ok : ∀ j, j < 3 → defaultValue (tyX0 j) = vp_V [.null, .null, .int 0] j := by
  intro j hj
  rcases (show j = 0 ∨ j = 1 ∨ j = 2 by omega) with rfl | rfl | rfl <;> rfl
set_option maxRecDepth 20000 in
theorem b_X6 {p : Program} {l : Launch} {e : Env} {s : State} {m : MethodId} {args : Array Value} {below : List Frame} {meth : Method} {c : Code} {g : GC} {E : Nat → va_E} {Q : State → Prop} (X : Kx p s m args meth c RX6 cX6_init 2 g) (h0 : s.heap.size = gz g + (0 + 1)) (hE : E (0) = .inr (6, [.ref (gz g + 1), .ref (gz g + 2), .ref (gz g + 3), .ref (gz g + 9), .ref (gz g + 15), .ref (gz g + 17), .ref (gz g + 163), .ref (gz g + 249), .int 0, .int 0]))
    (hx9 : ∀ (H : Heap) (locs : List Loc) (ls : Array Slot), va_P g.1 vwCl (kW g (267 + 6 * 2) (lE g (2) 2 (267) 2 E)) H → va_S (gA g) s.heap H locs → lv_has ls 2 [(0, .ref (gz g + 0)), (1, .int (nI 2))] → W p l e (rK 4 120 278 2503) s m args below meth c H locs (266 + 6 * 2) (2409 + 47 * 2) Q (F0 m 148 ls [])) :
    ∀ (d i : Nat) (H : Heap) (locs : List Loc) (ls : Array Slot), i + d = 2 → va_P g.1 vwCl (kW g (267 + 6 * i) (lE g (2) 2 (267) i E)) H → va_S (gA g) s.heap H locs → lv_has ls 2 [(0, .ref (gz g + 0)), (1, .int (nI i))] → W p l e (rK 4 120 278 2503) s m args below meth c H locs (266 + 6 * i) (2409 + 47 * i) Q (F0 m 124 ls []) := by
  have hx := X.1.1
  have hb := X.1.2.1
  intro d
  induction d with
  | zero =>
    intro i H locs ls hi hP hS hl
    have hi2 : i = 2 := by omega
    subst hi2
    refine lv_iload_n hx hb dX6_init_124 rfl (lv_at hl 1 rfl) ?_
    refine lv_iconst (v := (2 : Int32)) hx hb dX6_init_125 (by decide) ?_
    refine lv_icmp_ge (tgt := 148) hx hb dX6_init_126 (by decide) (fun h_1 => ?_) (fun h_1 => absurd h_1 (by decide))
    exact hx9 H locs ls hP hS hl
  | succ d ih =>
    intro i H locs ls hi hP hS hl
    refine lv_iload_n hx hb dX6_init_124 rfl (lv_at hl 1 rfl) ?_
    refine lv_iconst (v := (2 : Int32)) hx hb dX6_init_125 (by decide) ?_
    refine lv_icmp_ge (tgt := 148) hx hb dX6_init_126 (by decide) (fun h_1 => ?_) (fun h_1 => ?_)
    · exfalso
      revert h_1
      rw [l_2, nle (by omega) (by omega)]; omega
    refine lv_aload_n hx hb dX6_init_129 rfl (lv_at hl 0 rfl) ?_
    refine va_get (T := TX6) (N := 10) (ci := 6) (fs := [.ref (gz g + 1), .ref (gz g + 2), .ref (gz g + 3), .ref (gz g + 9), .ref (gz g + 15), .ref (gz g + 17), .ref (gz g + 163), .ref (gz g + 249), .int 0, .int 0]) hx hb X.1.2.2.2.2.1 inX6 X.1.2.2.2.1 X.1.2.2.2.2.2.1 hP (0) (by rw [kW_get (by omega), lE_o (by omega) (by omega), hE]) rfl 1 (by decide) (X.1.2.2.2.2.1 _ q1_199) (fun _ h => h) rfl dX6_init_130 ?_
    refine lv_iload_n hx hb dX6_init_133 rfl (lv_at hl 1 rfl) ?_
    refine k_size h0 (by omega) hP (fun hZ => ?_)
    refine k_new (C := RX5) (T := TX5) (N := 11) (ci := 5) (ty := tyX5) (fs := wz) X hP hZ hS inX5 tyX5_ok q1_23 q1_25 q1_2 rfl wz_ok (by show _ ≤ 278; omega) (by show _ ≤ 2503; omega) dX6_init_134 (fun H hP hZ hS => ?_)
    refine lv_dup hx hb dX6_init_137 rfl ?_
    refine k_call (As := []) (c := 267 + 6 * i) (rest := [.ref (gz g + (267 + 6 * i)), .int (nI i), .ref (gz g + (2))]) X (c_X5_init l g (upE_s _ _ _)) rfl q1_28 q1_2 q1_27 q1_26 d_X5 ⟨Nat.le_of_ble_eq_true rfl, Nat.le_of_ble_eq_true rfl⟩ hP hZ hS rfl hl.1 rfl (Nat.le_of_ble_eq_true rfl) ⟨by show _ ≤ 278; omega, by show _ ≤ 2503; omega⟩ dX6_init_138 (fun H locs hP hZ hS => ?_)
    refine k_ast (t0 := 3) (N := 2) (qk := 267 + 6 * i) (ci := 5) (r := (RX5, TX5, 11)) (vs := [.int 0, .int 0, .int 0, .int 0, .int 0, .int 0, .ref (gz g + (267 + 6 * i + 1)), .ref (gz g + (267 + 6 * i + 2)), .ref (gz g + (267 + 6 * i + 3)), .ref (gz g + (267 + 6 * i + 4)), .ref (gz g + (267 + 6 * i + 5))]) X hP hS (c := 2) (by omega) (by unfold wE; rw [if_neg (by omega), upE_n (by omega), lE_a]) rfl (by omega) (by unfold wE; rw [if_pos (by omega), Nat.sub_self]; rfl) rfl (vin (by omega) (by decide)) dX6_init_141 (fun H locs hP hS => ?_)
    rw [kW_ext (fun k hk => lE_s (by omega) (nI_cl (by omega)) (by omega)), show 267 + 6 * i + 6 = 267 + 6 * (i + 1) by omega] at hP
    refine lv_iinc (v := nI (i + 1)) (lv' := [(1, .int (nI (i + 1))), (0, .ref (gz g + 0))]) hx hb dX6_init_142 hl (k := 1) rfl (nI_1 i) (by decide) rfl (fun ls hl => ?_)
    refine lv_goto (tgt := 124) hx hb dX6_init_145 (by decide) ?_
    rw [show 266 + 6 * i + 1 + 5 = 266 + 6 * (i + 1) by omega, show 2409 + 47 * i + 11 + 36 = 2409 + 47 * (i + 1) by omega]
    exact ih (i + 1) H locs ls (by omega) hP hS (lv_sub hl [1, 0] rfl)
set_option maxRecDepth 20000 in
theorem b_X6r {p : Program} {l : Launch} {e : Env} {s : State} {m : MethodId} {args : Array Value} {below : List Frame} {meth : Method} {c : Code} {g : GC} {E : Nat → va_E} {Q : State → Prop} (X : Kx p s m args meth c RX6 cX6_init 2 g) (h0 : s.heap.size = gz g + (0 + 1)) (hE : E 0 = .inr (6, [.ref (gz g + 1), .ref (gz g + 2), .ref (gz g + 3), .ref (gz g + 9), .ref (gz g + 15), .ref (gz g + 17), .ref (gz g + 163), .ref (gz g + 249), .int 0, .int 0]))
    (hx9 : ∀ (H : Heap) (locs : List Loc) (ls : Array Slot), va_P g.1 vwCl (kW g (251 + 2 * 8) (lR g 8 E)) H → va_S (gA g) s.heap H locs → lv_has ls 2 [(0, .ref (gz g + 0)), (1, .int (nI 8))] → W p l e (rK 4 120 278 2503) s m args below meth c H locs (250 + 2 * 8) (2057 + 44 * 8) Q (F0 m 122 ls [])) :
    ∀ (d i : Nat) (H : Heap) (locs : List Loc) (ls : Array Slot), i + d = 8 → va_P g.1 vwCl (kW g (251 + 2 * i) (lR g i E)) H → va_S (gA g) s.heap H locs → lv_has ls 2 [(0, .ref (gz g + 0)), (1, .int (nI i))] → W p l e (rK 4 120 278 2503) s m args below meth c H locs (250 + 2 * i) (2057 + 44 * i) Q (F0 m 97 ls []) := by
  have hx := X.1.1
  have hb := X.1.2.1
  intro d
  induction d with
  | zero =>
    intro i H locs ls hi hP hS hl
    have hi2 : i = 8 := by omega
    subst hi2
    refine lv_iload_n hx hb dX6_init_97 rfl (lv_at hl 1 rfl) ?_
    refine lv_bipush (v := (8 : Int32)) hx hb dX6_init_98 (by decide) ?_
    refine lv_icmp_ge (tgt := 122) hx hb dX6_init_100 (by decide) (fun h_1 => ?_) (fun h_1 => absurd h_1 (by decide))
    exact hx9 H locs ls hP hS hl
  | succ d ih =>
    intro i H locs ls hi hP hS hl
    refine lv_iload_n hx hb dX6_init_97 rfl (lv_at hl 1 rfl) ?_
    refine lv_bipush (v := (8 : Int32)) hx hb dX6_init_98 (by decide) ?_
    refine lv_icmp_ge (tgt := 122) hx hb dX6_init_100 (by decide) (fun h_1 => ?_) (fun h_1 => ?_)
    · exfalso
      revert h_1
      rw [l_8, nle (by omega) (by omega)]
      omega
    refine lv_aload_n hx hb dX6_init_103 rfl (lv_at hl 0 rfl) ?_
    refine va_get (T := TX6) (N := 10) (ci := 6) (fs := [.ref (gz g + 1), .ref (gz g + 2), .ref (gz g + 3), .ref (gz g + 9), .ref (gz g + 15), .ref (gz g + 17), .ref (gz g + 163), .ref (gz g + 249), .int 0, .int 0]) hx hb X.1.2.2.2.2.1 inX6 X.1.2.2.2.1 X.1.2.2.2.2.2.1 hP 0 (by rw [kW_get (by omega), lR_o (by omega) (by omega), hE]) rfl 0 (by decide) (X.1.2.2.2.2.1 _ q1_198) (fun _ h => h) rfl dX6_init_104 ?_
    refine lv_iload_n hx hb dX6_init_107 rfl (lv_at hl 1 rfl) ?_
    refine k_size h0 (by omega) hP (fun hZ => ?_)
    refine k_new (C := RX2) (T := TX2) (N := 4) (ci := 2) (ty := tyX2) (fs := [.null, .int 0, .int 0, .int 0]) X hP hZ hS inX2 tyX2_ok q1_21 q1_175 q1_7 rfl rz_ok (by show _ ≤ 278; omega) (by show _ ≤ 2503; omega) dX6_init_108 (fun H hP hZ hS => ?_)
    refine lv_dup hx hb dX6_init_111 rfl ?_
    refine k_call (As := []) (c := 251 + 2 * i) (rest := [.ref (gz g + (251 + 2 * i)), .int (nI i), .ref (gz g + 1)]) X (c_X2_init l g (upE_s _ _ _)) rfl q1_178 q1_7 q1_177 q1_176 d_X2 ⟨Nat.le_of_ble_eq_true rfl, Nat.le_of_ble_eq_true rfl⟩ hP hZ hS rfl hl.1 rfl (Nat.le_of_ble_eq_true rfl) ⟨by show _ ≤ 278; omega, by show _ ≤ 2503; omega⟩ dX6_init_112 (fun H locs hP hZ hS => ?_)
    refine k_ast (t0 := 2) (N := 8) (qk := 251 + 2 * i) (ci := 2) (r := (RX2, TX2, 4)) (vs := [.ref (gz g + (251 + 2 * i + 1)), .int 0, .int 0, .int 0]) X hP hS (c := 1) (by omega) (by rw [rE_out (by omega), upE_n (by omega), lR_a]) rfl (by omega) (by rw [rE_in (by omega), Nat.sub_self]; rfl) rfl (vin (by omega) (by decide)) dX6_init_115 (fun H locs hP hS => ?_)
    rw [kW_ext (fun k hk => lR_s (nI_cl (by omega)) (by omega)), show 251 + 2 * i + 2 = 251 + 2 * (i + 1) by omega] at hP
    refine lv_iinc (v := nI (i + 1)) (lv' := [(1, .int (nI (i + 1))), (0, .ref (gz g + 0))]) hx hb dX6_init_116 hl (k := 1) rfl (nI_1 i) (by decide) rfl (fun ls hl => ?_)
    refine lv_goto (tgt := 97) hx hb dX6_init_119 (by decide) ?_
    rw [show 250 + 2 * i + 1 + 1 = 250 + 2 * (i + 1) by omega, show 2057 + 44 * i + 4 + 40 = 2057 + 44 * (i + 1) by omega]
    exact ih (i + 1) H locs ls (by omega) hP hS (lv_sub hl [1, 0] rfl)
