/-! the music box's constructor -/
def bE (g : GC) : Nat → va_E := fun k => if k = 0 then .inr (6, [.ref (gz g + 1), .ref (gz g + 2), .ref (gz g + 3), .ref (gz g + 9), .ref (gz g + 15), .ref (gz g + 17), .ref (gz g + 163), .ref (gz g + 249), .int 0, .int 0]) else if k = 2 then .inl (g.2.1 3, 2, .inr (.inr (.inr (.inr (fun _ => none))))) else if k = 18 then .inl (g.2.1 3, 24, .inr (.inr (.inr (.inr (fun j => if j < 24 then some (gz g + (19 + 6 * j)) else none))))) else if k = 170 then .inl (g.2.1 3, 13, .inr (.inr (.inr (.inr (fun j => if j < 13 then some (gz g + (171 + 6 * j)) else none))))) else celK g (fun _ => 0) k (kd k)
theorem bE_k {g : GC} {k x : Nat} (h0 : k ≠ 0) (h2 : k ≠ 2) (h18 : k ≠ 18) (h170 : k ≠ 170) (hx : kd k = x) : celK g (fun _ => 0) k x = bE g k := by
  unfold bE
  rw [if_neg h0, if_neg h2, if_neg h18, if_neg h170, hx]
theorem kd_a : ∀ k, k < 9 → 3 ≤ k → kd k = kdW.getD (k - 3) 99 := by decide +kernel
theorem kd_b : ∀ k, k < 15 → 9 ≤ k → kd k = kdW.getD (k - 9) 99 := by decide +kernel
theorem kd_c : ∀ k, k < 17 → 15 ≤ k → kd k = ([4, 11] : List Nat).getD (k - 15) 99 := by decide +kernel
theorem kd_d : ∀ k, k < 163 → 19 ≤ k → kd k = kdW.getD ((k - 19) % 6) 99 := by decide +kernel
theorem kd_e : ∀ k, k < 170 → 164 ≤ k → kd k = kdW.getD (k - 164) 99 := by decide +kernel
theorem kd_f : ∀ k, k < 249 → 171 ≤ k → kd k = kdW.getD ((k - 171) % 6) 99 := by decide +kernel
theorem kd_g : ∀ k, k < 251 → 249 ≤ k → kd k = ([0, 12] : List Nat).getD (k - 249) 99 := by decide +kernel
def xE (g : GC) : Nat → va_E := lE g 2 2 267 2 (lR g 8 (bE g))
set_option maxRecDepth 20000 in
theorem c_X6_init (l : Launch) (g : GC) {E : Nat → va_E} (hE : E 0 = .inr (6, [.null, .null, .null, .null, .null, .null, .null, .null, .int 0, .int 0])) : cK l g yX6_init cX6_init 2 (rK 4 120 278 2503) [.ref (gz g + 0)] (0 + 1) E 279 (xE g) 278 2503 := by
  refine k_met (by decide) rfl (Nat.le_of_ble_eq_true rfl) ?_
  intro p e s m below meth c X hP hZ hS ls hl
  have X : Kx p s m _ meth c RX6 cX6_init 2 g := X
  have hl : lv_has ls 2 [(0, .ref (gz g + 0))] := hl
  have hx := X.1.1
  have hb := X.1.2.1
  have h0 := hZ
  refine lv_aload_n hx hb dX6_init_0 rfl (lv_at hl 0 rfl) ?_
  refine k_obj X q1_18 hl.1 ⟨Nat.le_of_ble_eq_true rfl, Nat.le_of_ble_eq_true rfl⟩ dX6_init_1 ?_
  refine lv_aload_n hx hb dX6_init_4 rfl (lv_at hl 0 rfl) ?_
  refine lv_bipush (v := (8 : Int32)) hx hb dX6_init_5 (by decide) ?_
  refine k_anew (C := RX2) (t0 := 2) X hP hZ hS (N := 8) (by decide) rfl (by decide) (Nat.le_of_ble_eq_true rfl) (Nat.le_of_ble_eq_true rfl) q1_21 X.2.1.1 rfl dX6_init_7 (fun H hP hZ hS => ?_)
  refine k_putF (T := TX6) (N := 10) (ty := .array (.object "MusicBox$Row")) X hP hS inX6 tyX6_ok nmX6 (ci := 6) (fs := [.null, .null, .null, .null, .null, .null, .null, .null, .int 0, .int 0]) (c := 0) (by omega) (by simp (disch := omega) only [upE_s, upE_n, wE_out, tE_out, pE, sE, lE_o, aE_out, hE] <;> rfl) rfl 0 (by decide) q1_198 rfl rfl (by decide +kernel) rfl rfl (Nat.le_of_ble_eq_true rfl) dX6_init_10 (fun H locs hP hS => ?_)
  refine k_size h0 rfl hP (fun hZ => ?_)
  refine lv_aload_n hx hb dX6_init_13 rfl (lv_at hl 0 rfl) ?_
  refine lv_iconst (v := (2 : Int32)) hx hb dX6_init_14 (by decide) ?_
  refine k_anew (C := RX5) (t0 := 3) X hP hZ hS (N := 2) (by decide) rfl (by decide) (Nat.le_of_ble_eq_true rfl) (Nat.le_of_ble_eq_true rfl) q1_23 X.2.1.2 rfl dX6_init_15 (fun H hP hZ hS => ?_)
  refine k_putF (T := TX6) (N := 10) (ty := .array (.object "MusicBox$Works")) X hP hS inX6 tyX6_ok nmX6 (ci := 6) (fs := [.ref (gz g + 1), .null, .null, .null, .null, .null, .null, .null, .int 0, .int 0]) (c := 0) (by omega) (by simp (disch := omega) only [upE_s, upE_n, wE_out, tE_out, pE, sE, lE_o, aE_out, hE] <;> rfl) rfl 1 (by decide) q1_199 rfl rfl (by decide +kernel) rfl rfl (Nat.le_of_ble_eq_true rfl) dX6_init_18 (fun H locs hP hS => ?_)
  refine k_size h0 rfl hP (fun hZ => ?_)
  refine lv_aload_n hx hb dX6_init_21 rfl (lv_at hl 0 rfl) ?_
  refine k_new (C := RX5) (T := TX5) (N := 11) (ci := 5) (ty := tyX5) (fs := wz) X hP hZ hS inX5 tyX5_ok q1_23 q1_25 q1_2 rfl wz_ok (Nat.le_of_ble_eq_true rfl) (Nat.le_of_ble_eq_true rfl) dX6_init_22 (fun H hP hZ hS => ?_)
  refine lv_dup hx hb dX6_init_25 rfl ?_
  refine k_call (As := []) (c := 3) (rest := [.ref (gz g + 3), .ref (gz g + 0)]) X (c_X5_init l g (upE_s _ _ _)) rfl q1_28 q1_2 q1_27 q1_26 d_X5 ⟨Nat.le_of_ble_eq_true rfl, Nat.le_of_ble_eq_true rfl⟩ hP hZ hS rfl hl.1 rfl (Nat.le_of_ble_eq_true rfl) ⟨Nat.le_of_ble_eq_true rfl, Nat.le_of_ble_eq_true rfl⟩ dX6_init_26 (fun H locs hP hZ hS => ?_)
  refine k_putF (T := TX6) (N := 10) (ty := .object "MusicBox$Works") X hP hS inX6 tyX6_ok nmX6 (ci := 6) (fs := [.ref (gz g + 1), .ref (gz g + 2), .null, .null, .null, .null, .null, .null, .int 0, .int 0]) (c := 0) (by omega) (by simp (disch := omega) only [upE_s, upE_n, wE_out, tE_out, pE, sE, lE_o, aE_out, hE] <;> rfl) rfl 2 (by decide) q1_200 rfl rfl (by decide +kernel) rfl rfl (Nat.le_of_ble_eq_true rfl) dX6_init_29 (fun H locs hP hS => ?_)
  refine k_size h0 rfl hP (fun hZ => ?_)
  refine lv_aload_n hx hb dX6_init_32 rfl (lv_at hl 0 rfl) ?_
  refine k_new (C := RX5) (T := TX5) (N := 11) (ci := 5) (ty := tyX5) (fs := wz) X hP hZ hS inX5 tyX5_ok q1_23 q1_25 q1_2 rfl wz_ok (Nat.le_of_ble_eq_true rfl) (Nat.le_of_ble_eq_true rfl) dX6_init_33 (fun H hP hZ hS => ?_)
  refine lv_dup hx hb dX6_init_36 rfl ?_
  refine k_call (As := []) (c := 9) (rest := [.ref (gz g + 9), .ref (gz g + 0)]) X (c_X5_init l g (upE_s _ _ _)) rfl q1_28 q1_2 q1_27 q1_26 d_X5 ⟨Nat.le_of_ble_eq_true rfl, Nat.le_of_ble_eq_true rfl⟩ hP hZ hS rfl hl.1 rfl (Nat.le_of_ble_eq_true rfl) ⟨Nat.le_of_ble_eq_true rfl, Nat.le_of_ble_eq_true rfl⟩ dX6_init_37 (fun H locs hP hZ hS => ?_)
  refine k_putF (T := TX6) (N := 10) (ty := .object "MusicBox$Works") X hP hS inX6 tyX6_ok nmX6 (ci := 6) (fs := [.ref (gz g + 1), .ref (gz g + 2), .ref (gz g + 3), .null, .null, .null, .null, .null, .int 0, .int 0]) (c := 0) (by omega) (by simp (disch := omega) only [upE_s, upE_n, wE_out, tE_out, pE, sE, lE_o, aE_out, hE] <;> rfl) rfl 3 (by decide) q1_201 rfl rfl (by decide +kernel) rfl rfl (Nat.le_of_ble_eq_true rfl) dX6_init_40 (fun H locs hP hS => ?_)
  refine k_size h0 rfl hP (fun hZ => ?_)
  refine lv_aload_n hx hb dX6_init_43 rfl (lv_at hl 0 rfl) ?_
  refine k_new (C := RX4) (T := TX4) (N := 5) (ci := 4) (ty := tyX4) (fs := [.null, .int 0, .int 0, .int 0, .int 0]) X hP hZ hS inX4 tyX4_ok q1_95 q1_96 q1_3 rfl z4_ok (Nat.le_of_ble_eq_true rfl) (Nat.le_of_ble_eq_true rfl) dX6_init_44 (fun H hP hZ hS => ?_)
  refine lv_dup hx hb dX6_init_47 rfl ?_
  refine k_call (As := []) (c := 15) (rest := [.ref (gz g + 15), .ref (gz g + 0)]) X (c_X4_init l g (upE_s _ _ _)) rfl q1_99 q1_3 q1_98 q1_97 d_X4 ⟨Nat.le_of_ble_eq_true rfl, Nat.le_of_ble_eq_true rfl⟩ hP hZ hS rfl hl.1 rfl (Nat.le_of_ble_eq_true rfl) ⟨Nat.le_of_ble_eq_true rfl, Nat.le_of_ble_eq_true rfl⟩ dX6_init_48 (fun H locs hP hZ hS => ?_)
  refine k_putF (T := TX6) (N := 10) (ty := .object "MusicBox$Tape") X hP hS inX6 tyX6_ok nmX6 (ci := 6) (fs := [.ref (gz g + 1), .ref (gz g + 2), .ref (gz g + 3), .ref (gz g + 9), .null, .null, .null, .null, .int 0, .int 0]) (c := 0) (by omega) (by simp (disch := omega) only [upE_s, upE_n, wE_out, tE_out, pE, sE, lE_o, aE_out, hE] <;> rfl) rfl 4 (by decide) q1_202 rfl rfl (by decide +kernel) rfl rfl (Nat.le_of_ble_eq_true rfl) dX6_init_51 (fun H locs hP hS => ?_)
  refine k_size h0 rfl hP (fun hZ => ?_)
  refine lv_aload_n hx hb dX6_init_54 rfl (lv_at hl 0 rfl) ?_
  refine k_new (C := RX1) (T := TX1) (N := 3) (ci := 1) (ty := tyX1) (fs := [.null, .int 0, .int 0]) X hP hZ hS inX1 tyX1_ok q1_120 q1_121 q1_4 rfl z1_ok (Nat.le_of_ble_eq_true rfl) (Nat.le_of_ble_eq_true rfl) dX6_init_55 (fun H hP hZ hS => ?_)
  refine lv_dup hx hb dX6_init_58 rfl ?_
  refine k_call (As := []) (c := 17) (rest := [.ref (gz g + 17), .ref (gz g + 0)]) X (c_X1_init l g (upE_s _ _ _)) rfl q1_124 q1_4 q1_123 q1_122 d_X1 ⟨Nat.le_of_ble_eq_true rfl, Nat.le_of_ble_eq_true rfl⟩ hP hZ hS rfl hl.1 rfl (Nat.le_of_ble_eq_true rfl) ⟨Nat.le_of_ble_eq_true rfl, Nat.le_of_ble_eq_true rfl⟩ dX6_init_59 (fun H locs hP hZ hS => ?_)
  refine k_putF (T := TX6) (N := 10) (ty := .object "MusicBox$Past") X hP hS inX6 tyX6_ok nmX6 (ci := 6) (fs := [.ref (gz g + 1), .ref (gz g + 2), .ref (gz g + 3), .ref (gz g + 9), .ref (gz g + 15), .null, .null, .null, .int 0, .int 0]) (c := 0) (by omega) (by simp (disch := omega) only [upE_s, upE_n, wE_out, tE_out, pE, sE, lE_o, aE_out, hE] <;> rfl) rfl 5 (by decide) q1_203 rfl rfl (by decide +kernel) rfl rfl (Nat.le_of_ble_eq_true rfl) dX6_init_62 (fun H locs hP hS => ?_)
  refine k_size h0 rfl hP (fun hZ => ?_)
  refine lv_aload_n hx hb dX6_init_65 rfl (lv_at hl 0 rfl) ?_
  refine k_new (C := RX3) (T := TX3) (N := 3) (ci := 3) (ty := tyX3) (fs := [.null, .null, .null]) X hP hZ hS inX3 tyX3_ok q1_139 q1_140 q1_5 rfl z3_ok (Nat.le_of_ble_eq_true rfl) (Nat.le_of_ble_eq_true rfl) dX6_init_66 (fun H hP hZ hS => ?_)
  refine lv_dup hx hb dX6_init_69 rfl ?_
  refine lv_aload_n hx hb dX6_init_70 rfl (lv_at hl 0 rfl) ?_
  refine va_get (T := TX6) (N := 10) (ci := 6) (fs := [.ref (gz g + 1), .ref (gz g + 2), .ref (gz g + 3), .ref (gz g + 9), .ref (gz g + 15), .ref (gz g + 17), .null, .null, .int 0, .int 0]) hx hb X.1.2.2.2.2.1 inX6 X.1.2.2.2.1 X.1.2.2.2.2.2.1 hP 0 (by rw [kW_get (by omega)]; simp (disch := omega) only [upE_s, upE_n, wE_out, tE_out, pE, sE, lE_o, aE_out, hE] <;> rfl) rfl 2 (by decide) (X.1.2.2.2.2.1 _ q1_200) (fun _ h => h) rfl dX6_init_71 ?_
  refine k_call (As := [.ref (gz g + 3)]) (c := 163) (rest := [.ref (gz g + 163), .ref (gz g + 0)]) X (c_X3_init l g (upE_s _ _ _)) rfl q1_143 q1_5 q1_142 q1_141 d_X3 ⟨Nat.le_of_ble_eq_true rfl, Nat.le_of_ble_eq_true rfl⟩ hP hZ hS rfl hl.1 rfl (Nat.le_of_ble_eq_true rfl) ⟨Nat.le_of_ble_eq_true rfl, Nat.le_of_ble_eq_true rfl⟩ dX6_init_74 (fun H locs hP hZ hS => ?_)
  refine k_putF (T := TX6) (N := 10) (ty := .object "MusicBox$Seer") X hP hS inX6 tyX6_ok nmX6 (ci := 6) (fs := [.ref (gz g + 1), .ref (gz g + 2), .ref (gz g + 3), .ref (gz g + 9), .ref (gz g + 15), .ref (gz g + 17), .null, .null, .int 0, .int 0]) (c := 0) (by omega) (by simp (disch := omega) only [upE_s, upE_n, wE_out, tE_out, pE, sE, lE_o, aE_out, hE] <;> rfl) rfl 6 (by decide) q1_204 rfl rfl (by decide +kernel) rfl rfl (Nat.le_of_ble_eq_true rfl) dX6_init_77 (fun H locs hP hS => ?_)
  refine k_size h0 rfl hP (fun hZ => ?_)
  refine lv_aload_n hx hb dX6_init_80 rfl (lv_at hl 0 rfl) ?_
  refine k_new (C := RX0) (T := TX0) (N := 3) (ci := 0) (ty := tyX0) (fs := [.null, .null, .int 0]) X hP hZ hS inX0 tyX0_ok q1_157 q1_158 q1_6 rfl z0_ok (Nat.le_of_ble_eq_true rfl) (Nat.le_of_ble_eq_true rfl) dX6_init_81 (fun H hP hZ hS => ?_)
  refine lv_dup hx hb dX6_init_84 rfl ?_
  refine lv_aload_n hx hb dX6_init_85 rfl (lv_at hl 0 rfl) ?_
  refine va_get (T := TX6) (N := 10) (ci := 6) (fs := [.ref (gz g + 1), .ref (gz g + 2), .ref (gz g + 3), .ref (gz g + 9), .ref (gz g + 15), .ref (gz g + 17), .ref (gz g + 163), .null, .int 0, .int 0]) hx hb X.1.2.2.2.2.1 inX6 X.1.2.2.2.1 X.1.2.2.2.2.2.1 hP 0 (by rw [kW_get (by omega)]; simp (disch := omega) only [upE_s, upE_n, wE_out, tE_out, pE, sE, lE_o, aE_out, hE] <;> rfl) rfl 2 (by decide) (X.1.2.2.2.2.1 _ q1_200) (fun _ h => h) rfl dX6_init_86 ?_
  refine k_call (As := [.ref (gz g + 3)]) (c := 249) (rest := [.ref (gz g + 249), .ref (gz g + 0)]) X (c_X0_init l g (upE_s _ _ _)) rfl q1_161 q1_6 q1_160 q1_159 d_X0 ⟨Nat.le_of_ble_eq_true rfl, Nat.le_of_ble_eq_true rfl⟩ hP hZ hS rfl hl.1 rfl (Nat.le_of_ble_eq_true rfl) ⟨Nat.le_of_ble_eq_true rfl, Nat.le_of_ble_eq_true rfl⟩ dX6_init_89 (fun H locs hP hZ hS => ?_)
  refine k_putF (T := TX6) (N := 10) (ty := .object "MusicBox$Asking") X hP hS inX6 tyX6_ok nmX6 (ci := 6) (fs := [.ref (gz g + 1), .ref (gz g + 2), .ref (gz g + 3), .ref (gz g + 9), .ref (gz g + 15), .ref (gz g + 17), .ref (gz g + 163), .null, .int 0, .int 0]) (c := 0) (by omega) (by simp (disch := omega) only [upE_s, upE_n, wE_out, tE_out, pE, sE, lE_o, aE_out, hE] <;> rfl) rfl 7 (by decide) q1_205 rfl rfl (by decide +kernel) rfl rfl (Nat.le_of_ble_eq_true rfl) dX6_init_92 (fun H locs hP hS => ?_)
  refine k_size h0 rfl hP (fun hZ => ?_)
  refine lv_iconst (v := (0 : Int32)) hx hb dX6_init_95 (by decide) ?_
  refine lv_istore_n (lv' := [(1, .int (0 : Int32)), (0, .ref (gz g + 0))]) hx hb dX6_init_96 rfl hl (by decide) rfl (fun ls hl => ?_)
  rw [kW_ext (E' := lR g 0 (bE g)) (fun k hk => by
    unfold pE sE
    rcases (show k = 0 ∨ k = 1 ∨ k = 2 ∨ (3 ≤ k ∧ k < 9) ∨ (9 ≤ k ∧ k < 15) ∨ (15 ≤ k ∧ k < 17) ∨ k = 17 ∨ k = 18 ∨ (19 ≤ k ∧ k < 163) ∨ k = 163 ∨ (164 ≤ k ∧ k < 170) ∨ k = 170 ∨ (171 ≤ k ∧ k < 249) ∨ (249 ≤ k ∧ k < 251) by omega) with rfl | rfl | rfl | h | h | h | rfl | rfl | h | rfl | h | rfl | h | h
    · simp (disch := omega) only [upE_s, upE_n, wE_in, wE_out, tE_in, tE_out, lE_o, lE_in, lE_a, aE_in, aE_out, lR_o]
      rfl
    · simp (disch := omega) only [upE_s, upE_n, wE_in, wE_out, tE_in, tE_out, lE_o, lE_in, lE_a, aE_in, aE_out, lR_o]
      rw [lR_a]
      rfl
    · simp (disch := omega) only [upE_s, upE_n, wE_in, wE_out, tE_in, tE_out, lE_o, lE_in, lE_a, aE_in, aE_out, lR_o]
      rfl
    · simp (disch := omega) only [upE_s, upE_n, wE_in, wE_out, tE_in, tE_out, lE_o, lE_in, lE_a, aE_in, aE_out, lR_o]
      exact bE_k (by omega) (by omega) (by omega) (by omega) (kd_a k (by omega) (by omega))
    · simp (disch := omega) only [upE_s, upE_n, wE_in, wE_out, tE_in, tE_out, lE_o, lE_in, lE_a, aE_in, aE_out, lR_o]
      exact bE_k (by omega) (by omega) (by omega) (by omega) (kd_b k (by omega) (by omega))
    · simp (disch := omega) only [upE_s, upE_n, wE_in, wE_out, tE_in, tE_out, lE_o, lE_in, lE_a, aE_in, aE_out, lR_o]
      exact bE_k (by omega) (by omega) (by omega) (by omega) (kd_c k (by omega) (by omega))
    · simp (disch := omega) only [upE_s, upE_n, wE_in, wE_out, tE_in, tE_out, lE_o, lE_in, lE_a, aE_in, aE_out, lR_o]
      rfl
    · simp (disch := omega) only [upE_s, upE_n, wE_in, wE_out, tE_in, tE_out, lE_o, lE_in, lE_a, aE_in, aE_out, lR_o]
      rfl
    · simp (disch := omega) only [upE_s, upE_n, wE_in, wE_out, tE_in, tE_out, lE_o, lE_in, lE_a, aE_in, aE_out, lR_o]
      exact bE_k (by omega) (by omega) (by omega) (by omega) (kd_d k (by omega) (by omega))
    · simp (disch := omega) only [upE_s, upE_n, wE_in, wE_out, tE_in, tE_out, lE_o, lE_in, lE_a, aE_in, aE_out, lR_o]
      rfl
    · simp (disch := omega) only [upE_s, upE_n, wE_in, wE_out, tE_in, tE_out, lE_o, lE_in, lE_a, aE_in, aE_out, lR_o]
      exact bE_k (by omega) (by omega) (by omega) (by omega) (kd_e k (by omega) (by omega))
    · simp (disch := omega) only [upE_s, upE_n, wE_in, wE_out, tE_in, tE_out, lE_o, lE_in, lE_a, aE_in, aE_out, lR_o]
      rfl
    · simp (disch := omega) only [upE_s, upE_n, wE_in, wE_out, tE_in, tE_out, lE_o, lE_in, lE_a, aE_in, aE_out, lR_o]
      exact bE_k (by omega) (by omega) (by omega) (by omega) (kd_f k (by omega) (by omega))
    · simp (disch := omega) only [upE_s, upE_n, wE_in, wE_out, tE_in, tE_out, lE_o, lE_in, lE_a, aE_in, aE_out, lR_o]
      exact bE_k (by omega) (by omega) (by omega) (by omega) (kd_g k (by omega) (by omega)))] at hP
  refine b_X6r X h0 rfl (fun H locs ls hP hS hl => ?_) 8 0 H locs ls (by omega) hP hS (lv_sub hl [1, 0] rfl)
  refine lv_iconst (v := (0 : Int32)) hx hb dX6_init_122 (by decide) ?_
  refine lv_istore_n (lv' := [(1, .int (0 : Int32)), (0, .ref (gz g + 0))]) hx hb dX6_init_123 rfl hl (by decide) rfl (fun ls hl => ?_)
  rw [kW_ext (E' := lE g 2 2 267 0 (lR g 8 (bE g))) (fun k hk => by
    rw [← lE_0]
    unfold upE
    by_cases q : k = 2
    · rw [if_pos q, q, lR_o (by omega) (by omega)]
      rfl
    · rw [if_neg q])] at hP
  refine b_X6 X h0 (by rw [lR_o (by omega) (by omega)]; rfl) (fun H locs ls hP hS hl => ?_) 2 0 H locs ls (by omega) hP hS (lv_sub hl [1, 0] rfl)
  refine k_size h0 (by omega) hP (fun hZ => ?_)
  exact k_vret X hP hZ hS (fun i hi => rfl) dX6_init_148
