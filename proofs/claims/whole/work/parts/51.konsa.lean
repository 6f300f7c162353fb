set_option maxRecDepth 20000 in
theorem c_X5_init (l : Launch) (g : GC) {c0 : Nat} {E : Nat → va_E} (hE : E c0 = .inr (5, wz)) : cK l g yX5_init cX5_init 1 (rK 1 20 5 36) [.ref (gz g + c0)] (c0 + 1) E (c0 + 6) (wE g c0 E) 5 36 := by
  refine k_met (by decide) rfl (Nat.le_of_ble_eq_true rfl) ?_
  intro p e s m below meth c X hP hZ hS ls hl
  have X : Kx p s m _ meth c RX5 cX5_init 1 g := X
  have hl : lv_has ls 1 [(0, .ref (gz g + c0))] := hl
  have hx := X.1.1
  have hb := X.1.2.1
  have h0 := hZ
  refine lv_aload_n hx hb dX5_init_0 rfl (lv_at hl 0 rfl) ?_
  refine k_obj X q1_29 hl.1 ⟨Nat.le_of_ble_eq_true rfl, Nat.le_of_ble_eq_true rfl⟩ dX5_init_1 ?_
  refine lv_aload_n hx hb dX5_init_4 rfl (lv_at hl 0 rfl) ?_
  refine lv_bipush (v := (12 : Int32)) hx hb dX5_init_5 (by decide) ?_
  refine k_newi X hP hZ hS (N := 12) (by decide) rfl (by decide) (Nat.le_of_ble_eq_true rfl) (Nat.le_of_ble_eq_true rfl) dX5_init_7 (fun H hP hZ hS => ?_)
  refine k_putF (T := TX5) (N := 11) (ty := .array .int) X hP hS inX5 tyX5_ok nmX5 (ci := 5) (fs := [.int 0, .int 0, .int 0, .int 0, .int 0, .int 0, .null, .null, .null, .null, .null]) (c := c0) (by omega) (by simp (disch := omega) only [upE_s, upE_n, hE] <;> rfl) rfl 6 (by decide) q1_50 rfl rfl (by decide +kernel) rfl rfl (Nat.le_of_ble_eq_true rfl) dX5_init_9 (fun H locs hP hS => ?_)
  refine k_size h0 rfl hP (fun hZ => ?_)
  refine lv_aload_n hx hb dX5_init_12 rfl (lv_at hl 0 rfl) ?_
  refine lv_bipush (v := (6 : Int32)) hx hb dX5_init_13 (by decide) ?_
  refine k_newi X hP hZ hS (N := 6) (by decide) rfl (by decide) (Nat.le_of_ble_eq_true rfl) (Nat.le_of_ble_eq_true rfl) dX5_init_15 (fun H hP hZ hS => ?_)
  refine k_putF (T := TX5) (N := 11) (ty := .array .int) X hP hS inX5 tyX5_ok nmX5 (ci := 5) (fs := [.int 0, .int 0, .int 0, .int 0, .int 0, .int 0, .ref (gz g + (c0 + 1)), .null, .null, .null, .null]) (c := c0) (by omega) (by simp (disch := omega) only [upE_s, upE_n, hE] <;> rfl) rfl 7 (by decide) q1_54 rfl rfl (by decide +kernel) rfl rfl (Nat.le_of_ble_eq_true rfl) dX5_init_17 (fun H locs hP hS => ?_)
  refine k_size h0 rfl hP (fun hZ => ?_)
  refine lv_aload_n hx hb dX5_init_20 rfl (lv_at hl 0 rfl) ?_
  refine lv_bipush (v := (6 : Int32)) hx hb dX5_init_21 (by decide) ?_
  refine k_newi X hP hZ hS (N := 6) (by decide) rfl (by decide) (Nat.le_of_ble_eq_true rfl) (Nat.le_of_ble_eq_true rfl) dX5_init_23 (fun H hP hZ hS => ?_)
  refine k_putF (T := TX5) (N := 11) (ty := .array .int) X hP hS inX5 tyX5_ok nmX5 (ci := 5) (fs := [.int 0, .int 0, .int 0, .int 0, .int 0, .int 0, .ref (gz g + (c0 + 1)), .ref (gz g + (c0 + 1 + 1)), .null, .null, .null]) (c := c0) (by omega) (by simp (disch := omega) only [upE_s, upE_n, hE] <;> rfl) rfl 8 (by decide) q1_59 rfl rfl (by decide +kernel) rfl rfl (Nat.le_of_ble_eq_true rfl) dX5_init_25 (fun H locs hP hS => ?_)
  refine k_size h0 rfl hP (fun hZ => ?_)
  refine lv_aload_n hx hb dX5_init_28 rfl (lv_at hl 0 rfl) ?_
  refine lv_bipush (v := (6 : Int32)) hx hb dX5_init_29 (by decide) ?_
  refine k_newi X hP hZ hS (N := 6) (by decide) rfl (by decide) (Nat.le_of_ble_eq_true rfl) (Nat.le_of_ble_eq_true rfl) dX5_init_31 (fun H hP hZ hS => ?_)
  refine k_putF (T := TX5) (N := 11) (ty := .array .int) X hP hS inX5 tyX5_ok nmX5 (ci := 5) (fs := [.int 0, .int 0, .int 0, .int 0, .int 0, .int 0, .ref (gz g + (c0 + 1)), .ref (gz g + (c0 + 1 + 1)), .ref (gz g + (c0 + 1 + 1 + 1)), .null, .null]) (c := c0) (by omega) (by simp (disch := omega) only [upE_s, upE_n, hE] <;> rfl) rfl 9 (by decide) q1_64 rfl rfl (by decide +kernel) rfl rfl (Nat.le_of_ble_eq_true rfl) dX5_init_33 (fun H locs hP hS => ?_)
  refine k_size h0 rfl hP (fun hZ => ?_)
  refine lv_aload_n hx hb dX5_init_36 rfl (lv_at hl 0 rfl) ?_
  refine lv_bipush (v := (6 : Int32)) hx hb dX5_init_37 (by decide) ?_
  refine k_newi X hP hZ hS (N := 6) (by decide) rfl (by decide) (Nat.le_of_ble_eq_true rfl) (Nat.le_of_ble_eq_true rfl) dX5_init_39 (fun H hP hZ hS => ?_)
  refine k_putF (T := TX5) (N := 11) (ty := .array .int) X hP hS inX5 tyX5_ok nmX5 (ci := 5) (fs := [.int 0, .int 0, .int 0, .int 0, .int 0, .int 0, .ref (gz g + (c0 + 1)), .ref (gz g + (c0 + 1 + 1)), .ref (gz g + (c0 + 1 + 1 + 1)), .ref (gz g + (c0 + 1 + 1 + 1 + 1)), .null]) (c := c0) (by omega) (by simp (disch := omega) only [upE_s, upE_n, hE] <;> rfl) rfl 10 (by decide) q1_68 rfl rfl (by decide +kernel) rfl rfl (Nat.le_of_ble_eq_true rfl) dX5_init_41 (fun H locs hP hS => ?_)
  refine k_size h0 rfl hP (fun hZ => ?_)
  refine k_vret X hP hZ hS (fun i hi => ?_) dX5_init_44
  unfold wE
  rcases (show i < c0 ∨ i = c0 ∨ i = c0 + 1 ∨ i = c0 + 2 ∨ i = c0 + 3 ∨ i = c0 + 4 ∨ i = c0 + 5 by omega) with h | rfl | rfl | rfl | rfl | rfl | rfl
  · simp (disch := omega) only [upE_n]
    rw [if_neg (by omega)]
  · simp (disch := omega) only [upE_s, upE_n]
    rw [if_pos (by omega)]
    rw [Nat.sub_self]
    rfl
  · simp (disch := omega) only [upE_s, upE_n]
    rw [if_pos (by omega)]
    rw [Nat.add_sub_cancel_left]
    rfl
  · simp (disch := omega) only [upE_s, upE_n]
    rw [if_pos (by omega)]
    rw [Nat.add_sub_cancel_left]
    rfl
  · simp (disch := omega) only [upE_s, upE_n]
    rw [if_pos (by omega)]
    rw [Nat.add_sub_cancel_left]
    rfl
  · simp (disch := omega) only [upE_s, upE_n]
    rw [if_pos (by omega)]
    rw [Nat.add_sub_cancel_left]
    rfl
  · simp (disch := omega) only [upE_s, upE_n]
    rw [if_pos (by omega)]
    rw [Nat.add_sub_cancel_left]
    rfl
/-- a row's two cells, a tape's two, an asking's two -/
def rE (g : GC) (c0 : Nat) (E : Nat → va_E) : Nat → va_E := fun i => if c0 ≤ i ∧ i < c0 + 2 then celK g (fun _ => 0) i (([2, 10] : List Nat).getD (i - c0) 99) else E i
def tE (g : GC) (c0 : Nat) (E : Nat → va_E) : Nat → va_E := fun i => if c0 ≤ i ∧ i < c0 + 2 then celK g (fun _ => 0) i (([4, 11] : List Nat).getD (i - c0) 99) else E i
def aE (g : GC) (c0 : Nat) (E : Nat → va_E) : Nat → va_E := fun i => if c0 ≤ i ∧ i < c0 + 2 then celK g (fun _ => 0) i (([0, 12] : List Nat).getD (i - c0) 99) else E i
set_option maxRecDepth 20000 in
theorem c_X2_init (l : Launch) (g : GC) {c0 : Nat} {E : Nat → va_E} (hE : E c0 = .inr (2, [.null, .int 0, .int 0, .int 0])) : cK l g yX2_init cX2_init 1 (rK 1 20 1 40) [.ref (gz g + c0)] (c0 + 1) E (c0 + 2) (rE g c0 E) 1 40 := by
  refine k_met (by decide) rfl (Nat.le_of_ble_eq_true rfl) ?_
  intro p e s m below meth c X hP hZ hS ls hl
  have X : Kx p s m _ meth c RX2 cX2_init 1 g := X
  have hl : lv_has ls 1 [(0, .ref (gz g + c0))] := hl
  have hx := X.1.1
  have hb := X.1.2.1
  have h0 := hZ
  refine lv_aload_n hx hb dX2_init_0 rfl (lv_at hl 0 rfl) ?_
  refine k_obj X q1_179 hl.1 ⟨Nat.le_of_ble_eq_true rfl, Nat.le_of_ble_eq_true rfl⟩ dX2_init_1 ?_
  refine lv_aload_n hx hb dX2_init_4 rfl (lv_at hl 0 rfl) ?_
  refine lv_bipush (v := (40 : Int32)) hx hb dX2_init_5 (by decide) ?_
  refine k_newi X hP hZ hS (N := 40) (by decide) rfl (by decide) (Nat.le_of_ble_eq_true rfl) (Nat.le_of_ble_eq_true rfl) dX2_init_7 (fun H hP hZ hS => ?_)
  refine k_putF (T := TX2) (N := 4) (ty := .array .int) X hP hS inX2 tyX2_ok nmX2 (ci := 2) (fs := [.null, .int 0, .int 0, .int 0]) (c := c0) (by omega) (by simp (disch := omega) only [upE_s, upE_n, hE] <;> rfl) rfl 0 (by decide) q1_180 rfl rfl (by decide +kernel) rfl rfl (Nat.le_of_ble_eq_true rfl) dX2_init_9 (fun H locs hP hS => ?_)
  refine k_size h0 rfl hP (fun hZ => ?_)
  refine k_vret X hP hZ hS (fun i hi => ?_) dX2_init_12
  unfold rE
  rcases (show i < c0 ∨ i = c0 ∨ i = c0 + 1 by omega) with h | rfl | rfl
  · simp (disch := omega) only [upE_n]
    rw [if_neg (by omega)]
  · simp (disch := omega) only [upE_s, upE_n]
    rw [if_pos (by omega)]
    rw [Nat.sub_self]
    rfl
  · simp (disch := omega) only [upE_s, upE_n]
    rw [if_pos (by omega)]
    rw [Nat.add_sub_cancel_left]
    rfl
set_option maxRecDepth 20000 in
theorem c_X4_init (l : Launch) (g : GC) {c0 : Nat} {E : Nat → va_E} (hE : E c0 = .inr (4, [.null, .int 0, .int 0, .int 0, .int 0])) : cK l g yX4_init cX4_init 1 (rK 1 20 1 100) [.ref (gz g + c0)] (c0 + 1) E (c0 + 2) (tE g c0 E) 1 100 := by
  refine k_met (by decide) rfl (Nat.le_of_ble_eq_true rfl) ?_
  intro p e s m below meth c X hP hZ hS ls hl
  have X : Kx p s m _ meth c RX4 cX4_init 1 g := X
  have hl : lv_has ls 1 [(0, .ref (gz g + c0))] := hl
  have hx := X.1.1
  have hb := X.1.2.1
  have h0 := hZ
  refine lv_aload_n hx hb dX4_init_0 rfl (lv_at hl 0 rfl) ?_
  refine k_obj X q1_100 hl.1 ⟨Nat.le_of_ble_eq_true rfl, Nat.le_of_ble_eq_true rfl⟩ dX4_init_1 ?_
  refine lv_aload_n hx hb dX4_init_4 rfl (lv_at hl 0 rfl) ?_
  refine lv_bipush (v := (100 : Int32)) hx hb dX4_init_5 (by decide) ?_
  refine k_newi X hP hZ hS (N := 100) (by decide) rfl (by decide) (Nat.le_of_ble_eq_true rfl) (Nat.le_of_ble_eq_true rfl) dX4_init_7 (fun H hP hZ hS => ?_)
  refine k_putF (T := TX4) (N := 5) (ty := .array .int) X hP hS inX4 tyX4_ok nmX4 (ci := 4) (fs := [.null, .int 0, .int 0, .int 0, .int 0]) (c := c0) (by omega) (by simp (disch := omega) only [upE_s, upE_n, hE] <;> rfl) rfl 0 (by decide) q1_101 rfl rfl (by decide +kernel) rfl rfl (Nat.le_of_ble_eq_true rfl) dX4_init_9 (fun H locs hP hS => ?_)
  refine k_size h0 rfl hP (fun hZ => ?_)
  refine k_vret X hP hZ hS (fun i hi => ?_) dX4_init_12
  unfold tE
  rcases (show i < c0 ∨ i = c0 ∨ i = c0 + 1 by omega) with h | rfl | rfl
  · simp (disch := omega) only [upE_n]
    rw [if_neg (by omega)]
  · simp (disch := omega) only [upE_s, upE_n]
    rw [if_pos (by omega)]
    rw [Nat.sub_self]
    rfl
  · simp (disch := omega) only [upE_s, upE_n]
    rw [if_pos (by omega)]
    rw [Nat.add_sub_cancel_left]
    rfl
set_option maxRecDepth 20000 in
theorem c_X0_init (l : Launch) (g : GC) {c0 : Nat} {E : Nat → va_E} (hE : E c0 = .inr (0, [.null, .null, .int 0])) : cK l g yX0_init cX0_init 2 (rK 1 20 1 16) [.ref (gz g + c0), .ref (gz g + 3)] (c0 + 1) E (c0 + 2) (aE g c0 E) 1 16 := by
  refine k_met (by decide) rfl (Nat.le_of_ble_eq_true rfl) ?_
  intro p e s m below meth c X hP hZ hS ls hl
  have X : Kx p s m _ meth c RX0 cX0_init 2 g := X
  have hl : lv_has ls 2 [(0, .ref (gz g + c0)), (1, .ref (gz g + 3))] := hl
  have hx := X.1.1
  have hb := X.1.2.1
  have h0 := hZ
  refine lv_aload_n hx hb dX0_init_0 rfl (lv_at hl 0 rfl) ?_
  refine k_obj X q1_162 hl.1 ⟨Nat.le_of_ble_eq_true rfl, Nat.le_of_ble_eq_true rfl⟩ dX0_init_1 ?_
  refine lv_aload_n hx hb dX0_init_4 rfl (lv_at hl 0 rfl) ?_
  refine lv_bipush (v := (16 : Int32)) hx hb dX0_init_5 (by decide) ?_
  refine k_newi X hP hZ hS (N := 16) (by decide) rfl (by decide) (Nat.le_of_ble_eq_true rfl) (Nat.le_of_ble_eq_true rfl) dX0_init_7 (fun H hP hZ hS => ?_)
  refine k_putF (T := TX0) (N := 3) (ty := .array .int) X hP hS inX0 tyX0_ok nmX0 (ci := 0) (fs := [.null, .null, .int 0]) (c := c0) (by omega) (by simp (disch := omega) only [upE_s, upE_n, hE] <;> rfl) rfl 1 (by decide) q1_164 rfl rfl (by decide +kernel) rfl rfl (Nat.le_of_ble_eq_true rfl) dX0_init_9 (fun H locs hP hS => ?_)
  refine k_size h0 rfl hP (fun hZ => ?_)
  refine lv_aload_n hx hb dX0_init_12 rfl (lv_at hl 0 rfl) ?_
  refine lv_aload_n hx hb dX0_init_13 rfl (lv_at hl 1 rfl) ?_
  refine k_putF (T := TX0) (N := 3) (ty := .object "MusicBox$Works") X hP hS inX0 tyX0_ok nmX0 (ci := 0) (fs := [.null, .ref (gz g + (c0 + 1)), .int 0]) (c := c0) (by omega) (by simp (disch := omega) only [upE_s, upE_n, hE] <;> rfl) rfl 0 (by decide) q1_163 rfl rfl (by decide +kernel) rfl rfl (Nat.le_of_ble_eq_true rfl) dX0_init_14 (fun H locs hP hS => ?_)
  refine k_size h0 rfl hP (fun hZ => ?_)
  refine k_vret X hP hZ hS (fun i hi => ?_) dX0_init_17
  unfold aE
  rcases (show i < c0 ∨ i = c0 ∨ i = c0 + 1 by omega) with h | rfl | rfl
  · simp (disch := omega) only [upE_n]
    rw [if_neg (by omega)]
  · simp (disch := omega) only [upE_s, upE_n]
    rw [if_pos (by omega)]
    rw [Nat.sub_self]
    rfl
  · simp (disch := omega) only [upE_s, upE_n]
    rw [if_pos (by omega)]
    rw [Nat.add_sub_cancel_left]
    rfl
