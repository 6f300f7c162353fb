variable {p : Program} {l : Launch} {e : Env} {s : State} {m : MethodId} {args : Array Value} {below : List Frame} {meth : Method} {c : Code} {g : GC}
def f_X5_clear (r0 : Nat) (M : Mem) : Option Mem :=
  lt (up2 M r0 0 (0 : Int32)) fun M_1 =>
  lt (up2 M_1 r0 1 (0 : Int32)) fun M_2 =>
  lt (up2 M_2 r0 2 (0 : Int32)) fun M_3 =>
  lt (up2 M_3 r0 3 (0 : Int32)) fun M_4 =>
  lt (up2 M_4 r0 4 (0 : Int32)) fun M_5 =>
  lt (up2 M_5 r0 5 (0 : Int32)) fun M_6 =>
  cv (f_J7_fill_53178 (r0 + 4) 6 (0 : Int32) M_6) fun M_8 =>
  cv (f_J7_fill_53178 (r0 + 5) 6 (0 : Int32) M_8) fun M_10 =>
  some M_10
set_option maxRecDepth 20000 in
theorem c_X5_clear (l : Launch) (g : GC) {r0 : Nat} (h0 : kd r0 = 5) {M : Mem} {out : Mem} (hf : f_X5_clear r0 M = some out) : cV l g yX5_clear cX5_clear 1 (rM 1 23) [.ref (gz g + r0)] M out := by
  refine g_met (by decide) (Nat.le_of_ble_eq_true rfl) ?_
  intro p e s m below meth c X hP hS ls hl
  have X : Bx p s m _ meth c RX5 cX5_clear 1 none g := X
  have hl : lv_has ls 1 [(0, .ref (gz g + r0))] := hl
  have hx := X.1
  have hb := X.2.1
  refine lv_aload_n hx hb dX5_clear_0 rfl (lv_at hl 0 rfl) ?_
  refine lv_iconst (v := (0 : Int32)) hx hb dX5_clear_1 (by decide) ?_
  refine gp_5_0 X hP hS h0 q1_30 dX5_clear_2 (fun H locs M_1 eM_1 hP hS => ?_)
  replace hf := lt_go hf eM_1
  refine lv_aload_n hx hb dX5_clear_5 rfl (lv_at hl 0 rfl) ?_
  refine lv_iconst (v := (0 : Int32)) hx hb dX5_clear_6 (by decide) ?_
  refine gp_5_1 X hP hS h0 q1_34 dX5_clear_7 (fun H locs M_2 eM_2 hP hS => ?_)
  replace hf := lt_go hf eM_2
  refine lv_aload_n hx hb dX5_clear_10 rfl (lv_at hl 0 rfl) ?_
  refine lv_iconst (v := (0 : Int32)) hx hb dX5_clear_11 (by decide) ?_
  refine gp_5_2 X hP hS h0 q1_38 dX5_clear_12 (fun H locs M_3 eM_3 hP hS => ?_)
  replace hf := lt_go hf eM_3
  refine lv_aload_n hx hb dX5_clear_15 rfl (lv_at hl 0 rfl) ?_
  refine lv_iconst (v := (0 : Int32)) hx hb dX5_clear_16 (by decide) ?_
  refine gp_5_3 X hP hS h0 q1_42 dX5_clear_17 (fun H locs M_4 eM_4 hP hS => ?_)
  replace hf := lt_go hf eM_4
  refine lv_aload_n hx hb dX5_clear_20 rfl (lv_at hl 0 rfl) ?_
  refine lv_iconst (v := (0 : Int32)) hx hb dX5_clear_21 (by decide) ?_
  refine gp_5_4 X hP hS h0 q1_46 dX5_clear_22 (fun H locs M_5 eM_5 hP hS => ?_)
  replace hf := lt_go hf eM_5
  refine lv_aload_n hx hb dX5_clear_25 rfl (lv_at hl 0 rfl) ?_
  refine lv_iconst (v := (0 : Int32)) hx hb dX5_clear_26 (by decide) ?_
  refine gp_5_5 X hP hS h0 q1_48 dX5_clear_27 (fun H locs M_6 eM_6 hP hS => ?_)
  replace hf := lt_go hf eM_6
  refine lv_aload_n hx hb dX5_clear_30 rfl (lv_at hl 0 rfl) ?_
  refine gf_5_9 X hP h0 q1_64 dX5_clear_31 ?_
  refine lv_iconst (v := (0 : Int32)) hx hb dX5_clear_34 (by decide) ?_
  obtain ⟨M_8, hc_7, hf⟩ := cv_s hf
  refine g_gov (g_runS X (c_J7_fill_53178 l g (iA_8 (kdW4 h0)) hc_7) s_J7_fill_53178 q2_67 ⟨Nat.le_of_ble_eq_true rfl, Nat.le_of_ble_eq_true rfl⟩ hP hS rfl hl.1 rfl (Nat.le_of_ble_eq_true rfl) ⟨Nat.le_refl _, Nat.le_refl _⟩ dX5_clear_35) hS (fun H locs hP hS => ?_)
  refine lv_aload_n hx hb dX5_clear_38 rfl (lv_at hl 0 rfl) ?_
  refine gf_5_10 X hP h0 q1_68 dX5_clear_39 ?_
  refine lv_iconst (v := (0 : Int32)) hx hb dX5_clear_42 (by decide) ?_
  obtain ⟨M_10, hc_9, hf⟩ := cv_s hf
  refine g_gov (g_runS X (c_J7_fill_53178 l g (iA_8 (kdW5 h0)) hc_9) s_J7_fill_53178 q2_67 ⟨Nat.le_of_ble_eq_true rfl, Nat.le_of_ble_eq_true rfl⟩ hP hS rfl hl.1 rfl (Nat.le_of_ble_eq_true rfl) ⟨Nat.le_refl _, Nat.le_refl _⟩ dX5_clear_43) hS (fun H locs hP hS => ?_)
  exact g_vret X hP hS (sm_i hf) dX5_clear_46
def f_X5_takeFrom (r0 : Nat) (o1 : Nat) (M : Mem) : Option Mem :=
  lt (up2 M r0 0 (M o1 0)) fun M_1 =>
  lt (up2 M_1 r0 1 (M_1 o1 1)) fun M_2 =>
  lt (up2 M_2 r0 2 (M_2 o1 2)) fun M_3 =>
  lt (up2 M_3 r0 3 (M_3 o1 3)) fun M_4 =>
  lt (up2 M_4 r0 4 (M_4 o1 4)) fun M_5 =>
  lt (up2 M_5 r0 5 (M_5 o1 5)) fun M_6 =>
  lt (va_up M_6 (r0 + 1) (va_cpy (M_6 (o1 + 1)) (M_6 (r0 + 1)) 0 0 12)) fun M_7 =>
  lt (va_up M_7 (r0 + 2) (va_cpy (M_7 (o1 + 2)) (M_7 (r0 + 2)) 0 0 6)) fun M_8 =>
  lt (va_up M_8 (r0 + 3) (va_cpy (M_8 (o1 + 3)) (M_8 (r0 + 3)) 0 0 6)) fun M_9 =>
  lt (va_up M_9 (r0 + 4) (va_cpy (M_9 (o1 + 4)) (M_9 (r0 + 4)) 0 0 6)) fun M_10 =>
  lt (va_up M_10 (r0 + 5) (va_cpy (M_10 (o1 + 5)) (M_10 (r0 + 5)) 0 0 6)) fun M_11 =>
  some M_11
set_option maxRecDepth 20000 in
theorem c_X5_takeFrom (l : Launch) (g : GC) {r0 : Nat} {o1 : Nat} (h0 : kd r0 = 5) (h1 : kd o1 = 5) {M : Mem} {out : Mem} (hf : f_X5_takeFrom r0 o1 M = some out) : cV l g yX5_takeFrom cX5_takeFrom 2 (rM 1 40) [.ref (gz g + r0), .ref (gz g + o1)] M out := by
  refine g_met (by decide) (Nat.le_of_ble_eq_true rfl) ?_
  intro p e s m below meth c X hP hS ls hl
  have X : Bx p s m _ meth c RX5 cX5_takeFrom 2 none g := X
  have hl : lv_has ls 2 [(0, .ref (gz g + r0)), (1, .ref (gz g + o1))] := hl
  have hx := X.1
  have hb := X.2.1
  refine lv_aload_n hx hb dX5_takeFrom_0 rfl (lv_at hl 0 rfl) ?_
  refine lv_aload_n hx hb dX5_takeFrom_1 rfl (lv_at hl 1 rfl) ?_
  refine gf_5_0 X hP h1 q1_30 dX5_takeFrom_2 ?_
  refine gp_5_0 X hP hS h0 q1_30 dX5_takeFrom_5 (fun H locs M_1 eM_1 hP hS => ?_)
  replace hf := lt_go hf eM_1
  refine lv_aload_n hx hb dX5_takeFrom_8 rfl (lv_at hl 0 rfl) ?_
  refine lv_aload_n hx hb dX5_takeFrom_9 rfl (lv_at hl 1 rfl) ?_
  refine gf_5_1 X hP h1 q1_34 dX5_takeFrom_10 ?_
  refine gp_5_1 X hP hS h0 q1_34 dX5_takeFrom_13 (fun H locs M_2 eM_2 hP hS => ?_)
  replace hf := lt_go hf eM_2
  refine lv_aload_n hx hb dX5_takeFrom_16 rfl (lv_at hl 0 rfl) ?_
  refine lv_aload_n hx hb dX5_takeFrom_17 rfl (lv_at hl 1 rfl) ?_
  refine gf_5_2 X hP h1 q1_38 dX5_takeFrom_18 ?_
  refine gp_5_2 X hP hS h0 q1_38 dX5_takeFrom_21 (fun H locs M_3 eM_3 hP hS => ?_)
  replace hf := lt_go hf eM_3
  refine lv_aload_n hx hb dX5_takeFrom_24 rfl (lv_at hl 0 rfl) ?_
  refine lv_aload_n hx hb dX5_takeFrom_25 rfl (lv_at hl 1 rfl) ?_
  refine gf_5_3 X hP h1 q1_42 dX5_takeFrom_26 ?_
  refine gp_5_3 X hP hS h0 q1_42 dX5_takeFrom_29 (fun H locs M_4 eM_4 hP hS => ?_)
  replace hf := lt_go hf eM_4
  refine lv_aload_n hx hb dX5_takeFrom_32 rfl (lv_at hl 0 rfl) ?_
  refine lv_aload_n hx hb dX5_takeFrom_33 rfl (lv_at hl 1 rfl) ?_
  refine gf_5_4 X hP h1 q1_46 dX5_takeFrom_34 ?_
  refine gp_5_4 X hP hS h0 q1_46 dX5_takeFrom_37 (fun H locs M_5 eM_5 hP hS => ?_)
  replace hf := lt_go hf eM_5
  refine lv_aload_n hx hb dX5_takeFrom_40 rfl (lv_at hl 0 rfl) ?_
  refine lv_aload_n hx hb dX5_takeFrom_41 rfl (lv_at hl 1 rfl) ?_
  refine gf_5_5 X hP h1 q1_48 dX5_takeFrom_42 ?_
  refine gp_5_5 X hP hS h0 q1_48 dX5_takeFrom_45 (fun H locs M_6 eM_6 hP hS => ?_)
  replace hf := lt_go hf eM_6
  refine lv_aload_n hx hb dX5_takeFrom_48 rfl (lv_at hl 1 rfl) ?_
  refine gf_5_6 X hP h1 q1_50 dX5_takeFrom_49 ?_
  refine lv_iconst (v := (0 : Int32)) hx hb dX5_takeFrom_52 (by decide) ?_
  refine lv_aload_n hx hb dX5_takeFrom_53 rfl (lv_at hl 0 rfl) ?_
  refine gf_5_6 X hP h0 q1_50 dX5_takeFrom_54 ?_
  refine lv_iconst (v := (0 : Int32)) hx hb dX5_takeFrom_57 (by decide) ?_
  refine lv_bipush (v := (12 : Int32)) hx hb dX5_takeFrom_58 (by decide) ?_
  refine g_copyj (a := 0) (b := 0) (k := 12) X hP hS (iA_9 (kdW1 h1)) (iA_9 (kdW1 h0)) (by decide) hl.1 q2_104 ⟨Nat.le_of_ble_eq_true rfl, Nat.le_of_ble_eq_true rfl⟩ (Nat.le_of_ble_eq_true rfl) dX5_takeFrom_60 (by decide) (by decide) (by decide) (fun H locs M_7 eM_7 hP hS => ?_)
  replace hf := lt_go hf eM_7
  refine lv_aload_n hx hb dX5_takeFrom_63 rfl (lv_at hl 1 rfl) ?_
  refine gf_5_7 X hP h1 q1_54 dX5_takeFrom_64 ?_
  refine lv_iconst (v := (0 : Int32)) hx hb dX5_takeFrom_67 (by decide) ?_
  refine lv_aload_n hx hb dX5_takeFrom_68 rfl (lv_at hl 0 rfl) ?_
  refine gf_5_7 X hP h0 q1_54 dX5_takeFrom_69 ?_
  refine lv_iconst (v := (0 : Int32)) hx hb dX5_takeFrom_72 (by decide) ?_
  refine lv_bipush (v := (6 : Int32)) hx hb dX5_takeFrom_73 (by decide) ?_
  refine g_copyj (a := 0) (b := 0) (k := 6) X hP hS (iA_8 (kdW2 h1)) (iA_8 (kdW2 h0)) (by decide) hl.1 q2_104 ⟨Nat.le_of_ble_eq_true rfl, Nat.le_of_ble_eq_true rfl⟩ (Nat.le_of_ble_eq_true rfl) dX5_takeFrom_75 (by decide) (by decide) (by decide) (fun H locs M_8 eM_8 hP hS => ?_)
  replace hf := lt_go hf eM_8
  refine lv_aload_n hx hb dX5_takeFrom_78 rfl (lv_at hl 1 rfl) ?_
  refine gf_5_8 X hP h1 q1_59 dX5_takeFrom_79 ?_
  refine lv_iconst (v := (0 : Int32)) hx hb dX5_takeFrom_82 (by decide) ?_
  refine lv_aload_n hx hb dX5_takeFrom_83 rfl (lv_at hl 0 rfl) ?_
  refine gf_5_8 X hP h0 q1_59 dX5_takeFrom_84 ?_
  refine lv_iconst (v := (0 : Int32)) hx hb dX5_takeFrom_87 (by decide) ?_
  refine lv_bipush (v := (6 : Int32)) hx hb dX5_takeFrom_88 (by decide) ?_
  refine g_copyj (a := 0) (b := 0) (k := 6) X hP hS (iA_8 (kdW3 h1)) (iA_8 (kdW3 h0)) (by decide) hl.1 q2_104 ⟨Nat.le_of_ble_eq_true rfl, Nat.le_of_ble_eq_true rfl⟩ (Nat.le_of_ble_eq_true rfl) dX5_takeFrom_90 (by decide) (by decide) (by decide) (fun H locs M_9 eM_9 hP hS => ?_)
  replace hf := lt_go hf eM_9
  refine lv_aload_n hx hb dX5_takeFrom_93 rfl (lv_at hl 1 rfl) ?_
  refine gf_5_9 X hP h1 q1_64 dX5_takeFrom_94 ?_
  refine lv_iconst (v := (0 : Int32)) hx hb dX5_takeFrom_97 (by decide) ?_
  refine lv_aload_n hx hb dX5_takeFrom_98 rfl (lv_at hl 0 rfl) ?_
  refine gf_5_9 X hP h0 q1_64 dX5_takeFrom_99 ?_
  refine lv_iconst (v := (0 : Int32)) hx hb dX5_takeFrom_102 (by decide) ?_
  refine lv_bipush (v := (6 : Int32)) hx hb dX5_takeFrom_103 (by decide) ?_
  refine g_copyj (a := 0) (b := 0) (k := 6) X hP hS (iA_8 (kdW4 h1)) (iA_8 (kdW4 h0)) (by decide) hl.1 q2_104 ⟨Nat.le_of_ble_eq_true rfl, Nat.le_of_ble_eq_true rfl⟩ (Nat.le_of_ble_eq_true rfl) dX5_takeFrom_105 (by decide) (by decide) (by decide) (fun H locs M_10 eM_10 hP hS => ?_)
  replace hf := lt_go hf eM_10
  refine lv_aload_n hx hb dX5_takeFrom_108 rfl (lv_at hl 1 rfl) ?_
  refine gf_5_10 X hP h1 q1_68 dX5_takeFrom_109 ?_
  refine lv_iconst (v := (0 : Int32)) hx hb dX5_takeFrom_112 (by decide) ?_
  refine lv_aload_n hx hb dX5_takeFrom_113 rfl (lv_at hl 0 rfl) ?_
  refine gf_5_10 X hP h0 q1_68 dX5_takeFrom_114 ?_
  refine lv_iconst (v := (0 : Int32)) hx hb dX5_takeFrom_117 (by decide) ?_
  refine lv_bipush (v := (6 : Int32)) hx hb dX5_takeFrom_118 (by decide) ?_
  refine g_copyj (a := 0) (b := 0) (k := 6) X hP hS (iA_8 (kdW5 h1)) (iA_8 (kdW5 h0)) (by decide) hl.1 q2_104 ⟨Nat.le_of_ble_eq_true rfl, Nat.le_of_ble_eq_true rfl⟩ (Nat.le_of_ble_eq_true rfl) dX5_takeFrom_120 (by decide) (by decide) (by decide) (fun H locs M_11 eM_11 hP hS => ?_)
  replace hf := lt_go hf eM_11
  exact g_vret X hP hS (sm_i hf) dX5_takeFrom_123
def f_X5_faded_46 (x1 : Int32)   (M : Mem) : Option (Int32 × Mem) :=
  some ((if (0 : Int32) < (x1 - (2 : Int32)) then (x1 - (2 : Int32)) else (0 : Int32)), M)
set_option maxRecDepth 20000 in
theorem b_X5_faded_46 {out : Int32 × Mem} (X : Bx p s m args meth c RX5 cX5_faded 2 (some .int) g)   {x1 : Int32}      (M : Mem) {H : Heap} {locs : List Loc} {ls : Array Slot} (hf : f_X5_faded_46 x1 M = some out) (hP : va_P g.1 vwCl (gW g M) H) (hS : va_S (gA g) s.heap H locs) (hl : lv_has ls 2 [(1, .int x1)]) : W p l e (rM 1 30) s m args below meth c H locs 0 0 (MQ below (qI g out) args s 0 0 (gA g)) (F0 m 46 ls []) := by
  have hx := X.1
  have hb := X.2.1
  refine lv_iconst (v := (0 : Int32)) hx hb dX5_faded_46 (by decide) ?_
  refine lv_iload_n hx hb dX5_faded_47 rfl (lv_at hl 0 rfl) ?_
  refine lv_iconst (v := (2 : Int32)) hx hb dX5_faded_48 (by decide) ?_
  refine lv_isub hx hb dX5_faded_49 ?_
  refine va_mmax hx hb (by rw [X.2.2.1, hl.1]) X.2.2.2.1 (X.2.2.2.2.1 _ q2_145) (X.2.2.2.2.1 _ q2_146) (X.2.2.2.2.1 _ q1_11) (X.2.2.2.2.1 _ q2_147) (Nat.le_of_ble_eq_true rfl) (Nat.le_of_ble_eq_true rfl) (Nat.le_refl _) (Nat.le_refl _) dX5_faded_50 ?_
  exact g_iret X hP hS (sm_i hf) dX5_faded_53
def f_X5_faded (x0 : Int32) (x1 : Int32) (M : Mem) : Option (Int32 × Mem) :=
  lt x0 fun v_1 =>
  if v_1 = (2 : Int32) then
    some ((0 : Int32), M)
  else
    if v_1 = (3 : Int32) then
      f_X5_faded_46 x1 M
    else
      if v_1 = (4 : Int32) then
        some ((if (0 : Int32) < (x1 - (1 : Int32)) then (x1 - (1 : Int32)) else (0 : Int32)), M)
      else
        if v_1 = (5 : Int32) then
          some ((x1 / (2 : Int32)), M)
        else
          f_X5_faded_46 x1 M
set_option maxRecDepth 20000 in
theorem c_X5_faded (l : Launch) (g : GC) {x0 : Int32} {x1 : Int32}  {M : Mem} {out : Int32 × Mem} (hf : f_X5_faded x0 x1 M = some out) : cI l g yX5_faded cX5_faded 2 (some .int) (rM 1 30) [.int x0, .int x1] M out := by
  refine g_met (by decide) (Nat.le_of_ble_eq_true rfl) ?_
  intro p e s m below meth c X hP hS ls hl
  have X : Bx p s m _ meth c RX5 cX5_faded 2 (some .int) g := X
  have hl : lv_has ls 2 [(0, .int x0), (1, .int x1)] := hl
  have hx := X.1
  have hb := X.2.1
  refine lv_iload_n hx hb dX5_faded_0 rfl (lv_at hl 0 rfl) ?_
  refine lv_topi (fun v_1 ev_1 => ?_)
  replace hf := lt_go hf ev_1
  by_cases h_2 : v_1 = (2 : Int32)
  · replace hf := it_t hf h_2
    refine lv_tableIn (off := 31) (tgt := 32) hx hb dX5_faded_1 (by rw [h_2]; decide) (by rw [h_2]; decide) (by rw [h_2]; rfl) (by decide) ?_
    refine lv_iconst (v := (0 : Int32)) hx hb dX5_faded_32 (by decide) ?_
    exact g_iret X hP hS (sm_i hf) dX5_faded_33
  · replace hf := it_f hf h_2
    by_cases h_3 : v_1 = (3 : Int32)
    · replace hf := it_t hf h_3
      refine lv_tableIn (off := 45) (tgt := 46) hx hb dX5_faded_1 (by rw [h_3]; decide) (by rw [h_3]; decide) (by rw [h_3]; rfl) (by decide) ?_
      exact b_X5_faded_46 X   M hf hP hS (lv_sub hl [1] rfl)
    · replace hf := it_f hf h_3
      by_cases h_4 : v_1 = (4 : Int32)
      · replace hf := it_t hf h_4
        refine lv_tableIn (off := 33) (tgt := 34) hx hb dX5_faded_1 (by rw [h_4]; decide) (by rw [h_4]; decide) (by rw [h_4]; rfl) (by decide) ?_
        refine lv_iconst (v := (0 : Int32)) hx hb dX5_faded_34 (by decide) ?_
        refine lv_iload_n hx hb dX5_faded_35 rfl (lv_at hl 1 rfl) ?_
        refine lv_iconst (v := (1 : Int32)) hx hb dX5_faded_36 (by decide) ?_
        refine lv_isub hx hb dX5_faded_37 ?_
        refine va_mmax hx hb (by rw [X.2.2.1, hl.1]) X.2.2.2.1 (X.2.2.2.2.1 _ q2_145) (X.2.2.2.2.1 _ q2_146) (X.2.2.2.2.1 _ q1_11) (X.2.2.2.2.1 _ q2_147) (Nat.le_of_ble_eq_true rfl) (Nat.le_of_ble_eq_true rfl) (Nat.le_refl _) (Nat.le_refl _) dX5_faded_38 ?_
        exact g_iret X hP hS (sm_i hf) dX5_faded_41
      · replace hf := it_f hf h_4
        by_cases h_5 : v_1 = (5 : Int32)
        · replace hf := it_t hf h_5
          refine lv_tableIn (off := 41) (tgt := 42) hx hb dX5_faded_1 (by rw [h_5]; decide) (by rw [h_5]; decide) (by rw [h_5]; rfl) (by decide) ?_
          refine lv_iload_n hx hb dX5_faded_42 rfl (lv_at hl 1 rfl) ?_
          refine lv_iconst (v := (2 : Int32)) hx hb dX5_faded_43 (by decide) ?_
          refine lv_idiv hx hb dX5_faded_44 (by decide) ?_
          exact g_iret X hP hS (sm_i hf) dX5_faded_45
        · replace hf := it_f hf h_5
          refine lv_tableOut (tgt := 46) hx hb dX5_faded_1 (by have n0 := lv_neT (a := 2) h_2 rfl; have n1 := lv_neT (a := 3) h_3 rfl; have n2 := lv_neT (a := 4) h_4 rfl; have n3 := lv_neT (a := 5) h_5 rfl; omega) (by decide) ?_
          exact b_X5_faded_46 X   M hf hP hS (lv_sub hl [1] rfl)
def f_X5_columnBehind (r0 : Nat) (M : Mem) : Option (Int32 × Mem) :=
  if (M r0 0) ≤ ((M r0 3) + (1 : Int32)) then
    some ((0 : Int32), M)
  else
    some (((M r0 3) + (1 : Int32)), M)
set_option maxRecDepth 20000 in
theorem c_X5_columnBehind (l : Launch) (g : GC) {r0 : Nat} (h0 : kd r0 = 5) {M : Mem} {out : Int32 × Mem} (hf : f_X5_columnBehind r0 M = some out) : cI l g yX5_columnBehind cX5_columnBehind 1 (some .int) (rM 0 0) [.ref (gz g + r0)] M out := by
  refine g_met (by decide) (Nat.le_of_ble_eq_true rfl) ?_
  intro p e s m below meth c X hP hS ls hl
  have X : Bx p s m _ meth c RX5 cX5_columnBehind 1 (some .int) g := X
  have hl : lv_has ls 1 [(0, .ref (gz g + r0))] := hl
  have hx := X.1
  have hb := X.2.1
  refine lv_aload_n hx hb dX5_columnBehind_0 rfl (lv_at hl 0 rfl) ?_
  refine gf_5_3 X hP h0 q1_42 dX5_columnBehind_1 ?_
  refine lv_iconst (v := (1 : Int32)) hx hb dX5_columnBehind_4 (by decide) ?_
  refine lv_iadd hx hb dX5_columnBehind_5 ?_
  refine lv_aload_n hx hb dX5_columnBehind_6 rfl (lv_at hl 0 rfl) ?_
  refine gf_5_0 X hP h0 q1_30 dX5_columnBehind_7 ?_
  refine lv_icmp_ge (tgt := 22) hx hb dX5_columnBehind_10 (by decide) (fun h_1 => ?_) (fun h_1 => ?_)
  · replace hf := it_t hf h_1
    refine lv_iconst (v := (0 : Int32)) hx hb dX5_columnBehind_22 (by decide) ?_
    exact g_iret X hP hS (sm_i hf) dX5_columnBehind_23
  · replace hf := it_f hf h_1
    refine lv_aload_n hx hb dX5_columnBehind_13 rfl (lv_at hl 0 rfl) ?_
    refine gf_5_3 X hP h0 q1_42 dX5_columnBehind_14 ?_
    refine lv_iconst (v := (1 : Int32)) hx hb dX5_columnBehind_17 (by decide) ?_
    refine lv_iadd hx hb dX5_columnBehind_18 ?_
    refine lv_goto (tgt := 23) hx hb dX5_columnBehind_19 (by decide) ?_
    exact g_iret X hP hS (sm_i hf) dX5_columnBehind_23
def f_X5_stir (r0 : Nat) (x1 : Int32) (x2 : Int32) (M : Mem) : Option Mem :=
  if (M r0 1) ≤ x1 then
    some M
  else
    if (((M r0 5) >>> (x1 &&& 31)) &&& (1 : Int32)) = 0 then
      ck x1 6 <|
      if x2 ≤ (M (r0 + 4) x1.toNatClampNeg) then
        some M
      else
        ck x1 6 <|
        lt (up2 M (r0 + 4) x1.toNatClampNeg x2) fun M_5 =>
        some M_5
    else
      some M
set_option maxRecDepth 20000 in
theorem c_X5_stir (l : Launch) (g : GC) {r0 : Nat} {x1 : Int32} {x2 : Int32} (h0 : kd r0 = 5) {M : Mem} {out : Mem} (hf : f_X5_stir r0 x1 x2 M = some out) : cV l g yX5_stir cX5_stir 3 (rM 0 0) [.ref (gz g + r0), .int x1, .int x2] M out := by
  refine g_met (by decide) (Nat.le_of_ble_eq_true rfl) ?_
  intro p e s m below meth c X hP hS ls hl
  have X : Bx p s m _ meth c RX5 cX5_stir 3 none g := X
  have hl : lv_has ls 3 [(0, .ref (gz g + r0)), (1, .int x1), (2, .int x2)] := hl
  have hx := X.1
  have hb := X.2.1
  refine lv_iload_n hx hb dX5_stir_0 rfl (lv_at hl 1 rfl) ?_
  refine lv_aload_n hx hb dX5_stir_1 rfl (lv_at hl 0 rfl) ?_
  refine gf_5_1 X hP h0 q1_34 dX5_stir_2 ?_
  refine lv_icmp_ge (tgt := 36) hx hb dX5_stir_5 (by decide) (fun h_1 => ?_) (fun h_1 => ?_)
  · replace hf := it_t hf h_1
    exact g_vret X hP hS (sm_i hf) dX5_stir_36
  · replace hf := it_f hf h_1
    refine lv_aload_n hx hb dX5_stir_8 rfl (lv_at hl 0 rfl) ?_
    refine gf_5_5 X hP h0 q1_48 dX5_stir_9 ?_
    refine lv_iload_n hx hb dX5_stir_12 rfl (lv_at hl 1 rfl) ?_
    refine lv_ishr hx hb dX5_stir_13 ?_
    refine lv_iconst (v := (1 : Int32)) hx hb dX5_stir_14 (by decide) ?_
    refine lv_iand hx hb dX5_stir_15 ?_
    refine lv_if_ne (tgt := 36) hx hb dX5_stir_16 (by decide) (fun h_2 => ?_) (fun h_2 => ?_)
    · replace hf := it_f hf h_2
      exact g_vret X hP hS (sm_i hf) dX5_stir_36
    · replace hf := it_t hf h_2
      refine lv_aload_n hx hb dX5_stir_19 rfl (lv_at hl 0 rfl) ?_
      refine gf_5_9 X hP h0 q1_64 dX5_stir_20 ?_
      refine lv_iload_n hx hb dX5_stir_23 rfl (lv_at hl 1 rfl) ?_
      obtain ⟨hi_3, hf⟩ := ck_s hf
      refine ga_ld X hP (iA_8 (kdW4 h0)) hi_3 dX5_stir_24 ?_
      refine lv_iload_n hx hb dX5_stir_25 rfl (lv_at hl 2 rfl) ?_
      refine lv_icmp_ge (tgt := 36) hx hb dX5_stir_26 (by decide) (fun h_4 => ?_) (fun h_4 => ?_)
      · replace hf := it_t hf h_4
        exact g_vret X hP hS (sm_i hf) dX5_stir_36
      · replace hf := it_f hf h_4
        refine lv_aload_n hx hb dX5_stir_29 rfl (lv_at hl 0 rfl) ?_
        refine gf_5_9 X hP h0 q1_64 dX5_stir_30 ?_
        refine lv_iload_n hx hb dX5_stir_33 rfl (lv_at hl 1 rfl) ?_
        refine lv_iload_n hx hb dX5_stir_34 rfl (lv_at hl 2 rfl) ?_
        obtain ⟨hi_6, hf⟩ := ck_s hf
        refine ga_st X hP hS (iA_8 (kdW4 h0)) hi_6 dX5_stir_35 (fun H locs M_5 eM_5 hP hS => ?_)
        replace hf := lt_go hf eM_5
        exact g_vret X hP hS (sm_i hf) dX5_stir_36
def f_X5_pluck (r0 : Nat) (x1 : Int32) (M : Mem) : Option Mem :=
  lt (up2 M r0 2 ((M r0 2) - (1 : Int32))) fun M_1 =>
  ck x1 6 <|
  ck x1 6 <|
  lt (up2 M_1 (r0 + 5) x1.toNatClampNeg (if ((M_1 (r0 + 5) x1.toNatClampNeg) + (1 : Int32)) < (99 : Int32) then ((M_1 (r0 + 5) x1.toNatClampNeg) + (1 : Int32)) else (99 : Int32))) fun M_3 =>
  ck x1 6 <|
  lt (M_3 (r0 + 2) x1.toNatClampNeg) fun v_6 =>
  if v_6 = (2 : Int32) then
    ck x1 6 <|
    ck x1 6 <|
    lt (up2 M_3 (r0 + 4) x1.toNatClampNeg (M_3 (r0 + 3) x1.toNatClampNeg)) fun M_9 =>
    some M_9
  else
    if v_6 = (3 : Int32) then
      ck x1 6 <|
      ck x1 6 <|
      lt (up2 M_3 (r0 + 4) x1.toNatClampNeg ((2 : Int32) * (M_3 (r0 + 3) x1.toNatClampNeg))) fun M_13 =>
      ck x1 6 <|
      cv (f_X5_stir r0 (x1 + (1 : Int32)) (M_13 (r0 + 3) x1.toNatClampNeg) M_13) fun M_17 =>
      some M_17
    else
      if v_6 = (4 : Int32) then
        ck x1 6 <|
        ck x1 6 <|
        lt (up2 M_3 (r0 + 4) x1.toNatClampNeg ((M_3 (r0 + 3) x1.toNatClampNeg) + ((M_3 r0 2) / (10 : Int32)))) fun M_20 =>
        some M_20
      else
        if v_6 = (5 : Int32) then
          ck x1 6 <|
          ck x1 6 <|
          lt (up2 M_3 (r0 + 4) x1.toNatClampNeg ((M_3 (r0 + 3) x1.toNatClampNeg) + ((M_3 r0 2) / (10 : Int32)))) fun M_24 =>
          ck x1 6 <|
          if (M_24 (r0 + 5) x1.toNatClampNeg) < (3 : Int32) then
            some M_24
          else
            lt (up2 M_24 r0 5 ((M_24 r0 5) ||| ((1 : Int32) <<< (x1 &&& 31)))) fun M_28 =>
            some M_28
        else
          ck x1 6 <|
          ck x1 6 <|
          lt (up2 M_3 (r0 + 4) x1.toNatClampNeg ((2 : Int32) * (M_3 (r0 + 3) x1.toNatClampNeg))) fun M_30 =>
          some M_30
set_option maxRecDepth 20000 in
theorem c_X5_pluck (l : Launch) (g : GC) {r0 : Nat} {x1 : Int32} (h0 : kd r0 = 5) {M : Mem} {out : Mem} (hf : f_X5_pluck r0 x1 M = some out) : cV l g yX5_pluck cX5_pluck 2 (rM 1 30) [.ref (gz g + r0), .int x1] M out := by
  refine g_met (by decide) (Nat.le_of_ble_eq_true rfl) ?_
  intro p e s m below meth c X hP hS ls hl
  have X : Bx p s m _ meth c RX5 cX5_pluck 2 none g := X
  have hl : lv_has ls 2 [(0, .ref (gz g + r0)), (1, .int x1)] := hl
  have hx := X.1
  have hb := X.2.1
  refine lv_aload_n hx hb dX5_pluck_0 rfl (lv_at hl 0 rfl) ?_
  refine lv_dup hx hb dX5_pluck_1 rfl ?_
  refine gf_5_2 X hP h0 q1_38 dX5_pluck_2 ?_
  refine lv_iconst (v := (1 : Int32)) hx hb dX5_pluck_5 (by decide) ?_
  refine lv_isub hx hb dX5_pluck_6 ?_
  refine gp_5_2 X hP hS h0 q1_38 dX5_pluck_7 (fun H locs M_1 eM_1 hP hS => ?_)
  replace hf := lt_go hf eM_1
  refine lv_aload_n hx hb dX5_pluck_10 rfl (lv_at hl 0 rfl) ?_
  refine gf_5_10 X hP h0 q1_68 dX5_pluck_11 ?_
  refine lv_iload_n hx hb dX5_pluck_14 rfl (lv_at hl 1 rfl) ?_
  refine lv_bipush (v := (99 : Int32)) hx hb dX5_pluck_15 (by decide) ?_
  refine lv_aload_n hx hb dX5_pluck_17 rfl (lv_at hl 0 rfl) ?_
  refine gf_5_10 X hP h0 q1_68 dX5_pluck_18 ?_
  refine lv_iload_n hx hb dX5_pluck_21 rfl (lv_at hl 1 rfl) ?_
  obtain ⟨hi_2, hf⟩ := ck_s hf
  refine ga_ld X hP (iA_8 (kdW5 h0)) hi_2 dX5_pluck_22 ?_
  refine lv_iconst (v := (1 : Int32)) hx hb dX5_pluck_23 (by decide) ?_
  refine lv_iadd hx hb dX5_pluck_24 ?_
  refine va_mmin hx hb (by rw [X.2.2.1, hl.1]) X.2.2.2.1 (X.2.2.2.2.1 _ q2_156) (X.2.2.2.2.1 _ q2_136) (X.2.2.2.2.1 _ q1_11) (X.2.2.2.2.1 _ q2_137) (Nat.le_of_ble_eq_true rfl) (Nat.le_of_ble_eq_true rfl) (Nat.le_refl _) (Nat.le_refl _) dX5_pluck_25 ?_
  obtain ⟨hi_4, hf⟩ := ck_s hf
  refine ga_st X hP hS (iA_8 (kdW5 h0)) hi_4 dX5_pluck_28 (fun H locs M_3 eM_3 hP hS => ?_)
  replace hf := lt_go hf eM_3
  refine lv_aload_n hx hb dX5_pluck_29 rfl (lv_at hl 0 rfl) ?_
  refine gf_5_7 X hP h0 q1_54 dX5_pluck_30 ?_
  refine lv_iload_n hx hb dX5_pluck_33 rfl (lv_at hl 1 rfl) ?_
  obtain ⟨hi_5, hf⟩ := ck_s hf
  refine ga_ld X hP (iA_8 (kdW2 h0)) hi_5 dX5_pluck_34 ?_
  refine lv_topi (fun v_6 ev_6 => ?_)
  replace hf := lt_go hf ev_6
  by_cases h_7 : v_6 = (2 : Int32)
  · replace hf := it_t hf h_7
    refine lv_tableIn (off := 29) (tgt := 64) hx hb dX5_pluck_35 (by rw [h_7]; decide) (by rw [h_7]; decide) (by rw [h_7]; rfl) (by decide) ?_
    refine lv_aload_n hx hb dX5_pluck_64 rfl (lv_at hl 0 rfl) ?_
    refine gf_5_9 X hP h0 q1_64 dX5_pluck_65 ?_
    refine lv_iload_n hx hb dX5_pluck_68 rfl (lv_at hl 1 rfl) ?_
    refine lv_aload_n hx hb dX5_pluck_69 rfl (lv_at hl 0 rfl) ?_
    refine gf_5_8 X hP h0 q1_59 dX5_pluck_70 ?_
    refine lv_iload_n hx hb dX5_pluck_73 rfl (lv_at hl 1 rfl) ?_
    obtain ⟨hi_8, hf⟩ := ck_s hf
    refine ga_ld X hP (iA_8 (kdW3 h0)) hi_8 dX5_pluck_74 ?_
    obtain ⟨hi_10, hf⟩ := ck_s hf
    refine ga_st X hP hS (iA_8 (kdW4 h0)) hi_10 dX5_pluck_75 (fun H locs M_9 eM_9 hP hS => ?_)
    replace hf := lt_go hf eM_9
    refine lv_goto (tgt := 191) hx hb dX5_pluck_76 (by decide) ?_
    exact g_vret X hP hS (sm_i hf) dX5_pluck_191
  · replace hf := it_f hf h_7
    by_cases h_11 : v_6 = (3 : Int32)
    · replace hf := it_t hf h_11
      refine lv_tableIn (off := 112) (tgt := 147) hx hb dX5_pluck_35 (by rw [h_11]; decide) (by rw [h_11]; decide) (by rw [h_11]; rfl) (by decide) ?_
      refine lv_aload_n hx hb dX5_pluck_147 rfl (lv_at hl 0 rfl) ?_
      refine gf_5_9 X hP h0 q1_64 dX5_pluck_148 ?_
      refine lv_iload_n hx hb dX5_pluck_151 rfl (lv_at hl 1 rfl) ?_
      refine lv_iconst (v := (2 : Int32)) hx hb dX5_pluck_152 (by decide) ?_
      refine lv_aload_n hx hb dX5_pluck_153 rfl (lv_at hl 0 rfl) ?_
      refine gf_5_8 X hP h0 q1_59 dX5_pluck_154 ?_
      refine lv_iload_n hx hb dX5_pluck_157 rfl (lv_at hl 1 rfl) ?_
      obtain ⟨hi_12, hf⟩ := ck_s hf
      refine ga_ld X hP (iA_8 (kdW3 h0)) hi_12 dX5_pluck_158 ?_
      refine lv_imul hx hb dX5_pluck_159 ?_
      obtain ⟨hi_14, hf⟩ := ck_s hf
      refine ga_st X hP hS (iA_8 (kdW4 h0)) hi_14 dX5_pluck_160 (fun H locs M_13 eM_13 hP hS => ?_)
      replace hf := lt_go hf eM_13
      refine lv_aload_n hx hb dX5_pluck_161 rfl (lv_at hl 0 rfl) ?_
      refine lv_iload_n hx hb dX5_pluck_162 rfl (lv_at hl 1 rfl) ?_
      refine lv_iconst (v := (1 : Int32)) hx hb dX5_pluck_163 (by decide) ?_
      refine lv_iadd hx hb dX5_pluck_164 ?_
      refine lv_aload_n hx hb dX5_pluck_165 rfl (lv_at hl 0 rfl) ?_
      refine gf_5_8 X hP h0 q1_59 dX5_pluck_166 ?_
      refine lv_iload_n hx hb dX5_pluck_169 rfl (lv_at hl 1 rfl) ?_
      obtain ⟨hi_15, hf⟩ := ck_s hf
      refine ga_ld X hP (iA_8 (kdW3 h0)) hi_15 dX5_pluck_170 ?_
      obtain ⟨M_17, hc_16, hf⟩ := cv_s hf
      refine g_gov (g_run X (c_X5_stir l g h0 hc_16) s_X5_stir (oB_5 h0) q2_157 ⟨Nat.le_of_ble_eq_true rfl, Nat.le_of_ble_eq_true rfl⟩ hP hS rfl hl.1 rfl (Nat.le_of_ble_eq_true rfl) ⟨Nat.le_refl _, Nat.le_refl _⟩ dX5_pluck_171) hS (fun H locs hP hS => ?_)
      refine lv_goto (tgt := 191) hx hb dX5_pluck_174 (by decide) ?_
      exact g_vret X hP hS (sm_i hf) dX5_pluck_191
    · replace hf := it_f hf h_11
      by_cases h_18 : v_6 = (4 : Int32)
      · replace hf := it_t hf h_18
        refine lv_tableIn (off := 44) (tgt := 79) hx hb dX5_pluck_35 (by rw [h_18]; decide) (by rw [h_18]; decide) (by rw [h_18]; rfl) (by decide) ?_
        refine lv_aload_n hx hb dX5_pluck_79 rfl (lv_at hl 0 rfl) ?_
        refine gf_5_9 X hP h0 q1_64 dX5_pluck_80 ?_
        refine lv_iload_n hx hb dX5_pluck_83 rfl (lv_at hl 1 rfl) ?_
        refine lv_aload_n hx hb dX5_pluck_84 rfl (lv_at hl 0 rfl) ?_
        refine gf_5_8 X hP h0 q1_59 dX5_pluck_85 ?_
        refine lv_iload_n hx hb dX5_pluck_88 rfl (lv_at hl 1 rfl) ?_
        obtain ⟨hi_19, hf⟩ := ck_s hf
        refine ga_ld X hP (iA_8 (kdW3 h0)) hi_19 dX5_pluck_89 ?_
        refine lv_aload_n hx hb dX5_pluck_90 rfl (lv_at hl 0 rfl) ?_
        refine gf_5_2 X hP h0 q1_38 dX5_pluck_91 ?_
        refine lv_bipush (v := (10 : Int32)) hx hb dX5_pluck_94 (by decide) ?_
        refine lv_idiv hx hb dX5_pluck_96 (by decide) ?_
        refine lv_iadd hx hb dX5_pluck_97 ?_
        obtain ⟨hi_21, hf⟩ := ck_s hf
        refine ga_st X hP hS (iA_8 (kdW4 h0)) hi_21 dX5_pluck_98 (fun H locs M_20 eM_20 hP hS => ?_)
        replace hf := lt_go hf eM_20
        refine lv_goto (tgt := 191) hx hb dX5_pluck_99 (by decide) ?_
        exact g_vret X hP hS (sm_i hf) dX5_pluck_191
      · replace hf := it_f hf h_18
        by_cases h_22 : v_6 = (5 : Int32)
        · replace hf := it_t hf h_22
          refine lv_tableIn (off := 67) (tgt := 102) hx hb dX5_pluck_35 (by rw [h_22]; decide) (by rw [h_22]; decide) (by rw [h_22]; rfl) (by decide) ?_
          refine lv_aload_n hx hb dX5_pluck_102 rfl (lv_at hl 0 rfl) ?_
          refine gf_5_9 X hP h0 q1_64 dX5_pluck_103 ?_
          refine lv_iload_n hx hb dX5_pluck_106 rfl (lv_at hl 1 rfl) ?_
          refine lv_aload_n hx hb dX5_pluck_107 rfl (lv_at hl 0 rfl) ?_
          refine gf_5_8 X hP h0 q1_59 dX5_pluck_108 ?_
          refine lv_iload_n hx hb dX5_pluck_111 rfl (lv_at hl 1 rfl) ?_
          obtain ⟨hi_23, hf⟩ := ck_s hf
          refine ga_ld X hP (iA_8 (kdW3 h0)) hi_23 dX5_pluck_112 ?_
          refine lv_aload_n hx hb dX5_pluck_113 rfl (lv_at hl 0 rfl) ?_
          refine gf_5_2 X hP h0 q1_38 dX5_pluck_114 ?_
          refine lv_bipush (v := (10 : Int32)) hx hb dX5_pluck_117 (by decide) ?_
          refine lv_idiv hx hb dX5_pluck_119 (by decide) ?_
          refine lv_iadd hx hb dX5_pluck_120 ?_
          obtain ⟨hi_25, hf⟩ := ck_s hf
          refine ga_st X hP hS (iA_8 (kdW4 h0)) hi_25 dX5_pluck_121 (fun H locs M_24 eM_24 hP hS => ?_)
          replace hf := lt_go hf eM_24
          refine lv_aload_n hx hb dX5_pluck_122 rfl (lv_at hl 0 rfl) ?_
          refine gf_5_10 X hP h0 q1_68 dX5_pluck_123 ?_
          refine lv_iload_n hx hb dX5_pluck_126 rfl (lv_at hl 1 rfl) ?_
          obtain ⟨hi_26, hf⟩ := ck_s hf
          refine ga_ld X hP (iA_8 (kdW5 h0)) hi_26 dX5_pluck_127 ?_
          refine lv_iconst (v := (3 : Int32)) hx hb dX5_pluck_128 (by decide) ?_
          refine lv_icmp_lt (tgt := 191) hx hb dX5_pluck_129 (by decide) (fun h_27 => ?_) (fun h_27 => ?_)
          · replace hf := it_t hf h_27
            exact g_vret X hP hS (sm_i hf) dX5_pluck_191
          · replace hf := it_f hf h_27
            refine lv_aload_n hx hb dX5_pluck_132 rfl (lv_at hl 0 rfl) ?_
            refine lv_dup hx hb dX5_pluck_133 rfl ?_
            refine gf_5_5 X hP h0 q1_48 dX5_pluck_134 ?_
            refine lv_iconst (v := (1 : Int32)) hx hb dX5_pluck_137 (by decide) ?_
            refine lv_iload_n hx hb dX5_pluck_138 rfl (lv_at hl 1 rfl) ?_
            refine lv_ishl hx hb dX5_pluck_139 ?_
            refine lv_ior hx hb dX5_pluck_140 ?_
            refine gp_5_5 X hP hS h0 q1_48 dX5_pluck_141 (fun H locs M_28 eM_28 hP hS => ?_)
            replace hf := lt_go hf eM_28
            refine lv_goto (tgt := 191) hx hb dX5_pluck_144 (by decide) ?_
            exact g_vret X hP hS (sm_i hf) dX5_pluck_191
        · replace hf := it_f hf h_22
          refine lv_tableOut (tgt := 177) hx hb dX5_pluck_35 (by have n0 := lv_neT (a := 2) h_7 rfl; have n1 := lv_neT (a := 3) h_11 rfl; have n2 := lv_neT (a := 4) h_18 rfl; have n3 := lv_neT (a := 5) h_22 rfl; omega) (by decide) ?_
          refine lv_aload_n hx hb dX5_pluck_177 rfl (lv_at hl 0 rfl) ?_
          refine gf_5_9 X hP h0 q1_64 dX5_pluck_178 ?_
          refine lv_iload_n hx hb dX5_pluck_181 rfl (lv_at hl 1 rfl) ?_
          refine lv_iconst (v := (2 : Int32)) hx hb dX5_pluck_182 (by decide) ?_
          refine lv_aload_n hx hb dX5_pluck_183 rfl (lv_at hl 0 rfl) ?_
          refine gf_5_8 X hP h0 q1_59 dX5_pluck_184 ?_
          refine lv_iload_n hx hb dX5_pluck_187 rfl (lv_at hl 1 rfl) ?_
          obtain ⟨hi_29, hf⟩ := ck_s hf
          refine ga_ld X hP (iA_8 (kdW3 h0)) hi_29 dX5_pluck_188 ?_
          refine lv_imul hx hb dX5_pluck_189 ?_
          obtain ⟨hi_31, hf⟩ := ck_s hf
          refine ga_st X hP hS (iA_8 (kdW4 h0)) hi_31 dX5_pluck_190 (fun H locs M_30 eM_30 hP hS => ?_)
          replace hf := lt_go hf eM_30
          exact g_vret X hP hS (sm_i hf) dX5_pluck_191
def f_X5_turn_142 (r0 : Nat)  (x1 : Int32) (M : Mem) : Option (Int32 × Mem) :=
  some ((x1 - (M r0 2)), M)
set_option maxRecDepth 20000 in
theorem b_X5_turn_142 {out : Int32 × Mem} (X : Bx p s m args meth c RX5 cX5_turn 4 (some .int) g)   {r0 : Nat}  (h0 : kd r0 = 5)   (x1 : Int32) (M : Mem) {H : Heap} {locs : List Loc} {ls : Array Slot} (hf : f_X5_turn_142 r0 x1 M = some out) (hP : va_P g.1 vwCl (gW g M) H) (hS : va_S (gA g) s.heap H locs) (hl : lv_has ls 4 [(0, .ref (gz g + r0)), (1, .int x1)]) : W p l e (rM 2 51) s m args below meth c H locs 0 0 (MQ below (qI g out) args s 0 0 (gA g)) (F0 m 142 ls []) := by
  have hx := X.1
  have hb := X.2.1
  refine lv_iload_n hx hb dX5_turn_142 rfl (lv_at hl 1 rfl) ?_
  refine lv_aload_n hx hb dX5_turn_143 rfl (lv_at hl 0 rfl) ?_
  refine gf_5_2 X hP h0 q1_38 dX5_turn_144 ?_
  refine lv_isub hx hb dX5_turn_147 ?_
  exact g_iret X hP hS (sm_i hf) dX5_turn_148
def f_X5_turn_136 (r0 : Nat) (k107 : Int32 → Int32 → Int32 → Mem → Option (Int32 × Mem)) (x1 : Int32) (x2 : Int32) (x3 : Int32) (M : Mem) : Option (Int32 × Mem) :=
  k107 x1 x2 (x3 + (1 : Int32)) M
set_option maxRecDepth 20000 in
theorem b_X5_turn_136 {out : Int32 × Mem} (X : Bx p s m args meth c RX5 cX5_turn 4 (some .int) g)   {r0 : Nat}  (h0 : kd r0 = 5) {k107 : Int32 → Int32 → Int32 → Mem → Option (Int32 × Mem)} (hk107 : ∀ (x1 : Int32) (x2 : Int32) (x3 : Int32) (M : Mem) (H : Heap) (locs : List Loc) (ls : Array Slot), k107 x1 x2 x3 M = some out → va_P g.1 vwCl (gW g M) H → va_S (gA g) s.heap H locs → lv_has ls 4 [(0, .ref (gz g + r0)), (1, .int x1), (2, .int x2), (3, .int x3)] → W p l e (rM 2 51) s m args below meth c H locs 0 0 (MQ below (qI g out) args s 0 0 (gA g)) (F0 m 107 ls [])) (x1 : Int32) (x2 : Int32) (x3 : Int32) (M : Mem) {H : Heap} {locs : List Loc} {ls : Array Slot} (hf : f_X5_turn_136 r0 k107 x1 x2 x3 M = some out) (hP : va_P g.1 vwCl (gW g M) H) (hS : va_S (gA g) s.heap H locs) (hl : lv_has ls 4 [(0, .ref (gz g + r0)), (1, .int x1), (2, .int x2), (3, .int x3)]) : W p l e (rM 2 51) s m args below meth c H locs 0 0 (MQ below (qI g out) args s 0 0 (gA g)) (F0 m 136 ls []) := by
  have hx := X.1
  have hb := X.2.1
  refine lv_iinc (v := (x3 + (1 : Int32))) (lv' := [(3, .int (x3 + (1 : Int32))), (0, .ref (gz g + r0)), (1, .int x1), (2, .int x2)]) hx hb dX5_turn_136 hl (k := 3) rfl rfl (by decide) rfl (fun ls hl => ?_)
  refine lv_goto (tgt := 107) hx hb dX5_turn_139 (by decide) ?_
  exact hk107 x1 x2 (x3 + (1 : Int32)) M _ _ _ hf hP hS (lv_sub hl [1, 2, 3, 0] rfl)
def f_X5_turn_107 (r0 : Nat)  : Nat → Int32 → Int32 → Int32 → Mem → Option (Int32 × Mem)
  | 0, _, _, _, _ => none
  | n + 1, x1, x2, x3, M =>
    if (M r0 1) ≤ x3 then
      f_X5_turn_142 r0 x1 M
    else
      if (M r0 2) ≤ 0 then
        f_X5_turn_142 r0 x1 M
      else
        if ((x2 >>> (x3 &&& 31)) &&& (1 : Int32)) = (1 : Int32) then
          cv (f_X5_pluck r0 x3 M) fun M_5 =>
          f_X5_turn_136 r0 (f_X5_turn_107 r0 n) x1 x2 x3 M_5
        else
          f_X5_turn_136 r0 (f_X5_turn_107 r0 n) x1 x2 x3 M
set_option maxRecDepth 20000 in
theorem b_X5_turn_107 {out : Int32 × Mem} (X : Bx p s m args meth c RX5 cX5_turn 4 (some .int) g)   {r0 : Nat}  (h0 : kd r0 = 5)   : ∀ (n : Nat) (x1 : Int32) (x2 : Int32) (x3 : Int32) (M : Mem) (H : Heap) (locs : List Loc) (ls : Array Slot), f_X5_turn_107 r0 n x1 x2 x3 M = some out → va_P g.1 vwCl (gW g M) H → va_S (gA g) s.heap H locs → lv_has ls 4 [(0, .ref (gz g + r0)), (1, .int x1), (2, .int x2), (3, .int x3)] → W p l e (rM 2 51) s m args below meth c H locs 0 0 (MQ below (qI g out) args s 0 0 (gA g)) (F0 m 107 ls []) := by
  have hx := X.1
  have hb := X.2.1
  intro n
  induction n with
  | zero => intro _ _ _ _ _ _ _ hf; cases hf
  | succ n ih =>
    intro x1 x2 x3 M H locs ls hf hP hS hl
    rw [f_X5_turn_107] at hf
    refine lv_iload_n hx hb dX5_turn_107 rfl (lv_at hl 3 rfl) ?_
    refine lv_aload_n hx hb dX5_turn_108 rfl (lv_at hl 0 rfl) ?_
    refine gf_5_1 X hP h0 q1_34 dX5_turn_109 ?_
    refine lv_icmp_ge (tgt := 142) hx hb dX5_turn_112 (by decide) (fun h_1 => ?_) (fun h_1 => ?_)
    · replace hf := it_t hf h_1
      exact b_X5_turn_142 X h0 x1 M hf hP hS (lv_sub hl [0, 1] rfl)
    · replace hf := it_f hf h_1
      refine lv_aload_n hx hb dX5_turn_115 rfl (lv_at hl 0 rfl) ?_
      refine gf_5_2 X hP h0 q1_38 dX5_turn_116 ?_
      refine lv_if_le (tgt := 142) hx hb dX5_turn_119 (by decide) (fun h_2 => ?_) (fun h_2 => ?_)
      · replace hf := it_t hf h_2
        exact b_X5_turn_142 X h0 x1 M hf hP hS (lv_sub hl [0, 1] rfl)
      · replace hf := it_f hf h_2
        refine lv_iload_n hx hb dX5_turn_122 rfl (lv_at hl 2 rfl) ?_
        refine lv_iload_n hx hb dX5_turn_123 rfl (lv_at hl 3 rfl) ?_
        refine lv_ishr hx hb dX5_turn_124 ?_
        refine lv_iconst (v := (1 : Int32)) hx hb dX5_turn_125 (by decide) ?_
        refine lv_iand hx hb dX5_turn_126 ?_
        refine lv_iconst (v := (1 : Int32)) hx hb dX5_turn_127 (by decide) ?_
        refine lv_icmp_ne (tgt := 136) hx hb dX5_turn_128 (by decide) (fun h_3 => ?_) (fun h_3 => ?_)
        · replace hf := it_f hf h_3
          exact b_X5_turn_136 X h0 ih x1 x2 x3 M hf hP hS hl
        · replace hf := it_t hf h_3
          refine lv_aload_n hx hb dX5_turn_131 rfl (lv_at hl 0 rfl) ?_
          refine lv_iload_n hx hb dX5_turn_132 rfl (lv_at hl 3 rfl) ?_
          obtain ⟨M_5, hc_4, hf⟩ := cv_s hf
          refine g_gov (g_run X (c_X5_pluck l g h0 hc_4) s_X5_pluck (oB_5 h0) q2_152 ⟨Nat.le_of_ble_eq_true rfl, Nat.le_of_ble_eq_true rfl⟩ hP hS rfl hl.1 rfl (Nat.le_of_ble_eq_true rfl) ⟨Nat.le_refl _, Nat.le_refl _⟩ dX5_turn_133) hS (fun H locs hP hS => ?_)
          exact b_X5_turn_136 X h0 ih x1 x2 x3 M_5 hf hP hS hl
def f_X5_turn_40 (r0 : Nat) (k2 : Int32 → Mem → Option (Int32 × Mem)) (x1 : Int32) (M : Mem) : Option (Int32 × Mem) :=
  k2 (x1 + (1 : Int32)) M
set_option maxRecDepth 20000 in
theorem b_X5_turn_40 {out : Int32 × Mem} (X : Bx p s m args meth c RX5 cX5_turn 4 (some .int) g)   {r0 : Nat}  (h0 : kd r0 = 5) {k2 : Int32 → Mem → Option (Int32 × Mem)} (hk2 : ∀ (x1 : Int32) (M : Mem) (H : Heap) (locs : List Loc) (ls : Array Slot), k2 x1 M = some out → va_P g.1 vwCl (gW g M) H → va_S (gA g) s.heap H locs → lv_has ls 4 [(0, .ref (gz g + r0)), (1, .int x1)] → W p l e (rM 2 51) s m args below meth c H locs 0 0 (MQ below (qI g out) args s 0 0 (gA g)) (F0 m 2 ls [])) (x1 : Int32) (M : Mem) {H : Heap} {locs : List Loc} {ls : Array Slot} (hf : f_X5_turn_40 r0 k2 x1 M = some out) (hP : va_P g.1 vwCl (gW g M) H) (hS : va_S (gA g) s.heap H locs) (hl : lv_has ls 4 [(0, .ref (gz g + r0)), (1, .int x1)]) : W p l e (rM 2 51) s m args below meth c H locs 0 0 (MQ below (qI g out) args s 0 0 (gA g)) (F0 m 40 ls []) := by
  have hx := X.1
  have hb := X.2.1
  refine lv_iinc (v := (x1 + (1 : Int32))) (lv' := [(1, .int (x1 + (1 : Int32))), (0, .ref (gz g + r0))]) hx hb dX5_turn_40 hl (k := 1) rfl rfl (by decide) rfl (fun ls hl => ?_)
  refine lv_goto (tgt := 2) hx hb dX5_turn_43 (by decide) ?_
  exact hk2 (x1 + (1 : Int32)) M _ _ _ hf hP hS (lv_sub hl [1, 0] rfl)
def f_X5_turn_2 (r0 : Nat)  : Nat → Int32 → Mem → Option (Int32 × Mem)
  | 0, _, _ => none
  | n + 1, x1, M =>
    if (M r0 1) ≤ x1 then
      lt (up2 M r0 4 ((M r0 4) + (1 : Int32))) fun M_2 =>
      if 0 < (M_2 r0 2) then
        cb (f_X5_columnBehind r0 M_2) fun r_6 M_5 =>
        lt (up2 M_5 r0 3 r_6) fun M_7 =>
        lt (up2 M_7 r0 2 ((M_7 r0 2) - (1 : Int32))) fun M_8 =>
        lt (M_8 r0 2) fun x1_9 =>
        ck (M_8 r0 3) 12 <|
        lt ((M_8 (r0 + 1) ((M_8 r0 3)).toNatClampNeg) &&& ((M_8 r0 5) ^^^ (-1 : Int32))) fun x2_11 =>
        f_X5_turn_107 r0 FU x1_9 x2_11 (0 : Int32) M_8
      else
        some ((0 : Int32), M_2)
    else
      ck x1 6 <|
      if (M (r0 + 4) x1.toNatClampNeg) ≤ 0 then
        f_X5_turn_40 r0 (f_X5_turn_2 r0 n) x1 M
      else
        ck x1 6 <|
        ck x1 6 <|
        cb (f_X5_faded (M (r0 + 2) x1.toNatClampNeg) (M (r0 + 4) x1.toNatClampNeg) M) fun r_18 M_17 =>
        ck x1 6 <|
        lt (up2 M_17 (r0 + 4) x1.toNatClampNeg r_18) fun M_19 =>
        f_X5_turn_40 r0 (f_X5_turn_2 r0 n) x1 M_19
set_option maxRecDepth 20000 in
theorem b_X5_turn_2 {out : Int32 × Mem} (X : Bx p s m args meth c RX5 cX5_turn 4 (some .int) g)   {r0 : Nat}  (h0 : kd r0 = 5)   : ∀ (n : Nat) (x1 : Int32) (M : Mem) (H : Heap) (locs : List Loc) (ls : Array Slot), f_X5_turn_2 r0 n x1 M = some out → va_P g.1 vwCl (gW g M) H → va_S (gA g) s.heap H locs → lv_has ls 4 [(0, .ref (gz g + r0)), (1, .int x1)] → W p l e (rM 2 51) s m args below meth c H locs 0 0 (MQ below (qI g out) args s 0 0 (gA g)) (F0 m 2 ls []) := by
  have hx := X.1
  have hb := X.2.1
  intro n
  induction n with
  | zero => intro _ _ _ _ _ hf; cases hf
  | succ n ih =>
    intro x1 M H locs ls hf hP hS hl
    rw [f_X5_turn_2] at hf
    refine lv_iload_n hx hb dX5_turn_2 rfl (lv_at hl 1 rfl) ?_
    refine lv_aload_n hx hb dX5_turn_3 rfl (lv_at hl 0 rfl) ?_
    refine gf_5_1 X hP h0 q1_34 dX5_turn_4 ?_
    refine lv_icmp_ge (tgt := 46) hx hb dX5_turn_7 (by decide) (fun h_1 => ?_) (fun h_1 => ?_)
    · replace hf := it_t hf h_1
      refine lv_aload_n hx hb dX5_turn_46 rfl (lv_at hl 0 rfl) ?_
      refine lv_dup hx hb dX5_turn_47 rfl ?_
      refine gf_5_4 X hP h0 q1_46 dX5_turn_48 ?_
      refine lv_iconst (v := (1 : Int32)) hx hb dX5_turn_51 (by decide) ?_
      refine lv_iadd hx hb dX5_turn_52 ?_
      refine gp_5_4 X hP hS h0 q1_46 dX5_turn_53 (fun H locs M_2 eM_2 hP hS => ?_)
      replace hf := lt_go hf eM_2
      refine lv_aload_n hx hb dX5_turn_56 rfl (lv_at hl 0 rfl) ?_
      refine gf_5_2 X hP h0 q1_38 dX5_turn_57 ?_
      refine lv_if_gt (tgt := 65) hx hb dX5_turn_60 (by decide) (fun h_3 => ?_) (fun h_3 => ?_)
      · replace hf := it_t hf h_3
        refine lv_aload_n hx hb dX5_turn_65 rfl (lv_at hl 0 rfl) ?_
        refine lv_aload_n hx hb dX5_turn_66 rfl (lv_at hl 0 rfl) ?_
        obtain ⟨r_6, M_5, hc_4, hf⟩ := cb_s hf
        refine g_goi (g_run X (c_X5_columnBehind l g h0 hc_4) s_X5_columnBehind (oB_5 h0) q2_148 ⟨Nat.le_of_ble_eq_true rfl, Nat.le_of_ble_eq_true rfl⟩ hP hS rfl hl.1 rfl (Nat.le_of_ble_eq_true rfl) ⟨Nat.le_refl _, Nat.le_refl _⟩ dX5_turn_67) hS (fun H locs hP hS => ?_)
        refine gp_5_3 X hP hS h0 q1_42 dX5_turn_70 (fun H locs M_7 eM_7 hP hS => ?_)
        replace hf := lt_go hf eM_7
        refine lv_aload_n hx hb dX5_turn_73 rfl (lv_at hl 0 rfl) ?_
        refine lv_dup hx hb dX5_turn_74 rfl ?_
        refine gf_5_2 X hP h0 q1_38 dX5_turn_75 ?_
        refine lv_iconst (v := (1 : Int32)) hx hb dX5_turn_78 (by decide) ?_
        refine lv_isub hx hb dX5_turn_79 ?_
        refine gp_5_2 X hP hS h0 q1_38 dX5_turn_80 (fun H locs M_8 eM_8 hP hS => ?_)
        replace hf := lt_go hf eM_8
        refine lv_aload_n hx hb dX5_turn_83 rfl (lv_at hl 0 rfl) ?_
        refine gf_5_2 X hP h0 q1_38 dX5_turn_84 ?_
        refine lv_topi (fun x1_9 ex1_9 => ?_)
        replace hf := lt_go hf ex1_9
        refine lv_istore_n (lv' := [(1, .int x1_9), (0, .ref (gz g + r0))]) hx hb dX5_turn_87 rfl hl (by decide) rfl (fun ls hl => ?_)
        refine lv_aload_n hx hb dX5_turn_88 rfl (lv_at hl 1 rfl) ?_
        refine gf_5_6 X hP h0 q1_50 dX5_turn_89 ?_
        refine lv_aload_n hx hb dX5_turn_92 rfl (lv_at hl 1 rfl) ?_
        refine gf_5_3 X hP h0 q1_42 dX5_turn_93 ?_
        obtain ⟨hi_10, hf⟩ := ck_s hf
        refine ga_ld X hP (iA_9 (kdW1 h0)) hi_10 dX5_turn_96 ?_
        refine lv_aload_n hx hb dX5_turn_97 rfl (lv_at hl 1 rfl) ?_
        refine gf_5_5 X hP h0 q1_48 dX5_turn_98 ?_
        refine lv_iconst (v := (-1 : Int32)) hx hb dX5_turn_101 (by decide) ?_
        refine lv_ixor hx hb dX5_turn_102 ?_
        refine lv_iand hx hb dX5_turn_103 ?_
        refine lv_topi (fun x2_11 ex2_11 => ?_)
        replace hf := lt_go hf ex2_11
        refine lv_istore_n (lv' := [(2, .int x2_11), (1, .int x1_9), (0, .ref (gz g + r0))]) hx hb dX5_turn_104 rfl hl (by decide) rfl (fun ls hl => ?_)
        refine lv_iconst (v := (0 : Int32)) hx hb dX5_turn_105 (by decide) ?_
        refine lv_istore_n (lv' := [(3, .int (0 : Int32)), (2, .int x2_11), (1, .int x1_9), (0, .ref (gz g + r0))]) hx hb dX5_turn_106 rfl hl (by decide) rfl (fun ls hl => ?_)
        exact b_X5_turn_107 X h0 FU x1_9 x2_11 (0 : Int32) M_8 _ _ _ hf hP hS (lv_sub hl [3, 2, 1, 0] rfl)
      · replace hf := it_f hf h_3
        refine lv_iconst (v := (0 : Int32)) hx hb dX5_turn_63 (by decide) ?_
        exact g_iret X hP hS (sm_i hf) dX5_turn_64
    · replace hf := it_f hf h_1
      refine lv_aload_n hx hb dX5_turn_10 rfl (lv_at hl 0 rfl) ?_
      refine gf_5_9 X hP h0 q1_64 dX5_turn_11 ?_
      refine lv_iload_n hx hb dX5_turn_14 rfl (lv_at hl 1 rfl) ?_
      obtain ⟨hi_12, hf⟩ := ck_s hf
      refine ga_ld X hP (iA_8 (kdW4 h0)) hi_12 dX5_turn_15 ?_
      refine lv_if_le (tgt := 40) hx hb dX5_turn_16 (by decide) (fun h_13 => ?_) (fun h_13 => ?_)
      · replace hf := it_t hf h_13
        exact b_X5_turn_40 X h0 ih x1 M hf hP hS hl
      · replace hf := it_f hf h_13
        refine lv_aload_n hx hb dX5_turn_19 rfl (lv_at hl 0 rfl) ?_
        refine gf_5_9 X hP h0 q1_64 dX5_turn_20 ?_
        refine lv_iload_n hx hb dX5_turn_23 rfl (lv_at hl 1 rfl) ?_
        refine lv_aload_n hx hb dX5_turn_24 rfl (lv_at hl 0 rfl) ?_
        refine gf_5_7 X hP h0 q1_54 dX5_turn_25 ?_
        refine lv_iload_n hx hb dX5_turn_28 rfl (lv_at hl 1 rfl) ?_
        obtain ⟨hi_14, hf⟩ := ck_s hf
        refine ga_ld X hP (iA_8 (kdW2 h0)) hi_14 dX5_turn_29 ?_
        refine lv_aload_n hx hb dX5_turn_30 rfl (lv_at hl 0 rfl) ?_
        refine gf_5_9 X hP h0 q1_64 dX5_turn_31 ?_
        refine lv_iload_n hx hb dX5_turn_34 rfl (lv_at hl 1 rfl) ?_
        obtain ⟨hi_15, hf⟩ := ck_s hf
        refine ga_ld X hP (iA_8 (kdW4 h0)) hi_15 dX5_turn_35 ?_
        obtain ⟨r_18, M_17, hc_16, hf⟩ := cb_s hf
        refine g_goi (g_runS X (c_X5_faded l g  hc_16) s_X5_faded q2_142 ⟨Nat.le_of_ble_eq_true rfl, Nat.le_of_ble_eq_true rfl⟩ hP hS rfl hl.1 rfl (Nat.le_of_ble_eq_true rfl) ⟨Nat.le_refl _, Nat.le_refl _⟩ dX5_turn_36) hS (fun H locs hP hS => ?_)
        obtain ⟨hi_20, hf⟩ := ck_s hf
        refine ga_st X hP hS (iA_8 (kdW4 h0)) hi_20 dX5_turn_39 (fun H locs M_19 eM_19 hP hS => ?_)
        replace hf := lt_go hf eM_19
        exact b_X5_turn_40 X h0 ih x1 M_19 hf hP hS hl
def f_X5_turn (r0 : Nat) (M : Mem) : Option (Int32 × Mem) :=
  f_X5_turn_2 r0 FU (0 : Int32) M
set_option maxRecDepth 20000 in
theorem c_X5_turn (l : Launch) (g : GC) {r0 : Nat} (h0 : kd r0 = 5) {M : Mem} {out : Int32 × Mem} (hf : f_X5_turn r0 M = some out) : cI l g yX5_turn cX5_turn 4 (some .int) (rM 2 51) [.ref (gz g + r0)] M out := by
  refine g_met (by decide) (Nat.le_of_ble_eq_true rfl) ?_
  intro p e s m below meth c X hP hS ls hl
  have X : Bx p s m _ meth c RX5 cX5_turn 4 (some .int) g := X
  have hl : lv_has ls 4 [(0, .ref (gz g + r0))] := hl
  have hx := X.1
  have hb := X.2.1
  refine lv_iconst (v := (0 : Int32)) hx hb dX5_turn_0 (by decide) ?_
  refine lv_istore_n (lv' := [(1, .int (0 : Int32)), (0, .ref (gz g + r0))]) hx hb dX5_turn_1 rfl hl (by decide) rfl (fun ls hl => ?_)
  exact b_X5_turn_2 X h0 FU (0 : Int32) M _ _ _ hf hP hS (lv_sub hl [1, 0] rfl)
def f_X5_loud_4 (r0 : Nat)  : Nat → Int32 → Int32 → Mem → Option (Int32 × Mem)
  | 0, _, _, _ => none
  | n + 1, x1, x2, M =>
    if (M r0 1) ≤ x2 then
      some (x1, M)
    else
      ck x2 6 <|
      lt (x1 + (M (r0 + 4) x2.toNatClampNeg)) fun x1_3 =>
      (f_X5_loud_4 r0 n) x1_3 (x2 + (1 : Int32)) M
set_option maxRecDepth 20000 in
theorem b_X5_loud_4 {out : Int32 × Mem} (X : Bx p s m args meth c RX5 cX5_loud 3 (some .int) g)   {r0 : Nat}  (h0 : kd r0 = 5)   : ∀ (n : Nat) (x1 : Int32) (x2 : Int32) (M : Mem) (H : Heap) (locs : List Loc) (ls : Array Slot), f_X5_loud_4 r0 n x1 x2 M = some out → va_P g.1 vwCl (gW g M) H → va_S (gA g) s.heap H locs → lv_has ls 3 [(0, .ref (gz g + r0)), (1, .int x1), (2, .int x2)] → W p l e (rM 0 0) s m args below meth c H locs 0 0 (MQ below (qI g out) args s 0 0 (gA g)) (F0 m 4 ls []) := by
  have hx := X.1
  have hb := X.2.1
  intro n
  induction n with
  | zero => intro _ _ _ _ _ _ hf; cases hf
  | succ n ih =>
    intro x1 x2 M H locs ls hf hP hS hl
    rw [f_X5_loud_4] at hf
    refine lv_iload_n hx hb dX5_loud_4 rfl (lv_at hl 2 rfl) ?_
    refine lv_aload_n hx hb dX5_loud_5 rfl (lv_at hl 0 rfl) ?_
    refine gf_5_1 X hP h0 q1_34 dX5_loud_6 ?_
    refine lv_icmp_ge (tgt := 27) hx hb dX5_loud_9 (by decide) (fun h_1 => ?_) (fun h_1 => ?_)
    · replace hf := it_t hf h_1
      refine lv_iload_n hx hb dX5_loud_27 rfl (lv_at hl 1 rfl) ?_
      exact g_iret X hP hS (sm_i hf) dX5_loud_28
    · replace hf := it_f hf h_1
      refine lv_iload_n hx hb dX5_loud_12 rfl (lv_at hl 1 rfl) ?_
      refine lv_aload_n hx hb dX5_loud_13 rfl (lv_at hl 0 rfl) ?_
      refine gf_5_9 X hP h0 q1_64 dX5_loud_14 ?_
      refine lv_iload_n hx hb dX5_loud_17 rfl (lv_at hl 2 rfl) ?_
      obtain ⟨hi_2, hf⟩ := ck_s hf
      refine ga_ld X hP (iA_8 (kdW4 h0)) hi_2 dX5_loud_18 ?_
      refine lv_iadd hx hb dX5_loud_19 ?_
      refine lv_topi (fun x1_3 ex1_3 => ?_)
      replace hf := lt_go hf ex1_3
      refine lv_istore_n (lv' := [(1, .int x1_3), (0, .ref (gz g + r0)), (2, .int x2)]) hx hb dX5_loud_20 rfl hl (by decide) rfl (fun ls hl => ?_)
      refine lv_iinc (v := (x2 + (1 : Int32))) (lv' := [(2, .int (x2 + (1 : Int32))), (1, .int x1_3), (0, .ref (gz g + r0))]) hx hb dX5_loud_21 hl (k := 2) rfl rfl (by decide) rfl (fun ls hl => ?_)
      refine lv_goto (tgt := 4) hx hb dX5_loud_24 (by decide) ?_
      exact ih x1_3 (x2 + (1 : Int32)) M _ _ _ hf hP hS (lv_sub hl [2, 1, 0] rfl)
def f_X5_loud (r0 : Nat) (M : Mem) : Option (Int32 × Mem) :=
  f_X5_loud_4 r0 FU (0 : Int32) (0 : Int32) M
set_option maxRecDepth 20000 in
theorem c_X5_loud (l : Launch) (g : GC) {r0 : Nat} (h0 : kd r0 = 5) {M : Mem} {out : Int32 × Mem} (hf : f_X5_loud r0 M = some out) : cI l g yX5_loud cX5_loud 3 (some .int) (rM 0 0) [.ref (gz g + r0)] M out := by
  refine g_met (by decide) (Nat.le_of_ble_eq_true rfl) ?_
  intro p e s m below meth c X hP hS ls hl
  have X : Bx p s m _ meth c RX5 cX5_loud 3 (some .int) g := X
  have hl : lv_has ls 3 [(0, .ref (gz g + r0))] := hl
  have hx := X.1
  have hb := X.2.1
  refine lv_iconst (v := (0 : Int32)) hx hb dX5_loud_0 (by decide) ?_
  refine lv_istore_n (lv' := [(1, .int (0 : Int32)), (0, .ref (gz g + r0))]) hx hb dX5_loud_1 rfl hl (by decide) rfl (fun ls hl => ?_)
  refine lv_iconst (v := (0 : Int32)) hx hb dX5_loud_2 (by decide) ?_
  refine lv_istore_n (lv' := [(2, .int (0 : Int32)), (1, .int (0 : Int32)), (0, .ref (gz g + r0))]) hx hb dX5_loud_3 rfl hl (by decide) rfl (fun ls hl => ?_)
  exact b_X5_loud_4 X h0 FU (0 : Int32) (0 : Int32) M _ _ _ hf hP hS (lv_sub hl [2, 1, 0] rfl)
def f_X5_windBy (r0 : Nat) (x1 : Int32) (M : Mem) : Option Mem :=
  lt (up2 M r0 2 (if ((M r0 2) + x1) < (99 : Int32) then ((M r0 2) + x1) else (99 : Int32))) fun M_1 =>
  some M_1
set_option maxRecDepth 20000 in
theorem c_X5_windBy (l : Launch) (g : GC) {r0 : Nat} {x1 : Int32} (h0 : kd r0 = 5) {M : Mem} {out : Mem} (hf : f_X5_windBy r0 x1 M = some out) : cV l g yX5_windBy cX5_windBy 2 (rM 1 30) [.ref (gz g + r0), .int x1] M out := by
  refine g_met (by decide) (Nat.le_of_ble_eq_true rfl) ?_
  intro p e s m below meth c X hP hS ls hl
  have X : Bx p s m _ meth c RX5 cX5_windBy 2 none g := X
  have hl : lv_has ls 2 [(0, .ref (gz g + r0)), (1, .int x1)] := hl
  have hx := X.1
  have hb := X.2.1
  refine lv_aload_n hx hb dX5_windBy_0 rfl (lv_at hl 0 rfl) ?_
  refine lv_bipush (v := (99 : Int32)) hx hb dX5_windBy_1 (by decide) ?_
  refine lv_aload_n hx hb dX5_windBy_3 rfl (lv_at hl 0 rfl) ?_
  refine gf_5_2 X hP h0 q1_38 dX5_windBy_4 ?_
  refine lv_iload_n hx hb dX5_windBy_7 rfl (lv_at hl 1 rfl) ?_
  refine lv_iadd hx hb dX5_windBy_8 ?_
  refine va_mmin hx hb (by rw [X.2.2.1, hl.1]) X.2.2.2.1 (X.2.2.2.2.1 _ q2_156) (X.2.2.2.2.1 _ q2_136) (X.2.2.2.2.1 _ q1_11) (X.2.2.2.2.1 _ q2_137) (Nat.le_of_ble_eq_true rfl) (Nat.le_of_ble_eq_true rfl) (Nat.le_refl _) (Nat.le_refl _) dX5_windBy_9 ?_
  refine gp_5_2 X hP hS h0 q1_38 dX5_windBy_12 (fun H locs M_1 eM_1 hP hS => ?_)
  replace hf := lt_go hf eM_1
  exact g_vret X hP hS (sm_i hf) dX5_windBy_15
def f_X5_togglePin (r0 : Nat) (x1 : Int32) (x2 : Int32) (M : Mem) : Option Mem :=
  ck x1 12 <|
  ck x1 12 <|
  lt (up2 M (r0 + 1) x1.toNatClampNeg ((M (r0 + 1) x1.toNatClampNeg) ^^^ ((1 : Int32) <<< (x2 &&& 31)))) fun M_2 =>
  some M_2
set_option maxRecDepth 20000 in
theorem c_X5_togglePin (l : Launch) (g : GC) {r0 : Nat} {x1 : Int32} {x2 : Int32} (h0 : kd r0 = 5) {M : Mem} {out : Mem} (hf : f_X5_togglePin r0 x1 x2 M = some out) : cV l g yX5_togglePin cX5_togglePin 3 (rM 0 0) [.ref (gz g + r0), .int x1, .int x2] M out := by
  refine g_met (by decide) (Nat.le_of_ble_eq_true rfl) ?_
  intro p e s m below meth c X hP hS ls hl
  have X : Bx p s m _ meth c RX5 cX5_togglePin 3 none g := X
  have hl : lv_has ls 3 [(0, .ref (gz g + r0)), (1, .int x1), (2, .int x2)] := hl
  have hx := X.1
  have hb := X.2.1
  refine lv_aload_n hx hb dX5_togglePin_0 rfl (lv_at hl 0 rfl) ?_
  refine gf_5_6 X hP h0 q1_50 dX5_togglePin_1 ?_
  refine lv_iload_n hx hb dX5_togglePin_4 rfl (lv_at hl 1 rfl) ?_
  refine lv_dup2_11 hx hb dX5_togglePin_5 rfl rfl ?_
  obtain ⟨hi_1, hf⟩ := ck_s hf
  refine ga_ld X hP (iA_9 (kdW1 h0)) hi_1 dX5_togglePin_6 ?_
  refine lv_iconst (v := (1 : Int32)) hx hb dX5_togglePin_7 (by decide) ?_
  refine lv_iload_n hx hb dX5_togglePin_8 rfl (lv_at hl 2 rfl) ?_
  refine lv_ishl hx hb dX5_togglePin_9 ?_
  refine lv_ixor hx hb dX5_togglePin_10 ?_
  obtain ⟨hi_3, hf⟩ := ck_s hf
  refine ga_st X hP hS (iA_9 (kdW1 h0)) hi_3 dX5_togglePin_11 (fun H locs M_2 eM_2 hP hS => ?_)
  replace hf := lt_go hf eM_2
  exact g_vret X hP hS (sm_i hf) dX5_togglePin_12
def f_X5_isBroken (r0 : Nat) (x1 : Int32) (M : Mem) : Option (Int32 × Mem) :=
  if (((M r0 5) >>> (x1 &&& 31)) &&& (1 : Int32)) = (1 : Int32) then
    some ((1 : Int32), M)
  else
    some ((0 : Int32), M)
set_option maxRecDepth 20000 in
theorem c_X5_isBroken (l : Launch) (g : GC) {r0 : Nat} {x1 : Int32} (h0 : kd r0 = 5) {M : Mem} {out : Int32 × Mem} (hf : f_X5_isBroken r0 x1 M = some out) : cI l g yX5_isBroken cX5_isBroken 2 (some .boolean) (rM 0 0) [.ref (gz g + r0), .int x1] M out := by
  refine g_met (by decide) (Nat.le_of_ble_eq_true rfl) ?_
  intro p e s m below meth c X hP hS ls hl
  have X : Bx p s m _ meth c RX5 cX5_isBroken 2 (some .boolean) g := X
  have hl : lv_has ls 2 [(0, .ref (gz g + r0)), (1, .int x1)] := hl
  have hx := X.1
  have hb := X.2.1
  refine lv_aload_n hx hb dX5_isBroken_0 rfl (lv_at hl 0 rfl) ?_
  refine gf_5_5 X hP h0 q1_48 dX5_isBroken_1 ?_
  refine lv_iload_n hx hb dX5_isBroken_4 rfl (lv_at hl 1 rfl) ?_
  refine lv_ishr hx hb dX5_isBroken_5 ?_
  refine lv_iconst (v := (1 : Int32)) hx hb dX5_isBroken_6 (by decide) ?_
  refine lv_iand hx hb dX5_isBroken_7 ?_
  refine lv_iconst (v := (1 : Int32)) hx hb dX5_isBroken_8 (by decide) ?_
  refine lv_icmp_ne (tgt := 16) hx hb dX5_isBroken_9 (by decide) (fun h_1 => ?_) (fun h_1 => ?_)
  · replace hf := it_f hf h_1
    refine lv_iconst (v := (0 : Int32)) hx hb dX5_isBroken_16 (by decide) ?_
    exact g_zret X hP hS rfl (sm_i hf) dX5_isBroken_17
  · replace hf := it_t hf h_1
    refine lv_iconst (v := (1 : Int32)) hx hb dX5_isBroken_12 (by decide) ?_
    refine lv_goto (tgt := 17) hx hb dX5_isBroken_13 (by decide) ?_
    exact g_zret X hP hS rfl (sm_i hf) dX5_isBroken_17
def f_X5_makeWhole (r0 : Nat) (x1 : Int32) (M : Mem) : Option Mem :=
  lt (up2 M r0 5 ((M r0 5) &&& (((1 : Int32) <<< (x1 &&& 31)) ^^^ (-1 : Int32)))) fun M_1 =>
  ck x1 6 <|
  lt (up2 M_1 (r0 + 5) x1.toNatClampNeg (0 : Int32)) fun M_2 =>
  ck x1 6 <|
  lt (up2 M_2 (r0 + 4) x1.toNatClampNeg (0 : Int32)) fun M_4 =>
  some M_4
set_option maxRecDepth 20000 in
theorem c_X5_makeWhole (l : Launch) (g : GC) {r0 : Nat} {x1 : Int32} (h0 : kd r0 = 5) {M : Mem} {out : Mem} (hf : f_X5_makeWhole r0 x1 M = some out) : cV l g yX5_makeWhole cX5_makeWhole 2 (rM 0 0) [.ref (gz g + r0), .int x1] M out := by
  refine g_met (by decide) (Nat.le_of_ble_eq_true rfl) ?_
  intro p e s m below meth c X hP hS ls hl
  have X : Bx p s m _ meth c RX5 cX5_makeWhole 2 none g := X
  have hl : lv_has ls 2 [(0, .ref (gz g + r0)), (1, .int x1)] := hl
  have hx := X.1
  have hb := X.2.1
  refine lv_aload_n hx hb dX5_makeWhole_0 rfl (lv_at hl 0 rfl) ?_
  refine lv_dup hx hb dX5_makeWhole_1 rfl ?_
  refine gf_5_5 X hP h0 q1_48 dX5_makeWhole_2 ?_
  refine lv_iconst (v := (1 : Int32)) hx hb dX5_makeWhole_5 (by decide) ?_
  refine lv_iload_n hx hb dX5_makeWhole_6 rfl (lv_at hl 1 rfl) ?_
  refine lv_ishl hx hb dX5_makeWhole_7 ?_
  refine lv_iconst (v := (-1 : Int32)) hx hb dX5_makeWhole_8 (by decide) ?_
  refine lv_ixor hx hb dX5_makeWhole_9 ?_
  refine lv_iand hx hb dX5_makeWhole_10 ?_
  refine gp_5_5 X hP hS h0 q1_48 dX5_makeWhole_11 (fun H locs M_1 eM_1 hP hS => ?_)
  replace hf := lt_go hf eM_1
  refine lv_aload_n hx hb dX5_makeWhole_14 rfl (lv_at hl 0 rfl) ?_
  refine gf_5_10 X hP h0 q1_68 dX5_makeWhole_15 ?_
  refine lv_iload_n hx hb dX5_makeWhole_18 rfl (lv_at hl 1 rfl) ?_
  refine lv_iconst (v := (0 : Int32)) hx hb dX5_makeWhole_19 (by decide) ?_
  obtain ⟨hi_3, hf⟩ := ck_s hf
  refine ga_st X hP hS (iA_8 (kdW5 h0)) hi_3 dX5_makeWhole_20 (fun H locs M_2 eM_2 hP hS => ?_)
  replace hf := lt_go hf eM_2
  refine lv_aload_n hx hb dX5_makeWhole_21 rfl (lv_at hl 0 rfl) ?_
  refine gf_5_9 X hP h0 q1_64 dX5_makeWhole_22 ?_
  refine lv_iload_n hx hb dX5_makeWhole_25 rfl (lv_at hl 1 rfl) ?_
  refine lv_iconst (v := (0 : Int32)) hx hb dX5_makeWhole_26 (by decide) ?_
  obtain ⟨hi_5, hf⟩ := ck_s hf
  refine ga_st X hP hS (iA_8 (kdW4 h0)) hi_5 dX5_makeWhole_27 (fun H locs M_4 eM_4 hP hS => ?_)
  replace hf := lt_go hf eM_4
  exact g_vret X hP hS (sm_i hf) dX5_makeWhole_28
def f_X5_columnsOf_4 (r0 : Nat) (x1 : Int32)  : Nat → Int32 → Int32 → Mem → Option (Int32 × Mem)
  | 0, _, _, _ => none
  | n + 1, x2, x3, M =>
    if (M r0 0) ≤ x3 then
      some (x2, M)
    else
      ck x3 12 <|
      lt (x2 ||| ((((M (r0 + 1) x3.toNatClampNeg) >>> (x1 &&& 31)) &&& (1 : Int32)) <<< (x3 &&& 31))) fun x2_3 =>
      (f_X5_columnsOf_4 r0 x1 n) x2_3 (x3 + (1 : Int32)) M
set_option maxRecDepth 20000 in
theorem b_X5_columnsOf_4 {out : Int32 × Mem} (X : Bx p s m args meth c RX5 cX5_columnsOf 4 (some .int) g)   {r0 : Nat} {x1 : Int32}  (h0 : kd r0 = 5)   : ∀ (n : Nat) (x2 : Int32) (x3 : Int32) (M : Mem) (H : Heap) (locs : List Loc) (ls : Array Slot), f_X5_columnsOf_4 r0 x1 n x2 x3 M = some out → va_P g.1 vwCl (gW g M) H → va_S (gA g) s.heap H locs → lv_has ls 4 [(0, .ref (gz g + r0)), (1, .int x1), (2, .int x2), (3, .int x3)] → W p l e (rM 0 0) s m args below meth c H locs 0 0 (MQ below (qI g out) args s 0 0 (gA g)) (F0 m 4 ls []) := by
  have hx := X.1
  have hb := X.2.1
  intro n
  induction n with
  | zero => intro _ _ _ _ _ _ hf; cases hf
  | succ n ih =>
    intro x2 x3 M H locs ls hf hP hS hl
    rw [f_X5_columnsOf_4] at hf
    refine lv_iload_n hx hb dX5_columnsOf_4 rfl (lv_at hl 3 rfl) ?_
    refine lv_aload_n hx hb dX5_columnsOf_5 rfl (lv_at hl 0 rfl) ?_
    refine gf_5_0 X hP h0 q1_30 dX5_columnsOf_6 ?_
    refine lv_icmp_ge (tgt := 33) hx hb dX5_columnsOf_9 (by decide) (fun h_1 => ?_) (fun h_1 => ?_)
    · replace hf := it_t hf h_1
      refine lv_iload_n hx hb dX5_columnsOf_33 rfl (lv_at hl 2 rfl) ?_
      exact g_iret X hP hS (sm_i hf) dX5_columnsOf_34
    · replace hf := it_f hf h_1
      refine lv_iload_n hx hb dX5_columnsOf_12 rfl (lv_at hl 2 rfl) ?_
      refine lv_aload_n hx hb dX5_columnsOf_13 rfl (lv_at hl 0 rfl) ?_
      refine gf_5_6 X hP h0 q1_50 dX5_columnsOf_14 ?_
      refine lv_iload_n hx hb dX5_columnsOf_17 rfl (lv_at hl 3 rfl) ?_
      obtain ⟨hi_2, hf⟩ := ck_s hf
      refine ga_ld X hP (iA_9 (kdW1 h0)) hi_2 dX5_columnsOf_18 ?_
      refine lv_iload_n hx hb dX5_columnsOf_19 rfl (lv_at hl 1 rfl) ?_
      refine lv_ishr hx hb dX5_columnsOf_20 ?_
      refine lv_iconst (v := (1 : Int32)) hx hb dX5_columnsOf_21 (by decide) ?_
      refine lv_iand hx hb dX5_columnsOf_22 ?_
      refine lv_iload_n hx hb dX5_columnsOf_23 rfl (lv_at hl 3 rfl) ?_
      refine lv_ishl hx hb dX5_columnsOf_24 ?_
      refine lv_ior hx hb dX5_columnsOf_25 ?_
      refine lv_topi (fun x2_3 ex2_3 => ?_)
      replace hf := lt_go hf ex2_3
      refine lv_istore_n (lv' := [(2, .int x2_3), (0, .ref (gz g + r0)), (1, .int x1), (3, .int x3)]) hx hb dX5_columnsOf_26 rfl hl (by decide) rfl (fun ls hl => ?_)
      refine lv_iinc (v := (x3 + (1 : Int32))) (lv' := [(3, .int (x3 + (1 : Int32))), (2, .int x2_3), (0, .ref (gz g + r0)), (1, .int x1)]) hx hb dX5_columnsOf_27 hl (k := 3) rfl rfl (by decide) rfl (fun ls hl => ?_)
      refine lv_goto (tgt := 4) hx hb dX5_columnsOf_30 (by decide) ?_
      exact ih x2_3 (x3 + (1 : Int32)) M _ _ _ hf hP hS (lv_sub hl [2, 3, 1, 0] rfl)
def f_X5_columnsOf (r0 : Nat) (x1 : Int32) (M : Mem) : Option (Int32 × Mem) :=
  f_X5_columnsOf_4 r0 x1 FU (0 : Int32) (0 : Int32) M
set_option maxRecDepth 20000 in
theorem c_X5_columnsOf (l : Launch) (g : GC) {r0 : Nat} {x1 : Int32} (h0 : kd r0 = 5) {M : Mem} {out : Int32 × Mem} (hf : f_X5_columnsOf r0 x1 M = some out) : cI l g yX5_columnsOf cX5_columnsOf 4 (some .int) (rM 0 0) [.ref (gz g + r0), .int x1] M out := by
  refine g_met (by decide) (Nat.le_of_ble_eq_true rfl) ?_
  intro p e s m below meth c X hP hS ls hl
  have X : Bx p s m _ meth c RX5 cX5_columnsOf 4 (some .int) g := X
  have hl : lv_has ls 4 [(0, .ref (gz g + r0)), (1, .int x1)] := hl
  have hx := X.1
  have hb := X.2.1
  refine lv_iconst (v := (0 : Int32)) hx hb dX5_columnsOf_0 (by decide) ?_
  refine lv_istore_n (lv' := [(2, .int (0 : Int32)), (0, .ref (gz g + r0)), (1, .int x1)]) hx hb dX5_columnsOf_1 rfl hl (by decide) rfl (fun ls hl => ?_)
  refine lv_iconst (v := (0 : Int32)) hx hb dX5_columnsOf_2 (by decide) ?_
  refine lv_istore_n (lv' := [(3, .int (0 : Int32)), (2, .int (0 : Int32)), (0, .ref (gz g + r0)), (1, .int x1)]) hx hb dX5_columnsOf_3 rfl hl (by decide) rfl (fun ls hl => ?_)
  exact b_X5_columnsOf_4 X h0 FU (0 : Int32) (0 : Int32) M _ _ _ hf hP hS (lv_sub hl [2, 3, 1, 0] rfl)
def f_X5_ringing_27 (r0 : Nat) (k4 : Int32 → Int32 → Mem → Option (Int32 × Mem)) (x1 : Int32) (x2 : Int32) (M : Mem) : Option (Int32 × Mem) :=
  k4 x1 (x2 + (1 : Int32)) M
set_option maxRecDepth 20000 in
theorem b_X5_ringing_27 {out : Int32 × Mem} (X : Bx p s m args meth c RX5 cX5_ringing 3 (some .int) g)   {r0 : Nat}  (h0 : kd r0 = 5) {k4 : Int32 → Int32 → Mem → Option (Int32 × Mem)} (hk4 : ∀ (x1 : Int32) (x2 : Int32) (M : Mem) (H : Heap) (locs : List Loc) (ls : Array Slot), k4 x1 x2 M = some out → va_P g.1 vwCl (gW g M) H → va_S (gA g) s.heap H locs → lv_has ls 3 [(0, .ref (gz g + r0)), (1, .int x1), (2, .int x2)] → W p l e (rM 0 0) s m args below meth c H locs 0 0 (MQ below (qI g out) args s 0 0 (gA g)) (F0 m 4 ls [])) (x1 : Int32) (x2 : Int32) (M : Mem) {H : Heap} {locs : List Loc} {ls : Array Slot} (hf : f_X5_ringing_27 r0 k4 x1 x2 M = some out) (hP : va_P g.1 vwCl (gW g M) H) (hS : va_S (gA g) s.heap H locs) (hl : lv_has ls 3 [(0, .ref (gz g + r0)), (1, .int x1), (2, .int x2)]) : W p l e (rM 0 0) s m args below meth c H locs 0 0 (MQ below (qI g out) args s 0 0 (gA g)) (F0 m 27 ls []) := by
  have hx := X.1
  have hb := X.2.1
  refine lv_iinc (v := (x2 + (1 : Int32))) (lv' := [(2, .int (x2 + (1 : Int32))), (0, .ref (gz g + r0)), (1, .int x1)]) hx hb dX5_ringing_27 hl (k := 2) rfl rfl (by decide) rfl (fun ls hl => ?_)
  refine lv_goto (tgt := 4) hx hb dX5_ringing_30 (by decide) ?_
  exact hk4 x1 (x2 + (1 : Int32)) M _ _ _ hf hP hS (lv_sub hl [1, 2, 0] rfl)
def f_X5_ringing_4 (r0 : Nat)  : Nat → Int32 → Int32 → Mem → Option (Int32 × Mem)
  | 0, _, _, _ => none
  | n + 1, x1, x2, M =>
    if (M r0 1) ≤ x2 then
      some (x1, M)
    else
      ck x2 6 <|
      if (M (r0 + 4) x2.toNatClampNeg) ≤ 0 then
        f_X5_ringing_27 r0 (f_X5_ringing_4 r0 n) x1 x2 M
      else
        lt (x1 ||| ((1 : Int32) <<< (x2 &&& 31))) fun x1_4 =>
        f_X5_ringing_27 r0 (f_X5_ringing_4 r0 n) x1_4 x2 M
set_option maxRecDepth 20000 in
theorem b_X5_ringing_4 {out : Int32 × Mem} (X : Bx p s m args meth c RX5 cX5_ringing 3 (some .int) g)   {r0 : Nat}  (h0 : kd r0 = 5)   : ∀ (n : Nat) (x1 : Int32) (x2 : Int32) (M : Mem) (H : Heap) (locs : List Loc) (ls : Array Slot), f_X5_ringing_4 r0 n x1 x2 M = some out → va_P g.1 vwCl (gW g M) H → va_S (gA g) s.heap H locs → lv_has ls 3 [(0, .ref (gz g + r0)), (1, .int x1), (2, .int x2)] → W p l e (rM 0 0) s m args below meth c H locs 0 0 (MQ below (qI g out) args s 0 0 (gA g)) (F0 m 4 ls []) := by
  have hx := X.1
  have hb := X.2.1
  intro n
  induction n with
  | zero => intro _ _ _ _ _ _ hf; cases hf
  | succ n ih =>
    intro x1 x2 M H locs ls hf hP hS hl
    rw [f_X5_ringing_4] at hf
    refine lv_iload_n hx hb dX5_ringing_4 rfl (lv_at hl 2 rfl) ?_
    refine lv_aload_n hx hb dX5_ringing_5 rfl (lv_at hl 0 rfl) ?_
    refine gf_5_1 X hP h0 q1_34 dX5_ringing_6 ?_
    refine lv_icmp_ge (tgt := 33) hx hb dX5_ringing_9 (by decide) (fun h_1 => ?_) (fun h_1 => ?_)
    · replace hf := it_t hf h_1
      refine lv_iload_n hx hb dX5_ringing_33 rfl (lv_at hl 1 rfl) ?_
      exact g_iret X hP hS (sm_i hf) dX5_ringing_34
    · replace hf := it_f hf h_1
      refine lv_aload_n hx hb dX5_ringing_12 rfl (lv_at hl 0 rfl) ?_
      refine gf_5_9 X hP h0 q1_64 dX5_ringing_13 ?_
      refine lv_iload_n hx hb dX5_ringing_16 rfl (lv_at hl 2 rfl) ?_
      obtain ⟨hi_2, hf⟩ := ck_s hf
      refine ga_ld X hP (iA_8 (kdW4 h0)) hi_2 dX5_ringing_17 ?_
      refine lv_if_le (tgt := 27) hx hb dX5_ringing_18 (by decide) (fun h_3 => ?_) (fun h_3 => ?_)
      · replace hf := it_t hf h_3
        exact b_X5_ringing_27 X h0 ih x1 x2 M hf hP hS hl
      · replace hf := it_f hf h_3
        refine lv_iload_n hx hb dX5_ringing_21 rfl (lv_at hl 1 rfl) ?_
        refine lv_iconst (v := (1 : Int32)) hx hb dX5_ringing_22 (by decide) ?_
        refine lv_iload_n hx hb dX5_ringing_23 rfl (lv_at hl 2 rfl) ?_
        refine lv_ishl hx hb dX5_ringing_24 ?_
        refine lv_ior hx hb dX5_ringing_25 ?_
        refine lv_topi (fun x1_4 ex1_4 => ?_)
        replace hf := lt_go hf ex1_4
        refine lv_istore_n (lv' := [(1, .int x1_4), (0, .ref (gz g + r0)), (2, .int x2)]) hx hb dX5_ringing_26 rfl hl (by decide) rfl (fun ls hl => ?_)
        exact b_X5_ringing_27 X h0 ih x1_4 x2 M hf hP hS (lv_sub hl [1, 0, 2] rfl)
def f_X5_ringing (r0 : Nat) (M : Mem) : Option (Int32 × Mem) :=
  f_X5_ringing_4 r0 FU (0 : Int32) (0 : Int32) M
set_option maxRecDepth 20000 in
theorem c_X5_ringing (l : Launch) (g : GC) {r0 : Nat} (h0 : kd r0 = 5) {M : Mem} {out : Int32 × Mem} (hf : f_X5_ringing r0 M = some out) : cI l g yX5_ringing cX5_ringing 3 (some .int) (rM 0 0) [.ref (gz g + r0)] M out := by
  refine g_met (by decide) (Nat.le_of_ble_eq_true rfl) ?_
  intro p e s m below meth c X hP hS ls hl
  have X : Bx p s m _ meth c RX5 cX5_ringing 3 (some .int) g := X
  have hl : lv_has ls 3 [(0, .ref (gz g + r0))] := hl
  have hx := X.1
  have hb := X.2.1
  refine lv_iconst (v := (0 : Int32)) hx hb dX5_ringing_0 (by decide) ?_
  refine lv_istore_n (lv' := [(1, .int (0 : Int32)), (0, .ref (gz g + r0))]) hx hb dX5_ringing_1 rfl hl (by decide) rfl (fun ls hl => ?_)
  refine lv_iconst (v := (0 : Int32)) hx hb dX5_ringing_2 (by decide) ?_
  refine lv_istore_n (lv' := [(2, .int (0 : Int32)), (1, .int (0 : Int32)), (0, .ref (gz g + r0))]) hx hb dX5_ringing_3 rfl hl (by decide) rfl (fun ls hl => ?_)
  exact b_X5_ringing_4 X h0 FU (0 : Int32) (0 : Int32) M _ _ _ hf hP hS (lv_sub hl [2, 1, 0] rfl)
def f_X5_turnTimes_2 (r0 : Nat) (x1 : Int32)  : Nat → Int32 → Mem → Option Mem
  | 0, _, _ => none
  | n + 1, x2, M =>
    if x1 ≤ x2 then
      some M
    else
      cb (f_X5_turn r0 M) fun r_4 M_3 =>
      (f_X5_turnTimes_2 r0 x1 n) (x2 + (1 : Int32)) M_3
set_option maxRecDepth 20000 in
theorem b_X5_turnTimes_2 {out : Mem} (X : Bx p s m args meth c RX5 cX5_turnTimes 3 none g)   {r0 : Nat} {x1 : Int32}  (h0 : kd r0 = 5)   : ∀ (n : Nat) (x2 : Int32) (M : Mem) (H : Heap) (locs : List Loc) (ls : Array Slot), f_X5_turnTimes_2 r0 x1 n x2 M = some out → va_P g.1 vwCl (gW g M) H → va_S (gA g) s.heap H locs → lv_has ls 3 [(0, .ref (gz g + r0)), (1, .int x1), (2, .int x2)] → W p l e (rM 3 74) s m args below meth c H locs 0 0 (MQ below (qV g out) args s 0 0 (gA g)) (F0 m 2 ls []) := by
  have hx := X.1
  have hb := X.2.1
  intro n
  induction n with
  | zero => intro _ _ _ _ _ hf; cases hf
  | succ n ih =>
    intro x2 M H locs ls hf hP hS hl
    rw [f_X5_turnTimes_2] at hf
    refine lv_iload_n hx hb dX5_turnTimes_2 rfl (lv_at hl 2 rfl) ?_
    refine lv_iload_n hx hb dX5_turnTimes_3 rfl (lv_at hl 1 rfl) ?_
    refine lv_icmp_ge (tgt := 18) hx hb dX5_turnTimes_4 (by decide) (fun h_1 => ?_) (fun h_1 => ?_)
    · replace hf := it_t hf h_1
      exact g_vret X hP hS (sm_i hf) dX5_turnTimes_18
    · replace hf := it_f hf h_1
      refine lv_aload_n hx hb dX5_turnTimes_7 rfl (lv_at hl 0 rfl) ?_
      obtain ⟨r_4, M_3, hc_2, hf⟩ := cb_s hf
      refine g_goi (g_run X (c_X5_turn l g h0 hc_2) s_X5_turn (oB_5 h0) q3_2 ⟨Nat.le_of_ble_eq_true rfl, Nat.le_of_ble_eq_true rfl⟩ hP hS rfl hl.1 rfl (Nat.le_of_ble_eq_true rfl) ⟨Nat.le_refl _, Nat.le_refl _⟩ dX5_turnTimes_8) hS (fun H locs hP hS => ?_)
      refine lv_pop hx hb dX5_turnTimes_11 rfl ?_
      refine lv_iinc (v := (x2 + (1 : Int32))) (lv' := [(2, .int (x2 + (1 : Int32))), (0, .ref (gz g + r0)), (1, .int x1)]) hx hb dX5_turnTimes_12 hl (k := 2) rfl rfl (by decide) rfl (fun ls hl => ?_)
      refine lv_goto (tgt := 2) hx hb dX5_turnTimes_15 (by decide) ?_
      exact ih (x2 + (1 : Int32)) M_3 _ _ _ hf hP hS (lv_sub hl [1, 2, 0] rfl)
def f_X5_turnTimes (r0 : Nat) (x1 : Int32) (M : Mem) : Option Mem :=
  f_X5_turnTimes_2 r0 x1 FU (0 : Int32) M
set_option maxRecDepth 20000 in
theorem c_X5_turnTimes (l : Launch) (g : GC) {r0 : Nat} {x1 : Int32} (h0 : kd r0 = 5) {M : Mem} {out : Mem} (hf : f_X5_turnTimes r0 x1 M = some out) : cV l g yX5_turnTimes cX5_turnTimes 3 (rM 3 74) [.ref (gz g + r0), .int x1] M out := by
  refine g_met (by decide) (Nat.le_of_ble_eq_true rfl) ?_
  intro p e s m below meth c X hP hS ls hl
  have X : Bx p s m _ meth c RX5 cX5_turnTimes 3 none g := X
  have hl : lv_has ls 3 [(0, .ref (gz g + r0)), (1, .int x1)] := hl
  have hx := X.1
  have hb := X.2.1
  refine lv_iconst (v := (0 : Int32)) hx hb dX5_turnTimes_0 (by decide) ?_
  refine lv_istore_n (lv' := [(2, .int (0 : Int32)), (0, .ref (gz g + r0)), (1, .int x1)]) hx hb dX5_turnTimes_1 rfl hl (by decide) rfl (fun ls hl => ?_)
  exact b_X5_turnTimes_2 X h0 FU (0 : Int32) M _ _ _ hf hP hS (lv_sub hl [1, 2, 0] rfl)
def f_X5_loudOver_4 (r0 : Nat) (x1 : Int32)  : Nat → Int32 → Int32 → Mem → Option (Int32 × Mem)
  | 0, _, _, _ => none
  | n + 1, x2, x3, M =>
    if x1 ≤ x3 then
      some (x2, M)
    else
      cb (f_X5_turn r0 M) fun r_4 M_3 =>
      cb (f_X5_loud r0 M_3) fun r_7 M_6 =>
      lt (x2 + r_7) fun x2_8 =>
      (f_X5_loudOver_4 r0 x1 n) x2_8 (x3 + (1 : Int32)) M_6
set_option maxRecDepth 20000 in
theorem b_X5_loudOver_4 {out : Int32 × Mem} (X : Bx p s m args meth c RX5 cX5_loudOver 4 (some .int) g)   {r0 : Nat} {x1 : Int32}  (h0 : kd r0 = 5)   : ∀ (n : Nat) (x2 : Int32) (x3 : Int32) (M : Mem) (H : Heap) (locs : List Loc) (ls : Array Slot), f_X5_loudOver_4 r0 x1 n x2 x3 M = some out → va_P g.1 vwCl (gW g M) H → va_S (gA g) s.heap H locs → lv_has ls 4 [(0, .ref (gz g + r0)), (1, .int x1), (2, .int x2), (3, .int x3)] → W p l e (rM 3 74) s m args below meth c H locs 0 0 (MQ below (qI g out) args s 0 0 (gA g)) (F0 m 4 ls []) := by
  have hx := X.1
  have hb := X.2.1
  intro n
  induction n with
  | zero => intro _ _ _ _ _ _ hf; cases hf
  | succ n ih =>
    intro x2 x3 M H locs ls hf hP hS hl
    rw [f_X5_loudOver_4] at hf
    refine lv_iload_n hx hb dX5_loudOver_4 rfl (lv_at hl 3 rfl) ?_
    refine lv_iload_n hx hb dX5_loudOver_5 rfl (lv_at hl 1 rfl) ?_
    refine lv_icmp_ge (tgt := 27) hx hb dX5_loudOver_6 (by decide) (fun h_1 => ?_) (fun h_1 => ?_)
    · replace hf := it_t hf h_1
      refine lv_iload_n hx hb dX5_loudOver_27 rfl (lv_at hl 2 rfl) ?_
      exact g_iret X hP hS (sm_i hf) dX5_loudOver_28
    · replace hf := it_f hf h_1
      refine lv_aload_n hx hb dX5_loudOver_9 rfl (lv_at hl 0 rfl) ?_
      obtain ⟨r_4, M_3, hc_2, hf⟩ := cb_s hf
      refine g_goi (g_run X (c_X5_turn l g h0 hc_2) s_X5_turn (oB_5 h0) q3_2 ⟨Nat.le_of_ble_eq_true rfl, Nat.le_of_ble_eq_true rfl⟩ hP hS rfl hl.1 rfl (Nat.le_of_ble_eq_true rfl) ⟨Nat.le_refl _, Nat.le_refl _⟩ dX5_loudOver_10) hS (fun H locs hP hS => ?_)
      refine lv_pop hx hb dX5_loudOver_13 rfl ?_
      refine lv_iload_n hx hb dX5_loudOver_14 rfl (lv_at hl 2 rfl) ?_
      refine lv_aload_n hx hb dX5_loudOver_15 rfl (lv_at hl 0 rfl) ?_
      obtain ⟨r_7, M_6, hc_5, hf⟩ := cb_s hf
      refine g_goi (g_run X (c_X5_loud l g h0 hc_5) s_X5_loud (oB_5 h0) q3_45 ⟨Nat.le_of_ble_eq_true rfl, Nat.le_of_ble_eq_true rfl⟩ hP hS rfl hl.1 rfl (Nat.le_of_ble_eq_true rfl) ⟨Nat.le_refl _, Nat.le_refl _⟩ dX5_loudOver_16) hS (fun H locs hP hS => ?_)
      refine lv_iadd hx hb dX5_loudOver_19 ?_
      refine lv_topi (fun x2_8 ex2_8 => ?_)
      replace hf := lt_go hf ex2_8
      refine lv_istore_n (lv' := [(2, .int x2_8), (0, .ref (gz g + r0)), (1, .int x1), (3, .int x3)]) hx hb dX5_loudOver_20 rfl hl (by decide) rfl (fun ls hl => ?_)
      refine lv_iinc (v := (x3 + (1 : Int32))) (lv' := [(3, .int (x3 + (1 : Int32))), (2, .int x2_8), (0, .ref (gz g + r0)), (1, .int x1)]) hx hb dX5_loudOver_21 hl (k := 3) rfl rfl (by decide) rfl (fun ls hl => ?_)
      refine lv_goto (tgt := 4) hx hb dX5_loudOver_24 (by decide) ?_
      exact ih x2_8 (x3 + (1 : Int32)) M_6 _ _ _ hf hP hS (lv_sub hl [2, 3, 1, 0] rfl)
def f_X5_loudOver (r0 : Nat) (x1 : Int32) (M : Mem) : Option (Int32 × Mem) :=
  f_X5_loudOver_4 r0 x1 FU (0 : Int32) (0 : Int32) M
set_option maxRecDepth 20000 in
theorem c_X5_loudOver (l : Launch) (g : GC) {r0 : Nat} {x1 : Int32} (h0 : kd r0 = 5) {M : Mem} {out : Int32 × Mem} (hf : f_X5_loudOver r0 x1 M = some out) : cI l g yX5_loudOver cX5_loudOver 4 (some .int) (rM 3 74) [.ref (gz g + r0), .int x1] M out := by
  refine g_met (by decide) (Nat.le_of_ble_eq_true rfl) ?_
  intro p e s m below meth c X hP hS ls hl
  have X : Bx p s m _ meth c RX5 cX5_loudOver 4 (some .int) g := X
  have hl : lv_has ls 4 [(0, .ref (gz g + r0)), (1, .int x1)] := hl
  have hx := X.1
  have hb := X.2.1
  refine lv_iconst (v := (0 : Int32)) hx hb dX5_loudOver_0 (by decide) ?_
  refine lv_istore_n (lv' := [(2, .int (0 : Int32)), (0, .ref (gz g + r0)), (1, .int x1)]) hx hb dX5_loudOver_1 rfl hl (by decide) rfl (fun ls hl => ?_)
  refine lv_iconst (v := (0 : Int32)) hx hb dX5_loudOver_2 (by decide) ?_
  refine lv_istore_n (lv' := [(3, .int (0 : Int32)), (2, .int (0 : Int32)), (0, .ref (gz g + r0)), (1, .int x1)]) hx hb dX5_loudOver_3 rfl hl (by decide) rfl (fun ls hl => ?_)
  exact b_X5_loudOver_4 X h0 FU (0 : Int32) (0 : Int32) M _ _ _ hf hP hS (lv_sub hl [2, 3, 1, 0] rfl)
def f_X5_comesTo (r0 : Nat) (x1 : Int32) (M : Mem) : Option (Int32 × Mem) :=
  if (M r0 2) ≤ 0 then
    some ((0 : Int32), M)
  else
    cb (f_X5_columnBehind r0 M) fun r_4 M_3 =>
    if ((x1 >>> (r_4 &&& 31)) &&& (1 : Int32)) = (1 : Int32) then
      some ((1 : Int32), M_3)
    else
      some ((0 : Int32), M_3)
set_option maxRecDepth 20000 in
theorem c_X5_comesTo (l : Launch) (g : GC) {r0 : Nat} {x1 : Int32} (h0 : kd r0 = 5) {M : Mem} {out : Int32 × Mem} (hf : f_X5_comesTo r0 x1 M = some out) : cI l g yX5_comesTo cX5_comesTo 2 (some .boolean) (rM 1 20) [.ref (gz g + r0), .int x1] M out := by
  refine g_met (by decide) (Nat.le_of_ble_eq_true rfl) ?_
  intro p e s m below meth c X hP hS ls hl
  have X : Bx p s m _ meth c RX5 cX5_comesTo 2 (some .boolean) g := X
  have hl : lv_has ls 2 [(0, .ref (gz g + r0)), (1, .int x1)] := hl
  have hx := X.1
  have hb := X.2.1
  refine lv_aload_n hx hb dX5_comesTo_0 rfl (lv_at hl 0 rfl) ?_
  refine gf_5_2 X hP h0 q1_38 dX5_comesTo_1 ?_
  refine lv_if_le (tgt := 23) hx hb dX5_comesTo_4 (by decide) (fun h_1 => ?_) (fun h_1 => ?_)
  · replace hf := it_t hf h_1
    refine lv_iconst (v := (0 : Int32)) hx hb dX5_comesTo_23 (by decide) ?_
    exact g_zret X hP hS rfl (sm_i hf) dX5_comesTo_24
  · replace hf := it_f hf h_1
    refine lv_iload_n hx hb dX5_comesTo_7 rfl (lv_at hl 1 rfl) ?_
    refine lv_aload_n hx hb dX5_comesTo_8 rfl (lv_at hl 0 rfl) ?_
    obtain ⟨r_4, M_3, hc_2, hf⟩ := cb_s hf
    refine g_goi (g_run X (c_X5_columnBehind l g h0 hc_2) s_X5_columnBehind (oB_5 h0) q2_148 ⟨Nat.le_of_ble_eq_true rfl, Nat.le_of_ble_eq_true rfl⟩ hP hS rfl hl.1 rfl (Nat.le_of_ble_eq_true rfl) ⟨Nat.le_refl _, Nat.le_refl _⟩ dX5_comesTo_9) hS (fun H locs hP hS => ?_)
    refine lv_ishr hx hb dX5_comesTo_12 ?_
    refine lv_iconst (v := (1 : Int32)) hx hb dX5_comesTo_13 (by decide) ?_
    refine lv_iand hx hb dX5_comesTo_14 ?_
    refine lv_iconst (v := (1 : Int32)) hx hb dX5_comesTo_15 (by decide) ?_
    refine lv_icmp_ne (tgt := 23) hx hb dX5_comesTo_16 (by decide) (fun h_5 => ?_) (fun h_5 => ?_)
    · replace hf := it_f hf h_5
      refine lv_iconst (v := (0 : Int32)) hx hb dX5_comesTo_23 (by decide) ?_
      exact g_zret X hP hS rfl (sm_i hf) dX5_comesTo_24
    · replace hf := it_t hf h_5
      refine lv_iconst (v := (1 : Int32)) hx hb dX5_comesTo_19 (by decide) ?_
      refine lv_goto (tgt := 24) hx hb dX5_comesTo_20 (by decide) ?_
      exact g_zret X hP hS rfl (sm_i hf) dX5_comesTo_24
def f_X5_pluckedInAll_4 (r0 : Nat)  : Nat → Int32 → Int32 → Mem → Option (Int32 × Mem)
  | 0, _, _, _ => none
  | n + 1, x1, x2, M =>
    if (M r0 1) ≤ x2 then
      some (x1, M)
    else
      ck x2 6 <|
      lt (x1 + (M (r0 + 5) x2.toNatClampNeg)) fun x1_3 =>
      (f_X5_pluckedInAll_4 r0 n) x1_3 (x2 + (1 : Int32)) M
set_option maxRecDepth 20000 in
theorem b_X5_pluckedInAll_4 {out : Int32 × Mem} (X : Bx p s m args meth c RX5 cX5_pluckedInAll 3 (some .int) g)   {r0 : Nat}  (h0 : kd r0 = 5)   : ∀ (n : Nat) (x1 : Int32) (x2 : Int32) (M : Mem) (H : Heap) (locs : List Loc) (ls : Array Slot), f_X5_pluckedInAll_4 r0 n x1 x2 M = some out → va_P g.1 vwCl (gW g M) H → va_S (gA g) s.heap H locs → lv_has ls 3 [(0, .ref (gz g + r0)), (1, .int x1), (2, .int x2)] → W p l e (rM 0 0) s m args below meth c H locs 0 0 (MQ below (qI g out) args s 0 0 (gA g)) (F0 m 4 ls []) := by
  have hx := X.1
  have hb := X.2.1
  intro n
  induction n with
  | zero => intro _ _ _ _ _ _ hf; cases hf
  | succ n ih =>
    intro x1 x2 M H locs ls hf hP hS hl
    rw [f_X5_pluckedInAll_4] at hf
    refine lv_iload_n hx hb dX5_pluckedInAll_4 rfl (lv_at hl 2 rfl) ?_
    refine lv_aload_n hx hb dX5_pluckedInAll_5 rfl (lv_at hl 0 rfl) ?_
    refine gf_5_1 X hP h0 q1_34 dX5_pluckedInAll_6 ?_
    refine lv_icmp_ge (tgt := 27) hx hb dX5_pluckedInAll_9 (by decide) (fun h_1 => ?_) (fun h_1 => ?_)
    · replace hf := it_t hf h_1
      refine lv_iload_n hx hb dX5_pluckedInAll_27 rfl (lv_at hl 1 rfl) ?_
      exact g_iret X hP hS (sm_i hf) dX5_pluckedInAll_28
    · replace hf := it_f hf h_1
      refine lv_iload_n hx hb dX5_pluckedInAll_12 rfl (lv_at hl 1 rfl) ?_
      refine lv_aload_n hx hb dX5_pluckedInAll_13 rfl (lv_at hl 0 rfl) ?_
      refine gf_5_10 X hP h0 q1_68 dX5_pluckedInAll_14 ?_
      refine lv_iload_n hx hb dX5_pluckedInAll_17 rfl (lv_at hl 2 rfl) ?_
      obtain ⟨hi_2, hf⟩ := ck_s hf
      refine ga_ld X hP (iA_8 (kdW5 h0)) hi_2 dX5_pluckedInAll_18 ?_
      refine lv_iadd hx hb dX5_pluckedInAll_19 ?_
      refine lv_topi (fun x1_3 ex1_3 => ?_)
      replace hf := lt_go hf ex1_3
      refine lv_istore_n (lv' := [(1, .int x1_3), (0, .ref (gz g + r0)), (2, .int x2)]) hx hb dX5_pluckedInAll_20 rfl hl (by decide) rfl (fun ls hl => ?_)
      refine lv_iinc (v := (x2 + (1 : Int32))) (lv' := [(2, .int (x2 + (1 : Int32))), (1, .int x1_3), (0, .ref (gz g + r0))]) hx hb dX5_pluckedInAll_21 hl (k := 2) rfl rfl (by decide) rfl (fun ls hl => ?_)
      refine lv_goto (tgt := 4) hx hb dX5_pluckedInAll_24 (by decide) ?_
      exact ih x1_3 (x2 + (1 : Int32)) M _ _ _ hf hP hS (lv_sub hl [2, 1, 0] rfl)
def f_X5_pluckedInAll (r0 : Nat) (M : Mem) : Option (Int32 × Mem) :=
  f_X5_pluckedInAll_4 r0 FU (0 : Int32) (0 : Int32) M
set_option maxRecDepth 20000 in
theorem c_X5_pluckedInAll (l : Launch) (g : GC) {r0 : Nat} (h0 : kd r0 = 5) {M : Mem} {out : Int32 × Mem} (hf : f_X5_pluckedInAll r0 M = some out) : cI l g yX5_pluckedInAll cX5_pluckedInAll 3 (some .int) (rM 0 0) [.ref (gz g + r0)] M out := by
  refine g_met (by decide) (Nat.le_of_ble_eq_true rfl) ?_
  intro p e s m below meth c X hP hS ls hl
  have X : Bx p s m _ meth c RX5 cX5_pluckedInAll 3 (some .int) g := X
  have hl : lv_has ls 3 [(0, .ref (gz g + r0))] := hl
  have hx := X.1
  have hb := X.2.1
  refine lv_iconst (v := (0 : Int32)) hx hb dX5_pluckedInAll_0 (by decide) ?_
  refine lv_istore_n (lv' := [(1, .int (0 : Int32)), (0, .ref (gz g + r0))]) hx hb dX5_pluckedInAll_1 rfl hl (by decide) rfl (fun ls hl => ?_)
  refine lv_iconst (v := (0 : Int32)) hx hb dX5_pluckedInAll_2 (by decide) ?_
  refine lv_istore_n (lv' := [(2, .int (0 : Int32)), (1, .int (0 : Int32)), (0, .ref (gz g + r0))]) hx hb dX5_pluckedInAll_3 rfl hl (by decide) rfl (fun ls hl => ?_)
  exact b_X5_pluckedInAll_4 X h0 FU (0 : Int32) (0 : Int32) M _ _ _ hf hP hS (lv_sub hl [2, 1, 0] rfl)
