variable {p : Program} {l : Launch} {e : Env} {s : State} {m : MethodId} {args : Array Value} {below : List Frame} {meth : Method} {c : Code} {g : GC}
def f_X7_undo  (M : Mem) : Option (Int32 × Mem) :=
  if (M 279 1) = 0 then
    some ((-1000002 : Int32), M)
  else
    lt (up2 M 279 1 ((M 279 1) - (1 : Int32))) fun M_2 =>
    cv (f_X7_copyOf ((215 : Int32) + ((43 : Int32) * (M_2 279 1))) (0 : Int32) M_2) fun M_4 =>
    some ((M_4 279 1), M_4)
set_option maxRecDepth 20000 in
theorem c_X7_undo (l : Launch) (g : GC)   {M : Mem} {out : Int32 × Mem} (hf : f_X7_undo  M = some out) : cI l g yX7_undo cX7_undo 1 (some .int) (rM 1 23) [.ref (gz g + 279)] M out := by
  refine g_met (by decide) (Nat.le_of_ble_eq_true rfl) ?_
  intro p e s m below meth c X hP hS ls hl
  have X : Bx p s m _ meth c RX7 cX7_undo 1 (some .int) g := X
  have hl : lv_has ls 1 [(0, .ref (gz g + 279))] := hl
  have hx := X.1
  have hb := X.2.1
  refine lv_aload_n hx hb dX7_undo_0 rfl (lv_at hl 0 rfl) ?_
  refine gf_7_1 X hP kc_279 q4_26 dX7_undo_1 ?_
  refine lv_if_ne (tgt := 10) hx hb dX7_undo_4 (by decide) (fun h_1 => ?_) (fun h_1 => ?_)
  · replace hf := it_f hf h_1
    refine lv_aload_n hx hb dX7_undo_10 rfl (lv_at hl 0 rfl) ?_
    refine lv_dup hx hb dX7_undo_11 rfl ?_
    refine gf_7_1 X hP kc_279 q4_26 dX7_undo_12 ?_
    refine lv_iconst (v := (1 : Int32)) hx hb dX7_undo_15 (by decide) ?_
    refine lv_isub hx hb dX7_undo_16 ?_
    refine gp_7_1 X hP hS kc_279 q4_26 dX7_undo_17 (fun H locs M_2 eM_2 hP hS => ?_)
    replace hf := lt_go hf eM_2
    refine lv_aload_n hx hb dX7_undo_20 rfl (lv_at hl 0 rfl) ?_
    refine lv_sipush (v := (215 : Int32)) hx hb dX7_undo_21 (by decide) ?_
    refine lv_bipush (v := (43 : Int32)) hx hb dX7_undo_24 (by decide) ?_
    refine lv_aload_n hx hb dX7_undo_26 rfl (lv_at hl 0 rfl) ?_
    refine gf_7_1 X hP kc_279 q4_26 dX7_undo_27 ?_
    refine lv_imul hx hb dX7_undo_30 ?_
    refine lv_iadd hx hb dX7_undo_31 ?_
    refine lv_iconst (v := (0 : Int32)) hx hb dX7_undo_32 (by decide) ?_
    obtain ⟨M_4, hc_3, hf⟩ := cv_s hf
    refine g_gov (g_run X (c_X7_copyOf l g  hc_3) s_X7_copyOf (oB_7 kc_279) q4_163 ⟨Nat.le_of_ble_eq_true rfl, Nat.le_of_ble_eq_true rfl⟩ hP hS rfl hl.1 rfl (Nat.le_of_ble_eq_true rfl) ⟨Nat.le_refl _, Nat.le_refl _⟩ dX7_undo_33) hS (fun H locs hP hS => ?_)
    refine lv_aload_n hx hb dX7_undo_36 rfl (lv_at hl 0 rfl) ?_
    refine gf_7_1 X hP kc_279 q4_26 dX7_undo_37 ?_
    exact g_iret X hP hS (sm_i hf) dX7_undo_40
  · replace hf := it_t hf h_1
    refine lv_ldc hx hb X.2.2.2.1 (X.2.2.2.2.1 _ q4_175) dX7_undo_7 ?_
    exact g_iret X hP hS (sm_i hf) dX7_undo_9
def f_X7_ticks_44 (x1 : Int32)  : Nat → Int32 → Mem → Option (Int32 × Mem)
  | 0, _, _ => none
  | n + 1, x2, M =>
    if x1 ≤ x2 then
      cb (f_X7_loud (0 : Int32) M) fun r_4 M_3 =>
      some (r_4, M_3)
    else
      cv (f_X7_minds M) fun M_6 =>
      cv (f_X7_passes (0 : Int32) M_6) fun M_8 =>
      (f_X7_ticks_44 x1 n) (x2 + (1 : Int32)) M_8
set_option maxRecDepth 20000 in
theorem b_X7_ticks_44 {out : Int32 × Mem} (X : Bx p s m args meth c RX7 cX7_ticks 3 (some .int) g)   {x1 : Int32}     : ∀ (n : Nat) (x2 : Int32) (M : Mem) (H : Heap) (locs : List Loc) (ls : Array Slot), f_X7_ticks_44 x1 n x2 M = some out → va_P g.1 vwCl (gW g M) H → va_S (gA g) s.heap H locs → lv_has ls 3 [(0, .ref (gz g + 279)), (1, .int x1), (2, .int x2)] → W p l e (rM 3 67) s m args below meth c H locs 0 0 (MQ below (qI g out) args s 0 0 (gA g)) (F0 m 44 ls []) := by
  have hx := X.1
  have hb := X.2.1
  intro n
  induction n with
  | zero => intro _ _ _ _ _ hf; cases hf
  | succ n ih =>
    intro x2 M H locs ls hf hP hS hl
    rw [f_X7_ticks_44] at hf
    refine lv_iload_n hx hb dX7_ticks_44 rfl (lv_at hl 2 rfl) ?_
    refine lv_iload_n hx hb dX7_ticks_45 rfl (lv_at hl 1 rfl) ?_
    refine lv_icmp_ge (tgt := 64) hx hb dX7_ticks_46 (by decide) (fun h_1 => ?_) (fun h_1 => ?_)
    · replace hf := it_t hf h_1
      refine lv_aload_n hx hb dX7_ticks_64 rfl (lv_at hl 0 rfl) ?_
      refine lv_iconst (v := (0 : Int32)) hx hb dX7_ticks_65 (by decide) ?_
      obtain ⟨r_4, M_3, hc_2, hf⟩ := cb_s hf
      refine g_goi (g_run X (c_X7_loud l g  hc_2) s_X7_loud (oB_7 kc_279) q4_204 ⟨Nat.le_of_ble_eq_true rfl, Nat.le_of_ble_eq_true rfl⟩ hP hS rfl hl.1 rfl (Nat.le_of_ble_eq_true rfl) ⟨Nat.le_refl _, Nat.le_refl _⟩ dX7_ticks_66) hS (fun H locs hP hS => ?_)
      exact g_iret X hP hS (sm_i hf) dX7_ticks_69
    · replace hf := it_f hf h_1
      refine lv_aload_n hx hb dX7_ticks_49 rfl (lv_at hl 0 rfl) ?_
      obtain ⟨M_6, hc_5, hf⟩ := cv_s hf
      refine g_gov (g_run X (c_X7_minds l g  hc_5) s_X7_minds (oB_7 kc_279) q4_185 ⟨Nat.le_of_ble_eq_true rfl, Nat.le_of_ble_eq_true rfl⟩ hP hS rfl hl.1 rfl (Nat.le_of_ble_eq_true rfl) ⟨Nat.le_refl _, Nat.le_refl _⟩ dX7_ticks_50) hS (fun H locs hP hS => ?_)
      refine lv_aload_n hx hb dX7_ticks_53 rfl (lv_at hl 0 rfl) ?_
      refine lv_iconst (v := (0 : Int32)) hx hb dX7_ticks_54 (by decide) ?_
      obtain ⟨M_8, hc_7, hf⟩ := cv_s hf
      refine g_gov (g_run X (c_X7_passes l g  hc_7) s_X7_passes (oB_7 kc_279) q4_189 ⟨Nat.le_of_ble_eq_true rfl, Nat.le_of_ble_eq_true rfl⟩ hP hS rfl hl.1 rfl (Nat.le_of_ble_eq_true rfl) ⟨Nat.le_refl _, Nat.le_refl _⟩ dX7_ticks_55) hS (fun H locs hP hS => ?_)
      refine lv_iinc (v := (x2 + (1 : Int32))) (lv' := [(2, .int (x2 + (1 : Int32))), (0, .ref (gz g + 279)), (1, .int x1)]) hx hb dX7_ticks_58 hl (k := 2) rfl rfl (by decide) rfl (fun ls hl => ?_)
      refine lv_goto (tgt := 44) hx hb dX7_ticks_61 (by decide) ?_
      exact ih (x2 + (1 : Int32)) M_8 _ _ _ hf hP hS (lv_sub hl [1, 2, 0] rfl)
def f_X7_ticks (x1 : Int32) (M : Mem) : Option (Int32 × Mem) :=
  cb (f_X7_isBox M) fun r_3 M_2 =>
  if r_3 = 0 then
    some ((-1000002 : Int32), M_2)
  else
    cb (f_X7_in ((x1).toInt64) (1 : Int64) (24 : Int64) M_2) fun r_7 M_6 =>
    if r_7 = 0 then
      some ((-1000001 : Int32), M_6)
    else
      if ((M_6 280 4) + x1) ≤ (999 : Int32) then
        f_X7_ticks_44 x1 FU (0 : Int32) M_6
      else
        some ((-1000003 : Int32), M_6)
set_option maxRecDepth 20000 in
theorem c_X7_ticks (l : Launch) (g : GC) {x1 : Int32}  {M : Mem} {out : Int32 × Mem} (hf : f_X7_ticks x1 M = some out) : cI l g yX7_ticks cX7_ticks 3 (some .int) (rM 3 67) [.ref (gz g + 279), .int x1] M out := by
  refine g_met (by decide) (Nat.le_of_ble_eq_true rfl) ?_
  intro p e s m below meth c X hP hS ls hl
  have X : Bx p s m _ meth c RX7 cX7_ticks 3 (some .int) g := X
  have hl : lv_has ls 3 [(0, .ref (gz g + 279)), (1, .int x1)] := hl
  have hx := X.1
  have hb := X.2.1
  refine lv_aload_n hx hb dX7_ticks_0 rfl (lv_at hl 0 rfl) ?_
  obtain ⟨r_3, M_2, hc_1, hf⟩ := cb_s hf
  refine g_goi (g_run X (c_X7_isBox l g  hc_1) s_X7_isBox (oB_7 kc_279) q4_180 ⟨Nat.le_of_ble_eq_true rfl, Nat.le_of_ble_eq_true rfl⟩ hP hS rfl hl.1 rfl (Nat.le_of_ble_eq_true rfl) ⟨Nat.le_refl _, Nat.le_refl _⟩ dX7_ticks_1) hS (fun H locs hP hS => ?_)
  refine lv_if_ne (tgt := 10) hx hb dX7_ticks_4 (by decide) (fun h_4 => ?_) (fun h_4 => ?_)
  · replace hf := it_f hf h_4
    refine lv_iload_n hx hb dX7_ticks_10 rfl (lv_at hl 1 rfl) ?_
    refine lv_i2l hx hb dX7_ticks_11 rfl ?_
    refine lv_lconst (v := (1 : Int64)) hx hb dX7_ticks_12 (by decide) ?_
    refine lv_ldc2 hx hb X.2.2.2.1 (X.2.2.2.2.1 _ q4_184) dX7_ticks_13 ?_
    obtain ⟨r_7, M_6, hc_5, hf⟩ := cb_s hf
    refine g_goi (g_runS X (c_X7_in l g  hc_5) s_X7_in q4_89 ⟨Nat.le_of_ble_eq_true rfl, Nat.le_of_ble_eq_true rfl⟩ hP hS rfl hl.1 rfl (Nat.le_of_ble_eq_true rfl) ⟨Nat.le_refl _, Nat.le_refl _⟩ dX7_ticks_16) hS (fun H locs hP hS => ?_)
    refine lv_if_ne (tgt := 25) hx hb dX7_ticks_19 (by decide) (fun h_8 => ?_) (fun h_8 => ?_)
    · replace hf := it_f hf h_8
      refine lv_aload_n hx hb dX7_ticks_25 rfl (lv_at hl 0 rfl) ?_
      refine gf_7_0 X hP kc_279 q4_25 dX7_ticks_26 ?_
      refine lv_iconst (v := (4 : Int32)) hx hb dX7_ticks_29 (by decide) ?_
      refine ga_ldj (j := 4) X hP (iA_13 kc_280) (by unfold vp_in; decide) (by decide) dX7_ticks_30 ?_
      refine lv_iload_n hx hb dX7_ticks_31 rfl (lv_at hl 1 rfl) ?_
      refine lv_iadd hx hb dX7_ticks_32 ?_
      refine lv_sipush (v := (999 : Int32)) hx hb dX7_ticks_33 (by decide) ?_
      refine lv_icmp_le (tgt := 42) hx hb dX7_ticks_36 (by decide) (fun h_9 => ?_) (fun h_9 => ?_)
      · replace hf := it_t hf h_9
        refine lv_iconst (v := (0 : Int32)) hx hb dX7_ticks_42 (by decide) ?_
        refine lv_istore_n (lv' := [(2, .int (0 : Int32)), (0, .ref (gz g + 279)), (1, .int x1)]) hx hb dX7_ticks_43 rfl hl (by decide) rfl (fun ls hl => ?_)
        exact b_X7_ticks_44 X  FU (0 : Int32) M_6 _ _ _ hf hP hS (lv_sub hl [1, 2, 0] rfl)
      · replace hf := it_f hf h_9
        refine lv_ldc hx hb X.2.2.2.1 (X.2.2.2.2.1 _ q4_120) dX7_ticks_39 ?_
        exact g_iret X hP hS (sm_i hf) dX7_ticks_41
    · replace hf := it_t hf h_8
      refine lv_ldc hx hb X.2.2.2.1 (X.2.2.2.2.1 _ q4_93) dX7_ticks_22 ?_
      exact g_iret X hP hS (sm_i hf) dX7_ticks_24
  · replace hf := it_t hf h_4
    refine lv_ldc hx hb X.2.2.2.1 (X.2.2.2.2.1 _ q4_175) dX7_ticks_7 ?_
    exact g_iret X hP hS (sm_i hf) dX7_ticks_9
def f_X7_wind_60   (t1 : Int32) (t2 : Int32) (M : Mem) : Option (Int32 × Mem) :=
  ck t1 1247 <|
  lt (up2 M 280 t1.toNatClampNeg t2) fun M_1 =>
  some ((M_1 280 2), M_1)
set_option maxRecDepth 20000 in
theorem b_X7_wind_60 {out : Int32 × Mem} (X : Bx p s m args meth c RX7 cX7_wind 2 (some .int) g)        (t1 : Int32) (t2 : Int32) (M : Mem) {H : Heap} {locs : List Loc} {ls : Array Slot} (hf : f_X7_wind_60 t1 t2 M = some out) (hP : va_P g.1 vwCl (gW g M) H) (hS : va_S (gA g) s.heap H locs) (hl : lv_has ls 2 [(0, .ref (gz g + 279))]) : W p l e (rM 2 44) s m args below meth c H locs 0 0 (MQ below (qI g out) args s 0 0 (gA g)) (F0 m 60 ls [.int t2, .int t1, .ref (gz g + 280)]) := by
  have hx := X.1
  have hb := X.2.1
  obtain ⟨hi_2, hf⟩ := ck_s hf
  refine ga_st X hP hS (iA_13 kc_280) hi_2 dX7_wind_60 (fun H locs M_1 eM_1 hP hS => ?_)
  replace hf := lt_go hf eM_1
  refine lv_aload_n hx hb dX7_wind_61 rfl (lv_at hl 0 rfl) ?_
  refine gf_7_0 X hP kc_279 q4_25 dX7_wind_62 ?_
  refine lv_iconst (v := (2 : Int32)) hx hb dX7_wind_65 (by decide) ?_
  refine ga_ldj (j := 2) X hP (iA_13 kc_280) (by unfold vp_in; decide) (by decide) dX7_wind_66 ?_
  exact g_iret X hP hS (sm_i hf) dX7_wind_67
def f_X7_wind (x1 : Int32) (M : Mem) : Option (Int32 × Mem) :=
  cb (f_X7_isBox M) fun r_3 M_2 =>
  if r_3 = 0 then
    some ((-1000002 : Int32), M_2)
  else
    cb (f_X7_in ((x1).toInt64) (1 : Int64) (99 : Int64) M_2) fun r_7 M_6 =>
    if r_7 = 0 then
      some ((-1000001 : Int32), M_6)
    else
      cv (f_X7_minds M_6) fun M_10 =>
      if ((M_10 280 2) + x1) ≤ (99 : Int32) then
        f_X7_wind_60 (2 : Int32) ((M_10 280 2) + x1) M_10
      else
        f_X7_wind_60 (2 : Int32) (99 : Int32) M_10
set_option maxRecDepth 20000 in
theorem c_X7_wind (l : Launch) (g : GC) {x1 : Int32}  {M : Mem} {out : Int32 × Mem} (hf : f_X7_wind x1 M = some out) : cI l g yX7_wind cX7_wind 2 (some .int) (rM 2 44) [.ref (gz g + 279), .int x1] M out := by
  refine g_met (by decide) (Nat.le_of_ble_eq_true rfl) ?_
  intro p e s m below meth c X hP hS ls hl
  have X : Bx p s m _ meth c RX7 cX7_wind 2 (some .int) g := X
  have hl : lv_has ls 2 [(0, .ref (gz g + 279)), (1, .int x1)] := hl
  have hx := X.1
  have hb := X.2.1
  refine lv_aload_n hx hb dX7_wind_0 rfl (lv_at hl 0 rfl) ?_
  obtain ⟨r_3, M_2, hc_1, hf⟩ := cb_s hf
  refine g_goi (g_run X (c_X7_isBox l g  hc_1) s_X7_isBox (oB_7 kc_279) q4_180 ⟨Nat.le_of_ble_eq_true rfl, Nat.le_of_ble_eq_true rfl⟩ hP hS rfl hl.1 rfl (Nat.le_of_ble_eq_true rfl) ⟨Nat.le_refl _, Nat.le_refl _⟩ dX7_wind_1) hS (fun H locs hP hS => ?_)
  refine lv_if_ne (tgt := 10) hx hb dX7_wind_4 (by decide) (fun h_4 => ?_) (fun h_4 => ?_)
  · replace hf := it_f hf h_4
    refine lv_iload_n hx hb dX7_wind_10 rfl (lv_at hl 1 rfl) ?_
    refine lv_i2l hx hb dX7_wind_11 rfl ?_
    refine lv_lconst (v := (1 : Int64)) hx hb dX7_wind_12 (by decide) ?_
    refine lv_ldc2 hx hb X.2.2.2.1 (X.2.2.2.2.1 _ q4_212) dX7_wind_13 ?_
    obtain ⟨r_7, M_6, hc_5, hf⟩ := cb_s hf
    refine g_goi (g_runS X (c_X7_in l g  hc_5) s_X7_in q4_89 ⟨Nat.le_of_ble_eq_true rfl, Nat.le_of_ble_eq_true rfl⟩ hP hS rfl hl.1 rfl (Nat.le_of_ble_eq_true rfl) ⟨Nat.le_refl _, Nat.le_refl _⟩ dX7_wind_16) hS (fun H locs hP hS => ?_)
    refine lv_if_ne (tgt := 25) hx hb dX7_wind_19 (by decide) (fun h_8 => ?_) (fun h_8 => ?_)
    · replace hf := it_f hf h_8
      refine lv_aload_n hx hb dX7_wind_25 rfl (lv_at hl 0 rfl) ?_
      obtain ⟨M_10, hc_9, hf⟩ := cv_s hf
      refine g_gov (g_run X (c_X7_minds l g  hc_9) s_X7_minds (oB_7 kc_279) q4_185 ⟨Nat.le_of_ble_eq_true rfl, Nat.le_of_ble_eq_true rfl⟩ hP hS rfl hl.1 rfl (Nat.le_of_ble_eq_true rfl) ⟨Nat.le_refl _, Nat.le_refl _⟩ dX7_wind_26) hS (fun H locs hP hS => ?_)
      refine lv_aload_n hx hb dX7_wind_29 rfl (lv_at hl 0 rfl) ?_
      refine gf_7_0 X hP kc_279 q4_25 dX7_wind_30 ?_
      refine lv_iconst (v := (2 : Int32)) hx hb dX7_wind_33 (by decide) ?_
      refine lv_aload_n hx hb dX7_wind_34 rfl (lv_at hl 0 rfl) ?_
      refine gf_7_0 X hP kc_279 q4_25 dX7_wind_35 ?_
      refine lv_iconst (v := (2 : Int32)) hx hb dX7_wind_38 (by decide) ?_
      refine ga_ldj (j := 2) X hP (iA_13 kc_280) (by unfold vp_in; decide) (by decide) dX7_wind_39 ?_
      refine lv_iload_n hx hb dX7_wind_40 rfl (lv_at hl 1 rfl) ?_
      refine lv_iadd hx hb dX7_wind_41 ?_
      refine lv_bipush (v := (99 : Int32)) hx hb dX7_wind_42 (by decide) ?_
      refine lv_icmp_le (tgt := 52) hx hb dX7_wind_44 (by decide) (fun h_11 => ?_) (fun h_11 => ?_)
      · replace hf := it_t hf h_11
        refine lv_aload_n hx hb dX7_wind_52 rfl (lv_at hl 0 rfl) ?_
        refine gf_7_0 X hP kc_279 q4_25 dX7_wind_53 ?_
        refine lv_iconst (v := (2 : Int32)) hx hb dX7_wind_56 (by decide) ?_
        refine ga_ldj (j := 2) X hP (iA_13 kc_280) (by unfold vp_in; decide) (by decide) dX7_wind_57 ?_
        refine lv_iload_n hx hb dX7_wind_58 rfl (lv_at hl 1 rfl) ?_
        refine lv_iadd hx hb dX7_wind_59 ?_
        exact b_X7_wind_60 X  (2 : Int32) ((M_10 280 2) + x1) M_10 hf hP hS (lv_sub hl [0] rfl)
      · replace hf := it_f hf h_11
        refine lv_bipush (v := (99 : Int32)) hx hb dX7_wind_47 (by decide) ?_
        refine lv_goto (tgt := 60) hx hb dX7_wind_49 (by decide) ?_
        exact b_X7_wind_60 X  (2 : Int32) (99 : Int32) M_10 hf hP hS (lv_sub hl [0] rfl)
    · replace hf := it_t hf h_8
      refine lv_ldc hx hb X.2.2.2.1 (X.2.2.2.2.1 _ q4_93) dX7_wind_22 ?_
      exact g_iret X hP hS (sm_i hf) dX7_wind_24
  · replace hf := it_t hf h_4
    refine lv_ldc hx hb X.2.2.2.1 (X.2.2.2.2.1 _ q4_175) dX7_wind_7 ?_
    exact g_iret X hP hS (sm_i hf) dX7_wind_9
def f_X7_pin (x1 : Int32) (x2 : Int32) (M : Mem) : Option (Int32 × Mem) :=
  cb (f_X7_isColumn x1 M) fun r_3 M_2 =>
  if r_3 = 0 then
    some ((-1000001 : Int32), M_2)
  else
    cb (f_X7_isTooth x2 M_2) fun r_7 M_6 =>
    if r_7 = 0 then
      some ((-1000001 : Int32), M_6)
    else
      cv (f_X7_minds M_6) fun M_10 =>
      ck ((30 : Int32) + x1) 1247 <|
      ck ((30 : Int32) + x1) 1247 <|
      lt (up2 M_10 280 (((30 : Int32) + x1)).toNatClampNeg ((M_10 280 (((30 : Int32) + x1)).toNatClampNeg) ^^^ ((1 : Int32) <<< (x2 &&& 31)))) fun M_12 =>
      ck ((30 : Int32) + x1) 1247 <|
      some ((M_12 280 (((30 : Int32) + x1)).toNatClampNeg), M_12)
set_option maxRecDepth 20000 in
theorem c_X7_pin (l : Launch) (g : GC) {x1 : Int32} {x2 : Int32}  {M : Mem} {out : Int32 × Mem} (hf : f_X7_pin x1 x2 M = some out) : cI l g yX7_pin cX7_pin 3 (some .int) (rM 2 46) [.ref (gz g + 279), .int x1, .int x2] M out := by
  refine g_met (by decide) (Nat.le_of_ble_eq_true rfl) ?_
  intro p e s m below meth c X hP hS ls hl
  have X : Bx p s m _ meth c RX7 cX7_pin 3 (some .int) g := X
  have hl : lv_has ls 3 [(0, .ref (gz g + 279)), (1, .int x1), (2, .int x2)] := hl
  have hx := X.1
  have hb := X.2.1
  refine lv_aload_n hx hb dX7_pin_0 rfl (lv_at hl 0 rfl) ?_
  refine lv_iload_n hx hb dX7_pin_1 rfl (lv_at hl 1 rfl) ?_
  obtain ⟨r_3, M_2, hc_1, hf⟩ := cb_s hf
  refine g_goi (g_run X (c_X7_isColumn l g  hc_1) s_X7_isColumn (oB_7 kc_279) q4_217 ⟨Nat.le_of_ble_eq_true rfl, Nat.le_of_ble_eq_true rfl⟩ hP hS rfl hl.1 rfl (Nat.le_of_ble_eq_true rfl) ⟨Nat.le_refl _, Nat.le_refl _⟩ dX7_pin_2) hS (fun H locs hP hS => ?_)
  refine lv_if_eq (tgt := 16) hx hb dX7_pin_5 (by decide) (fun h_4 => ?_) (fun h_4 => ?_)
  · replace hf := it_t hf h_4
    refine lv_ldc hx hb X.2.2.2.1 (X.2.2.2.2.1 _ q4_93) dX7_pin_16 ?_
    exact g_iret X hP hS (sm_i hf) dX7_pin_18
  · replace hf := it_f hf h_4
    refine lv_aload_n hx hb dX7_pin_8 rfl (lv_at hl 0 rfl) ?_
    refine lv_iload_n hx hb dX7_pin_9 rfl (lv_at hl 2 rfl) ?_
    obtain ⟨r_7, M_6, hc_5, hf⟩ := cb_s hf
    refine g_goi (g_run X (c_X7_isTooth l g  hc_5) s_X7_isTooth (oB_7 kc_279) q4_221 ⟨Nat.le_of_ble_eq_true rfl, Nat.le_of_ble_eq_true rfl⟩ hP hS rfl hl.1 rfl (Nat.le_of_ble_eq_true rfl) ⟨Nat.le_refl _, Nat.le_refl _⟩ dX7_pin_10) hS (fun H locs hP hS => ?_)
    refine lv_if_ne (tgt := 19) hx hb dX7_pin_13 (by decide) (fun h_8 => ?_) (fun h_8 => ?_)
    · replace hf := it_f hf h_8
      refine lv_aload_n hx hb dX7_pin_19 rfl (lv_at hl 0 rfl) ?_
      obtain ⟨M_10, hc_9, hf⟩ := cv_s hf
      refine g_gov (g_run X (c_X7_minds l g  hc_9) s_X7_minds (oB_7 kc_279) q4_185 ⟨Nat.le_of_ble_eq_true rfl, Nat.le_of_ble_eq_true rfl⟩ hP hS rfl hl.1 rfl (Nat.le_of_ble_eq_true rfl) ⟨Nat.le_refl _, Nat.le_refl _⟩ dX7_pin_20) hS (fun H locs hP hS => ?_)
      refine lv_aload_n hx hb dX7_pin_23 rfl (lv_at hl 0 rfl) ?_
      refine gf_7_0 X hP kc_279 q4_25 dX7_pin_24 ?_
      refine lv_bipush (v := (30 : Int32)) hx hb dX7_pin_27 (by decide) ?_
      refine lv_iload_n hx hb dX7_pin_29 rfl (lv_at hl 1 rfl) ?_
      refine lv_iadd hx hb dX7_pin_30 ?_
      refine lv_dup2_11 hx hb dX7_pin_31 rfl rfl ?_
      obtain ⟨hi_11, hf⟩ := ck_s hf
      refine ga_ld X hP (iA_13 kc_280) hi_11 dX7_pin_32 ?_
      refine lv_iconst (v := (1 : Int32)) hx hb dX7_pin_33 (by decide) ?_
      refine lv_iload_n hx hb dX7_pin_34 rfl (lv_at hl 2 rfl) ?_
      refine lv_ishl hx hb dX7_pin_35 ?_
      refine lv_ixor hx hb dX7_pin_36 ?_
      obtain ⟨hi_13, hf⟩ := ck_s hf
      refine ga_st X hP hS (iA_13 kc_280) hi_13 dX7_pin_37 (fun H locs M_12 eM_12 hP hS => ?_)
      replace hf := lt_go hf eM_12
      refine lv_aload_n hx hb dX7_pin_38 rfl (lv_at hl 0 rfl) ?_
      refine gf_7_0 X hP kc_279 q4_25 dX7_pin_39 ?_
      refine lv_bipush (v := (30 : Int32)) hx hb dX7_pin_42 (by decide) ?_
      refine lv_iload_n hx hb dX7_pin_44 rfl (lv_at hl 1 rfl) ?_
      refine lv_iadd hx hb dX7_pin_45 ?_
      obtain ⟨hi_14, hf⟩ := ck_s hf
      refine ga_ld X hP (iA_13 kc_280) hi_14 dX7_pin_46 ?_
      exact g_iret X hP hS (sm_i hf) dX7_pin_47
    · replace hf := it_t hf h_8
      refine lv_ldc hx hb X.2.2.2.1 (X.2.2.2.2.1 _ q4_93) dX7_pin_16 ?_
      exact g_iret X hP hS (sm_i hf) dX7_pin_18
def f_X7_drum (x1 : Int32) (M : Mem) : Option (Int32 × Mem) :=
  cb (f_X7_isColumn x1 M) fun r_3 M_2 =>
  if r_3 = 0 then
    some ((-1000001 : Int32), M_2)
  else
    lt (M_2 280 3) fun x2_5 =>
    if x2_5 = x1 then
      some ((-1000002 : Int32), M_2)
    else
      cv (f_X7_minds M_2) fun M_8 =>
      lt (up2 M_8 280 3 x1) fun M_9 =>
      some (x2_5, M_9)
set_option maxRecDepth 20000 in
theorem c_X7_drum (l : Launch) (g : GC) {x1 : Int32}  {M : Mem} {out : Int32 × Mem} (hf : f_X7_drum x1 M = some out) : cI l g yX7_drum cX7_drum 3 (some .int) (rM 2 46) [.ref (gz g + 279), .int x1] M out := by
  refine g_met (by decide) (Nat.le_of_ble_eq_true rfl) ?_
  intro p e s m below meth c X hP hS ls hl
  have X : Bx p s m _ meth c RX7 cX7_drum 3 (some .int) g := X
  have hl : lv_has ls 3 [(0, .ref (gz g + 279)), (1, .int x1)] := hl
  have hx := X.1
  have hb := X.2.1
  refine lv_aload_n hx hb dX7_drum_0 rfl (lv_at hl 0 rfl) ?_
  refine lv_iload_n hx hb dX7_drum_1 rfl (lv_at hl 1 rfl) ?_
  obtain ⟨r_3, M_2, hc_1, hf⟩ := cb_s hf
  refine g_goi (g_run X (c_X7_isColumn l g  hc_1) s_X7_isColumn (oB_7 kc_279) q4_217 ⟨Nat.le_of_ble_eq_true rfl, Nat.le_of_ble_eq_true rfl⟩ hP hS rfl hl.1 rfl (Nat.le_of_ble_eq_true rfl) ⟨Nat.le_refl _, Nat.le_refl _⟩ dX7_drum_2) hS (fun H locs hP hS => ?_)
  refine lv_if_ne (tgt := 11) hx hb dX7_drum_5 (by decide) (fun h_4 => ?_) (fun h_4 => ?_)
  · replace hf := it_f hf h_4
    refine lv_aload_n hx hb dX7_drum_11 rfl (lv_at hl 0 rfl) ?_
    refine gf_7_0 X hP kc_279 q4_25 dX7_drum_12 ?_
    refine lv_iconst (v := (3 : Int32)) hx hb dX7_drum_15 (by decide) ?_
    refine ga_ldj (j := 3) X hP (iA_13 kc_280) (by unfold vp_in; decide) (by decide) dX7_drum_16 ?_
    refine lv_topi (fun x2_5 ex2_5 => ?_)
    replace hf := lt_go hf ex2_5
    refine lv_istore_n (lv' := [(2, .int x2_5), (0, .ref (gz g + 279)), (1, .int x1)]) hx hb dX7_drum_17 rfl hl (by decide) rfl (fun ls hl => ?_)
    refine lv_iload_n hx hb dX7_drum_18 rfl (lv_at hl 0 rfl) ?_
    refine lv_iload_n hx hb dX7_drum_19 rfl (lv_at hl 2 rfl) ?_
    refine lv_icmp_ne (tgt := 26) hx hb dX7_drum_20 (by decide) (fun h_6 => ?_) (fun h_6 => ?_)
    · replace hf := it_f hf h_6
      refine lv_aload_n hx hb dX7_drum_26 rfl (lv_at hl 1 rfl) ?_
      obtain ⟨M_8, hc_7, hf⟩ := cv_s hf
      refine g_gov (g_run X (c_X7_minds l g  hc_7) s_X7_minds (oB_7 kc_279) q4_185 ⟨Nat.le_of_ble_eq_true rfl, Nat.le_of_ble_eq_true rfl⟩ hP hS rfl hl.1 rfl (Nat.le_of_ble_eq_true rfl) ⟨Nat.le_refl _, Nat.le_refl _⟩ dX7_drum_27) hS (fun H locs hP hS => ?_)
      refine lv_aload_n hx hb dX7_drum_30 rfl (lv_at hl 1 rfl) ?_
      refine gf_7_0 X hP kc_279 q4_25 dX7_drum_31 ?_
      refine lv_iconst (v := (3 : Int32)) hx hb dX7_drum_34 (by decide) ?_
      refine lv_iload_n hx hb dX7_drum_35 rfl (lv_at hl 2 rfl) ?_
      refine ga_stj (j := 3) X hP hS (iA_13 kc_280) (by unfold vp_in; decide) (by decide) dX7_drum_36 (fun H locs M_9 eM_9 hP hS => ?_)
      replace hf := lt_go hf eM_9
      refine lv_iload_n hx hb dX7_drum_37 rfl (lv_at hl 0 rfl) ?_
      exact g_iret X hP hS (sm_i hf) dX7_drum_38
    · replace hf := it_t hf h_6
      refine lv_ldc hx hb X.2.2.2.1 (X.2.2.2.2.1 _ q4_175) dX7_drum_23 ?_
      exact g_iret X hP hS (sm_i hf) dX7_drum_25
  · replace hf := it_t hf h_4
    refine lv_ldc hx hb X.2.2.2.1 (X.2.2.2.2.1 _ q4_93) dX7_drum_8 ?_
    exact g_iret X hP hS (sm_i hf) dX7_drum_10
def f_X7_mend (x1 : Int32) (M : Mem) : Option (Int32 × Mem) :=
  cb (f_X7_isTooth x1 M) fun r_3 M_2 =>
  if r_3 = 0 then
    some ((-1000001 : Int32), M_2)
  else
    cb (f_X7_has (M_2 280 5) x1 M_2) fun r_7 M_6 =>
    if r_7 = 0 then
      some ((-1000002 : Int32), M_6)
    else
      cv (f_X7_minds M_6) fun M_10 =>
      ck ((24 : Int32) + x1) 1247 <|
      lt (M_10 280 (((24 : Int32) + x1)).toNatClampNeg) fun x2_12 =>
      cv (f_X7_mends (0 : Int32) x1 M_10) fun M_14 =>
      some (x2_12, M_14)
set_option maxRecDepth 20000 in
theorem c_X7_mend (l : Launch) (g : GC) {x1 : Int32}  {M : Mem} {out : Int32 × Mem} (hf : f_X7_mend x1 M = some out) : cI l g yX7_mend cX7_mend 3 (some .int) (rM 2 46) [.ref (gz g + 279), .int x1] M out := by
  refine g_met (by decide) (Nat.le_of_ble_eq_true rfl) ?_
  intro p e s m below meth c X hP hS ls hl
  have X : Bx p s m _ meth c RX7 cX7_mend 3 (some .int) g := X
  have hl : lv_has ls 3 [(0, .ref (gz g + 279)), (1, .int x1)] := hl
  have hx := X.1
  have hb := X.2.1
  refine lv_aload_n hx hb dX7_mend_0 rfl (lv_at hl 0 rfl) ?_
  refine lv_iload_n hx hb dX7_mend_1 rfl (lv_at hl 1 rfl) ?_
  obtain ⟨r_3, M_2, hc_1, hf⟩ := cb_s hf
  refine g_goi (g_run X (c_X7_isTooth l g  hc_1) s_X7_isTooth (oB_7 kc_279) q4_221 ⟨Nat.le_of_ble_eq_true rfl, Nat.le_of_ble_eq_true rfl⟩ hP hS rfl hl.1 rfl (Nat.le_of_ble_eq_true rfl) ⟨Nat.le_refl _, Nat.le_refl _⟩ dX7_mend_2) hS (fun H locs hP hS => ?_)
  refine lv_if_ne (tgt := 11) hx hb dX7_mend_5 (by decide) (fun h_4 => ?_) (fun h_4 => ?_)
  · replace hf := it_f hf h_4
    refine lv_aload_n hx hb dX7_mend_11 rfl (lv_at hl 0 rfl) ?_
    refine gf_7_0 X hP kc_279 q4_25 dX7_mend_12 ?_
    refine lv_iconst (v := (5 : Int32)) hx hb dX7_mend_15 (by decide) ?_
    refine ga_ldj (j := 5) X hP (iA_13 kc_280) (by unfold vp_in; decide) (by decide) dX7_mend_16 ?_
    refine lv_iload_n hx hb dX7_mend_17 rfl (lv_at hl 1 rfl) ?_
    obtain ⟨r_7, M_6, hc_5, hf⟩ := cb_s hf
    refine g_goi (g_runS X (c_X7_has l g  hc_5) s_X7_has q4_197 ⟨Nat.le_of_ble_eq_true rfl, Nat.le_of_ble_eq_true rfl⟩ hP hS rfl hl.1 rfl (Nat.le_of_ble_eq_true rfl) ⟨Nat.le_refl _, Nat.le_refl _⟩ dX7_mend_18) hS (fun H locs hP hS => ?_)
    refine lv_if_ne (tgt := 27) hx hb dX7_mend_21 (by decide) (fun h_8 => ?_) (fun h_8 => ?_)
    · replace hf := it_f hf h_8
      refine lv_aload_n hx hb dX7_mend_27 rfl (lv_at hl 0 rfl) ?_
      obtain ⟨M_10, hc_9, hf⟩ := cv_s hf
      refine g_gov (g_run X (c_X7_minds l g  hc_9) s_X7_minds (oB_7 kc_279) q4_185 ⟨Nat.le_of_ble_eq_true rfl, Nat.le_of_ble_eq_true rfl⟩ hP hS rfl hl.1 rfl (Nat.le_of_ble_eq_true rfl) ⟨Nat.le_refl _, Nat.le_refl _⟩ dX7_mend_28) hS (fun H locs hP hS => ?_)
      refine lv_aload_n hx hb dX7_mend_31 rfl (lv_at hl 0 rfl) ?_
      refine gf_7_0 X hP kc_279 q4_25 dX7_mend_32 ?_
      refine lv_bipush (v := (24 : Int32)) hx hb dX7_mend_35 (by decide) ?_
      refine lv_iload_n hx hb dX7_mend_37 rfl (lv_at hl 1 rfl) ?_
      refine lv_iadd hx hb dX7_mend_38 ?_
      obtain ⟨hi_11, hf⟩ := ck_s hf
      refine ga_ld X hP (iA_13 kc_280) hi_11 dX7_mend_39 ?_
      refine lv_topi (fun x2_12 ex2_12 => ?_)
      replace hf := lt_go hf ex2_12
      refine lv_istore_n (lv' := [(2, .int x2_12), (0, .ref (gz g + 279)), (1, .int x1)]) hx hb dX7_mend_40 rfl hl (by decide) rfl (fun ls hl => ?_)
      refine lv_aload_n hx hb dX7_mend_41 rfl (lv_at hl 1 rfl) ?_
      refine lv_iconst (v := (0 : Int32)) hx hb dX7_mend_42 (by decide) ?_
      refine lv_iload_n hx hb dX7_mend_43 rfl (lv_at hl 2 rfl) ?_
      obtain ⟨M_14, hc_13, hf⟩ := cv_s hf
      refine g_gov (g_run X (c_X7_mends l g  hc_13) s_X7_mends (oB_7 kc_279) q4_233 ⟨Nat.le_of_ble_eq_true rfl, Nat.le_of_ble_eq_true rfl⟩ hP hS rfl hl.1 rfl (Nat.le_of_ble_eq_true rfl) ⟨Nat.le_refl _, Nat.le_refl _⟩ dX7_mend_44) hS (fun H locs hP hS => ?_)
      refine lv_iload_n hx hb dX7_mend_47 rfl (lv_at hl 0 rfl) ?_
      exact g_iret X hP hS (sm_i hf) dX7_mend_48
    · replace hf := it_t hf h_8
      refine lv_ldc hx hb X.2.2.2.1 (X.2.2.2.2.1 _ q4_175) dX7_mend_24 ?_
      exact g_iret X hP hS (sm_i hf) dX7_mend_26
  · replace hf := it_t hf h_4
    refine lv_ldc hx hb X.2.2.2.1 (X.2.2.2.2.1 _ q4_93) dX7_mend_8 ?_
    exact g_iret X hP hS (sm_i hf) dX7_mend_10
def f_X7_columnsOf_46 (x1 : Int32) (x2 : Int32) (k5 : Int32 → Int32 → Mem → Option (Int32 × Mem)) (x4 : Int32) (t0 : Int32) (t1 : Int32) (M : Mem) : Option (Int32 × Mem) :=
  lt (t0 ||| t1) fun x3_1 =>
  k5 x3_1 (x4 + (1 : Int32)) M
set_option maxRecDepth 20000 in
theorem b_X7_columnsOf_46 {out : Int32 × Mem} (X : Bx p s m args meth c RX7 cX7_columnsOf 5 (some .int) g)   {x1 : Int32} {x2 : Int32}   {k5 : Int32 → Int32 → Mem → Option (Int32 × Mem)} (hk5 : ∀ (x3 : Int32) (x4 : Int32) (M : Mem) (H : Heap) (locs : List Loc) (ls : Array Slot), k5 x3 x4 M = some out → va_P g.1 vwCl (gW g M) H → va_S (gA g) s.heap H locs → lv_has ls 5 [(0, .ref (gz g + 279)), (1, .int x1), (2, .int x2), (3, .int x3), (4, .int x4)] → W p l e (rM 1 21) s m args below meth c H locs 0 0 (MQ below (qI g out) args s 0 0 (gA g)) (F0 m 5 ls [])) (x4 : Int32) (t0 : Int32) (t1 : Int32) (M : Mem) {H : Heap} {locs : List Loc} {ls : Array Slot} (hf : f_X7_columnsOf_46 x1 x2 k5 x4 t0 t1 M = some out) (hP : va_P g.1 vwCl (gW g M) H) (hS : va_S (gA g) s.heap H locs) (hl : lv_has ls 5 [(0, .ref (gz g + 279)), (1, .int x1), (2, .int x2), (4, .int x4)]) : W p l e (rM 1 21) s m args below meth c H locs 0 0 (MQ below (qI g out) args s 0 0 (gA g)) (F0 m 46 ls [.int t1, .int t0]) := by
  have hx := X.1
  have hb := X.2.1
  refine lv_ior hx hb dX7_columnsOf_46 ?_
  refine lv_topi (fun x3_1 ex3_1 => ?_)
  replace hf := lt_go hf ex3_1
  refine lv_istore_n (lv' := [(3, .int x3_1), (0, .ref (gz g + 279)), (1, .int x1), (2, .int x2), (4, .int x4)]) hx hb dX7_columnsOf_47 rfl hl (by decide) rfl (fun ls hl => ?_)
  refine lv_iinc (v := (x4 + (1 : Int32))) (lv' := [(4, .int (x4 + (1 : Int32))), (3, .int x3_1), (0, .ref (gz g + 279)), (1, .int x1), (2, .int x2)]) hx hb dX7_columnsOf_48 hl (k := 4) rfl rfl (by decide) rfl (fun ls hl => ?_)
  refine lv_goto (tgt := 5) hx hb dX7_columnsOf_51 (by decide) ?_
  exact hk5 x3_1 (x4 + (1 : Int32)) M _ _ _ hf hP hS (lv_sub hl [2, 3, 4, 1, 0] rfl)
def f_X7_columnsOf_5 (x1 : Int32) (x2 : Int32)  : Nat → Int32 → Int32 → Mem → Option (Int32 × Mem)
  | 0, _, _, _ => none
  | n + 1, x3, x4, M =>
    ck (x1 + (1 : Int32)) 1247 <|
    if (M 280 ((x1 + (1 : Int32))).toNatClampNeg) ≤ x4 then
      some (x3, M)
    else
      ck ((x1 + (30 : Int32)) + x4) 1247 <|
      cb (f_X7_has (M 280 (((x1 + (30 : Int32)) + x4)).toNatClampNeg) x2 M) fun r_6 M_5 =>
      if r_6 = 0 then
        f_X7_columnsOf_46 x1 x2 (f_X7_columnsOf_5 x1 x2 n) x4 x3 (0 : Int32) M_5
      else
        f_X7_columnsOf_46 x1 x2 (f_X7_columnsOf_5 x1 x2 n) x4 x3 ((1 : Int32) <<< (x4 &&& 31)) M_5
set_option maxRecDepth 20000 in
theorem b_X7_columnsOf_5 {out : Int32 × Mem} (X : Bx p s m args meth c RX7 cX7_columnsOf 5 (some .int) g)   {x1 : Int32} {x2 : Int32}     : ∀ (n : Nat) (x3 : Int32) (x4 : Int32) (M : Mem) (H : Heap) (locs : List Loc) (ls : Array Slot), f_X7_columnsOf_5 x1 x2 n x3 x4 M = some out → va_P g.1 vwCl (gW g M) H → va_S (gA g) s.heap H locs → lv_has ls 5 [(0, .ref (gz g + 279)), (1, .int x1), (2, .int x2), (3, .int x3), (4, .int x4)] → W p l e (rM 1 21) s m args below meth c H locs 0 0 (MQ below (qI g out) args s 0 0 (gA g)) (F0 m 5 ls []) := by
  have hx := X.1
  have hb := X.2.1
  intro n
  induction n with
  | zero => intro _ _ _ _ _ _ hf; cases hf
  | succ n ih =>
    intro x3 x4 M H locs ls hf hP hS hl
    rw [f_X7_columnsOf_5] at hf
    refine lv_iload hx hb dX7_columnsOf_5 (lv_at hl 4 rfl) ?_
    refine lv_aload_n hx hb dX7_columnsOf_7 rfl (lv_at hl 0 rfl) ?_
    refine gf_7_0 X hP kc_279 q4_25 dX7_columnsOf_8 ?_
    refine lv_iload_n hx hb dX7_columnsOf_11 rfl (lv_at hl 1 rfl) ?_
    refine lv_iconst (v := (1 : Int32)) hx hb dX7_columnsOf_12 (by decide) ?_
    refine lv_iadd hx hb dX7_columnsOf_13 ?_
    obtain ⟨hi_1, hf⟩ := ck_s hf
    refine ga_ld X hP (iA_13 kc_280) hi_1 dX7_columnsOf_14 ?_
    refine lv_icmp_ge (tgt := 54) hx hb dX7_columnsOf_15 (by decide) (fun h_2 => ?_) (fun h_2 => ?_)
    · replace hf := it_t hf h_2
      refine lv_iload_n hx hb dX7_columnsOf_54 rfl (lv_at hl 3 rfl) ?_
      exact g_iret X hP hS (sm_i hf) dX7_columnsOf_55
    · replace hf := it_f hf h_2
      refine lv_iload_n hx hb dX7_columnsOf_18 rfl (lv_at hl 3 rfl) ?_
      refine lv_aload_n hx hb dX7_columnsOf_19 rfl (lv_at hl 0 rfl) ?_
      refine gf_7_0 X hP kc_279 q4_25 dX7_columnsOf_20 ?_
      refine lv_iload_n hx hb dX7_columnsOf_23 rfl (lv_at hl 1 rfl) ?_
      refine lv_bipush (v := (30 : Int32)) hx hb dX7_columnsOf_24 (by decide) ?_
      refine lv_iadd hx hb dX7_columnsOf_26 ?_
      refine lv_iload hx hb dX7_columnsOf_27 (lv_at hl 4 rfl) ?_
      refine lv_iadd hx hb dX7_columnsOf_29 ?_
      obtain ⟨hi_3, hf⟩ := ck_s hf
      refine ga_ld X hP (iA_13 kc_280) hi_3 dX7_columnsOf_30 ?_
      refine lv_iload_n hx hb dX7_columnsOf_31 rfl (lv_at hl 2 rfl) ?_
      obtain ⟨r_6, M_5, hc_4, hf⟩ := cb_s hf
      refine g_goi (g_runS X (c_X7_has l g  hc_4) s_X7_has q4_197 ⟨Nat.le_of_ble_eq_true rfl, Nat.le_of_ble_eq_true rfl⟩ hP hS rfl hl.1 rfl (Nat.le_of_ble_eq_true rfl) ⟨Nat.le_refl _, Nat.le_refl _⟩ dX7_columnsOf_32) hS (fun H locs hP hS => ?_)
      refine lv_if_eq (tgt := 45) hx hb dX7_columnsOf_35 (by decide) (fun h_7 => ?_) (fun h_7 => ?_)
      · replace hf := it_t hf h_7
        refine lv_iconst (v := (0 : Int32)) hx hb dX7_columnsOf_45 (by decide) ?_
        exact b_X7_columnsOf_46 X ih x4 x3 (0 : Int32) M_5 hf hP hS (lv_sub hl [0, 1, 2, 4] rfl)
      · replace hf := it_f hf h_7
        refine lv_iconst (v := (1 : Int32)) hx hb dX7_columnsOf_38 (by decide) ?_
        refine lv_iload hx hb dX7_columnsOf_39 (lv_at hl 4 rfl) ?_
        refine lv_ishl hx hb dX7_columnsOf_41 ?_
        refine lv_goto (tgt := 46) hx hb dX7_columnsOf_42 (by decide) ?_
        exact b_X7_columnsOf_46 X ih x4 x3 ((1 : Int32) <<< (x4 &&& 31)) M_5 hf hP hS (lv_sub hl [0, 1, 2, 4] rfl)
def f_X7_columnsOf (x1 : Int32) (x2 : Int32) (M : Mem) : Option (Int32 × Mem) :=
  f_X7_columnsOf_5 x1 x2 FU (0 : Int32) (0 : Int32) M
set_option maxRecDepth 20000 in
theorem c_X7_columnsOf (l : Launch) (g : GC) {x1 : Int32} {x2 : Int32}  {M : Mem} {out : Int32 × Mem} (hf : f_X7_columnsOf x1 x2 M = some out) : cI l g yX7_columnsOf cX7_columnsOf 5 (some .int) (rM 1 21) [.ref (gz g + 279), .int x1, .int x2] M out := by
  refine g_met (by decide) (Nat.le_of_ble_eq_true rfl) ?_
  intro p e s m below meth c X hP hS ls hl
  have X : Bx p s m _ meth c RX7 cX7_columnsOf 5 (some .int) g := X
  have hl : lv_has ls 5 [(0, .ref (gz g + 279)), (1, .int x1), (2, .int x2)] := hl
  have hx := X.1
  have hb := X.2.1
  refine lv_iconst (v := (0 : Int32)) hx hb dX7_columnsOf_0 (by decide) ?_
  refine lv_istore_n (lv' := [(3, .int (0 : Int32)), (0, .ref (gz g + 279)), (1, .int x1), (2, .int x2)]) hx hb dX7_columnsOf_1 rfl hl (by decide) rfl (fun ls hl => ?_)
  refine lv_iconst (v := (0 : Int32)) hx hb dX7_columnsOf_2 (by decide) ?_
  refine lv_istore (lv' := [(4, .int (0 : Int32)), (3, .int (0 : Int32)), (0, .ref (gz g + 279)), (1, .int x1), (2, .int x2)]) hx hb dX7_columnsOf_3 hl (by decide) rfl (fun ls hl => ?_)
  exact b_X7_columnsOf_5 X  FU (0 : Int32) (0 : Int32) M _ _ _ hf hP hS (lv_sub hl [2, 3, 4, 1, 0] rfl)
def f_X7_tooth (x1 : Int32) (x2 : Int32) (M : Mem) : Option (Int32 × Mem) :=
  cb (f_X7_isTooth x1 M) fun r_3 M_2 =>
  if r_3 = 0 then
    some ((-1000001 : Int32), M_2)
  else
    lt x2 fun v_5 =>
    if v_5 = (0 : Int32) then
      ck ((12 : Int32) + x1) 1247 <|
      some ((M_2 280 (((12 : Int32) + x1)).toNatClampNeg), M_2)
    else
      if v_5 = (1 : Int32) then
        ck ((18 : Int32) + x1) 1247 <|
        some ((M_2 280 (((18 : Int32) + x1)).toNatClampNeg), M_2)
      else
        if v_5 = (2 : Int32) then
          ck ((24 : Int32) + x1) 1247 <|
          some ((M_2 280 (((24 : Int32) + x1)).toNatClampNeg), M_2)
        else
          if v_5 = (3 : Int32) then
            some ((((M_2 280 5) >>> (x1 &&& 31)) &&& (1 : Int32)), M_2)
          else
            if v_5 = (4 : Int32) then
              cb (f_X7_columnsOf (0 : Int32) x1 M_2) fun r_16 M_15 =>
              some (r_16, M_15)
            else
              some ((-1000001 : Int32), M_2)
set_option maxRecDepth 20000 in
theorem c_X7_tooth (l : Launch) (g : GC) {x1 : Int32} {x2 : Int32}  {M : Mem} {out : Int32 × Mem} (hf : f_X7_tooth x1 x2 M = some out) : cI l g yX7_tooth cX7_tooth 3 (some .int) (rM 2 46) [.ref (gz g + 279), .int x1, .int x2] M out := by
  refine g_met (by decide) (Nat.le_of_ble_eq_true rfl) ?_
  intro p e s m below meth c X hP hS ls hl
  have X : Bx p s m _ meth c RX7 cX7_tooth 3 (some .int) g := X
  have hl : lv_has ls 3 [(0, .ref (gz g + 279)), (1, .int x1), (2, .int x2)] := hl
  have hx := X.1
  have hb := X.2.1
  refine lv_aload_n hx hb dX7_tooth_0 rfl (lv_at hl 0 rfl) ?_
  refine lv_iload_n hx hb dX7_tooth_1 rfl (lv_at hl 1 rfl) ?_
  obtain ⟨r_3, M_2, hc_1, hf⟩ := cb_s hf
  refine g_goi (g_run X (c_X7_isTooth l g  hc_1) s_X7_isTooth (oB_7 kc_279) q4_221 ⟨Nat.le_of_ble_eq_true rfl, Nat.le_of_ble_eq_true rfl⟩ hP hS rfl hl.1 rfl (Nat.le_of_ble_eq_true rfl) ⟨Nat.le_refl _, Nat.le_refl _⟩ dX7_tooth_2) hS (fun H locs hP hS => ?_)
  refine lv_if_ne (tgt := 11) hx hb dX7_tooth_5 (by decide) (fun h_4 => ?_) (fun h_4 => ?_)
  · replace hf := it_f hf h_4
    refine lv_iload_n hx hb dX7_tooth_11 rfl (lv_at hl 2 rfl) ?_
    refine lv_topi (fun v_5 ev_5 => ?_)
    replace hf := lt_go hf ev_5
    by_cases h_6 : v_5 = (0 : Int32)
    · replace hf := it_t hf h_6
      refine lv_tableIn (off := 36) (tgt := 48) hx hb dX7_tooth_12 (by rw [h_6]; decide) (by rw [h_6]; decide) (by rw [h_6]; rfl) (by decide) ?_
      refine lv_aload_n hx hb dX7_tooth_48 rfl (lv_at hl 0 rfl) ?_
      refine gf_7_0 X hP kc_279 q4_25 dX7_tooth_49 ?_
      refine lv_bipush (v := (12 : Int32)) hx hb dX7_tooth_52 (by decide) ?_
      refine lv_iload_n hx hb dX7_tooth_54 rfl (lv_at hl 1 rfl) ?_
      refine lv_iadd hx hb dX7_tooth_55 ?_
      obtain ⟨hi_7, hf⟩ := ck_s hf
      refine ga_ld X hP (iA_13 kc_280) hi_7 dX7_tooth_56 ?_
      exact g_iret X hP hS (sm_i hf) dX7_tooth_57
    · replace hf := it_f hf h_6
      by_cases h_8 : v_5 = (1 : Int32)
      · replace hf := it_t hf h_8
        refine lv_tableIn (off := 46) (tgt := 58) hx hb dX7_tooth_12 (by rw [h_8]; decide) (by rw [h_8]; decide) (by rw [h_8]; rfl) (by decide) ?_
        refine lv_aload_n hx hb dX7_tooth_58 rfl (lv_at hl 0 rfl) ?_
        refine gf_7_0 X hP kc_279 q4_25 dX7_tooth_59 ?_
        refine lv_bipush (v := (18 : Int32)) hx hb dX7_tooth_62 (by decide) ?_
        refine lv_iload_n hx hb dX7_tooth_64 rfl (lv_at hl 1 rfl) ?_
        refine lv_iadd hx hb dX7_tooth_65 ?_
        obtain ⟨hi_9, hf⟩ := ck_s hf
        refine ga_ld X hP (iA_13 kc_280) hi_9 dX7_tooth_66 ?_
        exact g_iret X hP hS (sm_i hf) dX7_tooth_67
      · replace hf := it_f hf h_8
        by_cases h_10 : v_5 = (2 : Int32)
        · replace hf := it_t hf h_10
          refine lv_tableIn (off := 56) (tgt := 68) hx hb dX7_tooth_12 (by rw [h_10]; decide) (by rw [h_10]; decide) (by rw [h_10]; rfl) (by decide) ?_
          refine lv_aload_n hx hb dX7_tooth_68 rfl (lv_at hl 0 rfl) ?_
          refine gf_7_0 X hP kc_279 q4_25 dX7_tooth_69 ?_
          refine lv_bipush (v := (24 : Int32)) hx hb dX7_tooth_72 (by decide) ?_
          refine lv_iload_n hx hb dX7_tooth_74 rfl (lv_at hl 1 rfl) ?_
          refine lv_iadd hx hb dX7_tooth_75 ?_
          obtain ⟨hi_11, hf⟩ := ck_s hf
          refine ga_ld X hP (iA_13 kc_280) hi_11 dX7_tooth_76 ?_
          exact g_iret X hP hS (sm_i hf) dX7_tooth_77
        · replace hf := it_f hf h_10
          by_cases h_12 : v_5 = (3 : Int32)
          · replace hf := it_t hf h_12
            refine lv_tableIn (off := 66) (tgt := 78) hx hb dX7_tooth_12 (by rw [h_12]; decide) (by rw [h_12]; decide) (by rw [h_12]; rfl) (by decide) ?_
            refine lv_aload_n hx hb dX7_tooth_78 rfl (lv_at hl 0 rfl) ?_
            refine gf_7_0 X hP kc_279 q4_25 dX7_tooth_79 ?_
            refine lv_iconst (v := (5 : Int32)) hx hb dX7_tooth_82 (by decide) ?_
            refine ga_ldj (j := 5) X hP (iA_13 kc_280) (by unfold vp_in; decide) (by decide) dX7_tooth_83 ?_
            refine lv_iload_n hx hb dX7_tooth_84 rfl (lv_at hl 1 rfl) ?_
            refine lv_ishr hx hb dX7_tooth_85 ?_
            refine lv_iconst (v := (1 : Int32)) hx hb dX7_tooth_86 (by decide) ?_
            refine lv_iand hx hb dX7_tooth_87 ?_
            exact g_iret X hP hS (sm_i hf) dX7_tooth_88
          · replace hf := it_f hf h_12
            by_cases h_13 : v_5 = (4 : Int32)
            · replace hf := it_t hf h_13
              refine lv_tableIn (off := 77) (tgt := 89) hx hb dX7_tooth_12 (by rw [h_13]; decide) (by rw [h_13]; decide) (by rw [h_13]; rfl) (by decide) ?_
              refine lv_aload_n hx hb dX7_tooth_89 rfl (lv_at hl 0 rfl) ?_
              refine lv_iconst (v := (0 : Int32)) hx hb dX7_tooth_90 (by decide) ?_
              refine lv_iload_n hx hb dX7_tooth_91 rfl (lv_at hl 1 rfl) ?_
              obtain ⟨r_16, M_15, hc_14, hf⟩ := cb_s hf
              refine g_goi (g_run X (c_X7_columnsOf l g  hc_14) s_X7_columnsOf (oB_7 kc_279) q5_1 ⟨Nat.le_of_ble_eq_true rfl, Nat.le_of_ble_eq_true rfl⟩ hP hS rfl hl.1 rfl (Nat.le_of_ble_eq_true rfl) ⟨Nat.le_refl _, Nat.le_refl _⟩ dX7_tooth_92) hS (fun H locs hP hS => ?_)
              exact g_iret X hP hS (sm_i hf) dX7_tooth_95
            · replace hf := it_f hf h_13
              refine lv_tableOut (tgt := 96) hx hb dX7_tooth_12 (by have n0 := lv_neT (a := 0) h_6 rfl; have n1 := lv_neT (a := 1) h_8 rfl; have n2 := lv_neT (a := 2) h_10 rfl; have n3 := lv_neT (a := 3) h_12 rfl; have n4 := lv_neT (a := 4) h_13 rfl; omega) (by decide) ?_
              refine lv_ldc hx hb X.2.2.2.1 (X.2.2.2.2.1 _ q4_93) dX7_tooth_96 ?_
              exact g_iret X hP hS (sm_i hf) dX7_tooth_98
  · replace hf := it_t hf h_4
    refine lv_ldc hx hb X.2.2.2.1 (X.2.2.2.2.1 _ q4_93) dX7_tooth_8 ?_
    exact g_iret X hP hS (sm_i hf) dX7_tooth_10
def f_X7_pins (x1 : Int32) (M : Mem) : Option (Int32 × Mem) :=
  cb (f_X7_isColumn x1 M) fun r_3 M_2 =>
  if r_3 = 0 then
    some ((-1000001 : Int32), M_2)
  else
    ck ((30 : Int32) + x1) 1247 <|
    some ((M_2 280 (((30 : Int32) + x1)).toNatClampNeg), M_2)
set_option maxRecDepth 20000 in
theorem c_X7_pins (l : Launch) (g : GC) {x1 : Int32}  {M : Mem} {out : Int32 × Mem} (hf : f_X7_pins x1 M = some out) : cI l g yX7_pins cX7_pins 2 (some .int) (rM 2 46) [.ref (gz g + 279), .int x1] M out := by
  refine g_met (by decide) (Nat.le_of_ble_eq_true rfl) ?_
  intro p e s m below meth c X hP hS ls hl
  have X : Bx p s m _ meth c RX7 cX7_pins 2 (some .int) g := X
  have hl : lv_has ls 2 [(0, .ref (gz g + 279)), (1, .int x1)] := hl
  have hx := X.1
  have hb := X.2.1
  refine lv_aload_n hx hb dX7_pins_0 rfl (lv_at hl 0 rfl) ?_
  refine lv_iload_n hx hb dX7_pins_1 rfl (lv_at hl 1 rfl) ?_
  obtain ⟨r_3, M_2, hc_1, hf⟩ := cb_s hf
  refine g_goi (g_run X (c_X7_isColumn l g  hc_1) s_X7_isColumn (oB_7 kc_279) q4_217 ⟨Nat.le_of_ble_eq_true rfl, Nat.le_of_ble_eq_true rfl⟩ hP hS rfl hl.1 rfl (Nat.le_of_ble_eq_true rfl) ⟨Nat.le_refl _, Nat.le_refl _⟩ dX7_pins_2) hS (fun H locs hP hS => ?_)
  refine lv_if_eq (tgt := 20) hx hb dX7_pins_5 (by decide) (fun h_4 => ?_) (fun h_4 => ?_)
  · replace hf := it_t hf h_4
    refine lv_ldc hx hb X.2.2.2.1 (X.2.2.2.2.1 _ q4_93) dX7_pins_20 ?_
    exact g_iret X hP hS (sm_i hf) dX7_pins_22
  · replace hf := it_f hf h_4
    refine lv_aload_n hx hb dX7_pins_8 rfl (lv_at hl 0 rfl) ?_
    refine gf_7_0 X hP kc_279 q4_25 dX7_pins_9 ?_
    refine lv_bipush (v := (30 : Int32)) hx hb dX7_pins_12 (by decide) ?_
    refine lv_iload_n hx hb dX7_pins_14 rfl (lv_at hl 1 rfl) ?_
    refine lv_iadd hx hb dX7_pins_15 ?_
    obtain ⟨hi_5, hf⟩ := ck_s hf
    refine ga_ld X hP (iA_13 kc_280) hi_5 dX7_pins_16 ?_
    refine lv_goto (tgt := 22) hx hb dX7_pins_17 (by decide) ?_
    exact g_iret X hP hS (sm_i hf) dX7_pins_22
def f_X7_stand (x1 : Int32) (M : Mem) : Option (Int32 × Mem) :=
  cb (f_X7_isBox M) fun r_3 M_2 =>
  if r_3 = 0 then
    some ((-1000002 : Int32), M_2)
  else
    lt x1 fun v_5 =>
    if v_5 = (0 : Int32) then
      some ((M_2 280 1), M_2)
    else
      if v_5 = (1 : Int32) then
        some ((M_2 280 3), M_2)
      else
        if v_5 = (2 : Int32) then
          some ((M_2 280 2), M_2)
        else
          if v_5 = (3 : Int32) then
            cb (f_X7_loud (0 : Int32) M_2) fun r_12 M_11 =>
            some (r_12, M_11)
          else
            if v_5 = (4 : Int32) then
              cb (f_X7_ringing (0 : Int32) M_2) fun r_16 M_15 =>
              some (r_16, M_15)
            else
              if v_5 = (5 : Int32) then
                some ((M_2 280 5), M_2)
              else
                some ((-1000001 : Int32), M_2)
set_option maxRecDepth 20000 in
theorem c_X7_stand (l : Launch) (g : GC) {x1 : Int32}  {M : Mem} {out : Int32 × Mem} (hf : f_X7_stand x1 M = some out) : cI l g yX7_stand cX7_stand 2 (some .int) (rM 1 23) [.ref (gz g + 279), .int x1] M out := by
  refine g_met (by decide) (Nat.le_of_ble_eq_true rfl) ?_
  intro p e s m below meth c X hP hS ls hl
  have X : Bx p s m _ meth c RX7 cX7_stand 2 (some .int) g := X
  have hl : lv_has ls 2 [(0, .ref (gz g + 279)), (1, .int x1)] := hl
  have hx := X.1
  have hb := X.2.1
  refine lv_aload_n hx hb dX7_stand_0 rfl (lv_at hl 0 rfl) ?_
  obtain ⟨r_3, M_2, hc_1, hf⟩ := cb_s hf
  refine g_goi (g_run X (c_X7_isBox l g  hc_1) s_X7_isBox (oB_7 kc_279) q4_180 ⟨Nat.le_of_ble_eq_true rfl, Nat.le_of_ble_eq_true rfl⟩ hP hS rfl hl.1 rfl (Nat.le_of_ble_eq_true rfl) ⟨Nat.le_refl _, Nat.le_refl _⟩ dX7_stand_1) hS (fun H locs hP hS => ?_)
  refine lv_if_ne (tgt := 10) hx hb dX7_stand_4 (by decide) (fun h_4 => ?_) (fun h_4 => ?_)
  · replace hf := it_f hf h_4
    refine lv_iload_n hx hb dX7_stand_10 rfl (lv_at hl 1 rfl) ?_
    refine lv_topi (fun v_5 ev_5 => ?_)
    replace hf := lt_go hf ev_5
    by_cases h_6 : v_5 = (0 : Int32)
    · replace hf := it_t hf h_6
      refine lv_tableIn (off := 37) (tgt := 48) hx hb dX7_stand_11 (by rw [h_6]; decide) (by rw [h_6]; decide) (by rw [h_6]; rfl) (by decide) ?_
      refine lv_aload_n hx hb dX7_stand_48 rfl (lv_at hl 0 rfl) ?_
      refine gf_7_0 X hP kc_279 q4_25 dX7_stand_49 ?_
      refine lv_iconst (v := (1 : Int32)) hx hb dX7_stand_52 (by decide) ?_
      refine ga_ldj (j := 1) X hP (iA_13 kc_280) (by unfold vp_in; decide) (by decide) dX7_stand_53 ?_
      exact g_iret X hP hS (sm_i hf) dX7_stand_54
    · replace hf := it_f hf h_6
      by_cases h_7 : v_5 = (1 : Int32)
      · replace hf := it_t hf h_7
        refine lv_tableIn (off := 44) (tgt := 55) hx hb dX7_stand_11 (by rw [h_7]; decide) (by rw [h_7]; decide) (by rw [h_7]; rfl) (by decide) ?_
        refine lv_aload_n hx hb dX7_stand_55 rfl (lv_at hl 0 rfl) ?_
        refine gf_7_0 X hP kc_279 q4_25 dX7_stand_56 ?_
        refine lv_iconst (v := (3 : Int32)) hx hb dX7_stand_59 (by decide) ?_
        refine ga_ldj (j := 3) X hP (iA_13 kc_280) (by unfold vp_in; decide) (by decide) dX7_stand_60 ?_
        exact g_iret X hP hS (sm_i hf) dX7_stand_61
      · replace hf := it_f hf h_7
        by_cases h_8 : v_5 = (2 : Int32)
        · replace hf := it_t hf h_8
          refine lv_tableIn (off := 51) (tgt := 62) hx hb dX7_stand_11 (by rw [h_8]; decide) (by rw [h_8]; decide) (by rw [h_8]; rfl) (by decide) ?_
          refine lv_aload_n hx hb dX7_stand_62 rfl (lv_at hl 0 rfl) ?_
          refine gf_7_0 X hP kc_279 q4_25 dX7_stand_63 ?_
          refine lv_iconst (v := (2 : Int32)) hx hb dX7_stand_66 (by decide) ?_
          refine ga_ldj (j := 2) X hP (iA_13 kc_280) (by unfold vp_in; decide) (by decide) dX7_stand_67 ?_
          exact g_iret X hP hS (sm_i hf) dX7_stand_68
        · replace hf := it_f hf h_8
          by_cases h_9 : v_5 = (3 : Int32)
          · replace hf := it_t hf h_9
            refine lv_tableIn (off := 58) (tgt := 69) hx hb dX7_stand_11 (by rw [h_9]; decide) (by rw [h_9]; decide) (by rw [h_9]; rfl) (by decide) ?_
            refine lv_aload_n hx hb dX7_stand_69 rfl (lv_at hl 0 rfl) ?_
            refine lv_iconst (v := (0 : Int32)) hx hb dX7_stand_70 (by decide) ?_
            obtain ⟨r_12, M_11, hc_10, hf⟩ := cb_s hf
            refine g_goi (g_run X (c_X7_loud l g  hc_10) s_X7_loud (oB_7 kc_279) q4_204 ⟨Nat.le_of_ble_eq_true rfl, Nat.le_of_ble_eq_true rfl⟩ hP hS rfl hl.1 rfl (Nat.le_of_ble_eq_true rfl) ⟨Nat.le_refl _, Nat.le_refl _⟩ dX7_stand_71) hS (fun H locs hP hS => ?_)
            exact g_iret X hP hS (sm_i hf) dX7_stand_74
          · replace hf := it_f hf h_9
            by_cases h_13 : v_5 = (4 : Int32)
            · replace hf := it_t hf h_13
              refine lv_tableIn (off := 64) (tgt := 75) hx hb dX7_stand_11 (by rw [h_13]; decide) (by rw [h_13]; decide) (by rw [h_13]; rfl) (by decide) ?_
              refine lv_aload_n hx hb dX7_stand_75 rfl (lv_at hl 0 rfl) ?_
              refine lv_iconst (v := (0 : Int32)) hx hb dX7_stand_76 (by decide) ?_
              obtain ⟨r_16, M_15, hc_14, hf⟩ := cb_s hf
              refine g_goi (g_run X (c_X7_ringing l g  hc_14) s_X7_ringing (oB_7 kc_279) q5_13 ⟨Nat.le_of_ble_eq_true rfl, Nat.le_of_ble_eq_true rfl⟩ hP hS rfl hl.1 rfl (Nat.le_of_ble_eq_true rfl) ⟨Nat.le_refl _, Nat.le_refl _⟩ dX7_stand_77) hS (fun H locs hP hS => ?_)
              exact g_iret X hP hS (sm_i hf) dX7_stand_80
            · replace hf := it_f hf h_13
              by_cases h_17 : v_5 = (5 : Int32)
              · replace hf := it_t hf h_17
                refine lv_tableIn (off := 70) (tgt := 81) hx hb dX7_stand_11 (by rw [h_17]; decide) (by rw [h_17]; decide) (by rw [h_17]; rfl) (by decide) ?_
                refine lv_aload_n hx hb dX7_stand_81 rfl (lv_at hl 0 rfl) ?_
                refine gf_7_0 X hP kc_279 q4_25 dX7_stand_82 ?_
                refine lv_iconst (v := (5 : Int32)) hx hb dX7_stand_85 (by decide) ?_
                refine ga_ldj (j := 5) X hP (iA_13 kc_280) (by unfold vp_in; decide) (by decide) dX7_stand_86 ?_
                exact g_iret X hP hS (sm_i hf) dX7_stand_87
              · replace hf := it_f hf h_17
                refine lv_tableOut (tgt := 88) hx hb dX7_stand_11 (by have n0 := lv_neT (a := 0) h_6 rfl; have n1 := lv_neT (a := 1) h_7 rfl; have n2 := lv_neT (a := 2) h_8 rfl; have n3 := lv_neT (a := 3) h_9 rfl; have n4 := lv_neT (a := 4) h_13 rfl; have n5 := lv_neT (a := 5) h_17 rfl; omega) (by decide) ?_
                refine lv_ldc hx hb X.2.2.2.1 (X.2.2.2.2.1 _ q4_93) dX7_stand_88 ?_
                exact g_iret X hP hS (sm_i hf) dX7_stand_90
  · replace hf := it_t hf h_4
    refine lv_ldc hx hb X.2.2.2.1 (X.2.2.2.2.1 _ q4_175) dX7_stand_7 ?_
    exact g_iret X hP hS (sm_i hf) dX7_stand_9
def f_X7_tries  (M : Mem) : Option Mem :=
  cv (f_X7_copyOf (0 : Int32) (43 : Int32) M) fun M_2 =>
  some M_2
set_option maxRecDepth 20000 in
theorem c_X7_tries (l : Launch) (g : GC)   {M : Mem} {out : Mem} (hf : f_X7_tries  M = some out) : cV l g yX7_tries cX7_tries 1 (rM 1 23) [.ref (gz g + 279)] M out := by
  refine g_met (by decide) (Nat.le_of_ble_eq_true rfl) ?_
  intro p e s m below meth c X hP hS ls hl
  have X : Bx p s m _ meth c RX7 cX7_tries 1 none g := X
  have hl : lv_has ls 1 [(0, .ref (gz g + 279))] := hl
  have hx := X.1
  have hb := X.2.1
  refine lv_aload_n hx hb dX7_tries_0 rfl (lv_at hl 0 rfl) ?_
  refine lv_iconst (v := (0 : Int32)) hx hb dX7_tries_1 (by decide) ?_
  refine lv_bipush (v := (43 : Int32)) hx hb dX7_tries_2 (by decide) ?_
  obtain ⟨M_2, hc_1, hf⟩ := cv_s hf
  refine g_gov (g_run X (c_X7_copyOf l g  hc_1) s_X7_copyOf (oB_7 kc_279) q4_163 ⟨Nat.le_of_ble_eq_true rfl, Nat.le_of_ble_eq_true rfl⟩ hP hS rfl hl.1 rfl (Nat.le_of_ble_eq_true rfl) ⟨Nat.le_refl _, Nat.le_refl _⟩ dX7_tries_4) hS (fun H locs hP hS => ?_)
  exact g_vret X hP hS (sm_i hf) dX7_tries_7
def f_X7_goesOn_2 (x1 : Int32)  : Nat → Int32 → Mem → Option Mem
  | 0, _, _ => none
  | n + 1, x2, M =>
    if x1 ≤ x2 then
      some M
    else
      cv (f_X7_passes (43 : Int32) M) fun M_3 =>
      (f_X7_goesOn_2 x1 n) (x2 + (1 : Int32)) M_3
set_option maxRecDepth 20000 in
theorem b_X7_goesOn_2 {out : Mem} (X : Bx p s m args meth c RX7 cX7_goesOn 3 none g)   {x1 : Int32}     : ∀ (n : Nat) (x2 : Int32) (M : Mem) (H : Heap) (locs : List Loc) (ls : Array Slot), f_X7_goesOn_2 x1 n x2 M = some out → va_P g.1 vwCl (gW g M) H → va_S (gA g) s.heap H locs → lv_has ls 3 [(0, .ref (gz g + 279)), (1, .int x1), (2, .int x2)] → W p l e (rM 3 67) s m args below meth c H locs 0 0 (MQ below (qV g out) args s 0 0 (gA g)) (F0 m 2 ls []) := by
  have hx := X.1
  have hb := X.2.1
  intro n
  induction n with
  | zero => intro _ _ _ _ _ hf; cases hf
  | succ n ih =>
    intro x2 M H locs ls hf hP hS hl
    rw [f_X7_goesOn_2] at hf
    refine lv_iload_n hx hb dX7_goesOn_2 rfl (lv_at hl 2 rfl) ?_
    refine lv_iload_n hx hb dX7_goesOn_3 rfl (lv_at hl 1 rfl) ?_
    refine lv_icmp_ge (tgt := 19) hx hb dX7_goesOn_4 (by decide) (fun h_1 => ?_) (fun h_1 => ?_)
    · replace hf := it_t hf h_1
      exact g_vret X hP hS (sm_i hf) dX7_goesOn_19
    · replace hf := it_f hf h_1
      refine lv_aload_n hx hb dX7_goesOn_7 rfl (lv_at hl 0 rfl) ?_
      refine lv_bipush (v := (43 : Int32)) hx hb dX7_goesOn_8 (by decide) ?_
      obtain ⟨M_3, hc_2, hf⟩ := cv_s hf
      refine g_gov (g_run X (c_X7_passes l g  hc_2) s_X7_passes (oB_7 kc_279) q4_189 ⟨Nat.le_of_ble_eq_true rfl, Nat.le_of_ble_eq_true rfl⟩ hP hS rfl hl.1 rfl (Nat.le_of_ble_eq_true rfl) ⟨Nat.le_refl _, Nat.le_refl _⟩ dX7_goesOn_10) hS (fun H locs hP hS => ?_)
      refine lv_iinc (v := (x2 + (1 : Int32))) (lv' := [(2, .int (x2 + (1 : Int32))), (0, .ref (gz g + 279)), (1, .int x1)]) hx hb dX7_goesOn_13 hl (k := 2) rfl rfl (by decide) rfl (fun ls hl => ?_)
      refine lv_goto (tgt := 2) hx hb dX7_goesOn_16 (by decide) ?_
      exact ih (x2 + (1 : Int32)) M_3 _ _ _ hf hP hS (lv_sub hl [1, 2, 0] rfl)
def f_X7_goesOn (x1 : Int32) (M : Mem) : Option Mem :=
  f_X7_goesOn_2 x1 FU (0 : Int32) M
set_option maxRecDepth 20000 in
theorem c_X7_goesOn (l : Launch) (g : GC) {x1 : Int32}  {M : Mem} {out : Mem} (hf : f_X7_goesOn x1 M = some out) : cV l g yX7_goesOn cX7_goesOn 3 (rM 3 67) [.ref (gz g + 279), .int x1] M out := by
  refine g_met (by decide) (Nat.le_of_ble_eq_true rfl) ?_
  intro p e s m below meth c X hP hS ls hl
  have X : Bx p s m _ meth c RX7 cX7_goesOn 3 none g := X
  have hl : lv_has ls 3 [(0, .ref (gz g + 279)), (1, .int x1)] := hl
  have hx := X.1
  have hb := X.2.1
  refine lv_iconst (v := (0 : Int32)) hx hb dX7_goesOn_0 (by decide) ?_
  refine lv_istore_n (lv' := [(2, .int (0 : Int32)), (0, .ref (gz g + 279)), (1, .int x1)]) hx hb dX7_goesOn_1 rfl hl (by decide) rfl (fun ls hl => ?_)
  exact b_X7_goesOn_2 X  FU (0 : Int32) M _ _ _ hf hP hS (lv_sub hl [1, 2, 0] rfl)
def f_X7_sumOf_4 (x1 : Int32)  : Nat → Int32 → Int32 → Mem → Option (Int32 × Mem)
  | 0, _, _, _ => none
  | n + 1, x2, x3, M =>
    if x1 ≤ x3 then
      some (x2, M)
    else
      cv (f_X7_passes (43 : Int32) M) fun M_3 =>
      cb (f_X7_loud (43 : Int32) M_3) fun r_6 M_5 =>
      lt (x2 + r_6) fun x2_7 =>
      (f_X7_sumOf_4 x1 n) x2_7 (x3 + (1 : Int32)) M_5
set_option maxRecDepth 20000 in
theorem b_X7_sumOf_4 {out : Int32 × Mem} (X : Bx p s m args meth c RX7 cX7_sumOf 4 (some .int) g)   {x1 : Int32}     : ∀ (n : Nat) (x2 : Int32) (x3 : Int32) (M : Mem) (H : Heap) (locs : List Loc) (ls : Array Slot), f_X7_sumOf_4 x1 n x2 x3 M = some out → va_P g.1 vwCl (gW g M) H → va_S (gA g) s.heap H locs → lv_has ls 4 [(0, .ref (gz g + 279)), (1, .int x1), (2, .int x2), (3, .int x3)] → W p l e (rM 3 67) s m args below meth c H locs 0 0 (MQ below (qI g out) args s 0 0 (gA g)) (F0 m 4 ls []) := by
  have hx := X.1
  have hb := X.2.1
  intro n
  induction n with
  | zero => intro _ _ _ _ _ _ hf; cases hf
  | succ n ih =>
    intro x2 x3 M H locs ls hf hP hS hl
    rw [f_X7_sumOf_4] at hf
    refine lv_iload_n hx hb dX7_sumOf_4 rfl (lv_at hl 3 rfl) ?_
    refine lv_iload_n hx hb dX7_sumOf_5 rfl (lv_at hl 1 rfl) ?_
    refine lv_icmp_ge (tgt := 30) hx hb dX7_sumOf_6 (by decide) (fun h_1 => ?_) (fun h_1 => ?_)
    · replace hf := it_t hf h_1
      refine lv_iload_n hx hb dX7_sumOf_30 rfl (lv_at hl 2 rfl) ?_
      exact g_iret X hP hS (sm_i hf) dX7_sumOf_31
    · replace hf := it_f hf h_1
      refine lv_aload_n hx hb dX7_sumOf_9 rfl (lv_at hl 0 rfl) ?_
      refine lv_bipush (v := (43 : Int32)) hx hb dX7_sumOf_10 (by decide) ?_
      obtain ⟨M_3, hc_2, hf⟩ := cv_s hf
      refine g_gov (g_run X (c_X7_passes l g  hc_2) s_X7_passes (oB_7 kc_279) q4_189 ⟨Nat.le_of_ble_eq_true rfl, Nat.le_of_ble_eq_true rfl⟩ hP hS rfl hl.1 rfl (Nat.le_of_ble_eq_true rfl) ⟨Nat.le_refl _, Nat.le_refl _⟩ dX7_sumOf_12) hS (fun H locs hP hS => ?_)
      refine lv_iload_n hx hb dX7_sumOf_15 rfl (lv_at hl 2 rfl) ?_
      refine lv_aload_n hx hb dX7_sumOf_16 rfl (lv_at hl 0 rfl) ?_
      refine lv_bipush (v := (43 : Int32)) hx hb dX7_sumOf_17 (by decide) ?_
      obtain ⟨r_6, M_5, hc_4, hf⟩ := cb_s hf
      refine g_goi (g_run X (c_X7_loud l g  hc_4) s_X7_loud (oB_7 kc_279) q4_204 ⟨Nat.le_of_ble_eq_true rfl, Nat.le_of_ble_eq_true rfl⟩ hP hS rfl hl.1 rfl (Nat.le_of_ble_eq_true rfl) ⟨Nat.le_refl _, Nat.le_refl _⟩ dX7_sumOf_19) hS (fun H locs hP hS => ?_)
      refine lv_iadd hx hb dX7_sumOf_22 ?_
      refine lv_topi (fun x2_7 ex2_7 => ?_)
      replace hf := lt_go hf ex2_7
      refine lv_istore_n (lv' := [(2, .int x2_7), (0, .ref (gz g + 279)), (1, .int x1), (3, .int x3)]) hx hb dX7_sumOf_23 rfl hl (by decide) rfl (fun ls hl => ?_)
      refine lv_iinc (v := (x3 + (1 : Int32))) (lv' := [(3, .int (x3 + (1 : Int32))), (2, .int x2_7), (0, .ref (gz g + 279)), (1, .int x1)]) hx hb dX7_sumOf_24 hl (k := 3) rfl rfl (by decide) rfl (fun ls hl => ?_)
      refine lv_goto (tgt := 4) hx hb dX7_sumOf_27 (by decide) ?_
      exact ih x2_7 (x3 + (1 : Int32)) M_5 _ _ _ hf hP hS (lv_sub hl [2, 3, 1, 0] rfl)
def f_X7_sumOf (x1 : Int32) (M : Mem) : Option (Int32 × Mem) :=
  f_X7_sumOf_4 x1 FU (0 : Int32) (0 : Int32) M
set_option maxRecDepth 20000 in
theorem c_X7_sumOf (l : Launch) (g : GC) {x1 : Int32}  {M : Mem} {out : Int32 × Mem} (hf : f_X7_sumOf x1 M = some out) : cI l g yX7_sumOf cX7_sumOf 4 (some .int) (rM 3 67) [.ref (gz g + 279), .int x1] M out := by
  refine g_met (by decide) (Nat.le_of_ble_eq_true rfl) ?_
  intro p e s m below meth c X hP hS ls hl
  have X : Bx p s m _ meth c RX7 cX7_sumOf 4 (some .int) g := X
  have hl : lv_has ls 4 [(0, .ref (gz g + 279)), (1, .int x1)] := hl
  have hx := X.1
  have hb := X.2.1
  refine lv_iconst (v := (0 : Int32)) hx hb dX7_sumOf_0 (by decide) ?_
  refine lv_istore_n (lv' := [(2, .int (0 : Int32)), (0, .ref (gz g + 279)), (1, .int x1)]) hx hb dX7_sumOf_1 rfl hl (by decide) rfl (fun ls hl => ?_)
  refine lv_iconst (v := (0 : Int32)) hx hb dX7_sumOf_2 (by decide) ?_
  refine lv_istore_n (lv' := [(3, .int (0 : Int32)), (2, .int (0 : Int32)), (0, .ref (gz g + 279)), (1, .int x1)]) hx hb dX7_sumOf_3 rfl hl (by decide) rfl (fun ls hl => ?_)
  exact b_X7_sumOf_4 X  FU (0 : Int32) (0 : Int32) M _ _ _ hf hP hS (lv_sub hl [2, 3, 1, 0] rfl)
def f_X7_ahead (x1 : Int32) (x2 : Int32) (x3 : Int32) (M : Mem) : Option (Int32 × Mem) :=
  cb (f_X7_isTooth x1 M) fun r_3 M_2 =>
  if r_3 = 0 then
    some ((-1000001 : Int32), M_2)
  else
    cb (f_X7_in ((x2).toInt64) (0 : Int64) (60 : Int64) M_2) fun r_7 M_6 =>
    if r_7 = 0 then
      some ((-1000001 : Int32), M_6)
    else
      cb (f_X7_in ((x3).toInt64) (0 : Int64) (2 : Int64) M_6) fun r_11 M_10 =>
      if r_11 = 0 then
        some ((-1000001 : Int32), M_10)
      else
        cv (f_X7_tries M_10) fun M_14 =>
        cv (f_X7_goesOn x2 M_14) fun M_16 =>
        if x3 = 0 then
          ck ((61 : Int32) + x1) 1247 <|
          some ((M_16 280 (((61 : Int32) + x1)).toNatClampNeg), M_16)
        else
          if x3 = (1 : Int32) then
            ck ((67 : Int32) + x1) 1247 <|
            some ((M_16 280 (((67 : Int32) + x1)).toNatClampNeg), M_16)
          else
            some ((((M_16 280 48) >>> (x1 &&& 31)) &&& (1 : Int32)), M_16)
set_option maxRecDepth 20000 in
theorem c_X7_ahead (l : Launch) (g : GC) {x1 : Int32} {x2 : Int32} {x3 : Int32}  {M : Mem} {out : Int32 × Mem} (hf : f_X7_ahead x1 x2 x3 M = some out) : cI l g yX7_ahead cX7_ahead 4 (some .int) (rM 4 89) [.ref (gz g + 279), .int x1, .int x2, .int x3] M out := by
  refine g_met (by decide) (Nat.le_of_ble_eq_true rfl) ?_
  intro p e s m below meth c X hP hS ls hl
  have X : Bx p s m _ meth c RX7 cX7_ahead 4 (some .int) g := X
  have hl : lv_has ls 4 [(0, .ref (gz g + 279)), (1, .int x1), (2, .int x2), (3, .int x3)] := hl
  have hx := X.1
  have hb := X.2.1
  refine lv_aload_n hx hb dX7_ahead_0 rfl (lv_at hl 0 rfl) ?_
  refine lv_iload_n hx hb dX7_ahead_1 rfl (lv_at hl 1 rfl) ?_
  obtain ⟨r_3, M_2, hc_1, hf⟩ := cb_s hf
  refine g_goi (g_run X (c_X7_isTooth l g  hc_1) s_X7_isTooth (oB_7 kc_279) q4_221 ⟨Nat.le_of_ble_eq_true rfl, Nat.le_of_ble_eq_true rfl⟩ hP hS rfl hl.1 rfl (Nat.le_of_ble_eq_true rfl) ⟨Nat.le_refl _, Nat.le_refl _⟩ dX7_ahead_2) hS (fun H locs hP hS => ?_)
  refine lv_if_eq (tgt := 32) hx hb dX7_ahead_5 (by decide) (fun h_4 => ?_) (fun h_4 => ?_)
  · replace hf := it_t hf h_4
    refine lv_ldc hx hb X.2.2.2.1 (X.2.2.2.2.1 _ q4_93) dX7_ahead_32 ?_
    exact g_iret X hP hS (sm_i hf) dX7_ahead_34
  · replace hf := it_f hf h_4
    refine lv_iload_n hx hb dX7_ahead_8 rfl (lv_at hl 2 rfl) ?_
    refine lv_i2l hx hb dX7_ahead_9 rfl ?_
    refine lv_lconst (v := (0 : Int64)) hx hb dX7_ahead_10 (by decide) ?_
    refine lv_ldc2 hx hb X.2.2.2.1 (X.2.2.2.2.1 _ q5_21) dX7_ahead_11 ?_
    obtain ⟨r_7, M_6, hc_5, hf⟩ := cb_s hf
    refine g_goi (g_runS X (c_X7_in l g  hc_5) s_X7_in q4_89 ⟨Nat.le_of_ble_eq_true rfl, Nat.le_of_ble_eq_true rfl⟩ hP hS rfl hl.1 rfl (Nat.le_of_ble_eq_true rfl) ⟨Nat.le_refl _, Nat.le_refl _⟩ dX7_ahead_14) hS (fun H locs hP hS => ?_)
    refine lv_if_eq (tgt := 32) hx hb dX7_ahead_17 (by decide) (fun h_8 => ?_) (fun h_8 => ?_)
    · replace hf := it_t hf h_8
      refine lv_ldc hx hb X.2.2.2.1 (X.2.2.2.2.1 _ q4_93) dX7_ahead_32 ?_
      exact g_iret X hP hS (sm_i hf) dX7_ahead_34
    · replace hf := it_f hf h_8
      refine lv_iload_n hx hb dX7_ahead_20 rfl (lv_at hl 3 rfl) ?_
      refine lv_i2l hx hb dX7_ahead_21 rfl ?_
      refine lv_lconst (v := (0 : Int64)) hx hb dX7_ahead_22 (by decide) ?_
      refine lv_ldc2 hx hb X.2.2.2.1 (X.2.2.2.2.1 _ q4_92) dX7_ahead_23 ?_
      obtain ⟨r_11, M_10, hc_9, hf⟩ := cb_s hf
      refine g_goi (g_runS X (c_X7_in l g  hc_9) s_X7_in q4_89 ⟨Nat.le_of_ble_eq_true rfl, Nat.le_of_ble_eq_true rfl⟩ hP hS rfl hl.1 rfl (Nat.le_of_ble_eq_true rfl) ⟨Nat.le_refl _, Nat.le_refl _⟩ dX7_ahead_26) hS (fun H locs hP hS => ?_)
      refine lv_if_ne (tgt := 35) hx hb dX7_ahead_29 (by decide) (fun h_12 => ?_) (fun h_12 => ?_)
      · replace hf := it_f hf h_12
        refine lv_aload_n hx hb dX7_ahead_35 rfl (lv_at hl 0 rfl) ?_
        obtain ⟨M_14, hc_13, hf⟩ := cv_s hf
        refine g_gov (g_run X (c_X7_tries l g  hc_13) s_X7_tries (oB_7 kc_279) q5_22 ⟨Nat.le_of_ble_eq_true rfl, Nat.le_of_ble_eq_true rfl⟩ hP hS rfl hl.1 rfl (Nat.le_of_ble_eq_true rfl) ⟨Nat.le_refl _, Nat.le_refl _⟩ dX7_ahead_36) hS (fun H locs hP hS => ?_)
        refine lv_aload_n hx hb dX7_ahead_39 rfl (lv_at hl 0 rfl) ?_
        refine lv_iload_n hx hb dX7_ahead_40 rfl (lv_at hl 2 rfl) ?_
        obtain ⟨M_16, hc_15, hf⟩ := cv_s hf
        refine g_gov (g_run X (c_X7_goesOn l g  hc_15) s_X7_goesOn (oB_7 kc_279) q5_26 ⟨Nat.le_of_ble_eq_true rfl, Nat.le_of_ble_eq_true rfl⟩ hP hS rfl hl.1 rfl (Nat.le_of_ble_eq_true rfl) ⟨Nat.le_refl _, Nat.le_refl _⟩ dX7_ahead_41) hS (fun H locs hP hS => ?_)
        refine lv_iload_n hx hb dX7_ahead_44 rfl (lv_at hl 3 rfl) ?_
        refine lv_if_ne (tgt := 60) hx hb dX7_ahead_45 (by decide) (fun h_17 => ?_) (fun h_17 => ?_)
        · replace hf := it_f hf h_17
          refine lv_iload_n hx hb dX7_ahead_60 rfl (lv_at hl 3 rfl) ?_
          refine lv_iconst (v := (1 : Int32)) hx hb dX7_ahead_61 (by decide) ?_
          refine lv_icmp_ne (tgt := 77) hx hb dX7_ahead_62 (by decide) (fun h_18 => ?_) (fun h_18 => ?_)
          · replace hf := it_f hf h_18
            refine lv_aload_n hx hb dX7_ahead_77 rfl (lv_at hl 0 rfl) ?_
            refine gf_7_0 X hP kc_279 q4_25 dX7_ahead_78 ?_
            refine lv_bipush (v := (48 : Int32)) hx hb dX7_ahead_81 (by decide) ?_
            refine ga_ldj (j := 48) X hP (iA_13 kc_280) (by unfold vp_in; decide) (by decide) dX7_ahead_83 ?_
            refine lv_iload_n hx hb dX7_ahead_84 rfl (lv_at hl 1 rfl) ?_
            refine lv_ishr hx hb dX7_ahead_85 ?_
            refine lv_iconst (v := (1 : Int32)) hx hb dX7_ahead_86 (by decide) ?_
            refine lv_iand hx hb dX7_ahead_87 ?_
            exact g_iret X hP hS (sm_i hf) dX7_ahead_88
          · replace hf := it_t hf h_18
            refine lv_aload_n hx hb dX7_ahead_65 rfl (lv_at hl 0 rfl) ?_
            refine gf_7_0 X hP kc_279 q4_25 dX7_ahead_66 ?_
            refine lv_bipush (v := (67 : Int32)) hx hb dX7_ahead_69 (by decide) ?_
            refine lv_iload_n hx hb dX7_ahead_71 rfl (lv_at hl 1 rfl) ?_
            refine lv_iadd hx hb dX7_ahead_72 ?_
            obtain ⟨hi_19, hf⟩ := ck_s hf
            refine ga_ld X hP (iA_13 kc_280) hi_19 dX7_ahead_73 ?_
            refine lv_goto (tgt := 88) hx hb dX7_ahead_74 (by decide) ?_
            exact g_iret X hP hS (sm_i hf) dX7_ahead_88
        · replace hf := it_t hf h_17
          refine lv_aload_n hx hb dX7_ahead_48 rfl (lv_at hl 0 rfl) ?_
          refine gf_7_0 X hP kc_279 q4_25 dX7_ahead_49 ?_
          refine lv_bipush (v := (61 : Int32)) hx hb dX7_ahead_52 (by decide) ?_
          refine lv_iload_n hx hb dX7_ahead_54 rfl (lv_at hl 1 rfl) ?_
          refine lv_iadd hx hb dX7_ahead_55 ?_
          obtain ⟨hi_20, hf⟩ := ck_s hf
          refine ga_ld X hP (iA_13 kc_280) hi_20 dX7_ahead_56 ?_
          refine lv_goto (tgt := 88) hx hb dX7_ahead_57 (by decide) ?_
          exact g_iret X hP hS (sm_i hf) dX7_ahead_88
      · replace hf := it_t hf h_12
        refine lv_ldc hx hb X.2.2.2.1 (X.2.2.2.2.1 _ q4_93) dX7_ahead_32 ?_
        exact g_iret X hP hS (sm_i hf) dX7_ahead_34
def f_X7_heard (x1 : Int32) (x2 : Int32) (M : Mem) : Option (Int32 × Mem) :=
  cb (f_X7_isBox M) fun r_3 M_2 =>
  if r_3 = 0 then
    some ((-1000002 : Int32), M_2)
  else
    cb (f_X7_in ((x1).toInt64) (0 : Int64) (60 : Int64) M_2) fun r_7 M_6 =>
    if r_7 = 0 then
      some ((-1000001 : Int32), M_6)
    else
      cb (f_X7_in ((x2).toInt64) (0 : Int64) (3 : Int64) M_6) fun r_11 M_10 =>
      if r_11 = 0 then
        some ((-1000001 : Int32), M_10)
      else
        cv (f_X7_tries M_10) fun M_14 =>
        cv (f_X7_goesOn x1 M_14) fun M_16 =>
        if x2 = 0 then
          cb (f_X7_loud (43 : Int32) M_16) fun r_25 M_24 =>
          some (r_25, M_24)
        else
          if x2 = (1 : Int32) then
            cb (f_X7_ringing (43 : Int32) M_16) fun r_22 M_21 =>
            some (r_22, M_21)
          else
            if x2 = (2 : Int32) then
              some ((M_16 280 46), M_16)
            else
              some ((M_16 280 45), M_16)
set_option maxRecDepth 20000 in
theorem c_X7_heard (l : Launch) (g : GC) {x1 : Int32} {x2 : Int32}  {M : Mem} {out : Int32 × Mem} (hf : f_X7_heard x1 x2 M = some out) : cI l g yX7_heard cX7_heard 3 (some .int) (rM 4 89) [.ref (gz g + 279), .int x1, .int x2] M out := by
  refine g_met (by decide) (Nat.le_of_ble_eq_true rfl) ?_
  intro p e s m below meth c X hP hS ls hl
  have X : Bx p s m _ meth c RX7 cX7_heard 3 (some .int) g := X
  have hl : lv_has ls 3 [(0, .ref (gz g + 279)), (1, .int x1), (2, .int x2)] := hl
  have hx := X.1
  have hb := X.2.1
  refine lv_aload_n hx hb dX7_heard_0 rfl (lv_at hl 0 rfl) ?_
  obtain ⟨r_3, M_2, hc_1, hf⟩ := cb_s hf
  refine g_goi (g_run X (c_X7_isBox l g  hc_1) s_X7_isBox (oB_7 kc_279) q4_180 ⟨Nat.le_of_ble_eq_true rfl, Nat.le_of_ble_eq_true rfl⟩ hP hS rfl hl.1 rfl (Nat.le_of_ble_eq_true rfl) ⟨Nat.le_refl _, Nat.le_refl _⟩ dX7_heard_1) hS (fun H locs hP hS => ?_)
  refine lv_if_ne (tgt := 10) hx hb dX7_heard_4 (by decide) (fun h_4 => ?_) (fun h_4 => ?_)
  · replace hf := it_f hf h_4
    refine lv_iload_n hx hb dX7_heard_10 rfl (lv_at hl 1 rfl) ?_
    refine lv_i2l hx hb dX7_heard_11 rfl ?_
    refine lv_lconst (v := (0 : Int64)) hx hb dX7_heard_12 (by decide) ?_
    refine lv_ldc2 hx hb X.2.2.2.1 (X.2.2.2.2.1 _ q5_21) dX7_heard_13 ?_
    obtain ⟨r_7, M_6, hc_5, hf⟩ := cb_s hf
    refine g_goi (g_runS X (c_X7_in l g  hc_5) s_X7_in q4_89 ⟨Nat.le_of_ble_eq_true rfl, Nat.le_of_ble_eq_true rfl⟩ hP hS rfl hl.1 rfl (Nat.le_of_ble_eq_true rfl) ⟨Nat.le_refl _, Nat.le_refl _⟩ dX7_heard_16) hS (fun H locs hP hS => ?_)
    refine lv_if_eq (tgt := 34) hx hb dX7_heard_19 (by decide) (fun h_8 => ?_) (fun h_8 => ?_)
    · replace hf := it_t hf h_8
      refine lv_ldc hx hb X.2.2.2.1 (X.2.2.2.2.1 _ q4_93) dX7_heard_34 ?_
      exact g_iret X hP hS (sm_i hf) dX7_heard_36
    · replace hf := it_f hf h_8
      refine lv_iload_n hx hb dX7_heard_22 rfl (lv_at hl 2 rfl) ?_
      refine lv_i2l hx hb dX7_heard_23 rfl ?_
      refine lv_lconst (v := (0 : Int64)) hx hb dX7_heard_24 (by decide) ?_
      refine lv_ldc2 hx hb X.2.2.2.1 (X.2.2.2.2.1 _ q5_34) dX7_heard_25 ?_
      obtain ⟨r_11, M_10, hc_9, hf⟩ := cb_s hf
      refine g_goi (g_runS X (c_X7_in l g  hc_9) s_X7_in q4_89 ⟨Nat.le_of_ble_eq_true rfl, Nat.le_of_ble_eq_true rfl⟩ hP hS rfl hl.1 rfl (Nat.le_of_ble_eq_true rfl) ⟨Nat.le_refl _, Nat.le_refl _⟩ dX7_heard_28) hS (fun H locs hP hS => ?_)
      refine lv_if_ne (tgt := 37) hx hb dX7_heard_31 (by decide) (fun h_12 => ?_) (fun h_12 => ?_)
      · replace hf := it_f hf h_12
        refine lv_aload_n hx hb dX7_heard_37 rfl (lv_at hl 0 rfl) ?_
        obtain ⟨M_14, hc_13, hf⟩ := cv_s hf
        refine g_gov (g_run X (c_X7_tries l g  hc_13) s_X7_tries (oB_7 kc_279) q5_22 ⟨Nat.le_of_ble_eq_true rfl, Nat.le_of_ble_eq_true rfl⟩ hP hS rfl hl.1 rfl (Nat.le_of_ble_eq_true rfl) ⟨Nat.le_refl _, Nat.le_refl _⟩ dX7_heard_38) hS (fun H locs hP hS => ?_)
        refine lv_aload_n hx hb dX7_heard_41 rfl (lv_at hl 0 rfl) ?_
        refine lv_iload_n hx hb dX7_heard_42 rfl (lv_at hl 1 rfl) ?_
        obtain ⟨M_16, hc_15, hf⟩ := cv_s hf
        refine g_gov (g_run X (c_X7_goesOn l g  hc_15) s_X7_goesOn (oB_7 kc_279) q5_26 ⟨Nat.le_of_ble_eq_true rfl, Nat.le_of_ble_eq_true rfl⟩ hP hS rfl hl.1 rfl (Nat.le_of_ble_eq_true rfl) ⟨Nat.le_refl _, Nat.le_refl _⟩ dX7_heard_43) hS (fun H locs hP hS => ?_)
        refine lv_iload_n hx hb dX7_heard_46 rfl (lv_at hl 2 rfl) ?_
        refine lv_if_ne (tgt := 59) hx hb dX7_heard_47 (by decide) (fun h_17 => ?_) (fun h_17 => ?_)
        · replace hf := it_f hf h_17
          refine lv_iload_n hx hb dX7_heard_59 rfl (lv_at hl 2 rfl) ?_
          refine lv_iconst (v := (1 : Int32)) hx hb dX7_heard_60 (by decide) ?_
          refine lv_icmp_ne (tgt := 73) hx hb dX7_heard_61 (by decide) (fun h_18 => ?_) (fun h_18 => ?_)
          · replace hf := it_f hf h_18
            refine lv_iload_n hx hb dX7_heard_73 rfl (lv_at hl 2 rfl) ?_
            refine lv_iconst (v := (2 : Int32)) hx hb dX7_heard_74 (by decide) ?_
            refine lv_icmp_ne (tgt := 88) hx hb dX7_heard_75 (by decide) (fun h_19 => ?_) (fun h_19 => ?_)
            · replace hf := it_f hf h_19
              refine lv_aload_n hx hb dX7_heard_88 rfl (lv_at hl 0 rfl) ?_
              refine gf_7_0 X hP kc_279 q4_25 dX7_heard_89 ?_
              refine lv_bipush (v := (45 : Int32)) hx hb dX7_heard_92 (by decide) ?_
              refine ga_ldj (j := 45) X hP (iA_13 kc_280) (by unfold vp_in; decide) (by decide) dX7_heard_94 ?_
              exact g_iret X hP hS (sm_i hf) dX7_heard_95
            · replace hf := it_t hf h_19
              refine lv_aload_n hx hb dX7_heard_78 rfl (lv_at hl 0 rfl) ?_
              refine gf_7_0 X hP kc_279 q4_25 dX7_heard_79 ?_
              refine lv_bipush (v := (46 : Int32)) hx hb dX7_heard_82 (by decide) ?_
              refine ga_ldj (j := 46) X hP (iA_13 kc_280) (by unfold vp_in; decide) (by decide) dX7_heard_84 ?_
              refine lv_goto (tgt := 95) hx hb dX7_heard_85 (by decide) ?_
              exact g_iret X hP hS (sm_i hf) dX7_heard_95
          · replace hf := it_t hf h_18
            refine lv_aload_n hx hb dX7_heard_64 rfl (lv_at hl 0 rfl) ?_
            refine lv_bipush (v := (43 : Int32)) hx hb dX7_heard_65 (by decide) ?_
            obtain ⟨r_22, M_21, hc_20, hf⟩ := cb_s hf
            refine g_goi (g_run X (c_X7_ringing l g  hc_20) s_X7_ringing (oB_7 kc_279) q5_13 ⟨Nat.le_of_ble_eq_true rfl, Nat.le_of_ble_eq_true rfl⟩ hP hS rfl hl.1 rfl (Nat.le_of_ble_eq_true rfl) ⟨Nat.le_refl _, Nat.le_refl _⟩ dX7_heard_67) hS (fun H locs hP hS => ?_)
            refine lv_goto (tgt := 95) hx hb dX7_heard_70 (by decide) ?_
            exact g_iret X hP hS (sm_i hf) dX7_heard_95
        · replace hf := it_t hf h_17
          refine lv_aload_n hx hb dX7_heard_50 rfl (lv_at hl 0 rfl) ?_
          refine lv_bipush (v := (43 : Int32)) hx hb dX7_heard_51 (by decide) ?_
          obtain ⟨r_25, M_24, hc_23, hf⟩ := cb_s hf
          refine g_goi (g_run X (c_X7_loud l g  hc_23) s_X7_loud (oB_7 kc_279) q4_204 ⟨Nat.le_of_ble_eq_true rfl, Nat.le_of_ble_eq_true rfl⟩ hP hS rfl hl.1 rfl (Nat.le_of_ble_eq_true rfl) ⟨Nat.le_refl _, Nat.le_refl _⟩ dX7_heard_53) hS (fun H locs hP hS => ?_)
          refine lv_goto (tgt := 95) hx hb dX7_heard_56 (by decide) ?_
          exact g_iret X hP hS (sm_i hf) dX7_heard_95
      · replace hf := it_t hf h_12
        refine lv_ldc hx hb X.2.2.2.1 (X.2.2.2.2.1 _ q4_93) dX7_heard_34 ?_
        exact g_iret X hP hS (sm_i hf) dX7_heard_36
  · replace hf := it_t hf h_4
    refine lv_ldc hx hb X.2.2.2.1 (X.2.2.2.2.1 _ q4_175) dX7_heard_7 ?_
    exact g_iret X hP hS (sm_i hf) dX7_heard_9
def f_X7_when_68 (x1 : Int32) (x2 : Int32) (k27 : Int32 → Mem → Option (Int32 × Mem)) (x3 : Int32) (M : Mem) : Option (Int32 × Mem) :=
  cv (f_X7_passes (43 : Int32) M) fun M_2 =>
  k27 (x3 + (1 : Int32)) M_2
set_option maxRecDepth 20000 in
theorem b_X7_when_68 {out : Int32 × Mem} (X : Bx p s m args meth c RX7 cX7_when 4 (some .int) g)   {x1 : Int32} {x2 : Int32}   {k27 : Int32 → Mem → Option (Int32 × Mem)} (hk27 : ∀ (x3 : Int32) (M : Mem) (H : Heap) (locs : List Loc) (ls : Array Slot), k27 x3 M = some out → va_P g.1 vwCl (gW g M) H → va_S (gA g) s.heap H locs → lv_has ls 4 [(0, .ref (gz g + 279)), (1, .int x1), (2, .int x2), (3, .int x3)] → W p l e (rM 3 67) s m args below meth c H locs 0 0 (MQ below (qI g out) args s 0 0 (gA g)) (F0 m 27 ls [])) (x3 : Int32) (M : Mem) {H : Heap} {locs : List Loc} {ls : Array Slot} (hf : f_X7_when_68 x1 x2 k27 x3 M = some out) (hP : va_P g.1 vwCl (gW g M) H) (hS : va_S (gA g) s.heap H locs) (hl : lv_has ls 4 [(0, .ref (gz g + 279)), (1, .int x1), (2, .int x2), (3, .int x3)]) : W p l e (rM 3 67) s m args below meth c H locs 0 0 (MQ below (qI g out) args s 0 0 (gA g)) (F0 m 68 ls []) := by
  have hx := X.1
  have hb := X.2.1
  refine lv_aload_n hx hb dX7_when_68 rfl (lv_at hl 0 rfl) ?_
  refine lv_bipush (v := (43 : Int32)) hx hb dX7_when_69 (by decide) ?_
  obtain ⟨M_2, hc_1, hf⟩ := cv_s hf
  refine g_gov (g_run X (c_X7_passes l g  hc_1) s_X7_passes (oB_7 kc_279) q4_189 ⟨Nat.le_of_ble_eq_true rfl, Nat.le_of_ble_eq_true rfl⟩ hP hS rfl hl.1 rfl (Nat.le_of_ble_eq_true rfl) ⟨Nat.le_refl _, Nat.le_refl _⟩ dX7_when_71) hS (fun H locs hP hS => ?_)
  refine lv_iinc (v := (x3 + (1 : Int32))) (lv' := [(3, .int (x3 + (1 : Int32))), (0, .ref (gz g + 279)), (1, .int x1), (2, .int x2)]) hx hb dX7_when_74 hl (k := 3) rfl rfl (by decide) rfl (fun ls hl => ?_)
  refine lv_goto (tgt := 27) hx hb dX7_when_77 (by decide) ?_
  exact hk27 (x3 + (1 : Int32)) M_2 _ _ _ hf hP hS (lv_sub hl [1, 2, 3, 0] rfl)
def f_X7_when_27 (x1 : Int32) (x2 : Int32)  : Nat → Int32 → Mem → Option (Int32 × Mem)
  | 0, _, _ => none
  | n + 1, x3, M =>
    if (60 : Int32) < x3 then
      some ((-1000000 : Int32), M)
    else
      if x2 = 0 then
        ck ((61 : Int32) + x1) 1247 <|
        if (M 280 (((61 : Int32) + x1)).toNatClampNeg) ≤ 0 then
          f_X7_when_68 x1 x2 (f_X7_when_27 x1 x2 n) x3 M
        else
          some (x3, M)
      else
        cb (f_X7_has (M 280 48) x1 M) fun r_5 M_4 =>
        if r_5 = 0 then
          f_X7_when_68 x1 x2 (f_X7_when_27 x1 x2 n) x3 M_4
        else
          some (x3, M_4)
set_option maxRecDepth 20000 in
theorem b_X7_when_27 {out : Int32 × Mem} (X : Bx p s m args meth c RX7 cX7_when 4 (some .int) g)   {x1 : Int32} {x2 : Int32}     : ∀ (n : Nat) (x3 : Int32) (M : Mem) (H : Heap) (locs : List Loc) (ls : Array Slot), f_X7_when_27 x1 x2 n x3 M = some out → va_P g.1 vwCl (gW g M) H → va_S (gA g) s.heap H locs → lv_has ls 4 [(0, .ref (gz g + 279)), (1, .int x1), (2, .int x2), (3, .int x3)] → W p l e (rM 3 67) s m args below meth c H locs 0 0 (MQ below (qI g out) args s 0 0 (gA g)) (F0 m 27 ls []) := by
  have hx := X.1
  have hb := X.2.1
  intro n
  induction n with
  | zero => intro _ _ _ _ _ hf; cases hf
  | succ n ih =>
    intro x3 M H locs ls hf hP hS hl
    rw [f_X7_when_27] at hf
    refine lv_iload_n hx hb dX7_when_27 rfl (lv_at hl 3 rfl) ?_
    refine lv_bipush (v := (60 : Int32)) hx hb dX7_when_28 (by decide) ?_
    refine lv_icmp_gt (tgt := 80) hx hb dX7_when_30 (by decide) (fun h_1 => ?_) (fun h_1 => ?_)
    · replace hf := it_t hf h_1
      refine lv_ldc hx hb X.2.2.2.1 (X.2.2.2.2.1 _ q5_39) dX7_when_80 ?_
      exact g_iret X hP hS (sm_i hf) dX7_when_82
    · replace hf := it_f hf h_1
      refine lv_iload_n hx hb dX7_when_33 rfl (lv_at hl 2 rfl) ?_
      refine lv_if_ne (tgt := 52) hx hb dX7_when_34 (by decide) (fun h_2 => ?_) (fun h_2 => ?_)
      · replace hf := it_f hf h_2
        refine lv_aload_n hx hb dX7_when_52 rfl (lv_at hl 0 rfl) ?_
        refine gf_7_0 X hP kc_279 q4_25 dX7_when_53 ?_
        refine lv_bipush (v := (48 : Int32)) hx hb dX7_when_56 (by decide) ?_
        refine ga_ldj (j := 48) X hP (iA_13 kc_280) (by unfold vp_in; decide) (by decide) dX7_when_58 ?_
        refine lv_iload_n hx hb dX7_when_59 rfl (lv_at hl 1 rfl) ?_
        obtain ⟨r_5, M_4, hc_3, hf⟩ := cb_s hf
        refine g_goi (g_runS X (c_X7_has l g  hc_3) s_X7_has q4_197 ⟨Nat.le_of_ble_eq_true rfl, Nat.le_of_ble_eq_true rfl⟩ hP hS rfl hl.1 rfl (Nat.le_of_ble_eq_true rfl) ⟨Nat.le_refl _, Nat.le_refl _⟩ dX7_when_60) hS (fun H locs hP hS => ?_)
        refine lv_if_eq (tgt := 68) hx hb dX7_when_63 (by decide) (fun h_6 => ?_) (fun h_6 => ?_)
        · replace hf := it_t hf h_6
          exact b_X7_when_68 X ih x3 M_4 hf hP hS hl
        · replace hf := it_f hf h_6
          refine lv_iload_n hx hb dX7_when_66 rfl (lv_at hl 3 rfl) ?_
          exact g_iret X hP hS (sm_i hf) dX7_when_67
      · replace hf := it_t hf h_2
        refine lv_aload_n hx hb dX7_when_37 rfl (lv_at hl 0 rfl) ?_
        refine gf_7_0 X hP kc_279 q4_25 dX7_when_38 ?_
        refine lv_bipush (v := (61 : Int32)) hx hb dX7_when_41 (by decide) ?_
        refine lv_iload_n hx hb dX7_when_43 rfl (lv_at hl 1 rfl) ?_
        refine lv_iadd hx hb dX7_when_44 ?_
        obtain ⟨hi_7, hf⟩ := ck_s hf
        refine ga_ld X hP (iA_13 kc_280) hi_7 dX7_when_45 ?_
        refine lv_if_le (tgt := 68) hx hb dX7_when_46 (by decide) (fun h_8 => ?_) (fun h_8 => ?_)
        · replace hf := it_t hf h_8
          exact b_X7_when_68 X ih x3 M hf hP hS hl
        · replace hf := it_f hf h_8
          refine lv_goto (tgt := 66) hx hb dX7_when_49 (by decide) ?_
          refine lv_iload_n hx hb dX7_when_66 rfl (lv_at hl 3 rfl) ?_
          exact g_iret X hP hS (sm_i hf) dX7_when_67
def f_X7_when (x1 : Int32) (x2 : Int32) (M : Mem) : Option (Int32 × Mem) :=
  cb (f_X7_isTooth x1 M) fun r_3 M_2 =>
  if r_3 = 0 then
    some ((-1000001 : Int32), M_2)
  else
    cb (f_X7_in ((x2).toInt64) (0 : Int64) (1 : Int64) M_2) fun r_7 M_6 =>
    if r_7 = 0 then
      some ((-1000001 : Int32), M_6)
    else
      cv (f_X7_tries M_6) fun M_10 =>
      f_X7_when_27 x1 x2 FU (0 : Int32) M_10
set_option maxRecDepth 20000 in
theorem c_X7_when (l : Launch) (g : GC) {x1 : Int32} {x2 : Int32}  {M : Mem} {out : Int32 × Mem} (hf : f_X7_when x1 x2 M = some out) : cI l g yX7_when cX7_when 4 (some .int) (rM 3 67) [.ref (gz g + 279), .int x1, .int x2] M out := by
  refine g_met (by decide) (Nat.le_of_ble_eq_true rfl) ?_
  intro p e s m below meth c X hP hS ls hl
  have X : Bx p s m _ meth c RX7 cX7_when 4 (some .int) g := X
  have hl : lv_has ls 4 [(0, .ref (gz g + 279)), (1, .int x1), (2, .int x2)] := hl
  have hx := X.1
  have hb := X.2.1
  refine lv_aload_n hx hb dX7_when_0 rfl (lv_at hl 0 rfl) ?_
  refine lv_iload_n hx hb dX7_when_1 rfl (lv_at hl 1 rfl) ?_
  obtain ⟨r_3, M_2, hc_1, hf⟩ := cb_s hf
  refine g_goi (g_run X (c_X7_isTooth l g  hc_1) s_X7_isTooth (oB_7 kc_279) q4_221 ⟨Nat.le_of_ble_eq_true rfl, Nat.le_of_ble_eq_true rfl⟩ hP hS rfl hl.1 rfl (Nat.le_of_ble_eq_true rfl) ⟨Nat.le_refl _, Nat.le_refl _⟩ dX7_when_2) hS (fun H locs hP hS => ?_)
  refine lv_if_eq (tgt := 18) hx hb dX7_when_5 (by decide) (fun h_4 => ?_) (fun h_4 => ?_)
  · replace hf := it_t hf h_4
    refine lv_ldc hx hb X.2.2.2.1 (X.2.2.2.2.1 _ q4_93) dX7_when_18 ?_
    exact g_iret X hP hS (sm_i hf) dX7_when_20
  · replace hf := it_f hf h_4
    refine lv_iload_n hx hb dX7_when_8 rfl (lv_at hl 2 rfl) ?_
    refine lv_i2l hx hb dX7_when_9 rfl ?_
    refine lv_lconst (v := (0 : Int64)) hx hb dX7_when_10 (by decide) ?_
    refine lv_lconst (v := (1 : Int64)) hx hb dX7_when_11 (by decide) ?_
    obtain ⟨r_7, M_6, hc_5, hf⟩ := cb_s hf
    refine g_goi (g_runS X (c_X7_in l g  hc_5) s_X7_in q4_89 ⟨Nat.le_of_ble_eq_true rfl, Nat.le_of_ble_eq_true rfl⟩ hP hS rfl hl.1 rfl (Nat.le_of_ble_eq_true rfl) ⟨Nat.le_refl _, Nat.le_refl _⟩ dX7_when_12) hS (fun H locs hP hS => ?_)
    refine lv_if_ne (tgt := 21) hx hb dX7_when_15 (by decide) (fun h_8 => ?_) (fun h_8 => ?_)
    · replace hf := it_f hf h_8
      refine lv_aload_n hx hb dX7_when_21 rfl (lv_at hl 0 rfl) ?_
      obtain ⟨M_10, hc_9, hf⟩ := cv_s hf
      refine g_gov (g_run X (c_X7_tries l g  hc_9) s_X7_tries (oB_7 kc_279) q5_22 ⟨Nat.le_of_ble_eq_true rfl, Nat.le_of_ble_eq_true rfl⟩ hP hS rfl hl.1 rfl (Nat.le_of_ble_eq_true rfl) ⟨Nat.le_refl _, Nat.le_refl _⟩ dX7_when_22) hS (fun H locs hP hS => ?_)
      refine lv_iconst (v := (0 : Int32)) hx hb dX7_when_25 (by decide) ?_
      refine lv_istore_n (lv' := [(3, .int (0 : Int32)), (0, .ref (gz g + 279)), (1, .int x1), (2, .int x2)]) hx hb dX7_when_26 rfl hl (by decide) rfl (fun ls hl => ?_)
      exact b_X7_when_27 X  FU (0 : Int32) M_10 _ _ _ hf hP hS (lv_sub hl [1, 2, 3, 0] rfl)
    · replace hf := it_t hf h_8
      refine lv_ldc hx hb X.2.2.2.1 (X.2.2.2.2.1 _ q4_93) dX7_when_18 ?_
      exact g_iret X hP hS (sm_i hf) dX7_when_20
def f_X7_stops_16   : Nat → Int32 → Mem → Option (Int32 × Mem)
  | 0, _, _ => none
  | n + 1, x1, M =>
    if (60 : Int32) < x1 then
      some ((-1000000 : Int32), M)
    else
      if (M 280 45) = 0 then
        some (x1, M)
      else
        cv (f_X7_passes (43 : Int32) M) fun M_4 =>
        (f_X7_stops_16 n) (x1 + (1 : Int32)) M_4
set_option maxRecDepth 20000 in
theorem b_X7_stops_16 {out : Int32 × Mem} (X : Bx p s m args meth c RX7 cX7_stops 2 (some .int) g)        : ∀ (n : Nat) (x1 : Int32) (M : Mem) (H : Heap) (locs : List Loc) (ls : Array Slot), f_X7_stops_16 n x1 M = some out → va_P g.1 vwCl (gW g M) H → va_S (gA g) s.heap H locs → lv_has ls 2 [(0, .ref (gz g + 279)), (1, .int x1)] → W p l e (rM 3 67) s m args below meth c H locs 0 0 (MQ below (qI g out) args s 0 0 (gA g)) (F0 m 16 ls []) := by
  have hx := X.1
  have hb := X.2.1
  intro n
  induction n with
  | zero => intro _ _ _ _ _ hf; cases hf
  | succ n ih =>
    intro x1 M H locs ls hf hP hS hl
    rw [f_X7_stops_16] at hf
    refine lv_iload_n hx hb dX7_stops_16 rfl (lv_at hl 1 rfl) ?_
    refine lv_bipush (v := (60 : Int32)) hx hb dX7_stops_17 (by decide) ?_
    refine lv_icmp_gt (tgt := 46) hx hb dX7_stops_19 (by decide) (fun h_1 => ?_) (fun h_1 => ?_)
    · replace hf := it_t hf h_1
      refine lv_ldc hx hb X.2.2.2.1 (X.2.2.2.2.1 _ q5_39) dX7_stops_46 ?_
      exact g_iret X hP hS (sm_i hf) dX7_stops_48
    · replace hf := it_f hf h_1
      refine lv_aload_n hx hb dX7_stops_22 rfl (lv_at hl 0 rfl) ?_
      refine gf_7_0 X hP kc_279 q4_25 dX7_stops_23 ?_
      refine lv_bipush (v := (45 : Int32)) hx hb dX7_stops_26 (by decide) ?_
      refine ga_ldj (j := 45) X hP (iA_13 kc_280) (by unfold vp_in; decide) (by decide) dX7_stops_28 ?_
      refine lv_if_ne (tgt := 34) hx hb dX7_stops_29 (by decide) (fun h_2 => ?_) (fun h_2 => ?_)
      · replace hf := it_f hf h_2
        refine lv_aload_n hx hb dX7_stops_34 rfl (lv_at hl 0 rfl) ?_
        refine lv_bipush (v := (43 : Int32)) hx hb dX7_stops_35 (by decide) ?_
        obtain ⟨M_4, hc_3, hf⟩ := cv_s hf
        refine g_gov (g_run X (c_X7_passes l g  hc_3) s_X7_passes (oB_7 kc_279) q4_189 ⟨Nat.le_of_ble_eq_true rfl, Nat.le_of_ble_eq_true rfl⟩ hP hS rfl hl.1 rfl (Nat.le_of_ble_eq_true rfl) ⟨Nat.le_refl _, Nat.le_refl _⟩ dX7_stops_37) hS (fun H locs hP hS => ?_)
        refine lv_iinc (v := (x1 + (1 : Int32))) (lv' := [(1, .int (x1 + (1 : Int32))), (0, .ref (gz g + 279))]) hx hb dX7_stops_40 hl (k := 1) rfl rfl (by decide) rfl (fun ls hl => ?_)
        refine lv_goto (tgt := 16) hx hb dX7_stops_43 (by decide) ?_
        exact ih (x1 + (1 : Int32)) M_4 _ _ _ hf hP hS (lv_sub hl [1, 0] rfl)
      · replace hf := it_t hf h_2
        refine lv_iload_n hx hb dX7_stops_32 rfl (lv_at hl 1 rfl) ?_
        exact g_iret X hP hS (sm_i hf) dX7_stops_33
def f_X7_stops  (M : Mem) : Option (Int32 × Mem) :=
  cb (f_X7_isBox M) fun r_3 M_2 =>
  if r_3 = 0 then
    some ((-1000002 : Int32), M_2)
  else
    cv (f_X7_tries M_2) fun M_6 =>
    f_X7_stops_16 FU (0 : Int32) M_6
set_option maxRecDepth 20000 in
theorem c_X7_stops (l : Launch) (g : GC)   {M : Mem} {out : Int32 × Mem} (hf : f_X7_stops  M = some out) : cI l g yX7_stops cX7_stops 2 (some .int) (rM 3 67) [.ref (gz g + 279)] M out := by
  refine g_met (by decide) (Nat.le_of_ble_eq_true rfl) ?_
  intro p e s m below meth c X hP hS ls hl
  have X : Bx p s m _ meth c RX7 cX7_stops 2 (some .int) g := X
  have hl : lv_has ls 2 [(0, .ref (gz g + 279))] := hl
  have hx := X.1
  have hb := X.2.1
  refine lv_aload_n hx hb dX7_stops_0 rfl (lv_at hl 0 rfl) ?_
  obtain ⟨r_3, M_2, hc_1, hf⟩ := cb_s hf
  refine g_goi (g_run X (c_X7_isBox l g  hc_1) s_X7_isBox (oB_7 kc_279) q4_180 ⟨Nat.le_of_ble_eq_true rfl, Nat.le_of_ble_eq_true rfl⟩ hP hS rfl hl.1 rfl (Nat.le_of_ble_eq_true rfl) ⟨Nat.le_refl _, Nat.le_refl _⟩ dX7_stops_1) hS (fun H locs hP hS => ?_)
  refine lv_if_ne (tgt := 10) hx hb dX7_stops_4 (by decide) (fun h_4 => ?_) (fun h_4 => ?_)
  · replace hf := it_f hf h_4
    refine lv_aload_n hx hb dX7_stops_10 rfl (lv_at hl 0 rfl) ?_
    obtain ⟨M_6, hc_5, hf⟩ := cv_s hf
    refine g_gov (g_run X (c_X7_tries l g  hc_5) s_X7_tries (oB_7 kc_279) q5_22 ⟨Nat.le_of_ble_eq_true rfl, Nat.le_of_ble_eq_true rfl⟩ hP hS rfl hl.1 rfl (Nat.le_of_ble_eq_true rfl) ⟨Nat.le_refl _, Nat.le_refl _⟩ dX7_stops_11) hS (fun H locs hP hS => ?_)
    refine lv_iconst (v := (0 : Int32)) hx hb dX7_stops_14 (by decide) ?_
    refine lv_istore_n (lv' := [(1, .int (0 : Int32)), (0, .ref (gz g + 279))]) hx hb dX7_stops_15 rfl hl (by decide) rfl (fun ls hl => ?_)
    exact b_X7_stops_16 X  FU (0 : Int32) M_6 _ _ _ hf hP hS (lv_sub hl [1, 0] rfl)
  · replace hf := it_t hf h_4
    refine lv_ldc hx hb X.2.2.2.1 (X.2.2.2.2.1 _ q4_175) dX7_stops_7 ?_
    exact g_iret X hP hS (sm_i hf) dX7_stops_9
def f_X7_bestPin_130 (x1 : Int32) (x2 : Int32) (k43 : Int32 → Int32 → Int32 → Mem → Option (Int32 × Mem)) (k57 : Int32 → Int32 → Int32 → Int32 → Mem → Option (Int32 × Mem)) (x3 : Int32) (x5 : Int32) (x6 : Int32) (t0 : Int32) (M : Mem) : Option (Int32 × Mem) :=
  k57 x3 t0 x5 (x6 + (1 : Int32)) M
set_option maxRecDepth 20000 in
theorem b_X7_bestPin_130 {out : Int32 × Mem} (X : Bx p s m args meth c RX7 cX7_bestPin 8 (some .int) g)   {x1 : Int32} {x2 : Int32}   {k43 : Int32 → Int32 → Int32 → Mem → Option (Int32 × Mem)} {k57 : Int32 → Int32 → Int32 → Int32 → Mem → Option (Int32 × Mem)} (hk43 : ∀ (x3 : Int32) (x4 : Int32) (x5 : Int32) (M : Mem) (H : Heap) (locs : List Loc) (ls : Array Slot), k43 x3 x4 x5 M = some out → va_P g.1 vwCl (gW g M) H → va_S (gA g) s.heap H locs → lv_has ls 8 [(0, .ref (gz g + 279)), (1, .int x1), (2, .int x2), (3, .int x3), (4, .int x4), (5, .int x5)] → W p l e (rM 4 90) s m args below meth c H locs 0 0 (MQ below (qI g out) args s 0 0 (gA g)) (F0 m 43 ls [])) (hk57 : ∀ (x3 : Int32) (x4 : Int32) (x5 : Int32) (x6 : Int32) (M : Mem) (H : Heap) (locs : List Loc) (ls : Array Slot), k57 x3 x4 x5 x6 M = some out → va_P g.1 vwCl (gW g M) H → va_S (gA g) s.heap H locs → lv_has ls 8 [(0, .ref (gz g + 279)), (1, .int x1), (2, .int x2), (3, .int x3), (4, .int x4), (5, .int x5), (6, .int x6)] → W p l e (rM 4 90) s m args below meth c H locs 0 0 (MQ below (qI g out) args s 0 0 (gA g)) (F0 m 57 ls [])) (x3 : Int32) (x5 : Int32) (x6 : Int32) (t0 : Int32) (M : Mem) {H : Heap} {locs : List Loc} {ls : Array Slot} (hf : f_X7_bestPin_130 x1 x2 k43 k57 x3 x5 x6 t0 M = some out) (hP : va_P g.1 vwCl (gW g M) H) (hS : va_S (gA g) s.heap H locs) (hl : lv_has ls 8 [(0, .ref (gz g + 279)), (1, .int x1), (2, .int x2), (3, .int x3), (5, .int x5), (6, .int x6)]) : W p l e (rM 4 90) s m args below meth c H locs 0 0 (MQ below (qI g out) args s 0 0 (gA g)) (F0 m 130 ls [.int t0]) := by
  have hx := X.1
  have hb := X.2.1
  refine lv_istore (lv' := [(4, .int t0), (0, .ref (gz g + 279)), (1, .int x1), (2, .int x2), (3, .int x3), (5, .int x5), (6, .int x6)]) hx hb dX7_bestPin_130 hl (by decide) rfl (fun ls hl => ?_)
  refine lv_iinc (v := (x6 + (1 : Int32))) (lv' := [(6, .int (x6 + (1 : Int32))), (4, .int t0), (0, .ref (gz g + 279)), (1, .int x1), (2, .int x2), (3, .int x3), (5, .int x5)]) hx hb dX7_bestPin_132 hl (k := 6) rfl rfl (by decide) rfl (fun ls hl => ?_)
  refine lv_goto (tgt := 57) hx hb dX7_bestPin_135 (by decide) ?_
  exact hk57 x3 t0 x5 (x6 + (1 : Int32)) M _ _ _ hf hP hS (lv_sub hl [2, 3, 4, 5, 1, 6, 0] rfl)
def f_X7_bestPin_115 (x1 : Int32) (x2 : Int32) (k43 : Int32 → Int32 → Int32 → Mem → Option (Int32 × Mem)) (k57 : Int32 → Int32 → Int32 → Int32 → Mem → Option (Int32 × Mem)) (x4 : Int32) (x5 : Int32) (x6 : Int32) (x7 : Int32) (t0 : Int32) (M : Mem) : Option (Int32 × Mem) :=
  if x7 ≤ x4 then
    f_X7_bestPin_130 x1 x2 k43 k57 t0 x5 x6 x4 M
  else
    f_X7_bestPin_130 x1 x2 k43 k57 t0 x5 x6 x7 M
set_option maxRecDepth 20000 in
theorem b_X7_bestPin_115 {out : Int32 × Mem} (X : Bx p s m args meth c RX7 cX7_bestPin 8 (some .int) g)   {x1 : Int32} {x2 : Int32}   {k43 : Int32 → Int32 → Int32 → Mem → Option (Int32 × Mem)} {k57 : Int32 → Int32 → Int32 → Int32 → Mem → Option (Int32 × Mem)} (hk43 : ∀ (x3 : Int32) (x4 : Int32) (x5 : Int32) (M : Mem) (H : Heap) (locs : List Loc) (ls : Array Slot), k43 x3 x4 x5 M = some out → va_P g.1 vwCl (gW g M) H → va_S (gA g) s.heap H locs → lv_has ls 8 [(0, .ref (gz g + 279)), (1, .int x1), (2, .int x2), (3, .int x3), (4, .int x4), (5, .int x5)] → W p l e (rM 4 90) s m args below meth c H locs 0 0 (MQ below (qI g out) args s 0 0 (gA g)) (F0 m 43 ls [])) (hk57 : ∀ (x3 : Int32) (x4 : Int32) (x5 : Int32) (x6 : Int32) (M : Mem) (H : Heap) (locs : List Loc) (ls : Array Slot), k57 x3 x4 x5 x6 M = some out → va_P g.1 vwCl (gW g M) H → va_S (gA g) s.heap H locs → lv_has ls 8 [(0, .ref (gz g + 279)), (1, .int x1), (2, .int x2), (3, .int x3), (4, .int x4), (5, .int x5), (6, .int x6)] → W p l e (rM 4 90) s m args below meth c H locs 0 0 (MQ below (qI g out) args s 0 0 (gA g)) (F0 m 57 ls [])) (x4 : Int32) (x5 : Int32) (x6 : Int32) (x7 : Int32) (t0 : Int32) (M : Mem) {H : Heap} {locs : List Loc} {ls : Array Slot} (hf : f_X7_bestPin_115 x1 x2 k43 k57 x4 x5 x6 x7 t0 M = some out) (hP : va_P g.1 vwCl (gW g M) H) (hS : va_S (gA g) s.heap H locs) (hl : lv_has ls 8 [(0, .ref (gz g + 279)), (1, .int x1), (2, .int x2), (4, .int x4), (5, .int x5), (6, .int x6), (7, .int x7)]) : W p l e (rM 4 90) s m args below meth c H locs 0 0 (MQ below (qI g out) args s 0 0 (gA g)) (F0 m 115 ls [.int t0]) := by
  have hx := X.1
  have hb := X.2.1
  refine lv_istore_n (lv' := [(3, .int t0), (0, .ref (gz g + 279)), (1, .int x1), (2, .int x2), (4, .int x4), (5, .int x5), (6, .int x6), (7, .int x7)]) hx hb dX7_bestPin_115 rfl hl (by decide) rfl (fun ls hl => ?_)
  refine lv_iload hx hb dX7_bestPin_116 (lv_at hl 7 rfl) ?_
  refine lv_iload hx hb dX7_bestPin_118 (lv_at hl 4 rfl) ?_
  refine lv_icmp_le (tgt := 128) hx hb dX7_bestPin_120 (by decide) (fun h_1 => ?_) (fun h_1 => ?_)
  · replace hf := it_t hf h_1
    refine lv_iload hx hb dX7_bestPin_128 (lv_at hl 4 rfl) ?_
    exact b_X7_bestPin_130 X hk43 hk57 t0 x5 x6 x4 M hf hP hS (lv_sub hl [1, 2, 3, 0, 5, 6] rfl)
  · replace hf := it_f hf h_1
    refine lv_iload hx hb dX7_bestPin_123 (lv_at hl 7 rfl) ?_
    refine lv_goto (tgt := 130) hx hb dX7_bestPin_125 (by decide) ?_
    exact b_X7_bestPin_130 X hk43 hk57 t0 x5 x6 x7 M hf hP hS (lv_sub hl [1, 2, 3, 0, 5, 6] rfl)
def f_X7_bestPin_57 (x1 : Int32) (x2 : Int32) (k43 : Int32 → Int32 → Int32 → Mem → Option (Int32 × Mem)) : Nat → Int32 → Int32 → Int32 → Int32 → Mem → Option (Int32 × Mem)
  | 0, _, _, _, _, _ => none
  | n + 1, x3, x4, x5, x6, M =>
    if (M 280 0) ≤ x6 then
      k43 x3 x4 (x5 + (1 : Int32)) M
    else
      cv (f_X7_tries M) fun M_3 =>
      ck ((73 : Int32) + x5) 1247 <|
      ck ((73 : Int32) + x5) 1247 <|
      lt (up2 M_3 280 (((73 : Int32) + x5)).toNatClampNeg ((M_3 280 (((73 : Int32) + x5)).toNatClampNeg) ^^^ ((1 : Int32) <<< (x6 &&& 31)))) fun M_5 =>
      cb (f_X7_sumOf x1 M_5) fun r_9 M_8 =>
      if r_9 ≤ x4 then
        f_X7_bestPin_115 x1 x2 k43 (f_X7_bestPin_57 x1 x2 k43 n) x4 x5 x6 r_9 x3 M_8
      else
        f_X7_bestPin_115 x1 x2 k43 (f_X7_bestPin_57 x1 x2 k43 n) x4 x5 x6 r_9 (((10 : Int32) * x5) + x6) M_8
set_option maxRecDepth 20000 in
theorem b_X7_bestPin_57 {out : Int32 × Mem} (X : Bx p s m args meth c RX7 cX7_bestPin 8 (some .int) g)   {x1 : Int32} {x2 : Int32}   {k43 : Int32 → Int32 → Int32 → Mem → Option (Int32 × Mem)} (hk43 : ∀ (x3 : Int32) (x4 : Int32) (x5 : Int32) (M : Mem) (H : Heap) (locs : List Loc) (ls : Array Slot), k43 x3 x4 x5 M = some out → va_P g.1 vwCl (gW g M) H → va_S (gA g) s.heap H locs → lv_has ls 8 [(0, .ref (gz g + 279)), (1, .int x1), (2, .int x2), (3, .int x3), (4, .int x4), (5, .int x5)] → W p l e (rM 4 90) s m args below meth c H locs 0 0 (MQ below (qI g out) args s 0 0 (gA g)) (F0 m 43 ls [])) : ∀ (n : Nat) (x3 : Int32) (x4 : Int32) (x5 : Int32) (x6 : Int32) (M : Mem) (H : Heap) (locs : List Loc) (ls : Array Slot), f_X7_bestPin_57 x1 x2 k43 n x3 x4 x5 x6 M = some out → va_P g.1 vwCl (gW g M) H → va_S (gA g) s.heap H locs → lv_has ls 8 [(0, .ref (gz g + 279)), (1, .int x1), (2, .int x2), (3, .int x3), (4, .int x4), (5, .int x5), (6, .int x6)] → W p l e (rM 4 90) s m args below meth c H locs 0 0 (MQ below (qI g out) args s 0 0 (gA g)) (F0 m 57 ls []) := by
  have hx := X.1
  have hb := X.2.1
  intro n
  induction n with
  | zero => intro _ _ _ _ _ _ _ _ hf; cases hf
  | succ n ih =>
    intro x3 x4 x5 x6 M H locs ls hf hP hS hl
    rw [f_X7_bestPin_57] at hf
    refine lv_iload hx hb dX7_bestPin_57 (lv_at hl 6 rfl) ?_
    refine lv_aload_n hx hb dX7_bestPin_59 rfl (lv_at hl 0 rfl) ?_
    refine gf_7_0 X hP kc_279 q4_25 dX7_bestPin_60 ?_
    refine lv_iconst (v := (0 : Int32)) hx hb dX7_bestPin_63 (by decide) ?_
    refine ga_ldj (j := 0) X hP (iA_13 kc_280) (by unfold vp_in; decide) (by decide) dX7_bestPin_64 ?_
    refine lv_icmp_ge (tgt := 138) hx hb dX7_bestPin_65 (by decide) (fun h_1 => ?_) (fun h_1 => ?_)
    · replace hf := it_t hf h_1
      refine lv_iinc (v := (x5 + (1 : Int32))) (lv' := [(5, .int (x5 + (1 : Int32))), (0, .ref (gz g + 279)), (1, .int x1), (2, .int x2), (3, .int x3), (4, .int x4), (6, .int x6)]) hx hb dX7_bestPin_138 hl (k := 5) rfl rfl (by decide) rfl (fun ls hl => ?_)
      refine lv_goto (tgt := 43) hx hb dX7_bestPin_141 (by decide) ?_
      exact hk43 x3 x4 (x5 + (1 : Int32)) M _ _ _ hf hP hS (lv_sub hl [1, 2, 3, 4, 5, 0] rfl)
    · replace hf := it_f hf h_1
      refine lv_aload_n hx hb dX7_bestPin_68 rfl (lv_at hl 0 rfl) ?_
      obtain ⟨M_3, hc_2, hf⟩ := cv_s hf
      refine g_gov (g_run X (c_X7_tries l g  hc_2) s_X7_tries (oB_7 kc_279) q5_22 ⟨Nat.le_of_ble_eq_true rfl, Nat.le_of_ble_eq_true rfl⟩ hP hS rfl hl.1 rfl (Nat.le_of_ble_eq_true rfl) ⟨Nat.le_refl _, Nat.le_refl _⟩ dX7_bestPin_69) hS (fun H locs hP hS => ?_)
      refine lv_aload_n hx hb dX7_bestPin_72 rfl (lv_at hl 0 rfl) ?_
      refine gf_7_0 X hP kc_279 q4_25 dX7_bestPin_73 ?_
      refine lv_bipush (v := (73 : Int32)) hx hb dX7_bestPin_76 (by decide) ?_
      refine lv_iload hx hb dX7_bestPin_78 (lv_at hl 5 rfl) ?_
      refine lv_iadd hx hb dX7_bestPin_80 ?_
      refine lv_dup2_11 hx hb dX7_bestPin_81 rfl rfl ?_
      obtain ⟨hi_4, hf⟩ := ck_s hf
      refine ga_ld X hP (iA_13 kc_280) hi_4 dX7_bestPin_82 ?_
      refine lv_iconst (v := (1 : Int32)) hx hb dX7_bestPin_83 (by decide) ?_
      refine lv_iload hx hb dX7_bestPin_84 (lv_at hl 6 rfl) ?_
      refine lv_ishl hx hb dX7_bestPin_86 ?_
      refine lv_ixor hx hb dX7_bestPin_87 ?_
      obtain ⟨hi_6, hf⟩ := ck_s hf
      refine ga_st X hP hS (iA_13 kc_280) hi_6 dX7_bestPin_88 (fun H locs M_5 eM_5 hP hS => ?_)
      replace hf := lt_go hf eM_5
      refine lv_aload_n hx hb dX7_bestPin_89 rfl (lv_at hl 0 rfl) ?_
      refine lv_iload_n hx hb dX7_bestPin_90 rfl (lv_at hl 1 rfl) ?_
      obtain ⟨r_9, M_8, hc_7, hf⟩ := cb_s hf
      refine g_goi (g_run X (c_X7_sumOf l g  hc_7) s_X7_sumOf (oB_7 kc_279) q5_49 ⟨Nat.le_of_ble_eq_true rfl, Nat.le_of_ble_eq_true rfl⟩ hP hS rfl hl.1 rfl (Nat.le_of_ble_eq_true rfl) ⟨Nat.le_refl _, Nat.le_refl _⟩ dX7_bestPin_91) hS (fun H locs hP hS => ?_)
      refine lv_istore (lv' := [(7, .int r_9), (0, .ref (gz g + 279)), (1, .int x1), (2, .int x2), (3, .int x3), (4, .int x4), (5, .int x5), (6, .int x6)]) hx hb dX7_bestPin_94 hl (by decide) rfl (fun ls hl => ?_)
      refine lv_iload hx hb dX7_bestPin_96 (lv_at hl 0 rfl) ?_
      refine lv_iload hx hb dX7_bestPin_98 (lv_at hl 5 rfl) ?_
      refine lv_icmp_le (tgt := 114) hx hb dX7_bestPin_100 (by decide) (fun h_10 => ?_) (fun h_10 => ?_)
      · replace hf := it_t hf h_10
        refine lv_iload_n hx hb dX7_bestPin_114 rfl (lv_at hl 4 rfl) ?_
        exact b_X7_bestPin_115 X hk43 ih x4 x5 x6 r_9 x3 M_8 hf hP hS (lv_sub hl [1, 2, 3, 5, 6, 7, 0] rfl)
      · replace hf := it_f hf h_10
        refine lv_bipush (v := (10 : Int32)) hx hb dX7_bestPin_103 (by decide) ?_
        refine lv_iload hx hb dX7_bestPin_105 (lv_at hl 6 rfl) ?_
        refine lv_imul hx hb dX7_bestPin_107 ?_
        refine lv_iload hx hb dX7_bestPin_108 (lv_at hl 7 rfl) ?_
        refine lv_iadd hx hb dX7_bestPin_110 ?_
        refine lv_goto (tgt := 115) hx hb dX7_bestPin_111 (by decide) ?_
        exact b_X7_bestPin_115 X hk43 ih x4 x5 x6 r_9 (((10 : Int32) * x5) + x6) M_8 hf hP hS (lv_sub hl [1, 2, 3, 5, 6, 7, 0] rfl)
def f_X7_bestPin_43 (x1 : Int32) (x2 : Int32)  : Nat → Int32 → Int32 → Int32 → Mem → Option (Int32 × Mem)
  | 0, _, _, _, _ => none
  | n + 1, x3, x4, x5, M =>
    if (M 280 1) ≤ x5 then
      if x2 = 0 then
        some (x3, M)
      else
        some (x4, M)
    else
      f_X7_bestPin_57 x1 x2 (f_X7_bestPin_43 x1 x2 n) FU x3 x4 x5 (0 : Int32) M
set_option maxRecDepth 20000 in
theorem b_X7_bestPin_43 {out : Int32 × Mem} (X : Bx p s m args meth c RX7 cX7_bestPin 8 (some .int) g)   {x1 : Int32} {x2 : Int32}     : ∀ (n : Nat) (x3 : Int32) (x4 : Int32) (x5 : Int32) (M : Mem) (H : Heap) (locs : List Loc) (ls : Array Slot), f_X7_bestPin_43 x1 x2 n x3 x4 x5 M = some out → va_P g.1 vwCl (gW g M) H → va_S (gA g) s.heap H locs → lv_has ls 8 [(0, .ref (gz g + 279)), (1, .int x1), (2, .int x2), (3, .int x3), (4, .int x4), (5, .int x5)] → W p l e (rM 4 90) s m args below meth c H locs 0 0 (MQ below (qI g out) args s 0 0 (gA g)) (F0 m 43 ls []) := by
  have hx := X.1
  have hb := X.2.1
  intro n
  induction n with
  | zero => intro _ _ _ _ _ _ _ hf; cases hf
  | succ n ih =>
    intro x3 x4 x5 M H locs ls hf hP hS hl
    rw [f_X7_bestPin_43] at hf
    refine lv_iload hx hb dX7_bestPin_43 (lv_at hl 5 rfl) ?_
    refine lv_aload_n hx hb dX7_bestPin_45 rfl (lv_at hl 0 rfl) ?_
    refine gf_7_0 X hP kc_279 q4_25 dX7_bestPin_46 ?_
    refine lv_iconst (v := (1 : Int32)) hx hb dX7_bestPin_49 (by decide) ?_
    refine ga_ldj (j := 1) X hP (iA_13 kc_280) (by unfold vp_in; decide) (by decide) dX7_bestPin_50 ?_
    refine lv_icmp_ge (tgt := 144) hx hb dX7_bestPin_51 (by decide) (fun h_1 => ?_) (fun h_1 => ?_)
    · replace hf := it_t hf h_1
      refine lv_iload_n hx hb dX7_bestPin_144 rfl (lv_at hl 2 rfl) ?_
      refine lv_if_ne (tgt := 152) hx hb dX7_bestPin_145 (by decide) (fun h_2 => ?_) (fun h_2 => ?_)
      · replace hf := it_f hf h_2
        refine lv_iload hx hb dX7_bestPin_152 (lv_at hl 4 rfl) ?_
        exact g_iret X hP hS (sm_i hf) dX7_bestPin_154
      · replace hf := it_t hf h_2
        refine lv_iload_n hx hb dX7_bestPin_148 rfl (lv_at hl 3 rfl) ?_
        refine lv_goto (tgt := 154) hx hb dX7_bestPin_149 (by decide) ?_
        exact g_iret X hP hS (sm_i hf) dX7_bestPin_154
    · replace hf := it_f hf h_1
      refine lv_iconst (v := (0 : Int32)) hx hb dX7_bestPin_54 (by decide) ?_
      refine lv_istore (lv' := [(6, .int (0 : Int32)), (0, .ref (gz g + 279)), (1, .int x1), (2, .int x2), (3, .int x3), (4, .int x4), (5, .int x5)]) hx hb dX7_bestPin_55 hl (by decide) rfl (fun ls hl => ?_)
      exact b_X7_bestPin_57 X ih FU x3 x4 x5 (0 : Int32) M _ _ _ hf hP hS (lv_sub hl [1, 2, 3, 4, 5, 6, 0] rfl)
def f_X7_bestPin (x1 : Int32) (x2 : Int32) (M : Mem) : Option (Int32 × Mem) :=
  cb (f_X7_isBox M) fun r_3 M_2 =>
  if r_3 = 0 then
    some ((-1000002 : Int32), M_2)
  else
    cb (f_X7_in ((x1).toInt64) (1 : Int64) (20 : Int64) M_2) fun r_7 M_6 =>
    if r_7 = 0 then
      some ((-1000001 : Int32), M_6)
    else
      cb (f_X7_in ((x2).toInt64) (0 : Int64) (1 : Int64) M_6) fun r_11 M_10 =>
      if r_11 = 0 then
        some ((-1000001 : Int32), M_10)
      else
        f_X7_bestPin_43 x1 x2 FU (0 : Int32) (-1 : Int32) (0 : Int32) M_10
set_option maxRecDepth 20000 in
theorem c_X7_bestPin (l : Launch) (g : GC) {x1 : Int32} {x2 : Int32}  {M : Mem} {out : Int32 × Mem} (hf : f_X7_bestPin x1 x2 M = some out) : cI l g yX7_bestPin cX7_bestPin 8 (some .int) (rM 4 90) [.ref (gz g + 279), .int x1, .int x2] M out := by
  refine g_met (by decide) (Nat.le_of_ble_eq_true rfl) ?_
  intro p e s m below meth c X hP hS ls hl
  have X : Bx p s m _ meth c RX7 cX7_bestPin 8 (some .int) g := X
  have hl : lv_has ls 8 [(0, .ref (gz g + 279)), (1, .int x1), (2, .int x2)] := hl
  have hx := X.1
  have hb := X.2.1
  refine lv_aload_n hx hb dX7_bestPin_0 rfl (lv_at hl 0 rfl) ?_
  obtain ⟨r_3, M_2, hc_1, hf⟩ := cb_s hf
  refine g_goi (g_run X (c_X7_isBox l g  hc_1) s_X7_isBox (oB_7 kc_279) q4_180 ⟨Nat.le_of_ble_eq_true rfl, Nat.le_of_ble_eq_true rfl⟩ hP hS rfl hl.1 rfl (Nat.le_of_ble_eq_true rfl) ⟨Nat.le_refl _, Nat.le_refl _⟩ dX7_bestPin_1) hS (fun H locs hP hS => ?_)
  refine lv_if_ne (tgt := 10) hx hb dX7_bestPin_4 (by decide) (fun h_4 => ?_) (fun h_4 => ?_)
  · replace hf := it_f hf h_4
    refine lv_iload_n hx hb dX7_bestPin_10 rfl (lv_at hl 1 rfl) ?_
    refine lv_i2l hx hb dX7_bestPin_11 rfl ?_
    refine lv_lconst (v := (1 : Int64)) hx hb dX7_bestPin_12 (by decide) ?_
    refine lv_ldc2 hx hb X.2.2.2.1 (X.2.2.2.2.1 _ q5_48) dX7_bestPin_13 ?_
    obtain ⟨r_7, M_6, hc_5, hf⟩ := cb_s hf
    refine g_goi (g_runS X (c_X7_in l g  hc_5) s_X7_in q4_89 ⟨Nat.le_of_ble_eq_true rfl, Nat.le_of_ble_eq_true rfl⟩ hP hS rfl hl.1 rfl (Nat.le_of_ble_eq_true rfl) ⟨Nat.le_refl _, Nat.le_refl _⟩ dX7_bestPin_16) hS (fun H locs hP hS => ?_)
    refine lv_if_eq (tgt := 32) hx hb dX7_bestPin_19 (by decide) (fun h_8 => ?_) (fun h_8 => ?_)
    · replace hf := it_t hf h_8
      refine lv_ldc hx hb X.2.2.2.1 (X.2.2.2.2.1 _ q4_93) dX7_bestPin_32 ?_
      exact g_iret X hP hS (sm_i hf) dX7_bestPin_34
    · replace hf := it_f hf h_8
      refine lv_iload_n hx hb dX7_bestPin_22 rfl (lv_at hl 2 rfl) ?_
      refine lv_i2l hx hb dX7_bestPin_23 rfl ?_
      refine lv_lconst (v := (0 : Int64)) hx hb dX7_bestPin_24 (by decide) ?_
      refine lv_lconst (v := (1 : Int64)) hx hb dX7_bestPin_25 (by decide) ?_
      obtain ⟨r_11, M_10, hc_9, hf⟩ := cb_s hf
      refine g_goi (g_runS X (c_X7_in l g  hc_9) s_X7_in q4_89 ⟨Nat.le_of_ble_eq_true rfl, Nat.le_of_ble_eq_true rfl⟩ hP hS rfl hl.1 rfl (Nat.le_of_ble_eq_true rfl) ⟨Nat.le_refl _, Nat.le_refl _⟩ dX7_bestPin_26) hS (fun H locs hP hS => ?_)
      refine lv_if_ne (tgt := 35) hx hb dX7_bestPin_29 (by decide) (fun h_12 => ?_) (fun h_12 => ?_)
      · replace hf := it_f hf h_12
        refine lv_iconst (v := (0 : Int32)) hx hb dX7_bestPin_35 (by decide) ?_
        refine lv_istore_n (lv' := [(3, .int (0 : Int32)), (0, .ref (gz g + 279)), (1, .int x1), (2, .int x2)]) hx hb dX7_bestPin_36 rfl hl (by decide) rfl (fun ls hl => ?_)
        refine lv_iconst (v := (-1 : Int32)) hx hb dX7_bestPin_37 (by decide) ?_
        refine lv_istore (lv' := [(4, .int (-1 : Int32)), (3, .int (0 : Int32)), (0, .ref (gz g + 279)), (1, .int x1), (2, .int x2)]) hx hb dX7_bestPin_38 hl (by decide) rfl (fun ls hl => ?_)
        refine lv_iconst (v := (0 : Int32)) hx hb dX7_bestPin_40 (by decide) ?_
        refine lv_istore (lv' := [(5, .int (0 : Int32)), (4, .int (-1 : Int32)), (3, .int (0 : Int32)), (0, .ref (gz g + 279)), (1, .int x1), (2, .int x2)]) hx hb dX7_bestPin_41 hl (by decide) rfl (fun ls hl => ?_)
        exact b_X7_bestPin_43 X  FU (0 : Int32) (-1 : Int32) (0 : Int32) M_10 _ _ _ hf hP hS (lv_sub hl [3, 4, 5, 2, 1, 0] rfl)
      · replace hf := it_t hf h_12
        refine lv_ldc hx hb X.2.2.2.1 (X.2.2.2.2.1 _ q4_93) dX7_bestPin_32 ?_
        exact g_iret X hP hS (sm_i hf) dX7_bestPin_34
  · replace hf := it_t hf h_4
    refine lv_ldc hx hb X.2.2.2.1 (X.2.2.2.2.1 _ q4_175) dX7_bestPin_7 ?_
    exact g_iret X hP hS (sm_i hf) dX7_bestPin_9
def f_X7_begin_102 (x1 : Int32) (x2 : Int32) (k43 : Int32 → Int32 → Int32 → Mem → Option (Int32 × Mem)) (x3 : Int32) (x5 : Int32) (t0 : Int32) (M : Mem) : Option (Int32 × Mem) :=
  k43 x3 t0 (x5 + (1 : Int32)) M
set_option maxRecDepth 20000 in
theorem b_X7_begin_102 {out : Int32 × Mem} (X : Bx p s m args meth c RX7 cX7_begin 7 (some .int) g)   {x1 : Int32} {x2 : Int32}   {k43 : Int32 → Int32 → Int32 → Mem → Option (Int32 × Mem)} (hk43 : ∀ (x3 : Int32) (x4 : Int32) (x5 : Int32) (M : Mem) (H : Heap) (locs : List Loc) (ls : Array Slot), k43 x3 x4 x5 M = some out → va_P g.1 vwCl (gW g M) H → va_S (gA g) s.heap H locs → lv_has ls 7 [(0, .ref (gz g + 279)), (1, .int x1), (2, .int x2), (3, .int x3), (4, .int x4), (5, .int x5)] → W p l e (rM 4 90) s m args below meth c H locs 0 0 (MQ below (qI g out) args s 0 0 (gA g)) (F0 m 43 ls [])) (x3 : Int32) (x5 : Int32) (t0 : Int32) (M : Mem) {H : Heap} {locs : List Loc} {ls : Array Slot} (hf : f_X7_begin_102 x1 x2 k43 x3 x5 t0 M = some out) (hP : va_P g.1 vwCl (gW g M) H) (hS : va_S (gA g) s.heap H locs) (hl : lv_has ls 7 [(0, .ref (gz g + 279)), (1, .int x1), (2, .int x2), (3, .int x3), (5, .int x5)]) : W p l e (rM 4 90) s m args below meth c H locs 0 0 (MQ below (qI g out) args s 0 0 (gA g)) (F0 m 102 ls [.int t0]) := by
  have hx := X.1
  have hb := X.2.1
  refine lv_istore (lv' := [(4, .int t0), (0, .ref (gz g + 279)), (1, .int x1), (2, .int x2), (3, .int x3), (5, .int x5)]) hx hb dX7_begin_102 hl (by decide) rfl (fun ls hl => ?_)
  refine lv_iinc (v := (x5 + (1 : Int32))) (lv' := [(5, .int (x5 + (1 : Int32))), (4, .int t0), (0, .ref (gz g + 279)), (1, .int x1), (2, .int x2), (3, .int x3)]) hx hb dX7_begin_104 hl (k := 5) rfl rfl (by decide) rfl (fun ls hl => ?_)
  refine lv_goto (tgt := 43) hx hb dX7_begin_107 (by decide) ?_
  exact hk43 x3 t0 (x5 + (1 : Int32)) M _ _ _ hf hP hS (lv_sub hl [2, 3, 4, 5, 1, 0] rfl)
def f_X7_begin_87 (x1 : Int32) (x2 : Int32) (k43 : Int32 → Int32 → Int32 → Mem → Option (Int32 × Mem)) (x4 : Int32) (x5 : Int32) (x6 : Int32) (t0 : Int32) (M : Mem) : Option (Int32 × Mem) :=
  if x6 ≤ x4 then
    f_X7_begin_102 x1 x2 k43 t0 x5 x4 M
  else
    f_X7_begin_102 x1 x2 k43 t0 x5 x6 M
set_option maxRecDepth 20000 in
theorem b_X7_begin_87 {out : Int32 × Mem} (X : Bx p s m args meth c RX7 cX7_begin 7 (some .int) g)   {x1 : Int32} {x2 : Int32}   {k43 : Int32 → Int32 → Int32 → Mem → Option (Int32 × Mem)} (hk43 : ∀ (x3 : Int32) (x4 : Int32) (x5 : Int32) (M : Mem) (H : Heap) (locs : List Loc) (ls : Array Slot), k43 x3 x4 x5 M = some out → va_P g.1 vwCl (gW g M) H → va_S (gA g) s.heap H locs → lv_has ls 7 [(0, .ref (gz g + 279)), (1, .int x1), (2, .int x2), (3, .int x3), (4, .int x4), (5, .int x5)] → W p l e (rM 4 90) s m args below meth c H locs 0 0 (MQ below (qI g out) args s 0 0 (gA g)) (F0 m 43 ls [])) (x4 : Int32) (x5 : Int32) (x6 : Int32) (t0 : Int32) (M : Mem) {H : Heap} {locs : List Loc} {ls : Array Slot} (hf : f_X7_begin_87 x1 x2 k43 x4 x5 x6 t0 M = some out) (hP : va_P g.1 vwCl (gW g M) H) (hS : va_S (gA g) s.heap H locs) (hl : lv_has ls 7 [(0, .ref (gz g + 279)), (1, .int x1), (2, .int x2), (4, .int x4), (5, .int x5), (6, .int x6)]) : W p l e (rM 4 90) s m args below meth c H locs 0 0 (MQ below (qI g out) args s 0 0 (gA g)) (F0 m 87 ls [.int t0]) := by
  have hx := X.1
  have hb := X.2.1
  refine lv_istore_n (lv' := [(3, .int t0), (0, .ref (gz g + 279)), (1, .int x1), (2, .int x2), (4, .int x4), (5, .int x5), (6, .int x6)]) hx hb dX7_begin_87 rfl hl (by decide) rfl (fun ls hl => ?_)
  refine lv_iload hx hb dX7_begin_88 (lv_at hl 6 rfl) ?_
  refine lv_iload hx hb dX7_begin_90 (lv_at hl 4 rfl) ?_
  refine lv_icmp_le (tgt := 100) hx hb dX7_begin_92 (by decide) (fun h_1 => ?_) (fun h_1 => ?_)
  · replace hf := it_t hf h_1
    refine lv_iload hx hb dX7_begin_100 (lv_at hl 4 rfl) ?_
    exact b_X7_begin_102 X hk43 t0 x5 x4 M hf hP hS (lv_sub hl [1, 2, 3, 0, 5] rfl)
  · replace hf := it_f hf h_1
    refine lv_iload hx hb dX7_begin_95 (lv_at hl 6 rfl) ?_
    refine lv_goto (tgt := 102) hx hb dX7_begin_97 (by decide) ?_
    exact b_X7_begin_102 X hk43 t0 x5 x6 M hf hP hS (lv_sub hl [1, 2, 3, 0, 5] rfl)
def f_X7_begin_43 (x1 : Int32) (x2 : Int32)  : Nat → Int32 → Int32 → Int32 → Mem → Option (Int32 × Mem)
  | 0, _, _, _, _ => none
  | n + 1, x3, x4, x5, M =>
    if (M 280 1) ≤ x5 then
      if x2 = 0 then
        some (x3, M)
      else
        some (x4, M)
    else
      cv (f_X7_tries M) fun M_4 =>
      lt (up2 M_4 280 46 x5) fun M_5 =>
      cb (f_X7_sumOf x1 M_5) fun r_8 M_7 =>
      if r_8 ≤ x4 then
        f_X7_begin_87 x1 x2 (f_X7_begin_43 x1 x2 n) x4 x5 r_8 x3 M_7
      else
        f_X7_begin_87 x1 x2 (f_X7_begin_43 x1 x2 n) x4 x5 r_8 x5 M_7
set_option maxRecDepth 20000 in
theorem b_X7_begin_43 {out : Int32 × Mem} (X : Bx p s m args meth c RX7 cX7_begin 7 (some .int) g)   {x1 : Int32} {x2 : Int32}     : ∀ (n : Nat) (x3 : Int32) (x4 : Int32) (x5 : Int32) (M : Mem) (H : Heap) (locs : List Loc) (ls : Array Slot), f_X7_begin_43 x1 x2 n x3 x4 x5 M = some out → va_P g.1 vwCl (gW g M) H → va_S (gA g) s.heap H locs → lv_has ls 7 [(0, .ref (gz g + 279)), (1, .int x1), (2, .int x2), (3, .int x3), (4, .int x4), (5, .int x5)] → W p l e (rM 4 90) s m args below meth c H locs 0 0 (MQ below (qI g out) args s 0 0 (gA g)) (F0 m 43 ls []) := by
  have hx := X.1
  have hb := X.2.1
  intro n
  induction n with
  | zero => intro _ _ _ _ _ _ _ hf; cases hf
  | succ n ih =>
    intro x3 x4 x5 M H locs ls hf hP hS hl
    rw [f_X7_begin_43] at hf
    refine lv_iload hx hb dX7_begin_43 (lv_at hl 5 rfl) ?_
    refine lv_aload_n hx hb dX7_begin_45 rfl (lv_at hl 0 rfl) ?_
    refine gf_7_0 X hP kc_279 q4_25 dX7_begin_46 ?_
    refine lv_iconst (v := (1 : Int32)) hx hb dX7_begin_49 (by decide) ?_
    refine ga_ldj (j := 1) X hP (iA_13 kc_280) (by unfold vp_in; decide) (by decide) dX7_begin_50 ?_
    refine lv_icmp_ge (tgt := 110) hx hb dX7_begin_51 (by decide) (fun h_1 => ?_) (fun h_1 => ?_)
    · replace hf := it_t hf h_1
      refine lv_iload_n hx hb dX7_begin_110 rfl (lv_at hl 2 rfl) ?_
      refine lv_if_ne (tgt := 118) hx hb dX7_begin_111 (by decide) (fun h_2 => ?_) (fun h_2 => ?_)
      · replace hf := it_f hf h_2
        refine lv_iload hx hb dX7_begin_118 (lv_at hl 4 rfl) ?_
        exact g_iret X hP hS (sm_i hf) dX7_begin_120
      · replace hf := it_t hf h_2
        refine lv_iload_n hx hb dX7_begin_114 rfl (lv_at hl 3 rfl) ?_
        refine lv_goto (tgt := 120) hx hb dX7_begin_115 (by decide) ?_
        exact g_iret X hP hS (sm_i hf) dX7_begin_120
    · replace hf := it_f hf h_1
      refine lv_aload_n hx hb dX7_begin_54 rfl (lv_at hl 0 rfl) ?_
      obtain ⟨M_4, hc_3, hf⟩ := cv_s hf
      refine g_gov (g_run X (c_X7_tries l g  hc_3) s_X7_tries (oB_7 kc_279) q5_22 ⟨Nat.le_of_ble_eq_true rfl, Nat.le_of_ble_eq_true rfl⟩ hP hS rfl hl.1 rfl (Nat.le_of_ble_eq_true rfl) ⟨Nat.le_refl _, Nat.le_refl _⟩ dX7_begin_55) hS (fun H locs hP hS => ?_)
      refine lv_aload_n hx hb dX7_begin_58 rfl (lv_at hl 0 rfl) ?_
      refine gf_7_0 X hP kc_279 q4_25 dX7_begin_59 ?_
      refine lv_bipush (v := (46 : Int32)) hx hb dX7_begin_62 (by decide) ?_
      refine lv_iload hx hb dX7_begin_64 (lv_at hl 5 rfl) ?_
      refine ga_stj (j := 46) X hP hS (iA_13 kc_280) (by unfold vp_in; decide) (by decide) dX7_begin_66 (fun H locs M_5 eM_5 hP hS => ?_)
      replace hf := lt_go hf eM_5
      refine lv_aload_n hx hb dX7_begin_67 rfl (lv_at hl 0 rfl) ?_
      refine lv_iload_n hx hb dX7_begin_68 rfl (lv_at hl 1 rfl) ?_
      obtain ⟨r_8, M_7, hc_6, hf⟩ := cb_s hf
      refine g_goi (g_run X (c_X7_sumOf l g  hc_6) s_X7_sumOf (oB_7 kc_279) q5_49 ⟨Nat.le_of_ble_eq_true rfl, Nat.le_of_ble_eq_true rfl⟩ hP hS rfl hl.1 rfl (Nat.le_of_ble_eq_true rfl) ⟨Nat.le_refl _, Nat.le_refl _⟩ dX7_begin_69) hS (fun H locs hP hS => ?_)
      refine lv_istore (lv' := [(6, .int r_8), (0, .ref (gz g + 279)), (1, .int x1), (2, .int x2), (3, .int x3), (4, .int x4), (5, .int x5)]) hx hb dX7_begin_72 hl (by decide) rfl (fun ls hl => ?_)
      refine lv_iload hx hb dX7_begin_74 (lv_at hl 0 rfl) ?_
      refine lv_iload hx hb dX7_begin_76 (lv_at hl 5 rfl) ?_
      refine lv_icmp_le (tgt := 86) hx hb dX7_begin_78 (by decide) (fun h_9 => ?_) (fun h_9 => ?_)
      · replace hf := it_t hf h_9
        refine lv_iload_n hx hb dX7_begin_86 rfl (lv_at hl 4 rfl) ?_
        exact b_X7_begin_87 X ih x4 x5 r_8 x3 M_7 hf hP hS (lv_sub hl [1, 2, 3, 5, 6, 0] rfl)
      · replace hf := it_f hf h_9
        refine lv_iload hx hb dX7_begin_81 (lv_at hl 6 rfl) ?_
        refine lv_goto (tgt := 87) hx hb dX7_begin_83 (by decide) ?_
        exact b_X7_begin_87 X ih x4 x5 r_8 x5 M_7 hf hP hS (lv_sub hl [1, 2, 3, 5, 6, 0] rfl)
def f_X7_begin (x1 : Int32) (x2 : Int32) (M : Mem) : Option (Int32 × Mem) :=
  cb (f_X7_isBox M) fun r_3 M_2 =>
  if r_3 = 0 then
    some ((-1000002 : Int32), M_2)
  else
    cb (f_X7_in ((x1).toInt64) (1 : Int64) (40 : Int64) M_2) fun r_7 M_6 =>
    if r_7 = 0 then
      some ((-1000001 : Int32), M_6)
    else
      cb (f_X7_in ((x2).toInt64) (0 : Int64) (1 : Int64) M_6) fun r_11 M_10 =>
      if r_11 = 0 then
        some ((-1000001 : Int32), M_10)
      else
        f_X7_begin_43 x1 x2 FU (0 : Int32) (-1 : Int32) (0 : Int32) M_10
set_option maxRecDepth 20000 in
theorem c_X7_begin (l : Launch) (g : GC) {x1 : Int32} {x2 : Int32}  {M : Mem} {out : Int32 × Mem} (hf : f_X7_begin x1 x2 M = some out) : cI l g yX7_begin cX7_begin 7 (some .int) (rM 4 90) [.ref (gz g + 279), .int x1, .int x2] M out := by
  refine g_met (by decide) (Nat.le_of_ble_eq_true rfl) ?_
  intro p e s m below meth c X hP hS ls hl
  have X : Bx p s m _ meth c RX7 cX7_begin 7 (some .int) g := X
  have hl : lv_has ls 7 [(0, .ref (gz g + 279)), (1, .int x1), (2, .int x2)] := hl
  have hx := X.1
  have hb := X.2.1
  refine lv_aload_n hx hb dX7_begin_0 rfl (lv_at hl 0 rfl) ?_
  obtain ⟨r_3, M_2, hc_1, hf⟩ := cb_s hf
  refine g_goi (g_run X (c_X7_isBox l g  hc_1) s_X7_isBox (oB_7 kc_279) q4_180 ⟨Nat.le_of_ble_eq_true rfl, Nat.le_of_ble_eq_true rfl⟩ hP hS rfl hl.1 rfl (Nat.le_of_ble_eq_true rfl) ⟨Nat.le_refl _, Nat.le_refl _⟩ dX7_begin_1) hS (fun H locs hP hS => ?_)
  refine lv_if_ne (tgt := 10) hx hb dX7_begin_4 (by decide) (fun h_4 => ?_) (fun h_4 => ?_)
  · replace hf := it_f hf h_4
    refine lv_iload_n hx hb dX7_begin_10 rfl (lv_at hl 1 rfl) ?_
    refine lv_i2l hx hb dX7_begin_11 rfl ?_
    refine lv_lconst (v := (1 : Int64)) hx hb dX7_begin_12 (by decide) ?_
    refine lv_ldc2 hx hb X.2.2.2.1 (X.2.2.2.2.1 _ q5_57) dX7_begin_13 ?_
    obtain ⟨r_7, M_6, hc_5, hf⟩ := cb_s hf
    refine g_goi (g_runS X (c_X7_in l g  hc_5) s_X7_in q4_89 ⟨Nat.le_of_ble_eq_true rfl, Nat.le_of_ble_eq_true rfl⟩ hP hS rfl hl.1 rfl (Nat.le_of_ble_eq_true rfl) ⟨Nat.le_refl _, Nat.le_refl _⟩ dX7_begin_16) hS (fun H locs hP hS => ?_)
    refine lv_if_eq (tgt := 32) hx hb dX7_begin_19 (by decide) (fun h_8 => ?_) (fun h_8 => ?_)
    · replace hf := it_t hf h_8
      refine lv_ldc hx hb X.2.2.2.1 (X.2.2.2.2.1 _ q4_93) dX7_begin_32 ?_
      exact g_iret X hP hS (sm_i hf) dX7_begin_34
    · replace hf := it_f hf h_8
      refine lv_iload_n hx hb dX7_begin_22 rfl (lv_at hl 2 rfl) ?_
      refine lv_i2l hx hb dX7_begin_23 rfl ?_
      refine lv_lconst (v := (0 : Int64)) hx hb dX7_begin_24 (by decide) ?_
      refine lv_lconst (v := (1 : Int64)) hx hb dX7_begin_25 (by decide) ?_
      obtain ⟨r_11, M_10, hc_9, hf⟩ := cb_s hf
      refine g_goi (g_runS X (c_X7_in l g  hc_9) s_X7_in q4_89 ⟨Nat.le_of_ble_eq_true rfl, Nat.le_of_ble_eq_true rfl⟩ hP hS rfl hl.1 rfl (Nat.le_of_ble_eq_true rfl) ⟨Nat.le_refl _, Nat.le_refl _⟩ dX7_begin_26) hS (fun H locs hP hS => ?_)
      refine lv_if_ne (tgt := 35) hx hb dX7_begin_29 (by decide) (fun h_12 => ?_) (fun h_12 => ?_)
      · replace hf := it_f hf h_12
        refine lv_iconst (v := (0 : Int32)) hx hb dX7_begin_35 (by decide) ?_
        refine lv_istore_n (lv' := [(3, .int (0 : Int32)), (0, .ref (gz g + 279)), (1, .int x1), (2, .int x2)]) hx hb dX7_begin_36 rfl hl (by decide) rfl (fun ls hl => ?_)
        refine lv_iconst (v := (-1 : Int32)) hx hb dX7_begin_37 (by decide) ?_
        refine lv_istore (lv' := [(4, .int (-1 : Int32)), (3, .int (0 : Int32)), (0, .ref (gz g + 279)), (1, .int x1), (2, .int x2)]) hx hb dX7_begin_38 hl (by decide) rfl (fun ls hl => ?_)
        refine lv_iconst (v := (0 : Int32)) hx hb dX7_begin_40 (by decide) ?_
        refine lv_istore (lv' := [(5, .int (0 : Int32)), (4, .int (-1 : Int32)), (3, .int (0 : Int32)), (0, .ref (gz g + 279)), (1, .int x1), (2, .int x2)]) hx hb dX7_begin_41 hl (by decide) rfl (fun ls hl => ?_)
        exact b_X7_begin_43 X  FU (0 : Int32) (-1 : Int32) (0 : Int32) M_10 _ _ _ hf hP hS (lv_sub hl [3, 4, 5, 2, 1, 0] rfl)
      · replace hf := it_t hf h_12
        refine lv_ldc hx hb X.2.2.2.1 (X.2.2.2.2.1 _ q4_93) dX7_begin_32 ?_
        exact g_iret X hP hS (sm_i hf) dX7_begin_34
  · replace hf := it_t hf h_4
    refine lv_ldc hx hb X.2.2.2.1 (X.2.2.2.2.1 _ q4_175) dX7_begin_7 ?_
    exact g_iret X hP hS (sm_i hf) dX7_begin_9
def f_X7_least_27 (x1 : Int32)  : Nat → Int32 → Mem → Option (Int32 × Mem)
  | 0, _, _ => none
  | n + 1, x2, M =>
    if (99 : Int32) < x2 then
      some ((-1000000 : Int32), M)
    else
      cv (f_X7_tries M) fun M_3 =>
      lt (up2 M_3 280 45 x2) fun M_4 =>
      cv (f_X7_goesOn x1 M_4) fun M_6 =>
      if (M_6 280 45) ≤ 0 then
        (f_X7_least_27 x1 n) (x2 + (1 : Int32)) M_6
      else
        some (x2, M_6)
set_option maxRecDepth 20000 in
theorem b_X7_least_27 {out : Int32 × Mem} (X : Bx p s m args meth c RX7 cX7_least 3 (some .int) g)   {x1 : Int32}     : ∀ (n : Nat) (x2 : Int32) (M : Mem) (H : Heap) (locs : List Loc) (ls : Array Slot), f_X7_least_27 x1 n x2 M = some out → va_P g.1 vwCl (gW g M) H → va_S (gA g) s.heap H locs → lv_has ls 3 [(0, .ref (gz g + 279)), (1, .int x1), (2, .int x2)] → W p l e (rM 4 89) s m args below meth c H locs 0 0 (MQ below (qI g out) args s 0 0 (gA g)) (F0 m 27 ls []) := by
  have hx := X.1
  have hb := X.2.1
  intro n
  induction n with
  | zero => intro _ _ _ _ _ hf; cases hf
  | succ n ih =>
    intro x2 M H locs ls hf hP hS hl
    rw [f_X7_least_27] at hf
    refine lv_iload_n hx hb dX7_least_27 rfl (lv_at hl 2 rfl) ?_
    refine lv_bipush (v := (99 : Int32)) hx hb dX7_least_28 (by decide) ?_
    refine lv_icmp_gt (tgt := 68) hx hb dX7_least_30 (by decide) (fun h_1 => ?_) (fun h_1 => ?_)
    · replace hf := it_t hf h_1
      refine lv_ldc hx hb X.2.2.2.1 (X.2.2.2.2.1 _ q5_39) dX7_least_68 ?_
      exact g_iret X hP hS (sm_i hf) dX7_least_70
    · replace hf := it_f hf h_1
      refine lv_aload_n hx hb dX7_least_33 rfl (lv_at hl 0 rfl) ?_
      obtain ⟨M_3, hc_2, hf⟩ := cv_s hf
      refine g_gov (g_run X (c_X7_tries l g  hc_2) s_X7_tries (oB_7 kc_279) q5_22 ⟨Nat.le_of_ble_eq_true rfl, Nat.le_of_ble_eq_true rfl⟩ hP hS rfl hl.1 rfl (Nat.le_of_ble_eq_true rfl) ⟨Nat.le_refl _, Nat.le_refl _⟩ dX7_least_34) hS (fun H locs hP hS => ?_)
      refine lv_aload_n hx hb dX7_least_37 rfl (lv_at hl 0 rfl) ?_
      refine gf_7_0 X hP kc_279 q4_25 dX7_least_38 ?_
      refine lv_bipush (v := (45 : Int32)) hx hb dX7_least_41 (by decide) ?_
      refine lv_iload_n hx hb dX7_least_43 rfl (lv_at hl 2 rfl) ?_
      refine ga_stj (j := 45) X hP hS (iA_13 kc_280) (by unfold vp_in; decide) (by decide) dX7_least_44 (fun H locs M_4 eM_4 hP hS => ?_)
      replace hf := lt_go hf eM_4
      refine lv_aload_n hx hb dX7_least_45 rfl (lv_at hl 0 rfl) ?_
      refine lv_iload_n hx hb dX7_least_46 rfl (lv_at hl 1 rfl) ?_
      obtain ⟨M_6, hc_5, hf⟩ := cv_s hf
      refine g_gov (g_run X (c_X7_goesOn l g  hc_5) s_X7_goesOn (oB_7 kc_279) q5_26 ⟨Nat.le_of_ble_eq_true rfl, Nat.le_of_ble_eq_true rfl⟩ hP hS rfl hl.1 rfl (Nat.le_of_ble_eq_true rfl) ⟨Nat.le_refl _, Nat.le_refl _⟩ dX7_least_47) hS (fun H locs hP hS => ?_)
      refine lv_aload_n hx hb dX7_least_50 rfl (lv_at hl 0 rfl) ?_
      refine gf_7_0 X hP kc_279 q4_25 dX7_least_51 ?_
      refine lv_bipush (v := (45 : Int32)) hx hb dX7_least_54 (by decide) ?_
      refine ga_ldj (j := 45) X hP (iA_13 kc_280) (by unfold vp_in; decide) (by decide) dX7_least_56 ?_
      refine lv_if_le (tgt := 62) hx hb dX7_least_57 (by decide) (fun h_7 => ?_) (fun h_7 => ?_)
      · replace hf := it_t hf h_7
        refine lv_iinc (v := (x2 + (1 : Int32))) (lv' := [(2, .int (x2 + (1 : Int32))), (0, .ref (gz g + 279)), (1, .int x1)]) hx hb dX7_least_62 hl (k := 2) rfl rfl (by decide) rfl (fun ls hl => ?_)
        refine lv_goto (tgt := 27) hx hb dX7_least_65 (by decide) ?_
        exact ih (x2 + (1 : Int32)) M_6 _ _ _ hf hP hS (lv_sub hl [1, 2, 0] rfl)
      · replace hf := it_f hf h_7
        refine lv_iload_n hx hb dX7_least_60 rfl (lv_at hl 2 rfl) ?_
        exact g_iret X hP hS (sm_i hf) dX7_least_61
def f_X7_least (x1 : Int32) (M : Mem) : Option (Int32 × Mem) :=
  cb (f_X7_isBox M) fun r_3 M_2 =>
  if r_3 = 0 then
    some ((-1000002 : Int32), M_2)
  else
    cb (f_X7_in ((x1).toInt64) (1 : Int64) (40 : Int64) M_2) fun r_7 M_6 =>
    if r_7 = 0 then
      some ((-1000001 : Int32), M_6)
    else
      f_X7_least_27 x1 FU (0 : Int32) M_6
set_option maxRecDepth 20000 in
theorem c_X7_least (l : Launch) (g : GC) {x1 : Int32}  {M : Mem} {out : Int32 × Mem} (hf : f_X7_least x1 M = some out) : cI l g yX7_least cX7_least 3 (some .int) (rM 4 89) [.ref (gz g + 279), .int x1] M out := by
  refine g_met (by decide) (Nat.le_of_ble_eq_true rfl) ?_
  intro p e s m below meth c X hP hS ls hl
  have X : Bx p s m _ meth c RX7 cX7_least 3 (some .int) g := X
  have hl : lv_has ls 3 [(0, .ref (gz g + 279)), (1, .int x1)] := hl
  have hx := X.1
  have hb := X.2.1
  refine lv_aload_n hx hb dX7_least_0 rfl (lv_at hl 0 rfl) ?_
  obtain ⟨r_3, M_2, hc_1, hf⟩ := cb_s hf
  refine g_goi (g_run X (c_X7_isBox l g  hc_1) s_X7_isBox (oB_7 kc_279) q4_180 ⟨Nat.le_of_ble_eq_true rfl, Nat.le_of_ble_eq_true rfl⟩ hP hS rfl hl.1 rfl (Nat.le_of_ble_eq_true rfl) ⟨Nat.le_refl _, Nat.le_refl _⟩ dX7_least_1) hS (fun H locs hP hS => ?_)
  refine lv_if_ne (tgt := 10) hx hb dX7_least_4 (by decide) (fun h_4 => ?_) (fun h_4 => ?_)
  · replace hf := it_f hf h_4
    refine lv_iload_n hx hb dX7_least_10 rfl (lv_at hl 1 rfl) ?_
    refine lv_i2l hx hb dX7_least_11 rfl ?_
    refine lv_lconst (v := (1 : Int64)) hx hb dX7_least_12 (by decide) ?_
    refine lv_ldc2 hx hb X.2.2.2.1 (X.2.2.2.2.1 _ q5_57) dX7_least_13 ?_
    obtain ⟨r_7, M_6, hc_5, hf⟩ := cb_s hf
    refine g_goi (g_runS X (c_X7_in l g  hc_5) s_X7_in q4_89 ⟨Nat.le_of_ble_eq_true rfl, Nat.le_of_ble_eq_true rfl⟩ hP hS rfl hl.1 rfl (Nat.le_of_ble_eq_true rfl) ⟨Nat.le_refl _, Nat.le_refl _⟩ dX7_least_16) hS (fun H locs hP hS => ?_)
    refine lv_if_ne (tgt := 25) hx hb dX7_least_19 (by decide) (fun h_8 => ?_) (fun h_8 => ?_)
    · replace hf := it_f hf h_8
      refine lv_iconst (v := (0 : Int32)) hx hb dX7_least_25 (by decide) ?_
      refine lv_istore_n (lv' := [(2, .int (0 : Int32)), (0, .ref (gz g + 279)), (1, .int x1)]) hx hb dX7_least_26 rfl hl (by decide) rfl (fun ls hl => ?_)
      exact b_X7_least_27 X  FU (0 : Int32) M_6 _ _ _ hf hP hS (lv_sub hl [1, 2, 0] rfl)
    · replace hf := it_t hf h_8
      refine lv_ldc hx hb X.2.2.2.1 (X.2.2.2.2.1 _ q4_93) dX7_least_22 ?_
      exact g_iret X hP hS (sm_i hf) dX7_least_24
  · replace hf := it_t hf h_4
    refine lv_ldc hx hb X.2.2.2.1 (X.2.2.2.2.1 _ q4_175) dX7_least_7 ?_
    exact g_iret X hP hS (sm_i hf) dX7_least_9
def f_X7_tune_172 (x1 : Int32) (x2 : Int32) (x3 : Int32) (k76 : Int32 → Int32 → Int32 → Mem → Option (Int32 × Mem)) (x6 : Int32) (x7 : Int32) (t0 : Int32) (t1 : Int32) (M : Mem) : Option (Int32 × Mem) :=
  lt (t0 ||| t1) fun x5_1 =>
  k76 x5_1 x6 (x7 + (1 : Int32)) M
set_option maxRecDepth 20000 in
theorem b_X7_tune_172 {out : Int32 × Mem} (X : Bx p s m args meth c RX7 cX7_tune 10 (some .int) g)   {x1 : Int32} {x2 : Int32} {x3 : Int32}   {k76 : Int32 → Int32 → Int32 → Mem → Option (Int32 × Mem)} (hk76 : ∀ (x5 : Int32) (x6 : Int32) (x7 : Int32) (M : Mem) (H : Heap) (locs : List Loc) (ls : Array Slot), k76 x5 x6 x7 M = some out → va_P g.1 vwCl (gW g M) H → va_S (gA g) s.heap H locs → lv_has ls 10 [(0, .ref (gz g + 279)), (1, .int x1), (2, .int x2), (3, .int x3), (5, .int x5), (6, .int x6), (7, .int x7)] → W p l e (rM 2 45) s m args below meth c H locs 0 0 (MQ below (qI g out) args s 0 0 (gA g)) (F0 m 76 ls [])) (x6 : Int32) (x7 : Int32) (t0 : Int32) (t1 : Int32) (M : Mem) {H : Heap} {locs : List Loc} {ls : Array Slot} (hf : f_X7_tune_172 x1 x2 x3 k76 x6 x7 t0 t1 M = some out) (hP : va_P g.1 vwCl (gW g M) H) (hS : va_S (gA g) s.heap H locs) (hl : lv_has ls 10 [(0, .ref (gz g + 279)), (1, .int x1), (2, .int x2), (3, .int x3), (6, .int x6), (7, .int x7)]) : W p l e (rM 2 45) s m args below meth c H locs 0 0 (MQ below (qI g out) args s 0 0 (gA g)) (F0 m 172 ls [.int t1, .int t0]) := by
  have hx := X.1
  have hb := X.2.1
  refine lv_ior hx hb dX7_tune_172 ?_
  refine lv_topi (fun x5_1 ex5_1 => ?_)
  replace hf := lt_go hf ex5_1
  refine lv_istore (lv' := [(5, .int x5_1), (0, .ref (gz g + 279)), (1, .int x1), (2, .int x2), (3, .int x3), (6, .int x6), (7, .int x7)]) hx hb dX7_tune_173 hl (by decide) rfl (fun ls hl => ?_)
  refine lv_iinc (v := (x7 + (1 : Int32))) (lv' := [(7, .int (x7 + (1 : Int32))), (5, .int x5_1), (0, .ref (gz g + 279)), (1, .int x1), (2, .int x2), (3, .int x3), (6, .int x6)]) hx hb dX7_tune_175 hl (k := 6) rfl rfl (by decide) rfl (fun ls hl => ?_)
  refine lv_goto (tgt := 76) hx hb dX7_tune_178 (by decide) ?_
  exact hk76 x5_1 x6 (x7 + (1 : Int32)) M _ _ _ hf hP hS (lv_sub hl [2, 3, 4, 5, 1, 6, 0] rfl)
def f_X7_tune_149 (x1 : Int32) (x2 : Int32) (x3 : Int32) (k76 : Int32 → Int32 → Int32 → Mem → Option (Int32 × Mem)) (k93 : Int32 → Int32 → Int32 → Int32 → Int32 → Mem → Option (Int32 × Mem)) (x5 : Int32) (x6 : Int32) (x7 : Int32) (x9 : Int32) (t0 : Int32) (M : Mem) : Option (Int32 × Mem) :=
  k93 x5 x6 x7 t0 (x9 + (1 : Int32)) M
set_option maxRecDepth 20000 in
theorem b_X7_tune_149 {out : Int32 × Mem} (X : Bx p s m args meth c RX7 cX7_tune 10 (some .int) g)   {x1 : Int32} {x2 : Int32} {x3 : Int32}   {k76 : Int32 → Int32 → Int32 → Mem → Option (Int32 × Mem)} {k93 : Int32 → Int32 → Int32 → Int32 → Int32 → Mem → Option (Int32 × Mem)} (hk76 : ∀ (x5 : Int32) (x6 : Int32) (x7 : Int32) (M : Mem) (H : Heap) (locs : List Loc) (ls : Array Slot), k76 x5 x6 x7 M = some out → va_P g.1 vwCl (gW g M) H → va_S (gA g) s.heap H locs → lv_has ls 10 [(0, .ref (gz g + 279)), (1, .int x1), (2, .int x2), (3, .int x3), (5, .int x5), (6, .int x6), (7, .int x7)] → W p l e (rM 2 45) s m args below meth c H locs 0 0 (MQ below (qI g out) args s 0 0 (gA g)) (F0 m 76 ls [])) (hk93 : ∀ (x5 : Int32) (x6 : Int32) (x7 : Int32) (x8 : Int32) (x9 : Int32) (M : Mem) (H : Heap) (locs : List Loc) (ls : Array Slot), k93 x5 x6 x7 x8 x9 M = some out → va_P g.1 vwCl (gW g M) H → va_S (gA g) s.heap H locs → lv_has ls 10 [(0, .ref (gz g + 279)), (1, .int x1), (2, .int x2), (3, .int x3), (5, .int x5), (6, .int x6), (7, .int x7), (8, .int x8), (9, .int x9)] → W p l e (rM 2 45) s m args below meth c H locs 0 0 (MQ below (qI g out) args s 0 0 (gA g)) (F0 m 93 ls [])) (x5 : Int32) (x6 : Int32) (x7 : Int32) (x9 : Int32) (t0 : Int32) (M : Mem) {H : Heap} {locs : List Loc} {ls : Array Slot} (hf : f_X7_tune_149 x1 x2 x3 k76 k93 x5 x6 x7 x9 t0 M = some out) (hP : va_P g.1 vwCl (gW g M) H) (hS : va_S (gA g) s.heap H locs) (hl : lv_has ls 10 [(0, .ref (gz g + 279)), (1, .int x1), (2, .int x2), (3, .int x3), (5, .int x5), (6, .int x6), (7, .int x7), (9, .int x9)]) : W p l e (rM 2 45) s m args below meth c H locs 0 0 (MQ below (qI g out) args s 0 0 (gA g)) (F0 m 149 ls [.int t0]) := by
  have hx := X.1
  have hb := X.2.1
  refine lv_istore (lv' := [(8, .int t0), (0, .ref (gz g + 279)), (1, .int x1), (2, .int x2), (3, .int x3), (5, .int x5), (6, .int x6), (7, .int x7), (9, .int x9)]) hx hb dX7_tune_149 hl (by decide) rfl (fun ls hl => ?_)
  refine lv_iinc (v := (x9 + (1 : Int32))) (lv' := [(9, .int (x9 + (1 : Int32))), (8, .int t0), (0, .ref (gz g + 279)), (1, .int x1), (2, .int x2), (3, .int x3), (5, .int x5), (6, .int x6), (7, .int x7)]) hx hb dX7_tune_151 hl (k := 8) rfl rfl (by decide) rfl (fun ls hl => ?_)
  refine lv_goto (tgt := 93) hx hb dX7_tune_154 (by decide) ?_
  exact hk93 x5 x6 x7 t0 (x9 + (1 : Int32)) M _ _ _ hf hP hS (lv_sub hl [2, 3, 4, 5, 6, 7, 8, 1, 0] rfl)
def f_X7_tune_148 (x1 : Int32) (x2 : Int32) (x3 : Int32) (k76 : Int32 → Int32 → Int32 → Mem → Option (Int32 × Mem)) (k93 : Int32 → Int32 → Int32 → Int32 → Int32 → Mem → Option (Int32 × Mem)) (x5 : Int32) (x6 : Int32) (x7 : Int32) (x9 : Int32) (M : Mem) : Option (Int32 × Mem) :=
  f_X7_tune_149 x1 x2 x3 k76 k93 x5 x6 x7 x9 (0 : Int32) M
set_option maxRecDepth 20000 in
theorem b_X7_tune_148 {out : Int32 × Mem} (X : Bx p s m args meth c RX7 cX7_tune 10 (some .int) g)   {x1 : Int32} {x2 : Int32} {x3 : Int32}   {k76 : Int32 → Int32 → Int32 → Mem → Option (Int32 × Mem)} {k93 : Int32 → Int32 → Int32 → Int32 → Int32 → Mem → Option (Int32 × Mem)} (hk76 : ∀ (x5 : Int32) (x6 : Int32) (x7 : Int32) (M : Mem) (H : Heap) (locs : List Loc) (ls : Array Slot), k76 x5 x6 x7 M = some out → va_P g.1 vwCl (gW g M) H → va_S (gA g) s.heap H locs → lv_has ls 10 [(0, .ref (gz g + 279)), (1, .int x1), (2, .int x2), (3, .int x3), (5, .int x5), (6, .int x6), (7, .int x7)] → W p l e (rM 2 45) s m args below meth c H locs 0 0 (MQ below (qI g out) args s 0 0 (gA g)) (F0 m 76 ls [])) (hk93 : ∀ (x5 : Int32) (x6 : Int32) (x7 : Int32) (x8 : Int32) (x9 : Int32) (M : Mem) (H : Heap) (locs : List Loc) (ls : Array Slot), k93 x5 x6 x7 x8 x9 M = some out → va_P g.1 vwCl (gW g M) H → va_S (gA g) s.heap H locs → lv_has ls 10 [(0, .ref (gz g + 279)), (1, .int x1), (2, .int x2), (3, .int x3), (5, .int x5), (6, .int x6), (7, .int x7), (8, .int x8), (9, .int x9)] → W p l e (rM 2 45) s m args below meth c H locs 0 0 (MQ below (qI g out) args s 0 0 (gA g)) (F0 m 93 ls [])) (x5 : Int32) (x6 : Int32) (x7 : Int32) (x9 : Int32) (M : Mem) {H : Heap} {locs : List Loc} {ls : Array Slot} (hf : f_X7_tune_148 x1 x2 x3 k76 k93 x5 x6 x7 x9 M = some out) (hP : va_P g.1 vwCl (gW g M) H) (hS : va_S (gA g) s.heap H locs) (hl : lv_has ls 10 [(0, .ref (gz g + 279)), (1, .int x1), (2, .int x2), (3, .int x3), (5, .int x5), (6, .int x6), (7, .int x7), (9, .int x9)]) : W p l e (rM 2 45) s m args below meth c H locs 0 0 (MQ below (qI g out) args s 0 0 (gA g)) (F0 m 148 ls []) := by
  have hx := X.1
  have hb := X.2.1
  refine lv_iconst (v := (0 : Int32)) hx hb dX7_tune_148 (by decide) ?_
  exact b_X7_tune_149 X hk76 hk93 x5 x6 x7 x9 (0 : Int32) M hf hP hS hl
def f_X7_tune_93 (x1 : Int32) (x2 : Int32) (x3 : Int32) (k76 : Int32 → Int32 → Int32 → Mem → Option (Int32 × Mem)) : Nat → Int32 → Int32 → Int32 → Int32 → Int32 → Mem → Option (Int32 × Mem)
  | 0, _, _, _, _, _, _ => none
  | n + 1, x5, x6, x7, x8, x9, M =>
    if x3 ≤ x9 then
      if x8 = 0 then
        f_X7_tune_172 x1 x2 x3 k76 x6 x7 x5 (0 : Int32) M
      else
        f_X7_tune_172 x1 x2 x3 k76 x6 x7 x5 ((1 : Int32) <<< (x7 &&& 31)) M
    else
      if x8 = 0 then
        f_X7_tune_148 x1 x2 x3 k76 (f_X7_tune_93 x1 x2 x3 k76 n) x5 x6 x7 x9 M
      else
        ck ((((40 : Int32) * x1) + x2) + x9) 320 <|
        cz (M 280 1) <|
        ck ((30 : Int32) + ((x7 + x9) - (x7 + x9) / (M 280 1) * (M 280 1))) 1247 <|
        if (M 284 (((((40 : Int32) * x1) + x2) + x9)).toNatClampNeg) = ((M 280 (((30 : Int32) + ((x7 + x9) - (x7 + x9) / (M 280 1) * (M 280 1)))).toNatClampNeg) &&& x6) then
          f_X7_tune_149 x1 x2 x3 k76 (f_X7_tune_93 x1 x2 x3 k76 n) x5 x6 x7 x9 (1 : Int32) M
        else
          f_X7_tune_148 x1 x2 x3 k76 (f_X7_tune_93 x1 x2 x3 k76 n) x5 x6 x7 x9 M
set_option maxRecDepth 20000 in
theorem b_X7_tune_93 {out : Int32 × Mem} (X : Bx p s m args meth c RX7 cX7_tune 10 (some .int) g)   {x1 : Int32} {x2 : Int32} {x3 : Int32}   {k76 : Int32 → Int32 → Int32 → Mem → Option (Int32 × Mem)} (hk76 : ∀ (x5 : Int32) (x6 : Int32) (x7 : Int32) (M : Mem) (H : Heap) (locs : List Loc) (ls : Array Slot), k76 x5 x6 x7 M = some out → va_P g.1 vwCl (gW g M) H → va_S (gA g) s.heap H locs → lv_has ls 10 [(0, .ref (gz g + 279)), (1, .int x1), (2, .int x2), (3, .int x3), (5, .int x5), (6, .int x6), (7, .int x7)] → W p l e (rM 2 45) s m args below meth c H locs 0 0 (MQ below (qI g out) args s 0 0 (gA g)) (F0 m 76 ls [])) : ∀ (n : Nat) (x5 : Int32) (x6 : Int32) (x7 : Int32) (x8 : Int32) (x9 : Int32) (M : Mem) (H : Heap) (locs : List Loc) (ls : Array Slot), f_X7_tune_93 x1 x2 x3 k76 n x5 x6 x7 x8 x9 M = some out → va_P g.1 vwCl (gW g M) H → va_S (gA g) s.heap H locs → lv_has ls 10 [(0, .ref (gz g + 279)), (1, .int x1), (2, .int x2), (3, .int x3), (5, .int x5), (6, .int x6), (7, .int x7), (8, .int x8), (9, .int x9)] → W p l e (rM 2 45) s m args below meth c H locs 0 0 (MQ below (qI g out) args s 0 0 (gA g)) (F0 m 93 ls []) := by
  have hx := X.1
  have hb := X.2.1
  intro n
  induction n with
  | zero => intro _ _ _ _ _ _ _ _ _ hf; cases hf
  | succ n ih =>
    intro x5 x6 x7 x8 x9 M H locs ls hf hP hS hl
    rw [f_X7_tune_93] at hf
    refine lv_iload hx hb dX7_tune_93 (lv_at hl 8 rfl) ?_
    refine lv_iload_n hx hb dX7_tune_95 rfl (lv_at hl 3 rfl) ?_
    refine lv_icmp_ge (tgt := 157) hx hb dX7_tune_96 (by decide) (fun h_1 => ?_) (fun h_1 => ?_)
    · replace hf := it_t hf h_1
      refine lv_iload hx hb dX7_tune_157 (lv_at hl 4 rfl) ?_
      refine lv_iload hx hb dX7_tune_159 (lv_at hl 7 rfl) ?_
      refine lv_if_eq (tgt := 171) hx hb dX7_tune_161 (by decide) (fun h_2 => ?_) (fun h_2 => ?_)
      · replace hf := it_t hf h_2
        refine lv_iconst (v := (0 : Int32)) hx hb dX7_tune_171 (by decide) ?_
        exact b_X7_tune_172 X hk76 x6 x7 x5 (0 : Int32) M hf hP hS (lv_sub hl [0, 1, 2, 3, 5, 6] rfl)
      · replace hf := it_f hf h_2
        refine lv_iconst (v := (1 : Int32)) hx hb dX7_tune_164 (by decide) ?_
        refine lv_iload hx hb dX7_tune_165 (lv_at hl 6 rfl) ?_
        refine lv_ishl hx hb dX7_tune_167 ?_
        refine lv_goto (tgt := 172) hx hb dX7_tune_168 (by decide) ?_
        exact b_X7_tune_172 X hk76 x6 x7 x5 ((1 : Int32) <<< (x7 &&& 31)) M hf hP hS (lv_sub hl [0, 1, 2, 3, 5, 6] rfl)
    · replace hf := it_f hf h_1
      refine lv_iload hx hb dX7_tune_99 (lv_at hl 7 rfl) ?_
      refine lv_if_eq (tgt := 148) hx hb dX7_tune_101 (by decide) (fun h_3 => ?_) (fun h_3 => ?_)
      · replace hf := it_t hf h_3
        exact b_X7_tune_148 X hk76 ih x5 x6 x7 x9 M hf hP hS (lv_sub hl [0, 1, 2, 3, 4, 5, 6, 8] rfl)
      · replace hf := it_f hf h_3
        refine lv_aload_n hx hb dX7_tune_104 rfl (lv_at hl 0 rfl) ?_
        refine gf_7_8 X hP kc_279 q4_33 dX7_tune_105 ?_
        refine lv_bipush (v := (40 : Int32)) hx hb dX7_tune_108 (by decide) ?_
        refine lv_iload_n hx hb dX7_tune_110 rfl (lv_at hl 1 rfl) ?_
        refine lv_imul hx hb dX7_tune_111 ?_
        refine lv_iload_n hx hb dX7_tune_112 rfl (lv_at hl 2 rfl) ?_
        refine lv_iadd hx hb dX7_tune_113 ?_
        refine lv_iload hx hb dX7_tune_114 (lv_at hl 8 rfl) ?_
        refine lv_iadd hx hb dX7_tune_116 ?_
        obtain ⟨hi_4, hf⟩ := ck_s hf
        refine ga_ld X hP (iA_15 kc_284) hi_4 dX7_tune_117 ?_
        refine lv_aload_n hx hb dX7_tune_118 rfl (lv_at hl 0 rfl) ?_
        refine gf_7_0 X hP kc_279 q4_25 dX7_tune_119 ?_
        refine lv_bipush (v := (30 : Int32)) hx hb dX7_tune_122 (by decide) ?_
        refine lv_iload hx hb dX7_tune_124 (lv_at hl 6 rfl) ?_
        refine lv_iload hx hb dX7_tune_126 (lv_at hl 8 rfl) ?_
        refine lv_iadd hx hb dX7_tune_128 ?_
        refine lv_aload_n hx hb dX7_tune_129 rfl (lv_at hl 0 rfl) ?_
        refine gf_7_0 X hP kc_279 q4_25 dX7_tune_130 ?_
        refine lv_iconst (v := (1 : Int32)) hx hb dX7_tune_133 (by decide) ?_
        refine ga_ldj (j := 1) X hP (iA_13 kc_280) (by unfold vp_in; decide) (by decide) dX7_tune_134 ?_
        obtain ⟨hz_5, hf⟩ := cz_s hf
        refine lv_irem hx hb dX7_tune_135 hz_5 ?_
        refine lv_iadd hx hb dX7_tune_136 ?_
        obtain ⟨hi_6, hf⟩ := ck_s hf
        refine ga_ld X hP (iA_13 kc_280) hi_6 dX7_tune_137 ?_
        refine lv_iload hx hb dX7_tune_138 (lv_at hl 5 rfl) ?_
        refine lv_iand hx hb dX7_tune_140 ?_
        refine lv_icmp_ne (tgt := 148) hx hb dX7_tune_141 (by decide) (fun h_7 => ?_) (fun h_7 => ?_)
        · replace hf := it_f hf h_7
          exact b_X7_tune_148 X hk76 ih x5 x6 x7 x9 M hf hP hS (lv_sub hl [0, 1, 2, 3, 4, 5, 6, 8] rfl)
        · replace hf := it_t hf h_7
          refine lv_iconst (v := (1 : Int32)) hx hb dX7_tune_144 (by decide) ?_
          refine lv_goto (tgt := 149) hx hb dX7_tune_145 (by decide) ?_
          exact b_X7_tune_149 X hk76 ih x5 x6 x7 x9 (1 : Int32) M hf hP hS (lv_sub hl [0, 1, 2, 3, 4, 5, 6, 8] rfl)
def f_X7_tune_76 (x1 : Int32) (x2 : Int32) (x3 : Int32)  : Nat → Int32 → Int32 → Int32 → Mem → Option (Int32 × Mem)
  | 0, _, _, _, _ => none
  | n + 1, x5, x6, x7, M =>
    if (M 280 1) ≤ x7 then
      some (x5, M)
    else
      f_X7_tune_93 x1 x2 x3 (f_X7_tune_76 x1 x2 x3 n) FU x5 x6 x7 (1 : Int32) (0 : Int32) M
set_option maxRecDepth 20000 in
theorem b_X7_tune_76 {out : Int32 × Mem} (X : Bx p s m args meth c RX7 cX7_tune 10 (some .int) g)   {x1 : Int32} {x2 : Int32} {x3 : Int32}     : ∀ (n : Nat) (x5 : Int32) (x6 : Int32) (x7 : Int32) (M : Mem) (H : Heap) (locs : List Loc) (ls : Array Slot), f_X7_tune_76 x1 x2 x3 n x5 x6 x7 M = some out → va_P g.1 vwCl (gW g M) H → va_S (gA g) s.heap H locs → lv_has ls 10 [(0, .ref (gz g + 279)), (1, .int x1), (2, .int x2), (3, .int x3), (5, .int x5), (6, .int x6), (7, .int x7)] → W p l e (rM 2 45) s m args below meth c H locs 0 0 (MQ below (qI g out) args s 0 0 (gA g)) (F0 m 76 ls []) := by
  have hx := X.1
  have hb := X.2.1
  intro n
  induction n with
  | zero => intro _ _ _ _ _ _ _ hf; cases hf
  | succ n ih =>
    intro x5 x6 x7 M H locs ls hf hP hS hl
    rw [f_X7_tune_76] at hf
    refine lv_iload hx hb dX7_tune_76 (lv_at hl 6 rfl) ?_
    refine lv_aload_n hx hb dX7_tune_78 rfl (lv_at hl 0 rfl) ?_
    refine gf_7_0 X hP kc_279 q4_25 dX7_tune_79 ?_
    refine lv_iconst (v := (1 : Int32)) hx hb dX7_tune_82 (by decide) ?_
    refine ga_ldj (j := 1) X hP (iA_13 kc_280) (by unfold vp_in; decide) (by decide) dX7_tune_83 ?_
    refine lv_icmp_ge (tgt := 181) hx hb dX7_tune_84 (by decide) (fun h_1 => ?_) (fun h_1 => ?_)
    · replace hf := it_t hf h_1
      refine lv_iload hx hb dX7_tune_181 (lv_at hl 4 rfl) ?_
      exact g_iret X hP hS (sm_i hf) dX7_tune_183
    · replace hf := it_f hf h_1
      refine lv_iconst (v := (1 : Int32)) hx hb dX7_tune_87 (by decide) ?_
      refine lv_istore (lv' := [(8, .int (1 : Int32)), (0, .ref (gz g + 279)), (1, .int x1), (2, .int x2), (3, .int x3), (5, .int x5), (6, .int x6), (7, .int x7)]) hx hb dX7_tune_88 hl (by decide) rfl (fun ls hl => ?_)
      refine lv_iconst (v := (0 : Int32)) hx hb dX7_tune_90 (by decide) ?_
      refine lv_istore (lv' := [(9, .int (0 : Int32)), (8, .int (1 : Int32)), (0, .ref (gz g + 279)), (1, .int x1), (2, .int x2), (3, .int x3), (5, .int x5), (6, .int x6), (7, .int x7)]) hx hb dX7_tune_91 hl (by decide) rfl (fun ls hl => ?_)
      exact b_X7_tune_93 X ih FU x5 x6 x7 (1 : Int32) (0 : Int32) M _ _ _ hf hP hS (lv_sub hl [2, 3, 4, 5, 6, 7, 8, 1, 0] rfl)
def f_X7_tune (x1 : Int32) (x2 : Int32) (x3 : Int32) (M : Mem) : Option (Int32 × Mem) :=
  cb (f_X7_isBox M) fun r_3 M_2 =>
  if r_3 = 0 then
    some ((-1000002 : Int32), M_2)
  else
    cb (f_X7_isRow x1 M_2) fun r_7 M_6 =>
    if r_7 = 0 then
      some ((-1000001 : Int32), M_6)
    else
      cb (f_X7_in ((x3).toInt64) (1 : Int64) (12 : Int64) M_6) fun r_11 M_10 =>
      if r_11 = 0 then
        some ((-1000001 : Int32), M_10)
      else
        cb (f_X7_against x1 x2 x3 M_10) fun r_15 M_14 =>
        if r_15 ≤ 0 then
          lt (up2 M_14 279 5 (0 : Int32)) fun M_17 =>
          lt (((1 : Int32) <<< ((M_17 280 0) &&& 31)) - (1 : Int32)) fun x6_18 =>
          f_X7_tune_76 x1 x2 x3 FU (0 : Int32) x6_18 (0 : Int32) M_17
        else
          cb (f_X7_finds r_15 M_14) fun r_21 M_20 =>
          some (r_21, M_20)
set_option maxRecDepth 20000 in
theorem c_X7_tune (l : Launch) (g : GC) {x1 : Int32} {x2 : Int32} {x3 : Int32}  {M : Mem} {out : Int32 × Mem} (hf : f_X7_tune x1 x2 x3 M = some out) : cI l g yX7_tune cX7_tune 10 (some .int) (rM 2 45) [.ref (gz g + 279), .int x1, .int x2, .int x3] M out := by
  refine g_met (by decide) (Nat.le_of_ble_eq_true rfl) ?_
  intro p e s m below meth c X hP hS ls hl
  have X : Bx p s m _ meth c RX7 cX7_tune 10 (some .int) g := X
  have hl : lv_has ls 10 [(0, .ref (gz g + 279)), (1, .int x1), (2, .int x2), (3, .int x3)] := hl
  have hx := X.1
  have hb := X.2.1
  refine lv_aload_n hx hb dX7_tune_0 rfl (lv_at hl 0 rfl) ?_
  obtain ⟨r_3, M_2, hc_1, hf⟩ := cb_s hf
  refine g_goi (g_run X (c_X7_isBox l g  hc_1) s_X7_isBox (oB_7 kc_279) q4_180 ⟨Nat.le_of_ble_eq_true rfl, Nat.le_of_ble_eq_true rfl⟩ hP hS rfl hl.1 rfl (Nat.le_of_ble_eq_true rfl) ⟨Nat.le_refl _, Nat.le_refl _⟩ dX7_tune_1) hS (fun H locs hP hS => ?_)
  refine lv_if_ne (tgt := 10) hx hb dX7_tune_4 (by decide) (fun h_4 => ?_) (fun h_4 => ?_)
  · replace hf := it_f hf h_4
    refine lv_iload_n hx hb dX7_tune_10 rfl (lv_at hl 1 rfl) ?_
    obtain ⟨r_7, M_6, hc_5, hf⟩ := cb_s hf
    refine g_goi (g_runS X (c_X7_isRow l g  hc_5) s_X7_isRow q4_85 ⟨Nat.le_of_ble_eq_true rfl, Nat.le_of_ble_eq_true rfl⟩ hP hS rfl hl.1 rfl (Nat.le_of_ble_eq_true rfl) ⟨Nat.le_refl _, Nat.le_refl _⟩ dX7_tune_11) hS (fun H locs hP hS => ?_)
    refine lv_if_eq (tgt := 29) hx hb dX7_tune_14 (by decide) (fun h_8 => ?_) (fun h_8 => ?_)
    · replace hf := it_t hf h_8
      refine lv_ldc hx hb X.2.2.2.1 (X.2.2.2.2.1 _ q4_93) dX7_tune_29 ?_
      exact g_iret X hP hS (sm_i hf) dX7_tune_31
    · replace hf := it_f hf h_8
      refine lv_iload_n hx hb dX7_tune_17 rfl (lv_at hl 3 rfl) ?_
      refine lv_i2l hx hb dX7_tune_18 rfl ?_
      refine lv_lconst (v := (1 : Int64)) hx hb dX7_tune_19 (by decide) ?_
      refine lv_ldc2 hx hb X.2.2.2.1 (X.2.2.2.2.1 _ q5_66) dX7_tune_20 ?_
      obtain ⟨r_11, M_10, hc_9, hf⟩ := cb_s hf
      refine g_goi (g_runS X (c_X7_in l g  hc_9) s_X7_in q4_89 ⟨Nat.le_of_ble_eq_true rfl, Nat.le_of_ble_eq_true rfl⟩ hP hS rfl hl.1 rfl (Nat.le_of_ble_eq_true rfl) ⟨Nat.le_refl _, Nat.le_refl _⟩ dX7_tune_23) hS (fun H locs hP hS => ?_)
      refine lv_if_ne (tgt := 32) hx hb dX7_tune_26 (by decide) (fun h_12 => ?_) (fun h_12 => ?_)
      · replace hf := it_f hf h_12
        refine lv_aload_n hx hb dX7_tune_32 rfl (lv_at hl 0 rfl) ?_
        refine lv_iload_n hx hb dX7_tune_33 rfl (lv_at hl 1 rfl) ?_
        refine lv_iload_n hx hb dX7_tune_34 rfl (lv_at hl 2 rfl) ?_
        refine lv_iload_n hx hb dX7_tune_35 rfl (lv_at hl 3 rfl) ?_
        obtain ⟨r_15, M_14, hc_13, hf⟩ := cb_s hf
        refine g_goi (g_run X (c_X7_against l g  hc_13) s_X7_against (oB_7 kc_279) q4_103 ⟨Nat.le_of_ble_eq_true rfl, Nat.le_of_ble_eq_true rfl⟩ hP hS rfl hl.1 rfl (Nat.le_of_ble_eq_true rfl) ⟨Nat.le_refl _, Nat.le_refl _⟩ dX7_tune_36) hS (fun H locs hP hS => ?_)
        refine lv_istore (lv' := [(4, .int r_15), (0, .ref (gz g + 279)), (1, .int x1), (2, .int x2), (3, .int x3)]) hx hb dX7_tune_39 hl (by decide) rfl (fun ls hl => ?_)
        refine lv_iload hx hb dX7_tune_41 (lv_at hl 0 rfl) ?_
        refine lv_if_le (tgt := 53) hx hb dX7_tune_43 (by decide) (fun h_16 => ?_) (fun h_16 => ?_)
        · replace hf := it_t hf h_16
          refine lv_aload_n hx hb dX7_tune_53 rfl (lv_at hl 1 rfl) ?_
          refine lv_iconst (v := (0 : Int32)) hx hb dX7_tune_54 (by decide) ?_
          refine gp_7_5 X hP hS kc_279 q4_30 dX7_tune_55 (fun H locs M_17 eM_17 hP hS => ?_)
          replace hf := lt_go hf eM_17
          refine lv_iconst (v := (0 : Int32)) hx hb dX7_tune_58 (by decide) ?_
          refine lv_istore (lv' := [(5, .int (0 : Int32)), (4, .int r_15), (0, .ref (gz g + 279)), (1, .int x1), (2, .int x2), (3, .int x3)]) hx hb dX7_tune_59 hl (by decide) rfl (fun ls hl => ?_)
          refine lv_iconst (v := (1 : Int32)) hx hb dX7_tune_61 (by decide) ?_
          refine lv_aload_n hx hb dX7_tune_62 rfl (lv_at hl 2 rfl) ?_
          refine gf_7_0 X hP kc_279 q4_25 dX7_tune_63 ?_
          refine lv_iconst (v := (0 : Int32)) hx hb dX7_tune_66 (by decide) ?_
          refine ga_ldj (j := 0) X hP (iA_13 kc_280) (by unfold vp_in; decide) (by decide) dX7_tune_67 ?_
          refine lv_ishl hx hb dX7_tune_68 ?_
          refine lv_iconst (v := (1 : Int32)) hx hb dX7_tune_69 (by decide) ?_
          refine lv_isub hx hb dX7_tune_70 ?_
          refine lv_topi (fun x6_18 ex6_18 => ?_)
          replace hf := lt_go hf ex6_18
          refine lv_istore (lv' := [(6, .int x6_18), (5, .int (0 : Int32)), (4, .int r_15), (0, .ref (gz g + 279)), (1, .int x1), (2, .int x2), (3, .int x3)]) hx hb dX7_tune_71 hl (by decide) rfl (fun ls hl => ?_)
          refine lv_iconst (v := (0 : Int32)) hx hb dX7_tune_73 (by decide) ?_
          refine lv_istore (lv' := [(7, .int (0 : Int32)), (6, .int x6_18), (5, .int (0 : Int32)), (4, .int r_15), (0, .ref (gz g + 279)), (1, .int x1), (2, .int x2), (3, .int x3)]) hx hb dX7_tune_74 hl (by decide) rfl (fun ls hl => ?_)
          exact b_X7_tune_76 X  FU (0 : Int32) x6_18 (0 : Int32) M_17 _ _ _ hf hP hS (lv_sub hl [4, 5, 6, 7, 2, 1, 0] rfl)
        · replace hf := it_f hf h_16
          refine lv_aload_n hx hb dX7_tune_46 rfl (lv_at hl 1 rfl) ?_
          refine lv_iload hx hb dX7_tune_47 (lv_at hl 0 rfl) ?_
          obtain ⟨r_21, M_20, hc_19, hf⟩ := cb_s hf
          refine g_goi (g_run X (c_X7_finds l g  hc_19) s_X7_finds (oB_7 kc_279) q4_94 ⟨Nat.le_of_ble_eq_true rfl, Nat.le_of_ble_eq_true rfl⟩ hP hS rfl hl.1 rfl (Nat.le_of_ble_eq_true rfl) ⟨Nat.le_refl _, Nat.le_refl _⟩ dX7_tune_49) hS (fun H locs hP hS => ?_)
          exact g_iret X hP hS (sm_i hf) dX7_tune_52
      · replace hf := it_t hf h_12
        refine lv_ldc hx hb X.2.2.2.1 (X.2.2.2.2.1 _ q4_93) dX7_tune_29 ?_
        exact g_iret X hP hS (sm_i hf) dX7_tune_31
  · replace hf := it_t hf h_4
    refine lv_ldc hx hb X.2.2.2.1 (X.2.2.2.2.1 _ q4_175) dX7_tune_7 ?_
    exact g_iret X hP hS (sm_i hf) dX7_tune_9
def f_X7_sets_158 (x1 : Int32) (x2 : Int32) (k57 : Int32 → Int32 → Int32 → Int32 → Mem → Option (Int32 × Mem)) (x3 : Int32) (x4 : Int32) (x5 : Int32) (x6 : Int32) (M : Mem) : Option (Int32 × Mem) :=
  k57 x3 x4 x5 (x6 + (1 : Int32)) M
set_option maxRecDepth 20000 in
theorem b_X7_sets_158 {out : Int32 × Mem} (X : Bx p s m args meth c RX7 cX7_sets 9 (some .int) g)   {x1 : Int32} {x2 : Int32}   {k57 : Int32 → Int32 → Int32 → Int32 → Mem → Option (Int32 × Mem)} (hk57 : ∀ (x3 : Int32) (x4 : Int32) (x5 : Int32) (x6 : Int32) (M : Mem) (H : Heap) (locs : List Loc) (ls : Array Slot), k57 x3 x4 x5 x6 M = some out → va_P g.1 vwCl (gW g M) H → va_S (gA g) s.heap H locs → lv_has ls 9 [(0, .ref (gz g + 279)), (1, .int x1), (2, .int x2), (3, .int x3), (4, .int x4), (5, .int x5), (6, .int x6)] → W p l e (rM 1 25) s m args below meth c H locs 0 0 (MQ below (qI g out) args s 0 0 (gA g)) (F0 m 57 ls [])) (x3 : Int32) (x4 : Int32) (x5 : Int32) (x6 : Int32) (M : Mem) {H : Heap} {locs : List Loc} {ls : Array Slot} (hf : f_X7_sets_158 x1 x2 k57 x3 x4 x5 x6 M = some out) (hP : va_P g.1 vwCl (gW g M) H) (hS : va_S (gA g) s.heap H locs) (hl : lv_has ls 9 [(0, .ref (gz g + 279)), (1, .int x1), (2, .int x2), (3, .int x3), (4, .int x4), (5, .int x5), (6, .int x6)]) : W p l e (rM 1 25) s m args below meth c H locs 0 0 (MQ below (qI g out) args s 0 0 (gA g)) (F0 m 158 ls []) := by
  have hx := X.1
  have hb := X.2.1
  refine lv_iinc (v := (x6 + (1 : Int32))) (lv' := [(6, .int (x6 + (1 : Int32))), (0, .ref (gz g + 279)), (1, .int x1), (2, .int x2), (3, .int x3), (4, .int x4), (5, .int x5)]) hx hb dX7_sets_158 hl (k := 6) rfl rfl (by decide) rfl (fun ls hl => ?_)
  refine lv_goto (tgt := 57) hx hb dX7_sets_161 (by decide) ?_
  exact hk57 x3 x4 x5 (x6 + (1 : Int32)) M _ _ _ hf hP hS (lv_sub hl [1, 2, 3, 4, 5, 6, 0] rfl)
def f_X7_sets_113 (x1 : Int32) (x2 : Int32) (k57 : Int32 → Int32 → Int32 → Int32 → Mem → Option (Int32 × Mem)) (k76 : Int32 → Int32 → Int32 → Int32 → Int32 → Int32 → Mem → Option (Int32 × Mem)) (x3 : Int32) (x4 : Int32) (x5 : Int32) (x6 : Int32) (x8 : Int32) (t0 : Int32) (t1 : Int32) (M : Mem) : Option (Int32 × Mem) :=
  lt (t0 + t1) fun x7_1 =>
  k76 x3 x4 x5 x6 x7_1 (x8 + (1 : Int32)) M
set_option maxRecDepth 20000 in
theorem b_X7_sets_113 {out : Int32 × Mem} (X : Bx p s m args meth c RX7 cX7_sets 9 (some .int) g)   {x1 : Int32} {x2 : Int32}   {k57 : Int32 → Int32 → Int32 → Int32 → Mem → Option (Int32 × Mem)} {k76 : Int32 → Int32 → Int32 → Int32 → Int32 → Int32 → Mem → Option (Int32 × Mem)} (hk57 : ∀ (x3 : Int32) (x4 : Int32) (x5 : Int32) (x6 : Int32) (M : Mem) (H : Heap) (locs : List Loc) (ls : Array Slot), k57 x3 x4 x5 x6 M = some out → va_P g.1 vwCl (gW g M) H → va_S (gA g) s.heap H locs → lv_has ls 9 [(0, .ref (gz g + 279)), (1, .int x1), (2, .int x2), (3, .int x3), (4, .int x4), (5, .int x5), (6, .int x6)] → W p l e (rM 1 25) s m args below meth c H locs 0 0 (MQ below (qI g out) args s 0 0 (gA g)) (F0 m 57 ls [])) (hk76 : ∀ (x3 : Int32) (x4 : Int32) (x5 : Int32) (x6 : Int32) (x7 : Int32) (x8 : Int32) (M : Mem) (H : Heap) (locs : List Loc) (ls : Array Slot), k76 x3 x4 x5 x6 x7 x8 M = some out → va_P g.1 vwCl (gW g M) H → va_S (gA g) s.heap H locs → lv_has ls 9 [(0, .ref (gz g + 279)), (1, .int x1), (2, .int x2), (3, .int x3), (4, .int x4), (5, .int x5), (6, .int x6), (7, .int x7), (8, .int x8)] → W p l e (rM 1 25) s m args below meth c H locs 0 0 (MQ below (qI g out) args s 0 0 (gA g)) (F0 m 76 ls [])) (x3 : Int32) (x4 : Int32) (x5 : Int32) (x6 : Int32) (x8 : Int32) (t0 : Int32) (t1 : Int32) (M : Mem) {H : Heap} {locs : List Loc} {ls : Array Slot} (hf : f_X7_sets_113 x1 x2 k57 k76 x3 x4 x5 x6 x8 t0 t1 M = some out) (hP : va_P g.1 vwCl (gW g M) H) (hS : va_S (gA g) s.heap H locs) (hl : lv_has ls 9 [(0, .ref (gz g + 279)), (1, .int x1), (2, .int x2), (3, .int x3), (4, .int x4), (5, .int x5), (6, .int x6), (8, .int x8)]) : W p l e (rM 1 25) s m args below meth c H locs 0 0 (MQ below (qI g out) args s 0 0 (gA g)) (F0 m 113 ls [.int t1, .int t0]) := by
  have hx := X.1
  have hb := X.2.1
  refine lv_iadd hx hb dX7_sets_113 ?_
  refine lv_topi (fun x7_1 ex7_1 => ?_)
  replace hf := lt_go hf ex7_1
  refine lv_istore (lv' := [(7, .int x7_1), (0, .ref (gz g + 279)), (1, .int x1), (2, .int x2), (3, .int x3), (4, .int x4), (5, .int x5), (6, .int x6), (8, .int x8)]) hx hb dX7_sets_114 hl (by decide) rfl (fun ls hl => ?_)
  refine lv_iinc (v := (x8 + (1 : Int32))) (lv' := [(8, .int (x8 + (1 : Int32))), (7, .int x7_1), (0, .ref (gz g + 279)), (1, .int x1), (2, .int x2), (3, .int x3), (4, .int x4), (5, .int x5), (6, .int x6)]) hx hb dX7_sets_116 hl (k := 8) rfl rfl (by decide) rfl (fun ls hl => ?_)
  refine lv_goto (tgt := 76) hx hb dX7_sets_119 (by decide) ?_
  exact hk76 x3 x4 x5 x6 x7_1 (x8 + (1 : Int32)) M _ _ _ hf hP hS (lv_sub hl [2, 3, 4, 5, 6, 7, 8, 1, 0] rfl)
def f_X7_sets_76 (x1 : Int32) (x2 : Int32) (k57 : Int32 → Int32 → Int32 → Int32 → Mem → Option (Int32 × Mem)) : Nat → Int32 → Int32 → Int32 → Int32 → Int32 → Int32 → Mem → Option (Int32 × Mem)
  | 0, _, _, _, _, _, _, _ => none
  | n + 1, x3, x4, x5, x6, x7, x8, M =>
    if (M 280 0) ≤ x8 then
      if x7 = x1 then
        cb (f_X7_ringing (0 : Int32) M) fun r_5 M_4 =>
        if (x6 &&& (r_5 ^^^ (-1 : Int32))) = 0 then
          lt (x4 &&& x6) fun x4_7 =>
          lt (x5 ||| x6) fun x5_8 =>
          f_X7_sets_158 x1 x2 k57 (x3 + (1 : Int32)) x4_7 x5_8 x6 M_4
        else
          f_X7_sets_158 x1 x2 k57 x3 x4 x5 x6 M_4
      else
        f_X7_sets_158 x1 x2 k57 x3 x4 x5 x6 M
    else
      cb (f_X7_has x6 x8 M) fun r_11 M_10 =>
      if r_11 = 0 then
        f_X7_sets_113 x1 x2 k57 (f_X7_sets_76 x1 x2 k57 n) x3 x4 x5 x6 x8 x7 (0 : Int32) M_10
      else
        ck ((18 : Int32) + x8) 1247 <|
        f_X7_sets_113 x1 x2 k57 (f_X7_sets_76 x1 x2 k57 n) x3 x4 x5 x6 x8 x7 (M_10 280 (((18 : Int32) + x8)).toNatClampNeg) M_10
set_option maxRecDepth 20000 in
theorem b_X7_sets_76 {out : Int32 × Mem} (X : Bx p s m args meth c RX7 cX7_sets 9 (some .int) g)   {x1 : Int32} {x2 : Int32}   {k57 : Int32 → Int32 → Int32 → Int32 → Mem → Option (Int32 × Mem)} (hk57 : ∀ (x3 : Int32) (x4 : Int32) (x5 : Int32) (x6 : Int32) (M : Mem) (H : Heap) (locs : List Loc) (ls : Array Slot), k57 x3 x4 x5 x6 M = some out → va_P g.1 vwCl (gW g M) H → va_S (gA g) s.heap H locs → lv_has ls 9 [(0, .ref (gz g + 279)), (1, .int x1), (2, .int x2), (3, .int x3), (4, .int x4), (5, .int x5), (6, .int x6)] → W p l e (rM 1 25) s m args below meth c H locs 0 0 (MQ below (qI g out) args s 0 0 (gA g)) (F0 m 57 ls [])) : ∀ (n : Nat) (x3 : Int32) (x4 : Int32) (x5 : Int32) (x6 : Int32) (x7 : Int32) (x8 : Int32) (M : Mem) (H : Heap) (locs : List Loc) (ls : Array Slot), f_X7_sets_76 x1 x2 k57 n x3 x4 x5 x6 x7 x8 M = some out → va_P g.1 vwCl (gW g M) H → va_S (gA g) s.heap H locs → lv_has ls 9 [(0, .ref (gz g + 279)), (1, .int x1), (2, .int x2), (3, .int x3), (4, .int x4), (5, .int x5), (6, .int x6), (7, .int x7), (8, .int x8)] → W p l e (rM 1 25) s m args below meth c H locs 0 0 (MQ below (qI g out) args s 0 0 (gA g)) (F0 m 76 ls []) := by
  have hx := X.1
  have hb := X.2.1
  intro n
  induction n with
  | zero => intro _ _ _ _ _ _ _ _ _ _ hf; cases hf
  | succ n ih =>
    intro x3 x4 x5 x6 x7 x8 M H locs ls hf hP hS hl
    rw [f_X7_sets_76] at hf
    refine lv_iload hx hb dX7_sets_76 (lv_at hl 8 rfl) ?_
    refine lv_aload_n hx hb dX7_sets_78 rfl (lv_at hl 0 rfl) ?_
    refine gf_7_0 X hP kc_279 q4_25 dX7_sets_79 ?_
    refine lv_iconst (v := (0 : Int32)) hx hb dX7_sets_82 (by decide) ?_
    refine ga_ldj (j := 0) X hP (iA_13 kc_280) (by unfold vp_in; decide) (by decide) dX7_sets_83 ?_
    refine lv_icmp_ge (tgt := 122) hx hb dX7_sets_84 (by decide) (fun h_1 => ?_) (fun h_1 => ?_)
    · replace hf := it_t hf h_1
      refine lv_iload hx hb dX7_sets_122 (lv_at hl 7 rfl) ?_
      refine lv_iload_n hx hb dX7_sets_124 rfl (lv_at hl 1 rfl) ?_
      refine lv_icmp_ne (tgt := 158) hx hb dX7_sets_125 (by decide) (fun h_2 => ?_) (fun h_2 => ?_)
      · replace hf := it_f hf h_2
        exact b_X7_sets_158 X hk57 x3 x4 x5 x6 M hf hP hS (lv_sub hl [0, 1, 2, 3, 4, 5, 6] rfl)
      · replace hf := it_t hf h_2
        refine lv_iload hx hb dX7_sets_128 (lv_at hl 6 rfl) ?_
        refine lv_aload_n hx hb dX7_sets_130 rfl (lv_at hl 0 rfl) ?_
        refine lv_iconst (v := (0 : Int32)) hx hb dX7_sets_131 (by decide) ?_
        obtain ⟨r_5, M_4, hc_3, hf⟩ := cb_s hf
        refine g_goi (g_run X (c_X7_ringing l g  hc_3) s_X7_ringing (oB_7 kc_279) q5_13 ⟨Nat.le_of_ble_eq_true rfl, Nat.le_of_ble_eq_true rfl⟩ hP hS rfl hl.1 rfl (Nat.le_of_ble_eq_true rfl) ⟨Nat.le_refl _, Nat.le_refl _⟩ dX7_sets_132) hS (fun H locs hP hS => ?_)
        refine lv_iconst (v := (-1 : Int32)) hx hb dX7_sets_135 (by decide) ?_
        refine lv_ixor hx hb dX7_sets_136 ?_
        refine lv_iand hx hb dX7_sets_137 ?_
        refine lv_if_ne (tgt := 158) hx hb dX7_sets_138 (by decide) (fun h_6 => ?_) (fun h_6 => ?_)
        · replace hf := it_f hf h_6
          exact b_X7_sets_158 X hk57 x3 x4 x5 x6 M_4 hf hP hS (lv_sub hl [0, 1, 2, 3, 4, 5, 6] rfl)
        · replace hf := it_t hf h_6
          refine lv_iinc (v := (x3 + (1 : Int32))) (lv' := [(3, .int (x3 + (1 : Int32))), (0, .ref (gz g + 279)), (1, .int x1), (2, .int x2), (4, .int x4), (5, .int x5), (6, .int x6), (7, .int x7), (8, .int x8)]) hx hb dX7_sets_141 hl (k := 3) rfl rfl (by decide) rfl (fun ls hl => ?_)
          refine lv_iload hx hb dX7_sets_144 (lv_at hl 4 rfl) ?_
          refine lv_iload hx hb dX7_sets_146 (lv_at hl 6 rfl) ?_
          refine lv_iand hx hb dX7_sets_148 ?_
          refine lv_topi (fun x4_7 ex4_7 => ?_)
          replace hf := lt_go hf ex4_7
          refine lv_istore (lv' := [(4, .int x4_7), (3, .int (x3 + (1 : Int32))), (0, .ref (gz g + 279)), (1, .int x1), (2, .int x2), (5, .int x5), (6, .int x6), (7, .int x7), (8, .int x8)]) hx hb dX7_sets_149 hl (by decide) rfl (fun ls hl => ?_)
          refine lv_iload hx hb dX7_sets_151 (lv_at hl 5 rfl) ?_
          refine lv_iload hx hb dX7_sets_153 (lv_at hl 6 rfl) ?_
          refine lv_ior hx hb dX7_sets_155 ?_
          refine lv_topi (fun x5_8 ex5_8 => ?_)
          replace hf := lt_go hf ex5_8
          refine lv_istore (lv' := [(5, .int x5_8), (4, .int x4_7), (3, .int (x3 + (1 : Int32))), (0, .ref (gz g + 279)), (1, .int x1), (2, .int x2), (6, .int x6), (7, .int x7), (8, .int x8)]) hx hb dX7_sets_156 hl (by decide) rfl (fun ls hl => ?_)
          exact b_X7_sets_158 X hk57 (x3 + (1 : Int32)) x4_7 x5_8 x6 M_4 hf hP hS (lv_sub hl [3, 4, 5, 2, 1, 0, 6] rfl)
    · replace hf := it_f hf h_1
      refine lv_iload hx hb dX7_sets_87 (lv_at hl 7 rfl) ?_
      refine lv_iload hx hb dX7_sets_89 (lv_at hl 6 rfl) ?_
      refine lv_iload hx hb dX7_sets_91 (lv_at hl 8 rfl) ?_
      obtain ⟨r_11, M_10, hc_9, hf⟩ := cb_s hf
      refine g_goi (g_runS X (c_X7_has l g  hc_9) s_X7_has q4_197 ⟨Nat.le_of_ble_eq_true rfl, Nat.le_of_ble_eq_true rfl⟩ hP hS rfl hl.1 rfl (Nat.le_of_ble_eq_true rfl) ⟨Nat.le_refl _, Nat.le_refl _⟩ dX7_sets_93) hS (fun H locs hP hS => ?_)
      refine lv_if_eq (tgt := 112) hx hb dX7_sets_96 (by decide) (fun h_12 => ?_) (fun h_12 => ?_)
      · replace hf := it_t hf h_12
        refine lv_iconst (v := (0 : Int32)) hx hb dX7_sets_112 (by decide) ?_
        exact b_X7_sets_113 X hk57 ih x3 x4 x5 x6 x8 x7 (0 : Int32) M_10 hf hP hS (lv_sub hl [0, 1, 2, 3, 4, 5, 6, 8] rfl)
      · replace hf := it_f hf h_12
        refine lv_aload_n hx hb dX7_sets_99 rfl (lv_at hl 0 rfl) ?_
        refine gf_7_0 X hP kc_279 q4_25 dX7_sets_100 ?_
        refine lv_bipush (v := (18 : Int32)) hx hb dX7_sets_103 (by decide) ?_
        refine lv_iload hx hb dX7_sets_105 (lv_at hl 8 rfl) ?_
        refine lv_iadd hx hb dX7_sets_107 ?_
        obtain ⟨hi_13, hf⟩ := ck_s hf
        refine ga_ld X hP (iA_13 kc_280) hi_13 dX7_sets_108 ?_
        refine lv_goto (tgt := 113) hx hb dX7_sets_109 (by decide) ?_
        exact b_X7_sets_113 X hk57 ih x3 x4 x5 x6 x8 x7 (M_10 280 (((18 : Int32) + x8)).toNatClampNeg) M_10 hf hP hS (lv_sub hl [0, 1, 2, 3, 4, 5, 6, 8] rfl)
def f_X7_sets_57 (x1 : Int32) (x2 : Int32)  : Nat → Int32 → Int32 → Int32 → Int32 → Mem → Option (Int32 × Mem)
  | 0, _, _, _, _, _ => none
  | n + 1, x3, x4, x5, x6, M =>
    if ((1 : Int32) <<< ((M 280 0) &&& 31)) ≤ x6 then
      if x2 = 0 then
        some (x3, M)
      else
        if x2 = (2 : Int32) then
          some (x5, M)
        else
          if x3 = 0 then
            some ((0 : Int32), M)
          else
            some (x4, M)
    else
      f_X7_sets_76 x1 x2 (f_X7_sets_57 x1 x2 n) FU x3 x4 x5 x6 (0 : Int32) (0 : Int32) M
set_option maxRecDepth 20000 in
theorem b_X7_sets_57 {out : Int32 × Mem} (X : Bx p s m args meth c RX7 cX7_sets 9 (some .int) g)   {x1 : Int32} {x2 : Int32}     : ∀ (n : Nat) (x3 : Int32) (x4 : Int32) (x5 : Int32) (x6 : Int32) (M : Mem) (H : Heap) (locs : List Loc) (ls : Array Slot), f_X7_sets_57 x1 x2 n x3 x4 x5 x6 M = some out → va_P g.1 vwCl (gW g M) H → va_S (gA g) s.heap H locs → lv_has ls 9 [(0, .ref (gz g + 279)), (1, .int x1), (2, .int x2), (3, .int x3), (4, .int x4), (5, .int x5), (6, .int x6)] → W p l e (rM 1 25) s m args below meth c H locs 0 0 (MQ below (qI g out) args s 0 0 (gA g)) (F0 m 57 ls []) := by
  have hx := X.1
  have hb := X.2.1
  intro n
  induction n with
  | zero => intro _ _ _ _ _ _ _ _ hf; cases hf
  | succ n ih =>
    intro x3 x4 x5 x6 M H locs ls hf hP hS hl
    rw [f_X7_sets_57] at hf
    refine lv_iload hx hb dX7_sets_57 (lv_at hl 6 rfl) ?_
    refine lv_iconst (v := (1 : Int32)) hx hb dX7_sets_59 (by decide) ?_
    refine lv_aload_n hx hb dX7_sets_60 rfl (lv_at hl 0 rfl) ?_
    refine gf_7_0 X hP kc_279 q4_25 dX7_sets_61 ?_
    refine lv_iconst (v := (0 : Int32)) hx hb dX7_sets_64 (by decide) ?_
    refine ga_ldj (j := 0) X hP (iA_13 kc_280) (by unfold vp_in; decide) (by decide) dX7_sets_65 ?_
    refine lv_ishl hx hb dX7_sets_66 ?_
    refine lv_icmp_ge (tgt := 164) hx hb dX7_sets_67 (by decide) (fun h_1 => ?_) (fun h_1 => ?_)
    · replace hf := it_t hf h_1
      refine lv_iload_n hx hb dX7_sets_164 rfl (lv_at hl 2 rfl) ?_
      refine lv_if_ne (tgt := 172) hx hb dX7_sets_165 (by decide) (fun h_2 => ?_) (fun h_2 => ?_)
      · replace hf := it_f hf h_2
        refine lv_iload_n hx hb dX7_sets_172 rfl (lv_at hl 2 rfl) ?_
        refine lv_iconst (v := (2 : Int32)) hx hb dX7_sets_173 (by decide) ?_
        refine lv_icmp_ne (tgt := 182) hx hb dX7_sets_174 (by decide) (fun h_3 => ?_) (fun h_3 => ?_)
        · replace hf := it_f hf h_3
          refine lv_iload_n hx hb dX7_sets_182 rfl (lv_at hl 3 rfl) ?_
          refine lv_if_ne (tgt := 190) hx hb dX7_sets_183 (by decide) (fun h_4 => ?_) (fun h_4 => ?_)
          · replace hf := it_f hf h_4
            refine lv_iload hx hb dX7_sets_190 (lv_at hl 4 rfl) ?_
            exact g_iret X hP hS (sm_i hf) dX7_sets_192
          · replace hf := it_t hf h_4
            refine lv_iconst (v := (0 : Int32)) hx hb dX7_sets_186 (by decide) ?_
            refine lv_goto (tgt := 192) hx hb dX7_sets_187 (by decide) ?_
            exact g_iret X hP hS (sm_i hf) dX7_sets_192
        · replace hf := it_t hf h_3
          refine lv_iload hx hb dX7_sets_177 (lv_at hl 5 rfl) ?_
          refine lv_goto (tgt := 192) hx hb dX7_sets_179 (by decide) ?_
          exact g_iret X hP hS (sm_i hf) dX7_sets_192
      · replace hf := it_t hf h_2
        refine lv_iload_n hx hb dX7_sets_168 rfl (lv_at hl 3 rfl) ?_
        refine lv_goto (tgt := 192) hx hb dX7_sets_169 (by decide) ?_
        exact g_iret X hP hS (sm_i hf) dX7_sets_192
    · replace hf := it_f hf h_1
      refine lv_iconst (v := (0 : Int32)) hx hb dX7_sets_70 (by decide) ?_
      refine lv_istore (lv' := [(7, .int (0 : Int32)), (0, .ref (gz g + 279)), (1, .int x1), (2, .int x2), (3, .int x3), (4, .int x4), (5, .int x5), (6, .int x6)]) hx hb dX7_sets_71 hl (by decide) rfl (fun ls hl => ?_)
      refine lv_iconst (v := (0 : Int32)) hx hb dX7_sets_73 (by decide) ?_
      refine lv_istore (lv' := [(8, .int (0 : Int32)), (7, .int (0 : Int32)), (0, .ref (gz g + 279)), (1, .int x1), (2, .int x2), (3, .int x3), (4, .int x4), (5, .int x5), (6, .int x6)]) hx hb dX7_sets_74 hl (by decide) rfl (fun ls hl => ?_)
      exact b_X7_sets_76 X ih FU x3 x4 x5 x6 (0 : Int32) (0 : Int32) M _ _ _ hf hP hS (lv_sub hl [2, 3, 4, 5, 6, 7, 8, 1, 0] rfl)
def f_X7_sets (x1 : Int32) (x2 : Int32) (M : Mem) : Option (Int32 × Mem) :=
  cb (f_X7_isBox M) fun r_3 M_2 =>
  if r_3 = 0 then
    some ((-1000002 : Int32), M_2)
  else
    cb (f_X7_in ((x1).toInt64) (0 : Int64) (99 : Int64) M_2) fun r_7 M_6 =>
    if r_7 = 0 then
      some ((-1000001 : Int32), M_6)
    else
      cb (f_X7_in ((x2).toInt64) (0 : Int64) (2 : Int64) M_6) fun r_11 M_10 =>
      if r_11 = 0 then
        some ((-1000001 : Int32), M_10)
      else
        lt (((1 : Int32) <<< ((M_10 280 0) &&& 31)) - (1 : Int32)) fun x4_13 =>
        f_X7_sets_57 x1 x2 FU (0 : Int32) x4_13 (0 : Int32) (0 : Int32) M_10
set_option maxRecDepth 20000 in
theorem c_X7_sets (l : Launch) (g : GC) {x1 : Int32} {x2 : Int32}  {M : Mem} {out : Int32 × Mem} (hf : f_X7_sets x1 x2 M = some out) : cI l g yX7_sets cX7_sets 9 (some .int) (rM 1 25) [.ref (gz g + 279), .int x1, .int x2] M out := by
  refine g_met (by decide) (Nat.le_of_ble_eq_true rfl) ?_
  intro p e s m below meth c X hP hS ls hl
  have X : Bx p s m _ meth c RX7 cX7_sets 9 (some .int) g := X
  have hl : lv_has ls 9 [(0, .ref (gz g + 279)), (1, .int x1), (2, .int x2)] := hl
  have hx := X.1
  have hb := X.2.1
  refine lv_aload_n hx hb dX7_sets_0 rfl (lv_at hl 0 rfl) ?_
  obtain ⟨r_3, M_2, hc_1, hf⟩ := cb_s hf
  refine g_goi (g_run X (c_X7_isBox l g  hc_1) s_X7_isBox (oB_7 kc_279) q4_180 ⟨Nat.le_of_ble_eq_true rfl, Nat.le_of_ble_eq_true rfl⟩ hP hS rfl hl.1 rfl (Nat.le_of_ble_eq_true rfl) ⟨Nat.le_refl _, Nat.le_refl _⟩ dX7_sets_1) hS (fun H locs hP hS => ?_)
  refine lv_if_ne (tgt := 10) hx hb dX7_sets_4 (by decide) (fun h_4 => ?_) (fun h_4 => ?_)
  · replace hf := it_f hf h_4
    refine lv_iload_n hx hb dX7_sets_10 rfl (lv_at hl 1 rfl) ?_
    refine lv_i2l hx hb dX7_sets_11 rfl ?_
    refine lv_lconst (v := (0 : Int64)) hx hb dX7_sets_12 (by decide) ?_
    refine lv_ldc2 hx hb X.2.2.2.1 (X.2.2.2.2.1 _ q4_212) dX7_sets_13 ?_
    obtain ⟨r_7, M_6, hc_5, hf⟩ := cb_s hf
    refine g_goi (g_runS X (c_X7_in l g  hc_5) s_X7_in q4_89 ⟨Nat.le_of_ble_eq_true rfl, Nat.le_of_ble_eq_true rfl⟩ hP hS rfl hl.1 rfl (Nat.le_of_ble_eq_true rfl) ⟨Nat.le_refl _, Nat.le_refl _⟩ dX7_sets_16) hS (fun H locs hP hS => ?_)
    refine lv_if_eq (tgt := 34) hx hb dX7_sets_19 (by decide) (fun h_8 => ?_) (fun h_8 => ?_)
    · replace hf := it_t hf h_8
      refine lv_ldc hx hb X.2.2.2.1 (X.2.2.2.2.1 _ q4_93) dX7_sets_34 ?_
      exact g_iret X hP hS (sm_i hf) dX7_sets_36
    · replace hf := it_f hf h_8
      refine lv_iload_n hx hb dX7_sets_22 rfl (lv_at hl 2 rfl) ?_
      refine lv_i2l hx hb dX7_sets_23 rfl ?_
      refine lv_lconst (v := (0 : Int64)) hx hb dX7_sets_24 (by decide) ?_
      refine lv_ldc2 hx hb X.2.2.2.1 (X.2.2.2.2.1 _ q4_92) dX7_sets_25 ?_
      obtain ⟨r_11, M_10, hc_9, hf⟩ := cb_s hf
      refine g_goi (g_runS X (c_X7_in l g  hc_9) s_X7_in q4_89 ⟨Nat.le_of_ble_eq_true rfl, Nat.le_of_ble_eq_true rfl⟩ hP hS rfl hl.1 rfl (Nat.le_of_ble_eq_true rfl) ⟨Nat.le_refl _, Nat.le_refl _⟩ dX7_sets_28) hS (fun H locs hP hS => ?_)
      refine lv_if_ne (tgt := 37) hx hb dX7_sets_31 (by decide) (fun h_12 => ?_) (fun h_12 => ?_)
      · replace hf := it_f hf h_12
        refine lv_iconst (v := (0 : Int32)) hx hb dX7_sets_37 (by decide) ?_
        refine lv_istore_n (lv' := [(3, .int (0 : Int32)), (0, .ref (gz g + 279)), (1, .int x1), (2, .int x2)]) hx hb dX7_sets_38 rfl hl (by decide) rfl (fun ls hl => ?_)
        refine lv_iconst (v := (1 : Int32)) hx hb dX7_sets_39 (by decide) ?_
        refine lv_aload_n hx hb dX7_sets_40 rfl (lv_at hl 1 rfl) ?_
        refine gf_7_0 X hP kc_279 q4_25 dX7_sets_41 ?_
        refine lv_iconst (v := (0 : Int32)) hx hb dX7_sets_44 (by decide) ?_
        refine ga_ldj (j := 0) X hP (iA_13 kc_280) (by unfold vp_in; decide) (by decide) dX7_sets_45 ?_
        refine lv_ishl hx hb dX7_sets_46 ?_
        refine lv_iconst (v := (1 : Int32)) hx hb dX7_sets_47 (by decide) ?_
        refine lv_isub hx hb dX7_sets_48 ?_
        refine lv_topi (fun x4_13 ex4_13 => ?_)
        replace hf := lt_go hf ex4_13
        refine lv_istore (lv' := [(4, .int x4_13), (3, .int (0 : Int32)), (0, .ref (gz g + 279)), (1, .int x1), (2, .int x2)]) hx hb dX7_sets_49 hl (by decide) rfl (fun ls hl => ?_)
        refine lv_iconst (v := (0 : Int32)) hx hb dX7_sets_51 (by decide) ?_
        refine lv_istore (lv' := [(5, .int (0 : Int32)), (4, .int x4_13), (3, .int (0 : Int32)), (0, .ref (gz g + 279)), (1, .int x1), (2, .int x2)]) hx hb dX7_sets_52 hl (by decide) rfl (fun ls hl => ?_)
        refine lv_iconst (v := (0 : Int32)) hx hb dX7_sets_54 (by decide) ?_
        refine lv_istore (lv' := [(6, .int (0 : Int32)), (5, .int (0 : Int32)), (4, .int x4_13), (3, .int (0 : Int32)), (0, .ref (gz g + 279)), (1, .int x1), (2, .int x2)]) hx hb dX7_sets_55 hl (by decide) rfl (fun ls hl => ?_)
        exact b_X7_sets_57 X  FU (0 : Int32) x4_13 (0 : Int32) (0 : Int32) M_10 _ _ _ hf hP hS (lv_sub hl [4, 5, 6, 3, 2, 1, 0] rfl)
      · replace hf := it_t hf h_12
        refine lv_ldc hx hb X.2.2.2.1 (X.2.2.2.2.1 _ q4_93) dX7_sets_34 ?_
        exact g_iret X hP hS (sm_i hf) dX7_sets_36
  · replace hf := it_t hf h_4
    refine lv_ldc hx hb X.2.2.2.1 (X.2.2.2.2.1 _ q4_175) dX7_sets_7 ?_
    exact g_iret X hP hS (sm_i hf) dX7_sets_9
def f_X7_share_216   (t0 : Int32) (t1 : Int32) (M : Mem) : Option (Int32 × Mem) :=
  some ((t0 + t1), M)
set_option maxRecDepth 20000 in
theorem b_X7_share_216 {out : Int32 × Mem} (X : Bx p s m args meth c RX7 cX7_share 8 (some .int) g)        (t0 : Int32) (t1 : Int32) (M : Mem) {H : Heap} {locs : List Loc} {ls : Array Slot} (hf : f_X7_share_216 t0 t1 M = some out) (hP : va_P g.1 vwCl (gW g M) H) (hS : va_S (gA g) s.heap H locs) (hl : lv_has ls 8 []) : W p l e (rM 2 46) s m args below meth c H locs 0 0 (MQ below (qI g out) args s 0 0 (gA g)) (F0 m 216 ls [.int t1, .int t0]) := by
  have hx := X.1
  have hb := X.2.1
  refine lv_iadd hx hb dX7_share_216 ?_
  exact g_iret X hP hS (sm_i hf) dX7_share_217
def f_X7_share_182 (x1 : Int32) (x2 : Int32) (k112 : Int32 → Int32 → Int32 → Int32 → Mem → Option (Int32 × Mem)) (x3 : Int32) (x4 : Int32) (x6 : Int32) (t0 : Int32) (t1 : Int32) (M : Mem) : Option (Int32 × Mem) :=
  lt (t0 + t1) fun x5_1 =>
  k112 x3 x4 x5_1 (x6 + (1 : Int32)) M
set_option maxRecDepth 20000 in
theorem b_X7_share_182 {out : Int32 × Mem} (X : Bx p s m args meth c RX7 cX7_share 8 (some .int) g)   {x1 : Int32} {x2 : Int32}   {k112 : Int32 → Int32 → Int32 → Int32 → Mem → Option (Int32 × Mem)} (hk112 : ∀ (x3 : Int32) (x4 : Int32) (x5 : Int32) (x6 : Int32) (M : Mem) (H : Heap) (locs : List Loc) (ls : Array Slot), k112 x3 x4 x5 x6 M = some out → va_P g.1 vwCl (gW g M) H → va_S (gA g) s.heap H locs → lv_has ls 8 [(0, .ref (gz g + 279)), (1, .int x1), (2, .int x2), (3, .int x3), (4, .int x4), (5, .int x5), (6, .int x6)] → W p l e (rM 2 46) s m args below meth c H locs 0 0 (MQ below (qI g out) args s 0 0 (gA g)) (F0 m 112 ls [])) (x3 : Int32) (x4 : Int32) (x6 : Int32) (t0 : Int32) (t1 : Int32) (M : Mem) {H : Heap} {locs : List Loc} {ls : Array Slot} (hf : f_X7_share_182 x1 x2 k112 x3 x4 x6 t0 t1 M = some out) (hP : va_P g.1 vwCl (gW g M) H) (hS : va_S (gA g) s.heap H locs) (hl : lv_has ls 8 [(0, .ref (gz g + 279)), (1, .int x1), (2, .int x2), (3, .int x3), (4, .int x4), (6, .int x6)]) : W p l e (rM 2 46) s m args below meth c H locs 0 0 (MQ below (qI g out) args s 0 0 (gA g)) (F0 m 182 ls [.int t1, .int t0]) := by
  have hx := X.1
  have hb := X.2.1
  refine lv_iadd hx hb dX7_share_182 ?_
  refine lv_topi (fun x5_1 ex5_1 => ?_)
  replace hf := lt_go hf ex5_1
  refine lv_istore (lv' := [(5, .int x5_1), (0, .ref (gz g + 279)), (1, .int x1), (2, .int x2), (3, .int x3), (4, .int x4), (6, .int x6)]) hx hb dX7_share_183 hl (by decide) rfl (fun ls hl => ?_)
  refine lv_iinc (v := (x6 + (1 : Int32))) (lv' := [(6, .int (x6 + (1 : Int32))), (5, .int x5_1), (0, .ref (gz g + 279)), (1, .int x1), (2, .int x2), (3, .int x3), (4, .int x4)]) hx hb dX7_share_185 hl (k := 6) rfl rfl (by decide) rfl (fun ls hl => ?_)
  refine lv_goto (tgt := 112) hx hb dX7_share_188 (by decide) ?_
  exact hk112 x3 x4 x5_1 (x6 + (1 : Int32)) M _ _ _ hf hP hS (lv_sub hl [2, 3, 4, 5, 6, 1, 0] rfl)
def f_X7_share_181 (x1 : Int32) (x2 : Int32) (k112 : Int32 → Int32 → Int32 → Int32 → Mem → Option (Int32 × Mem)) (x3 : Int32) (x4 : Int32) (x6 : Int32) (t0 : Int32) (M : Mem) : Option (Int32 × Mem) :=
  f_X7_share_182 x1 x2 k112 x3 x4 x6 t0 (0 : Int32) M
set_option maxRecDepth 20000 in
theorem b_X7_share_181 {out : Int32 × Mem} (X : Bx p s m args meth c RX7 cX7_share 8 (some .int) g)   {x1 : Int32} {x2 : Int32}   {k112 : Int32 → Int32 → Int32 → Int32 → Mem → Option (Int32 × Mem)} (hk112 : ∀ (x3 : Int32) (x4 : Int32) (x5 : Int32) (x6 : Int32) (M : Mem) (H : Heap) (locs : List Loc) (ls : Array Slot), k112 x3 x4 x5 x6 M = some out → va_P g.1 vwCl (gW g M) H → va_S (gA g) s.heap H locs → lv_has ls 8 [(0, .ref (gz g + 279)), (1, .int x1), (2, .int x2), (3, .int x3), (4, .int x4), (5, .int x5), (6, .int x6)] → W p l e (rM 2 46) s m args below meth c H locs 0 0 (MQ below (qI g out) args s 0 0 (gA g)) (F0 m 112 ls [])) (x3 : Int32) (x4 : Int32) (x6 : Int32) (t0 : Int32) (M : Mem) {H : Heap} {locs : List Loc} {ls : Array Slot} (hf : f_X7_share_181 x1 x2 k112 x3 x4 x6 t0 M = some out) (hP : va_P g.1 vwCl (gW g M) H) (hS : va_S (gA g) s.heap H locs) (hl : lv_has ls 8 [(0, .ref (gz g + 279)), (1, .int x1), (2, .int x2), (3, .int x3), (4, .int x4), (6, .int x6)]) : W p l e (rM 2 46) s m args below meth c H locs 0 0 (MQ below (qI g out) args s 0 0 (gA g)) (F0 m 181 ls [.int t0]) := by
  have hx := X.1
  have hb := X.2.1
  refine lv_iconst (v := (0 : Int32)) hx hb dX7_share_181 (by decide) ?_
  exact b_X7_share_182 X hk112 x3 x4 x6 t0 (0 : Int32) M hf hP hS hl
def f_X7_share_151 (x1 : Int32) (x2 : Int32) (k112 : Int32 → Int32 → Int32 → Int32 → Mem → Option (Int32 × Mem)) (x3 : Int32) (x4 : Int32) (x5 : Int32) (x6 : Int32) (t0 : Int32) (M : Mem) : Option (Int32 × Mem) :=
  cz x3 <|
  lt (x4 - ((x2 * t0) / x3)) fun x4_2 =>
  if x1 ≤ x6 then
    f_X7_share_181 x1 x2 k112 x3 x4_2 x6 x5 M
  else
    if t0 ≤ 0 then
      f_X7_share_181 x1 x2 k112 x3 x4_2 x6 x5 M
    else
      f_X7_share_182 x1 x2 k112 x3 x4_2 x6 x5 (1 : Int32) M
set_option maxRecDepth 20000 in
theorem b_X7_share_151 {out : Int32 × Mem} (X : Bx p s m args meth c RX7 cX7_share 8 (some .int) g)   {x1 : Int32} {x2 : Int32}   {k112 : Int32 → Int32 → Int32 → Int32 → Mem → Option (Int32 × Mem)} (hk112 : ∀ (x3 : Int32) (x4 : Int32) (x5 : Int32) (x6 : Int32) (M : Mem) (H : Heap) (locs : List Loc) (ls : Array Slot), k112 x3 x4 x5 x6 M = some out → va_P g.1 vwCl (gW g M) H → va_S (gA g) s.heap H locs → lv_has ls 8 [(0, .ref (gz g + 279)), (1, .int x1), (2, .int x2), (3, .int x3), (4, .int x4), (5, .int x5), (6, .int x6)] → W p l e (rM 2 46) s m args below meth c H locs 0 0 (MQ below (qI g out) args s 0 0 (gA g)) (F0 m 112 ls [])) (x3 : Int32) (x4 : Int32) (x5 : Int32) (x6 : Int32) (t0 : Int32) (M : Mem) {H : Heap} {locs : List Loc} {ls : Array Slot} (hf : f_X7_share_151 x1 x2 k112 x3 x4 x5 x6 t0 M = some out) (hP : va_P g.1 vwCl (gW g M) H) (hS : va_S (gA g) s.heap H locs) (hl : lv_has ls 8 [(0, .ref (gz g + 279)), (1, .int x1), (2, .int x2), (3, .int x3), (4, .int x4), (5, .int x5), (6, .int x6)]) : W p l e (rM 2 46) s m args below meth c H locs 0 0 (MQ below (qI g out) args s 0 0 (gA g)) (F0 m 151 ls [.int t0]) := by
  have hx := X.1
  have hb := X.2.1
  refine lv_istore (lv' := [(7, .int t0), (0, .ref (gz g + 279)), (1, .int x1), (2, .int x2), (3, .int x3), (4, .int x4), (5, .int x5), (6, .int x6)]) hx hb dX7_share_151 hl (by decide) rfl (fun ls hl => ?_)
  refine lv_iload hx hb dX7_share_153 (lv_at hl 5 rfl) ?_
  refine lv_iload_n hx hb dX7_share_155 rfl (lv_at hl 3 rfl) ?_
  refine lv_iload hx hb dX7_share_156 (lv_at hl 0 rfl) ?_
  refine lv_imul hx hb dX7_share_158 ?_
  refine lv_iload_n hx hb dX7_share_159 rfl (lv_at hl 4 rfl) ?_
  obtain ⟨hz_1, hf⟩ := cz_s hf
  refine lv_idiv hx hb dX7_share_160 hz_1 ?_
  refine lv_isub hx hb dX7_share_161 ?_
  refine lv_topi (fun x4_2 ex4_2 => ?_)
  replace hf := lt_go hf ex4_2
  refine lv_istore (lv' := [(4, .int x4_2), (7, .int t0), (0, .ref (gz g + 279)), (1, .int x1), (2, .int x2), (3, .int x3), (5, .int x5), (6, .int x6)]) hx hb dX7_share_162 hl (by decide) rfl (fun ls hl => ?_)
  refine lv_iload hx hb dX7_share_164 (lv_at hl 6 rfl) ?_
  refine lv_iload hx hb dX7_share_166 (lv_at hl 7 rfl) ?_
  refine lv_iload_n hx hb dX7_share_168 rfl (lv_at hl 3 rfl) ?_
  refine lv_icmp_ge (tgt := 181) hx hb dX7_share_169 (by decide) (fun h_3 => ?_) (fun h_3 => ?_)
  · replace hf := it_t hf h_3
    exact b_X7_share_181 X hk112 x3 x4_2 x6 x5 M hf hP hS (lv_sub hl [2, 3, 4, 5, 0, 7] rfl)
  · replace hf := it_f hf h_3
    refine lv_iload hx hb dX7_share_172 (lv_at hl 1 rfl) ?_
    refine lv_if_le (tgt := 181) hx hb dX7_share_174 (by decide) (fun h_4 => ?_) (fun h_4 => ?_)
    · replace hf := it_t hf h_4
      exact b_X7_share_181 X hk112 x3 x4_2 x6 x5 M hf hP hS (lv_sub hl [2, 3, 4, 5, 0, 7] rfl)
    · replace hf := it_f hf h_4
      refine lv_iconst (v := (1 : Int32)) hx hb dX7_share_177 (by decide) ?_
      refine lv_goto (tgt := 182) hx hb dX7_share_178 (by decide) ?_
      exact b_X7_share_182 X hk112 x3 x4_2 x6 x5 (1 : Int32) M hf hP hS (lv_sub hl [2, 3, 4, 5, 0, 7] rfl)
def f_X7_share_112 (x1 : Int32) (x2 : Int32)  : Nat → Int32 → Int32 → Int32 → Int32 → Mem → Option (Int32 × Mem)
  | 0, _, _, _, _, _ => none
  | n + 1, x3, x4, x5, x6, M =>
    if (M 280 0) ≤ x6 then
      ck ((24 : Int32) + x1) 1247 <|
      cz x3 <|
      if x4 ≤ x5 then
        f_X7_share_216 ((x2 * (M 280 (((24 : Int32) + x1)).toNatClampNeg)) / x3) (0 : Int32) M
      else
        f_X7_share_216 ((x2 * (M 280 (((24 : Int32) + x1)).toNatClampNeg)) / x3) (1 : Int32) M
    else
      cb (f_X7_has (M 280 5) x6 M) fun r_7 M_6 =>
      if r_7 = 0 then
        ck ((24 : Int32) + x6) 1247 <|
        f_X7_share_151 x1 x2 (f_X7_share_112 x1 x2 n) x3 x4 x5 x6 (M_6 280 (((24 : Int32) + x6)).toNatClampNeg) M_6
      else
        f_X7_share_151 x1 x2 (f_X7_share_112 x1 x2 n) x3 x4 x5 x6 (0 : Int32) M_6
set_option maxRecDepth 20000 in
theorem b_X7_share_112 {out : Int32 × Mem} (X : Bx p s m args meth c RX7 cX7_share 8 (some .int) g)   {x1 : Int32} {x2 : Int32}     : ∀ (n : Nat) (x3 : Int32) (x4 : Int32) (x5 : Int32) (x6 : Int32) (M : Mem) (H : Heap) (locs : List Loc) (ls : Array Slot), f_X7_share_112 x1 x2 n x3 x4 x5 x6 M = some out → va_P g.1 vwCl (gW g M) H → va_S (gA g) s.heap H locs → lv_has ls 8 [(0, .ref (gz g + 279)), (1, .int x1), (2, .int x2), (3, .int x3), (4, .int x4), (5, .int x5), (6, .int x6)] → W p l e (rM 2 46) s m args below meth c H locs 0 0 (MQ below (qI g out) args s 0 0 (gA g)) (F0 m 112 ls []) := by
  have hx := X.1
  have hb := X.2.1
  intro n
  induction n with
  | zero => intro _ _ _ _ _ _ _ _ hf; cases hf
  | succ n ih =>
    intro x3 x4 x5 x6 M H locs ls hf hP hS hl
    rw [f_X7_share_112] at hf
    refine lv_iload hx hb dX7_share_112 (lv_at hl 6 rfl) ?_
    refine lv_aload_n hx hb dX7_share_114 rfl (lv_at hl 0 rfl) ?_
    refine gf_7_0 X hP kc_279 q4_25 dX7_share_115 ?_
    refine lv_iconst (v := (0 : Int32)) hx hb dX7_share_118 (by decide) ?_
    refine ga_ldj (j := 0) X hP (iA_13 kc_280) (by unfold vp_in; decide) (by decide) dX7_share_119 ?_
    refine lv_icmp_ge (tgt := 191) hx hb dX7_share_120 (by decide) (fun h_1 => ?_) (fun h_1 => ?_)
    · replace hf := it_t hf h_1
      refine lv_iload_n hx hb dX7_share_191 rfl (lv_at hl 2 rfl) ?_
      refine lv_aload_n hx hb dX7_share_192 rfl (lv_at hl 0 rfl) ?_
      refine gf_7_0 X hP kc_279 q4_25 dX7_share_193 ?_
      refine lv_bipush (v := (24 : Int32)) hx hb dX7_share_196 (by decide) ?_
      refine lv_iload_n hx hb dX7_share_198 rfl (lv_at hl 1 rfl) ?_
      refine lv_iadd hx hb dX7_share_199 ?_
      obtain ⟨hi_2, hf⟩ := ck_s hf
      refine ga_ld X hP (iA_13 kc_280) hi_2 dX7_share_200 ?_
      refine lv_imul hx hb dX7_share_201 ?_
      refine lv_iload_n hx hb dX7_share_202 rfl (lv_at hl 3 rfl) ?_
      obtain ⟨hz_3, hf⟩ := cz_s hf
      refine lv_idiv hx hb dX7_share_203 hz_3 ?_
      refine lv_iload hx hb dX7_share_204 (lv_at hl 5 rfl) ?_
      refine lv_iload hx hb dX7_share_206 (lv_at hl 4 rfl) ?_
      refine lv_icmp_ge (tgt := 215) hx hb dX7_share_208 (by decide) (fun h_4 => ?_) (fun h_4 => ?_)
      · replace hf := it_t hf h_4
        refine lv_iconst (v := (0 : Int32)) hx hb dX7_share_215 (by decide) ?_
        exact b_X7_share_216 X  ((x2 * (M 280 (((24 : Int32) + x1)).toNatClampNeg)) / x3) (0 : Int32) M hf hP hS (lv_sub hl [] rfl)
      · replace hf := it_f hf h_4
        refine lv_iconst (v := (1 : Int32)) hx hb dX7_share_211 (by decide) ?_
        refine lv_goto (tgt := 216) hx hb dX7_share_212 (by decide) ?_
        exact b_X7_share_216 X  ((x2 * (M 280 (((24 : Int32) + x1)).toNatClampNeg)) / x3) (1 : Int32) M hf hP hS (lv_sub hl [] rfl)
    · replace hf := it_f hf h_1
      refine lv_aload_n hx hb dX7_share_123 rfl (lv_at hl 0 rfl) ?_
      refine gf_7_0 X hP kc_279 q4_25 dX7_share_124 ?_
      refine lv_iconst (v := (5 : Int32)) hx hb dX7_share_127 (by decide) ?_
      refine ga_ldj (j := 5) X hP (iA_13 kc_280) (by unfold vp_in; decide) (by decide) dX7_share_128 ?_
      refine lv_iload hx hb dX7_share_129 (lv_at hl 6 rfl) ?_
      obtain ⟨r_7, M_6, hc_5, hf⟩ := cb_s hf
      refine g_goi (g_runS X (c_X7_has l g  hc_5) s_X7_has q4_197 ⟨Nat.le_of_ble_eq_true rfl, Nat.le_of_ble_eq_true rfl⟩ hP hS rfl hl.1 rfl (Nat.le_of_ble_eq_true rfl) ⟨Nat.le_refl _, Nat.le_refl _⟩ dX7_share_131) hS (fun H locs hP hS => ?_)
      refine lv_if_eq (tgt := 141) hx hb dX7_share_134 (by decide) (fun h_8 => ?_) (fun h_8 => ?_)
      · replace hf := it_t hf h_8
        refine lv_aload_n hx hb dX7_share_141 rfl (lv_at hl 0 rfl) ?_
        refine gf_7_0 X hP kc_279 q4_25 dX7_share_142 ?_
        refine lv_bipush (v := (24 : Int32)) hx hb dX7_share_145 (by decide) ?_
        refine lv_iload hx hb dX7_share_147 (lv_at hl 6 rfl) ?_
        refine lv_iadd hx hb dX7_share_149 ?_
        obtain ⟨hi_9, hf⟩ := ck_s hf
        refine ga_ld X hP (iA_13 kc_280) hi_9 dX7_share_150 ?_
        exact b_X7_share_151 X ih x3 x4 x5 x6 (M_6 280 (((24 : Int32) + x6)).toNatClampNeg) M_6 hf hP hS hl
      · replace hf := it_f hf h_8
        refine lv_iconst (v := (0 : Int32)) hx hb dX7_share_137 (by decide) ?_
        refine lv_goto (tgt := 151) hx hb dX7_share_138 (by decide) ?_
        exact b_X7_share_151 X ih x3 x4 x5 x6 (0 : Int32) M_6 hf hP hS hl
def f_X7_share_68 (x1 : Int32) (x2 : Int32) (k28 : Int32 → Int32 → Mem → Option (Int32 × Mem)) (x4 : Int32) (t0 : Int32) (t1 : Int32) (M : Mem) : Option (Int32 × Mem) :=
  lt (t0 + t1) fun x3_1 =>
  k28 x3_1 (x4 + (1 : Int32)) M
set_option maxRecDepth 20000 in
theorem b_X7_share_68 {out : Int32 × Mem} (X : Bx p s m args meth c RX7 cX7_share 8 (some .int) g)   {x1 : Int32} {x2 : Int32}   {k28 : Int32 → Int32 → Mem → Option (Int32 × Mem)} (hk28 : ∀ (x3 : Int32) (x4 : Int32) (M : Mem) (H : Heap) (locs : List Loc) (ls : Array Slot), k28 x3 x4 M = some out → va_P g.1 vwCl (gW g M) H → va_S (gA g) s.heap H locs → lv_has ls 8 [(0, .ref (gz g + 279)), (1, .int x1), (2, .int x2), (3, .int x3), (4, .int x4)] → W p l e (rM 2 46) s m args below meth c H locs 0 0 (MQ below (qI g out) args s 0 0 (gA g)) (F0 m 28 ls [])) (x4 : Int32) (t0 : Int32) (t1 : Int32) (M : Mem) {H : Heap} {locs : List Loc} {ls : Array Slot} (hf : f_X7_share_68 x1 x2 k28 x4 t0 t1 M = some out) (hP : va_P g.1 vwCl (gW g M) H) (hS : va_S (gA g) s.heap H locs) (hl : lv_has ls 8 [(0, .ref (gz g + 279)), (1, .int x1), (2, .int x2), (4, .int x4)]) : W p l e (rM 2 46) s m args below meth c H locs 0 0 (MQ below (qI g out) args s 0 0 (gA g)) (F0 m 68 ls [.int t1, .int t0]) := by
  have hx := X.1
  have hb := X.2.1
  refine lv_iadd hx hb dX7_share_68 ?_
  refine lv_topi (fun x3_1 ex3_1 => ?_)
  replace hf := lt_go hf ex3_1
  refine lv_istore_n (lv' := [(3, .int x3_1), (0, .ref (gz g + 279)), (1, .int x1), (2, .int x2), (4, .int x4)]) hx hb dX7_share_69 rfl hl (by decide) rfl (fun ls hl => ?_)
  refine lv_iinc (v := (x4 + (1 : Int32))) (lv' := [(4, .int (x4 + (1 : Int32))), (3, .int x3_1), (0, .ref (gz g + 279)), (1, .int x1), (2, .int x2)]) hx hb dX7_share_70 hl (k := 4) rfl rfl (by decide) rfl (fun ls hl => ?_)
  refine lv_goto (tgt := 28) hx hb dX7_share_73 (by decide) ?_
  exact hk28 x3_1 (x4 + (1 : Int32)) M _ _ _ hf hP hS (lv_sub hl [2, 3, 4, 1, 0] rfl)
def f_X7_share_28 (x1 : Int32) (x2 : Int32)  : Nat → Int32 → Int32 → Mem → Option (Int32 × Mem)
  | 0, _, _, _ => none
  | n + 1, x3, x4, M =>
    if (M 280 0) ≤ x4 then
      cb (f_X7_has (M 280 5) x1 M) fun r_4 M_3 =>
      if r_4 = 0 then
        ck ((24 : Int32) + x1) 1247 <|
        if (M_3 280 (((24 : Int32) + x1)).toNatClampNeg) = 0 then
          some ((0 : Int32), M_3)
        else
          f_X7_share_112 x1 x2 FU x3 x2 (0 : Int32) (0 : Int32) M_3
      else
        some ((0 : Int32), M_3)
    else
      cb (f_X7_has (M 280 5) x4 M) fun r_10 M_9 =>
      if r_10 = 0 then
        ck ((24 : Int32) + x4) 1247 <|
        f_X7_share_68 x1 x2 (f_X7_share_28 x1 x2 n) x4 x3 (M_9 280 (((24 : Int32) + x4)).toNatClampNeg) M_9
      else
        f_X7_share_68 x1 x2 (f_X7_share_28 x1 x2 n) x4 x3 (0 : Int32) M_9
set_option maxRecDepth 20000 in
theorem b_X7_share_28 {out : Int32 × Mem} (X : Bx p s m args meth c RX7 cX7_share 8 (some .int) g)   {x1 : Int32} {x2 : Int32}     : ∀ (n : Nat) (x3 : Int32) (x4 : Int32) (M : Mem) (H : Heap) (locs : List Loc) (ls : Array Slot), f_X7_share_28 x1 x2 n x3 x4 M = some out → va_P g.1 vwCl (gW g M) H → va_S (gA g) s.heap H locs → lv_has ls 8 [(0, .ref (gz g + 279)), (1, .int x1), (2, .int x2), (3, .int x3), (4, .int x4)] → W p l e (rM 2 46) s m args below meth c H locs 0 0 (MQ below (qI g out) args s 0 0 (gA g)) (F0 m 28 ls []) := by
  have hx := X.1
  have hb := X.2.1
  intro n
  induction n with
  | zero => intro _ _ _ _ _ _ hf; cases hf
  | succ n ih =>
    intro x3 x4 M H locs ls hf hP hS hl
    rw [f_X7_share_28] at hf
    refine lv_iload hx hb dX7_share_28 (lv_at hl 4 rfl) ?_
    refine lv_aload_n hx hb dX7_share_30 rfl (lv_at hl 0 rfl) ?_
    refine gf_7_0 X hP kc_279 q4_25 dX7_share_31 ?_
    refine lv_iconst (v := (0 : Int32)) hx hb dX7_share_34 (by decide) ?_
    refine ga_ldj (j := 0) X hP (iA_13 kc_280) (by unfold vp_in; decide) (by decide) dX7_share_35 ?_
    refine lv_icmp_ge (tgt := 76) hx hb dX7_share_36 (by decide) (fun h_1 => ?_) (fun h_1 => ?_)
    · replace hf := it_t hf h_1
      refine lv_aload_n hx hb dX7_share_76 rfl (lv_at hl 0 rfl) ?_
      refine gf_7_0 X hP kc_279 q4_25 dX7_share_77 ?_
      refine lv_iconst (v := (5 : Int32)) hx hb dX7_share_80 (by decide) ?_
      refine ga_ldj (j := 5) X hP (iA_13 kc_280) (by unfold vp_in; decide) (by decide) dX7_share_81 ?_
      refine lv_iload_n hx hb dX7_share_82 rfl (lv_at hl 1 rfl) ?_
      obtain ⟨r_4, M_3, hc_2, hf⟩ := cb_s hf
      refine g_goi (g_runS X (c_X7_has l g  hc_2) s_X7_has q4_197 ⟨Nat.le_of_ble_eq_true rfl, Nat.le_of_ble_eq_true rfl⟩ hP hS rfl hl.1 rfl (Nat.le_of_ble_eq_true rfl) ⟨Nat.le_refl _, Nat.le_refl _⟩ dX7_share_83) hS (fun H locs hP hS => ?_)
      refine lv_if_ne (tgt := 101) hx hb dX7_share_86 (by decide) (fun h_5 => ?_) (fun h_5 => ?_)
      · replace hf := it_f hf h_5
        refine lv_iconst (v := (0 : Int32)) hx hb dX7_share_101 (by decide) ?_
        exact g_iret X hP hS (sm_i hf) dX7_share_102
      · replace hf := it_t hf h_5
        refine lv_aload_n hx hb dX7_share_89 rfl (lv_at hl 0 rfl) ?_
        refine gf_7_0 X hP kc_279 q4_25 dX7_share_90 ?_
        refine lv_bipush (v := (24 : Int32)) hx hb dX7_share_93 (by decide) ?_
        refine lv_iload_n hx hb dX7_share_95 rfl (lv_at hl 1 rfl) ?_
        refine lv_iadd hx hb dX7_share_96 ?_
        obtain ⟨hi_6, hf⟩ := ck_s hf
        refine ga_ld X hP (iA_13 kc_280) hi_6 dX7_share_97 ?_
        refine lv_if_ne (tgt := 103) hx hb dX7_share_98 (by decide) (fun h_7 => ?_) (fun h_7 => ?_)
        · replace hf := it_f hf h_7
          refine lv_iload_n hx hb dX7_share_103 rfl (lv_at hl 2 rfl) ?_
          refine lv_istore (lv' := [(4, .int x2), (0, .ref (gz g + 279)), (1, .int x1), (2, .int x2), (3, .int x3)]) hx hb dX7_share_104 hl (by decide) rfl (fun ls hl => ?_)
          refine lv_iconst (v := (0 : Int32)) hx hb dX7_share_106 (by decide) ?_
          refine lv_istore (lv' := [(5, .int (0 : Int32)), (4, .int x2), (0, .ref (gz g + 279)), (1, .int x1), (2, .int x2), (3, .int x3)]) hx hb dX7_share_107 hl (by decide) rfl (fun ls hl => ?_)
          refine lv_iconst (v := (0 : Int32)) hx hb dX7_share_109 (by decide) ?_
          refine lv_istore (lv' := [(6, .int (0 : Int32)), (5, .int (0 : Int32)), (4, .int x2), (0, .ref (gz g + 279)), (1, .int x1), (2, .int x2), (3, .int x3)]) hx hb dX7_share_110 hl (by decide) rfl (fun ls hl => ?_)
          exact b_X7_share_112 X  FU x3 x2 (0 : Int32) (0 : Int32) M_3 _ _ _ hf hP hS (lv_sub hl [3, 4, 5, 6, 2, 1, 0] rfl)
        · replace hf := it_t hf h_7
          refine lv_iconst (v := (0 : Int32)) hx hb dX7_share_101 (by decide) ?_
          exact g_iret X hP hS (sm_i hf) dX7_share_102
    · replace hf := it_f hf h_1
      refine lv_iload_n hx hb dX7_share_39 rfl (lv_at hl 3 rfl) ?_
      refine lv_aload_n hx hb dX7_share_40 rfl (lv_at hl 0 rfl) ?_
      refine gf_7_0 X hP kc_279 q4_25 dX7_share_41 ?_
      refine lv_iconst (v := (5 : Int32)) hx hb dX7_share_44 (by decide) ?_
      refine ga_ldj (j := 5) X hP (iA_13 kc_280) (by unfold vp_in; decide) (by decide) dX7_share_45 ?_
      refine lv_iload hx hb dX7_share_46 (lv_at hl 4 rfl) ?_
      obtain ⟨r_10, M_9, hc_8, hf⟩ := cb_s hf
      refine g_goi (g_runS X (c_X7_has l g  hc_8) s_X7_has q4_197 ⟨Nat.le_of_ble_eq_true rfl, Nat.le_of_ble_eq_true rfl⟩ hP hS rfl hl.1 rfl (Nat.le_of_ble_eq_true rfl) ⟨Nat.le_refl _, Nat.le_refl _⟩ dX7_share_48) hS (fun H locs hP hS => ?_)
      refine lv_if_eq (tgt := 58) hx hb dX7_share_51 (by decide) (fun h_11 => ?_) (fun h_11 => ?_)
      · replace hf := it_t hf h_11
        refine lv_aload_n hx hb dX7_share_58 rfl (lv_at hl 0 rfl) ?_
        refine gf_7_0 X hP kc_279 q4_25 dX7_share_59 ?_
        refine lv_bipush (v := (24 : Int32)) hx hb dX7_share_62 (by decide) ?_
        refine lv_iload hx hb dX7_share_64 (lv_at hl 4 rfl) ?_
        refine lv_iadd hx hb dX7_share_66 ?_
        obtain ⟨hi_12, hf⟩ := ck_s hf
        refine ga_ld X hP (iA_13 kc_280) hi_12 dX7_share_67 ?_
        exact b_X7_share_68 X ih x4 x3 (M_9 280 (((24 : Int32) + x4)).toNatClampNeg) M_9 hf hP hS (lv_sub hl [0, 1, 2, 4] rfl)
      · replace hf := it_f hf h_11
        refine lv_iconst (v := (0 : Int32)) hx hb dX7_share_54 (by decide) ?_
        refine lv_goto (tgt := 68) hx hb dX7_share_55 (by decide) ?_
        exact b_X7_share_68 X ih x4 x3 (0 : Int32) M_9 hf hP hS (lv_sub hl [0, 1, 2, 4] rfl)
def f_X7_share (x1 : Int32) (x2 : Int32) (M : Mem) : Option (Int32 × Mem) :=
  cb (f_X7_isTooth x1 M) fun r_3 M_2 =>
  if r_3 = 0 then
    some ((-1000001 : Int32), M_2)
  else
    cb (f_X7_in ((x2).toInt64) (0 : Int64) (999 : Int64) M_2) fun r_7 M_6 =>
    if r_7 = 0 then
      some ((-1000001 : Int32), M_6)
    else
      f_X7_share_28 x1 x2 FU (0 : Int32) (0 : Int32) M_6
set_option maxRecDepth 20000 in
theorem c_X7_share (l : Launch) (g : GC) {x1 : Int32} {x2 : Int32}  {M : Mem} {out : Int32 × Mem} (hf : f_X7_share x1 x2 M = some out) : cI l g yX7_share cX7_share 8 (some .int) (rM 2 46) [.ref (gz g + 279), .int x1, .int x2] M out := by
  refine g_met (by decide) (Nat.le_of_ble_eq_true rfl) ?_
  intro p e s m below meth c X hP hS ls hl
  have X : Bx p s m _ meth c RX7 cX7_share 8 (some .int) g := X
  have hl : lv_has ls 8 [(0, .ref (gz g + 279)), (1, .int x1), (2, .int x2)] := hl
  have hx := X.1
  have hb := X.2.1
  refine lv_aload_n hx hb dX7_share_0 rfl (lv_at hl 0 rfl) ?_
  refine lv_iload_n hx hb dX7_share_1 rfl (lv_at hl 1 rfl) ?_
  obtain ⟨r_3, M_2, hc_1, hf⟩ := cb_s hf
  refine g_goi (g_run X (c_X7_isTooth l g  hc_1) s_X7_isTooth (oB_7 kc_279) q4_221 ⟨Nat.le_of_ble_eq_true rfl, Nat.le_of_ble_eq_true rfl⟩ hP hS rfl hl.1 rfl (Nat.le_of_ble_eq_true rfl) ⟨Nat.le_refl _, Nat.le_refl _⟩ dX7_share_2) hS (fun H locs hP hS => ?_)
  refine lv_if_eq (tgt := 20) hx hb dX7_share_5 (by decide) (fun h_4 => ?_) (fun h_4 => ?_)
  · replace hf := it_t hf h_4
    refine lv_ldc hx hb X.2.2.2.1 (X.2.2.2.2.1 _ q4_93) dX7_share_20 ?_
    exact g_iret X hP hS (sm_i hf) dX7_share_22
  · replace hf := it_f hf h_4
    refine lv_iload_n hx hb dX7_share_8 rfl (lv_at hl 2 rfl) ?_
    refine lv_i2l hx hb dX7_share_9 rfl ?_
    refine lv_lconst (v := (0 : Int64)) hx hb dX7_share_10 (by decide) ?_
    refine lv_ldc2 hx hb X.2.2.2.1 (X.2.2.2.2.1 _ q5_75) dX7_share_11 ?_
    obtain ⟨r_7, M_6, hc_5, hf⟩ := cb_s hf
    refine g_goi (g_runS X (c_X7_in l g  hc_5) s_X7_in q4_89 ⟨Nat.le_of_ble_eq_true rfl, Nat.le_of_ble_eq_true rfl⟩ hP hS rfl hl.1 rfl (Nat.le_of_ble_eq_true rfl) ⟨Nat.le_refl _, Nat.le_refl _⟩ dX7_share_14) hS (fun H locs hP hS => ?_)
    refine lv_if_ne (tgt := 23) hx hb dX7_share_17 (by decide) (fun h_8 => ?_) (fun h_8 => ?_)
    · replace hf := it_f hf h_8
      refine lv_iconst (v := (0 : Int32)) hx hb dX7_share_23 (by decide) ?_
      refine lv_istore_n (lv' := [(3, .int (0 : Int32)), (0, .ref (gz g + 279)), (1, .int x1), (2, .int x2)]) hx hb dX7_share_24 rfl hl (by decide) rfl (fun ls hl => ?_)
      refine lv_iconst (v := (0 : Int32)) hx hb dX7_share_25 (by decide) ?_
      refine lv_istore (lv' := [(4, .int (0 : Int32)), (3, .int (0 : Int32)), (0, .ref (gz g + 279)), (1, .int x1), (2, .int x2)]) hx hb dX7_share_26 hl (by decide) rfl (fun ls hl => ?_)
      exact b_X7_share_28 X  FU (0 : Int32) (0 : Int32) M_6 _ _ _ hf hP hS (lv_sub hl [2, 3, 4, 1, 0] rfl)
    · replace hf := it_t hf h_8
      refine lv_ldc hx hb X.2.2.2.1 (X.2.2.2.2.1 _ q4_93) dX7_share_20 ?_
      exact g_iret X hP hS (sm_i hf) dX7_share_22
def f_X7_loudBy_78 (x2 : Int32) (x3 : Int32) (k38 : Int32 → Mem → Option (Int32 × Mem)) (x5 : Int32) (t1 : Int32) (t2 : Int32) (M : Mem) : Option (Int32 × Mem) :=
  ck t1 1247 <|
  lt (up2 M 280 t1.toNatClampNeg t2) fun M_1 =>
  k38 (x5 + (1 : Int32)) M_1
set_option maxRecDepth 20000 in
theorem b_X7_loudBy_78 {out : Int32 × Mem} (X : Bx p s m args meth c RX7 cX7_loudBy 6 (some .int) g)   {x2 : Int32} {x3 : Int32}   {k38 : Int32 → Mem → Option (Int32 × Mem)} (hk38 : ∀ (x5 : Int32) (M : Mem) (H : Heap) (locs : List Loc) (ls : Array Slot), k38 x5 M = some out → va_P g.1 vwCl (gW g M) H → va_S (gA g) s.heap H locs → lv_has ls 6 [(0, .ref (gz g + 279)), (2, .int x2), (3, .int x3), (5, .int x5)] → W p l e (rM 4 89) s m args below meth c H locs 0 0 (MQ below (qI g out) args s 0 0 (gA g)) (F0 m 38 ls [])) (x5 : Int32) (t1 : Int32) (t2 : Int32) (M : Mem) {H : Heap} {locs : List Loc} {ls : Array Slot} (hf : f_X7_loudBy_78 x2 x3 k38 x5 t1 t2 M = some out) (hP : va_P g.1 vwCl (gW g M) H) (hS : va_S (gA g) s.heap H locs) (hl : lv_has ls 6 [(0, .ref (gz g + 279)), (2, .int x2), (3, .int x3), (5, .int x5)]) : W p l e (rM 4 89) s m args below meth c H locs 0 0 (MQ below (qI g out) args s 0 0 (gA g)) (F0 m 78 ls [.int t2, .int t1, .ref (gz g + 280)]) := by
  have hx := X.1
  have hb := X.2.1
  obtain ⟨hi_2, hf⟩ := ck_s hf
  refine ga_st X hP hS (iA_13 kc_280) hi_2 dX7_loudBy_78 (fun H locs M_1 eM_1 hP hS => ?_)
  replace hf := lt_go hf eM_1
  refine lv_iinc (v := (x5 + (1 : Int32))) (lv' := [(5, .int (x5 + (1 : Int32))), (0, .ref (gz g + 279)), (2, .int x2), (3, .int x3)]) hx hb dX7_loudBy_79 hl (k := 3) rfl rfl (by decide) rfl (fun ls hl => ?_)
  refine lv_goto (tgt := 38) hx hb dX7_loudBy_82 (by decide) ?_
  exact hk38 (x5 + (1 : Int32)) M_1 _ _ _ hf hP hS (lv_sub hl [1, 2, 3, 0] rfl)
def f_X7_loudBy_38 (x2 : Int32) (x3 : Int32)  : Nat → Int32 → Mem → Option (Int32 × Mem)
  | 0, _, _ => none
  | n + 1, x5, M =>
    if x2 ≤ x5 then
      cv (f_X7_goesOn x3 M) fun M_3 =>
      cb (f_X7_loud (43 : Int32) M_3) fun r_6 M_5 =>
      some (r_6, M_5)
    else
      if ((M 280 45) + (2 : Int32)) ≤ (99 : Int32) then
        f_X7_loudBy_78 x2 x3 (f_X7_loudBy_38 x2 x3 n) x5 (45 : Int32) ((M 280 45) + (2 : Int32)) M
      else
        f_X7_loudBy_78 x2 x3 (f_X7_loudBy_38 x2 x3 n) x5 (45 : Int32) (99 : Int32) M
set_option maxRecDepth 20000 in
theorem b_X7_loudBy_38 {out : Int32 × Mem} (X : Bx p s m args meth c RX7 cX7_loudBy 6 (some .int) g)   {x2 : Int32} {x3 : Int32}     : ∀ (n : Nat) (x5 : Int32) (M : Mem) (H : Heap) (locs : List Loc) (ls : Array Slot), f_X7_loudBy_38 x2 x3 n x5 M = some out → va_P g.1 vwCl (gW g M) H → va_S (gA g) s.heap H locs → lv_has ls 6 [(0, .ref (gz g + 279)), (2, .int x2), (3, .int x3), (5, .int x5)] → W p l e (rM 4 89) s m args below meth c H locs 0 0 (MQ below (qI g out) args s 0 0 (gA g)) (F0 m 38 ls []) := by
  have hx := X.1
  have hb := X.2.1
  intro n
  induction n with
  | zero => intro _ _ _ _ _ hf; cases hf
  | succ n ih =>
    intro x5 M H locs ls hf hP hS hl
    rw [f_X7_loudBy_38] at hf
    refine lv_iload hx hb dX7_loudBy_38 (lv_at hl 3 rfl) ?_
    refine lv_iload_n hx hb dX7_loudBy_40 rfl (lv_at hl 1 rfl) ?_
    refine lv_icmp_ge (tgt := 85) hx hb dX7_loudBy_41 (by decide) (fun h_1 => ?_) (fun h_1 => ?_)
    · replace hf := it_t hf h_1
      refine lv_aload_n hx hb dX7_loudBy_85 rfl (lv_at hl 0 rfl) ?_
      refine lv_iload_n hx hb dX7_loudBy_86 rfl (lv_at hl 2 rfl) ?_
      obtain ⟨M_3, hc_2, hf⟩ := cv_s hf
      refine g_gov (g_run X (c_X7_goesOn l g  hc_2) s_X7_goesOn (oB_7 kc_279) q5_26 ⟨Nat.le_of_ble_eq_true rfl, Nat.le_of_ble_eq_true rfl⟩ hP hS rfl hl.1 rfl (Nat.le_of_ble_eq_true rfl) ⟨Nat.le_refl _, Nat.le_refl _⟩ dX7_loudBy_87) hS (fun H locs hP hS => ?_)
      refine lv_aload_n hx hb dX7_loudBy_90 rfl (lv_at hl 0 rfl) ?_
      refine lv_bipush (v := (43 : Int32)) hx hb dX7_loudBy_91 (by decide) ?_
      obtain ⟨r_6, M_5, hc_4, hf⟩ := cb_s hf
      refine g_goi (g_run X (c_X7_loud l g  hc_4) s_X7_loud (oB_7 kc_279) q4_204 ⟨Nat.le_of_ble_eq_true rfl, Nat.le_of_ble_eq_true rfl⟩ hP hS rfl hl.1 rfl (Nat.le_of_ble_eq_true rfl) ⟨Nat.le_refl _, Nat.le_refl _⟩ dX7_loudBy_93) hS (fun H locs hP hS => ?_)
      exact g_iret X hP hS (sm_i hf) dX7_loudBy_96
    · replace hf := it_f hf h_1
      refine lv_aload_n hx hb dX7_loudBy_44 rfl (lv_at hl 0 rfl) ?_
      refine gf_7_0 X hP kc_279 q4_25 dX7_loudBy_45 ?_
      refine lv_bipush (v := (45 : Int32)) hx hb dX7_loudBy_48 (by decide) ?_
      refine lv_aload_n hx hb dX7_loudBy_50 rfl (lv_at hl 0 rfl) ?_
      refine gf_7_0 X hP kc_279 q4_25 dX7_loudBy_51 ?_
      refine lv_bipush (v := (45 : Int32)) hx hb dX7_loudBy_54 (by decide) ?_
      refine ga_ldj (j := 45) X hP (iA_13 kc_280) (by unfold vp_in; decide) (by decide) dX7_loudBy_56 ?_
      refine lv_iconst (v := (2 : Int32)) hx hb dX7_loudBy_57 (by decide) ?_
      refine lv_iadd hx hb dX7_loudBy_58 ?_
      refine lv_bipush (v := (99 : Int32)) hx hb dX7_loudBy_59 (by decide) ?_
      refine lv_icmp_le (tgt := 69) hx hb dX7_loudBy_61 (by decide) (fun h_7 => ?_) (fun h_7 => ?_)
      · replace hf := it_t hf h_7
        refine lv_aload_n hx hb dX7_loudBy_69 rfl (lv_at hl 0 rfl) ?_
        refine gf_7_0 X hP kc_279 q4_25 dX7_loudBy_70 ?_
        refine lv_bipush (v := (45 : Int32)) hx hb dX7_loudBy_73 (by decide) ?_
        refine ga_ldj (j := 45) X hP (iA_13 kc_280) (by unfold vp_in; decide) (by decide) dX7_loudBy_75 ?_
        refine lv_iconst (v := (2 : Int32)) hx hb dX7_loudBy_76 (by decide) ?_
        refine lv_iadd hx hb dX7_loudBy_77 ?_
        exact b_X7_loudBy_78 X ih x5 (45 : Int32) ((M 280 45) + (2 : Int32)) M hf hP hS hl
      · replace hf := it_f hf h_7
        refine lv_bipush (v := (99 : Int32)) hx hb dX7_loudBy_64 (by decide) ?_
        refine lv_goto (tgt := 78) hx hb dX7_loudBy_66 (by decide) ?_
        exact b_X7_loudBy_78 X ih x5 (45 : Int32) (99 : Int32) M hf hP hS hl
def f_X7_loudBy (x1 : Int32) (x2 : Int32) (x3 : Int32) (M : Mem) : Option (Int32 × Mem) :=
  cv (f_X7_tries M) fun M_2 =>
  cz (M_2 280 1) <|
  lt (((M_2 280 3) + (1 : Int32)) - ((M_2 280 3) + (1 : Int32)) / (M_2 280 1) * (M_2 280 1)) fun x4_4 =>
  ck ((73 : Int32) + x4_4) 1247 <|
  ck ((73 : Int32) + x4_4) 1247 <|
  lt (up2 M_2 280 (((73 : Int32) + x4_4)).toNatClampNeg ((M_2 280 (((73 : Int32) + x4_4)).toNatClampNeg) ^^^ x1)) fun M_6 =>
  f_X7_loudBy_38 x2 x3 FU (0 : Int32) M_6
set_option maxRecDepth 20000 in
theorem c_X7_loudBy (l : Launch) (g : GC) {x1 : Int32} {x2 : Int32} {x3 : Int32}  {M : Mem} {out : Int32 × Mem} (hf : f_X7_loudBy x1 x2 x3 M = some out) : cI l g yX7_loudBy cX7_loudBy 6 (some .int) (rM 4 89) [.ref (gz g + 279), .int x1, .int x2, .int x3] M out := by
  refine g_met (by decide) (Nat.le_of_ble_eq_true rfl) ?_
  intro p e s m below meth c X hP hS ls hl
  have X : Bx p s m _ meth c RX7 cX7_loudBy 6 (some .int) g := X
  have hl : lv_has ls 6 [(0, .ref (gz g + 279)), (1, .int x1), (2, .int x2), (3, .int x3)] := hl
  have hx := X.1
  have hb := X.2.1
  refine lv_aload_n hx hb dX7_loudBy_0 rfl (lv_at hl 0 rfl) ?_
  obtain ⟨M_2, hc_1, hf⟩ := cv_s hf
  refine g_gov (g_run X (c_X7_tries l g  hc_1) s_X7_tries (oB_7 kc_279) q5_22 ⟨Nat.le_of_ble_eq_true rfl, Nat.le_of_ble_eq_true rfl⟩ hP hS rfl hl.1 rfl (Nat.le_of_ble_eq_true rfl) ⟨Nat.le_refl _, Nat.le_refl _⟩ dX7_loudBy_1) hS (fun H locs hP hS => ?_)
  refine lv_aload_n hx hb dX7_loudBy_4 rfl (lv_at hl 0 rfl) ?_
  refine gf_7_0 X hP kc_279 q4_25 dX7_loudBy_5 ?_
  refine lv_iconst (v := (3 : Int32)) hx hb dX7_loudBy_8 (by decide) ?_
  refine ga_ldj (j := 3) X hP (iA_13 kc_280) (by unfold vp_in; decide) (by decide) dX7_loudBy_9 ?_
  refine lv_iconst (v := (1 : Int32)) hx hb dX7_loudBy_10 (by decide) ?_
  refine lv_iadd hx hb dX7_loudBy_11 ?_
  refine lv_aload_n hx hb dX7_loudBy_12 rfl (lv_at hl 0 rfl) ?_
  refine gf_7_0 X hP kc_279 q4_25 dX7_loudBy_13 ?_
  refine lv_iconst (v := (1 : Int32)) hx hb dX7_loudBy_16 (by decide) ?_
  refine ga_ldj (j := 1) X hP (iA_13 kc_280) (by unfold vp_in; decide) (by decide) dX7_loudBy_17 ?_
  obtain ⟨hz_3, hf⟩ := cz_s hf
  refine lv_irem hx hb dX7_loudBy_18 hz_3 ?_
  refine lv_topi (fun x4_4 ex4_4 => ?_)
  replace hf := lt_go hf ex4_4
  refine lv_istore (lv' := [(4, .int x4_4), (0, .ref (gz g + 279)), (1, .int x1), (2, .int x2), (3, .int x3)]) hx hb dX7_loudBy_19 hl (by decide) rfl (fun ls hl => ?_)
  refine lv_aload_n hx hb dX7_loudBy_21 rfl (lv_at hl 1 rfl) ?_
  refine gf_7_0 X hP kc_279 q4_25 dX7_loudBy_22 ?_
  refine lv_bipush (v := (73 : Int32)) hx hb dX7_loudBy_25 (by decide) ?_
  refine lv_iload hx hb dX7_loudBy_27 (lv_at hl 0 rfl) ?_
  refine lv_iadd hx hb dX7_loudBy_29 ?_
  refine lv_dup2_11 hx hb dX7_loudBy_30 rfl rfl ?_
  obtain ⟨hi_5, hf⟩ := ck_s hf
  refine ga_ld X hP (iA_13 kc_280) hi_5 dX7_loudBy_31 ?_
  refine lv_iload_n hx hb dX7_loudBy_32 rfl (lv_at hl 2 rfl) ?_
  refine lv_ixor hx hb dX7_loudBy_33 ?_
  obtain ⟨hi_7, hf⟩ := ck_s hf
  refine ga_st X hP hS (iA_13 kc_280) hi_7 dX7_loudBy_34 (fun H locs M_6 eM_6 hP hS => ?_)
  replace hf := lt_go hf eM_6
  refine lv_iconst (v := (0 : Int32)) hx hb dX7_loudBy_35 (by decide) ?_
  refine lv_istore (lv' := [(5, .int (0 : Int32)), (4, .int x4_4), (0, .ref (gz g + 279)), (1, .int x1), (2, .int x2), (3, .int x3)]) hx hb dX7_loudBy_36 hl (by decide) rfl (fun ls hl => ?_)
  exact b_X7_loudBy_38 X  FU (0 : Int32) M_6 _ _ _ hf hP hS (lv_sub hl [2, 4, 5, 0] rfl)
def f_X7_byTurns_216  (k77 : Int32 → Mem → Option (Int32 × Mem)) (k84 : Int32 → Int32 → Mem → Option (Int32 × Mem)) (x3 : Int32) (x4 : Int32) (t1 : Int32) (t2 : Int32) (M : Mem) : Option (Int32 × Mem) :=
  ck t1 30 <|
  lt (up2 M 286 t1.toNatClampNeg t2) fun M_1 =>
  k84 x3 (x4 + (1 : Int32)) M_1
set_option maxRecDepth 20000 in
theorem b_X7_byTurns_216 {out : Int32 × Mem} (X : Bx p s m args meth c RX7 cX7_byTurns 9 (some .int) g)      {k77 : Int32 → Mem → Option (Int32 × Mem)} {k84 : Int32 → Int32 → Mem → Option (Int32 × Mem)} (hk77 : ∀ (x3 : Int32) (M : Mem) (H : Heap) (locs : List Loc) (ls : Array Slot), k77 x3 M = some out → va_P g.1 vwCl (gW g M) H → va_S (gA g) s.heap H locs → lv_has ls 9 [(0, .ref (gz g + 279)), (3, .int x3)] → W p l e (rM 5 114) s m args below meth c H locs 0 0 (MQ below (qI g out) args s 0 0 (gA g)) (F0 m 77 ls [])) (hk84 : ∀ (x3 : Int32) (x4 : Int32) (M : Mem) (H : Heap) (locs : List Loc) (ls : Array Slot), k84 x3 x4 M = some out → va_P g.1 vwCl (gW g M) H → va_S (gA g) s.heap H locs → lv_has ls 9 [(0, .ref (gz g + 279)), (3, .int x3), (4, .int x4)] → W p l e (rM 5 114) s m args below meth c H locs 0 0 (MQ below (qI g out) args s 0 0 (gA g)) (F0 m 84 ls [])) (x3 : Int32) (x4 : Int32) (t1 : Int32) (t2 : Int32) (M : Mem) {H : Heap} {locs : List Loc} {ls : Array Slot} (hf : f_X7_byTurns_216 k77 k84 x3 x4 t1 t2 M = some out) (hP : va_P g.1 vwCl (gW g M) H) (hS : va_S (gA g) s.heap H locs) (hl : lv_has ls 9 [(0, .ref (gz g + 279)), (3, .int x3), (4, .int x4)]) : W p l e (rM 5 114) s m args below meth c H locs 0 0 (MQ below (qI g out) args s 0 0 (gA g)) (F0 m 216 ls [.int t2, .int t1, .ref (gz g + 286)]) := by
  have hx := X.1
  have hb := X.2.1
  obtain ⟨hi_2, hf⟩ := ck_s hf
  refine ga_st X hP hS (iA_16 kc_286) hi_2 dX7_byTurns_216 (fun H locs M_1 eM_1 hP hS => ?_)
  replace hf := lt_go hf eM_1
  refine lv_iinc (v := (x4 + (1 : Int32))) (lv' := [(4, .int (x4 + (1 : Int32))), (0, .ref (gz g + 279)), (3, .int x3)]) hx hb dX7_byTurns_217 hl (k := 2) rfl rfl (by decide) rfl (fun ls hl => ?_)
  refine lv_goto (tgt := 84) hx hb dX7_byTurns_220 (by decide) ?_
  exact hk84 x3 (x4 + (1 : Int32)) M_1 _ _ _ hf hP hS (lv_sub hl [1, 2, 0] rfl)
def f_X7_byTurns_191  (k77 : Int32 → Mem → Option (Int32 × Mem)) (k84 : Int32 → Int32 → Mem → Option (Int32 × Mem)) (x3 : Int32) (x4 : Int32) (x5 : Int32) (x7 : Int32) (t0 : Int32) (M : Mem) : Option (Int32 × Mem) :=
  if t0 = 0 then
    f_X7_byTurns_216 k77 k84 x3 x4 (((6 : Int32) * x3) + x4) x5 M
  else
    f_X7_byTurns_216 k77 k84 x3 x4 (((6 : Int32) * x3) + x4) x7 M
set_option maxRecDepth 20000 in
theorem b_X7_byTurns_191 {out : Int32 × Mem} (X : Bx p s m args meth c RX7 cX7_byTurns 9 (some .int) g)      {k77 : Int32 → Mem → Option (Int32 × Mem)} {k84 : Int32 → Int32 → Mem → Option (Int32 × Mem)} (hk77 : ∀ (x3 : Int32) (M : Mem) (H : Heap) (locs : List Loc) (ls : Array Slot), k77 x3 M = some out → va_P g.1 vwCl (gW g M) H → va_S (gA g) s.heap H locs → lv_has ls 9 [(0, .ref (gz g + 279)), (3, .int x3)] → W p l e (rM 5 114) s m args below meth c H locs 0 0 (MQ below (qI g out) args s 0 0 (gA g)) (F0 m 77 ls [])) (hk84 : ∀ (x3 : Int32) (x4 : Int32) (M : Mem) (H : Heap) (locs : List Loc) (ls : Array Slot), k84 x3 x4 M = some out → va_P g.1 vwCl (gW g M) H → va_S (gA g) s.heap H locs → lv_has ls 9 [(0, .ref (gz g + 279)), (3, .int x3), (4, .int x4)] → W p l e (rM 5 114) s m args below meth c H locs 0 0 (MQ below (qI g out) args s 0 0 (gA g)) (F0 m 84 ls [])) (x3 : Int32) (x4 : Int32) (x5 : Int32) (x7 : Int32) (t0 : Int32) (M : Mem) {H : Heap} {locs : List Loc} {ls : Array Slot} (hf : f_X7_byTurns_191 k77 k84 x3 x4 x5 x7 t0 M = some out) (hP : va_P g.1 vwCl (gW g M) H) (hS : va_S (gA g) s.heap H locs) (hl : lv_has ls 9 [(0, .ref (gz g + 279)), (3, .int x3), (4, .int x4), (5, .int x5), (7, .int x7)]) : W p l e (rM 5 114) s m args below meth c H locs 0 0 (MQ below (qI g out) args s 0 0 (gA g)) (F0 m 191 ls [.int t0]) := by
  have hx := X.1
  have hb := X.2.1
  refine lv_istore (lv' := [(8, .int t0), (0, .ref (gz g + 279)), (3, .int x3), (4, .int x4), (5, .int x5), (7, .int x7)]) hx hb dX7_byTurns_191 hl (by decide) rfl (fun ls hl => ?_)
  refine lv_aload_n hx hb dX7_byTurns_193 rfl (lv_at hl 1 rfl) ?_
  refine gf_7_13 X hP kc_279 q4_38 dX7_byTurns_194 ?_
  refine lv_bipush (v := (6 : Int32)) hx hb dX7_byTurns_197 (by decide) ?_
  refine lv_iload_n hx hb dX7_byTurns_199 rfl (lv_at hl 2 rfl) ?_
  refine lv_imul hx hb dX7_byTurns_200 ?_
  refine lv_iload hx hb dX7_byTurns_201 (lv_at hl 3 rfl) ?_
  refine lv_iadd hx hb dX7_byTurns_203 ?_
  refine lv_iload hx hb dX7_byTurns_204 (lv_at hl 0 rfl) ?_
  refine lv_if_eq (tgt := 214) hx hb dX7_byTurns_206 (by decide) (fun h_1 => ?_) (fun h_1 => ?_)
  · replace hf := it_t hf h_1
    refine lv_iload hx hb dX7_byTurns_214 (lv_at hl 4 rfl) ?_
    exact b_X7_byTurns_216 X hk77 hk84 x3 x4 (((6 : Int32) * x3) + x4) x5 M hf hP hS (lv_sub hl [1, 2, 3] rfl)
  · replace hf := it_f hf h_1
    refine lv_iload hx hb dX7_byTurns_209 (lv_at hl 5 rfl) ?_
    refine lv_goto (tgt := 216) hx hb dX7_byTurns_211 (by decide) ?_
    exact b_X7_byTurns_216 X hk77 hk84 x3 x4 (((6 : Int32) * x3) + x4) x7 M hf hP hS (lv_sub hl [1, 2, 3] rfl)
def f_X7_byTurns_140  (k77 : Int32 → Mem → Option (Int32 × Mem)) (k84 : Int32 → Int32 → Mem → Option (Int32 × Mem)) (x3 : Int32) (x4 : Int32) (x5 : Int32) (t0 : Int32) (M : Mem) : Option (Int32 × Mem) :=
  ck (((6 : Int32) * (x3 + (1 : Int32))) + t0) 30 <|
  lt (M 286 ((((6 : Int32) * (x3 + (1 : Int32))) + t0)).toNatClampNeg) fun x7_2 =>
  if (x3 - x3 / (2 : Int32) * (2 : Int32)) = 0 then
    if x7_2 ≤ x5 then
      f_X7_byTurns_191 k77 k84 x3 x4 x5 x7_2 (0 : Int32) M
    else
      f_X7_byTurns_191 k77 k84 x3 x4 x5 x7_2 (1 : Int32) M
  else
    if x5 ≤ x7_2 then
      f_X7_byTurns_191 k77 k84 x3 x4 x5 x7_2 (0 : Int32) M
    else
      f_X7_byTurns_191 k77 k84 x3 x4 x5 x7_2 (1 : Int32) M
set_option maxRecDepth 20000 in
theorem b_X7_byTurns_140 {out : Int32 × Mem} (X : Bx p s m args meth c RX7 cX7_byTurns 9 (some .int) g)      {k77 : Int32 → Mem → Option (Int32 × Mem)} {k84 : Int32 → Int32 → Mem → Option (Int32 × Mem)} (hk77 : ∀ (x3 : Int32) (M : Mem) (H : Heap) (locs : List Loc) (ls : Array Slot), k77 x3 M = some out → va_P g.1 vwCl (gW g M) H → va_S (gA g) s.heap H locs → lv_has ls 9 [(0, .ref (gz g + 279)), (3, .int x3)] → W p l e (rM 5 114) s m args below meth c H locs 0 0 (MQ below (qI g out) args s 0 0 (gA g)) (F0 m 77 ls [])) (hk84 : ∀ (x3 : Int32) (x4 : Int32) (M : Mem) (H : Heap) (locs : List Loc) (ls : Array Slot), k84 x3 x4 M = some out → va_P g.1 vwCl (gW g M) H → va_S (gA g) s.heap H locs → lv_has ls 9 [(0, .ref (gz g + 279)), (3, .int x3), (4, .int x4)] → W p l e (rM 5 114) s m args below meth c H locs 0 0 (MQ below (qI g out) args s 0 0 (gA g)) (F0 m 84 ls [])) (x3 : Int32) (x4 : Int32) (x5 : Int32) (t0 : Int32) (M : Mem) {H : Heap} {locs : List Loc} {ls : Array Slot} (hf : f_X7_byTurns_140 k77 k84 x3 x4 x5 t0 M = some out) (hP : va_P g.1 vwCl (gW g M) H) (hS : va_S (gA g) s.heap H locs) (hl : lv_has ls 9 [(0, .ref (gz g + 279)), (3, .int x3), (4, .int x4), (5, .int x5)]) : W p l e (rM 5 114) s m args below meth c H locs 0 0 (MQ below (qI g out) args s 0 0 (gA g)) (F0 m 140 ls [.int t0]) := by
  have hx := X.1
  have hb := X.2.1
  refine lv_istore (lv' := [(6, .int t0), (0, .ref (gz g + 279)), (3, .int x3), (4, .int x4), (5, .int x5)]) hx hb dX7_byTurns_140 hl (by decide) rfl (fun ls hl => ?_)
  refine lv_aload_n hx hb dX7_byTurns_142 rfl (lv_at hl 1 rfl) ?_
  refine gf_7_13 X hP kc_279 q4_38 dX7_byTurns_143 ?_
  refine lv_bipush (v := (6 : Int32)) hx hb dX7_byTurns_146 (by decide) ?_
  refine lv_iload_n hx hb dX7_byTurns_148 rfl (lv_at hl 2 rfl) ?_
  refine lv_iconst (v := (1 : Int32)) hx hb dX7_byTurns_149 (by decide) ?_
  refine lv_iadd hx hb dX7_byTurns_150 ?_
  refine lv_imul hx hb dX7_byTurns_151 ?_
  refine lv_iload hx hb dX7_byTurns_152 (lv_at hl 0 rfl) ?_
  refine lv_iadd hx hb dX7_byTurns_154 ?_
  obtain ⟨hi_1, hf⟩ := ck_s hf
  refine ga_ld X hP (iA_16 kc_286) hi_1 dX7_byTurns_155 ?_
  refine lv_topi (fun x7_2 ex7_2 => ?_)
  replace hf := lt_go hf ex7_2
  refine lv_istore (lv' := [(7, .int x7_2), (6, .int t0), (0, .ref (gz g + 279)), (3, .int x3), (4, .int x4), (5, .int x5)]) hx hb dX7_byTurns_156 hl (by decide) rfl (fun ls hl => ?_)
  refine lv_iload_n hx hb dX7_byTurns_158 rfl (lv_at hl 3 rfl) ?_
  refine lv_iconst (v := (2 : Int32)) hx hb dX7_byTurns_159 (by decide) ?_
  refine lv_irem hx hb dX7_byTurns_160 (by decide) ?_
  refine lv_if_ne (tgt := 179) hx hb dX7_byTurns_161 (by decide) (fun h_3 => ?_) (fun h_3 => ?_)
  · replace hf := it_f hf h_3
    refine lv_iload hx hb dX7_byTurns_179 (lv_at hl 0 rfl) ?_
    refine lv_iload hx hb dX7_byTurns_181 (lv_at hl 5 rfl) ?_
    refine lv_icmp_ge (tgt := 190) hx hb dX7_byTurns_183 (by decide) (fun h_4 => ?_) (fun h_4 => ?_)
    · replace hf := it_t hf h_4
      refine lv_iconst (v := (0 : Int32)) hx hb dX7_byTurns_190 (by decide) ?_
      exact b_X7_byTurns_191 X hk77 hk84 x3 x4 x5 x7_2 (0 : Int32) M hf hP hS (lv_sub hl [2, 3, 4, 5, 0] rfl)
    · replace hf := it_f hf h_4
      refine lv_iconst (v := (1 : Int32)) hx hb dX7_byTurns_186 (by decide) ?_
      refine lv_goto (tgt := 191) hx hb dX7_byTurns_187 (by decide) ?_
      exact b_X7_byTurns_191 X hk77 hk84 x3 x4 x5 x7_2 (1 : Int32) M hf hP hS (lv_sub hl [2, 3, 4, 5, 0] rfl)
  · replace hf := it_t hf h_3
    refine lv_iload hx hb dX7_byTurns_164 (lv_at hl 0 rfl) ?_
    refine lv_iload hx hb dX7_byTurns_166 (lv_at hl 5 rfl) ?_
    refine lv_icmp_le (tgt := 175) hx hb dX7_byTurns_168 (by decide) (fun h_5 => ?_) (fun h_5 => ?_)
    · replace hf := it_t hf h_5
      refine lv_iconst (v := (0 : Int32)) hx hb dX7_byTurns_175 (by decide) ?_
      refine lv_goto (tgt := 191) hx hb dX7_byTurns_176 (by decide) ?_
      exact b_X7_byTurns_191 X hk77 hk84 x3 x4 x5 x7_2 (0 : Int32) M hf hP hS (lv_sub hl [2, 3, 4, 5, 0] rfl)
    · replace hf := it_f hf h_5
      refine lv_iconst (v := (1 : Int32)) hx hb dX7_byTurns_171 (by decide) ?_
      refine lv_goto (tgt := 191) hx hb dX7_byTurns_172 (by decide) ?_
      exact b_X7_byTurns_191 X hk77 hk84 x3 x4 x5 x7_2 (1 : Int32) M hf hP hS (lv_sub hl [2, 3, 4, 5, 0] rfl)
def f_X7_byTurns_84  (k77 : Int32 → Mem → Option (Int32 × Mem)) : Nat → Int32 → Int32 → Mem → Option (Int32 × Mem)
  | 0, _, _, _ => none
  | n + 1, x3, x4, M =>
    if (6 : Int32) ≤ x4 then
      k77 (x3 + (-1 : Int32)) M
    else
      ck (((6 : Int32) * (x3 + (1 : Int32))) + x4) 30 <|
      lt (M 286 ((((6 : Int32) * (x3 + (1 : Int32))) + x4)).toNatClampNeg) fun x5_3 =>
      if (x3 - x3 / (2 : Int32) * (2 : Int32)) = 0 then
        f_X7_byTurns_140 k77 (f_X7_byTurns_84 k77 n) x3 x4 x5_3 ((x4 + (3 : Int32)) - (x4 + (3 : Int32)) / (6 : Int32) * (6 : Int32)) M
      else
        if (2 : Int32) ≤ (x4 - x4 / (3 : Int32) * (3 : Int32)) then
          f_X7_byTurns_140 k77 (f_X7_byTurns_84 k77 n) x3 x4 x5_3 x4 M
        else
          f_X7_byTurns_140 k77 (f_X7_byTurns_84 k77 n) x3 x4 x5_3 (x4 + (1 : Int32)) M
set_option maxRecDepth 20000 in
theorem b_X7_byTurns_84 {out : Int32 × Mem} (X : Bx p s m args meth c RX7 cX7_byTurns 9 (some .int) g)      {k77 : Int32 → Mem → Option (Int32 × Mem)} (hk77 : ∀ (x3 : Int32) (M : Mem) (H : Heap) (locs : List Loc) (ls : Array Slot), k77 x3 M = some out → va_P g.1 vwCl (gW g M) H → va_S (gA g) s.heap H locs → lv_has ls 9 [(0, .ref (gz g + 279)), (3, .int x3)] → W p l e (rM 5 114) s m args below meth c H locs 0 0 (MQ below (qI g out) args s 0 0 (gA g)) (F0 m 77 ls [])) : ∀ (n : Nat) (x3 : Int32) (x4 : Int32) (M : Mem) (H : Heap) (locs : List Loc) (ls : Array Slot), f_X7_byTurns_84 k77 n x3 x4 M = some out → va_P g.1 vwCl (gW g M) H → va_S (gA g) s.heap H locs → lv_has ls 9 [(0, .ref (gz g + 279)), (3, .int x3), (4, .int x4)] → W p l e (rM 5 114) s m args below meth c H locs 0 0 (MQ below (qI g out) args s 0 0 (gA g)) (F0 m 84 ls []) := by
  have hx := X.1
  have hb := X.2.1
  intro n
  induction n with
  | zero => intro _ _ _ _ _ _ hf; cases hf
  | succ n ih =>
    intro x3 x4 M H locs ls hf hP hS hl
    rw [f_X7_byTurns_84] at hf
    refine lv_iload hx hb dX7_byTurns_84 (lv_at hl 2 rfl) ?_
    refine lv_bipush (v := (6 : Int32)) hx hb dX7_byTurns_86 (by decide) ?_
    refine lv_icmp_ge (tgt := 223) hx hb dX7_byTurns_88 (by decide) (fun h_1 => ?_) (fun h_1 => ?_)
    · replace hf := it_t hf h_1
      refine lv_iinc (v := (x3 + (-1 : Int32))) (lv' := [(3, .int (x3 + (-1 : Int32))), (0, .ref (gz g + 279)), (4, .int x4)]) hx hb dX7_byTurns_223 hl (k := 1) rfl rfl (by decide) rfl (fun ls hl => ?_)
      refine lv_goto (tgt := 77) hx hb dX7_byTurns_226 (by decide) ?_
      exact hk77 (x3 + (-1 : Int32)) M _ _ _ hf hP hS (lv_sub hl [1, 0] rfl)
    · replace hf := it_f hf h_1
      refine lv_aload_n hx hb dX7_byTurns_91 rfl (lv_at hl 0 rfl) ?_
      refine gf_7_13 X hP kc_279 q4_38 dX7_byTurns_92 ?_
      refine lv_bipush (v := (6 : Int32)) hx hb dX7_byTurns_95 (by decide) ?_
      refine lv_iload_n hx hb dX7_byTurns_97 rfl (lv_at hl 1 rfl) ?_
      refine lv_iconst (v := (1 : Int32)) hx hb dX7_byTurns_98 (by decide) ?_
      refine lv_iadd hx hb dX7_byTurns_99 ?_
      refine lv_imul hx hb dX7_byTurns_100 ?_
      refine lv_iload hx hb dX7_byTurns_101 (lv_at hl 2 rfl) ?_
      refine lv_iadd hx hb dX7_byTurns_103 ?_
      obtain ⟨hi_2, hf⟩ := ck_s hf
      refine ga_ld X hP (iA_16 kc_286) hi_2 dX7_byTurns_104 ?_
      refine lv_topi (fun x5_3 ex5_3 => ?_)
      replace hf := lt_go hf ex5_3
      refine lv_istore (lv' := [(5, .int x5_3), (0, .ref (gz g + 279)), (3, .int x3), (4, .int x4)]) hx hb dX7_byTurns_105 hl (by decide) rfl (fun ls hl => ?_)
      refine lv_iload_n hx hb dX7_byTurns_107 rfl (lv_at hl 2 rfl) ?_
      refine lv_iconst (v := (2 : Int32)) hx hb dX7_byTurns_108 (by decide) ?_
      refine lv_irem hx hb dX7_byTurns_109 (by decide) ?_
      refine lv_if_ne (tgt := 123) hx hb dX7_byTurns_110 (by decide) (fun h_4 => ?_) (fun h_4 => ?_)
      · replace hf := it_f hf h_4
        refine lv_iload hx hb dX7_byTurns_123 (lv_at hl 3 rfl) ?_
        refine lv_iconst (v := (3 : Int32)) hx hb dX7_byTurns_125 (by decide) ?_
        refine lv_irem hx hb dX7_byTurns_126 (by decide) ?_
        refine lv_iconst (v := (2 : Int32)) hx hb dX7_byTurns_127 (by decide) ?_
        refine lv_icmp_ge (tgt := 138) hx hb dX7_byTurns_128 (by decide) (fun h_5 => ?_) (fun h_5 => ?_)
        · replace hf := it_t hf h_5
          refine lv_iload hx hb dX7_byTurns_138 (lv_at hl 3 rfl) ?_
          exact b_X7_byTurns_140 X hk77 ih x3 x4 x5_3 x4 M hf hP hS (lv_sub hl [1, 2, 3, 0] rfl)
        · replace hf := it_f hf h_5
          refine lv_iload hx hb dX7_byTurns_131 (lv_at hl 3 rfl) ?_
          refine lv_iconst (v := (1 : Int32)) hx hb dX7_byTurns_133 (by decide) ?_
          refine lv_iadd hx hb dX7_byTurns_134 ?_
          refine lv_goto (tgt := 140) hx hb dX7_byTurns_135 (by decide) ?_
          exact b_X7_byTurns_140 X hk77 ih x3 x4 x5_3 (x4 + (1 : Int32)) M hf hP hS (lv_sub hl [1, 2, 3, 0] rfl)
      · replace hf := it_t hf h_4
        refine lv_iload hx hb dX7_byTurns_113 (lv_at hl 3 rfl) ?_
        refine lv_iconst (v := (3 : Int32)) hx hb dX7_byTurns_115 (by decide) ?_
        refine lv_iadd hx hb dX7_byTurns_116 ?_
        refine lv_bipush (v := (6 : Int32)) hx hb dX7_byTurns_117 (by decide) ?_
        refine lv_irem hx hb dX7_byTurns_119 (by decide) ?_
        refine lv_goto (tgt := 140) hx hb dX7_byTurns_120 (by decide) ?_
        exact b_X7_byTurns_140 X hk77 ih x3 x4 x5_3 ((x4 + (3 : Int32)) - (x4 + (3 : Int32)) / (6 : Int32) * (6 : Int32)) M hf hP hS (lv_sub hl [1, 2, 3, 0] rfl)
def f_X7_byTurns_77   : Nat → Int32 → Mem → Option (Int32 × Mem)
  | 0, _, _ => none
  | n + 1, x3, M =>
    if x3 < 0 then
      some ((M 286 0), M)
    else
      f_X7_byTurns_84 (f_X7_byTurns_77 n) FU x3 (0 : Int32) M
set_option maxRecDepth 20000 in
theorem b_X7_byTurns_77 {out : Int32 × Mem} (X : Bx p s m args meth c RX7 cX7_byTurns 9 (some .int) g)        : ∀ (n : Nat) (x3 : Int32) (M : Mem) (H : Heap) (locs : List Loc) (ls : Array Slot), f_X7_byTurns_77 n x3 M = some out → va_P g.1 vwCl (gW g M) H → va_S (gA g) s.heap H locs → lv_has ls 9 [(0, .ref (gz g + 279)), (3, .int x3)] → W p l e (rM 5 114) s m args below meth c H locs 0 0 (MQ below (qI g out) args s 0 0 (gA g)) (F0 m 77 ls []) := by
  have hx := X.1
  have hb := X.2.1
  intro n
  induction n with
  | zero => intro _ _ _ _ _ hf; cases hf
  | succ n ih =>
    intro x3 M H locs ls hf hP hS hl
    rw [f_X7_byTurns_77] at hf
    refine lv_iload_n hx hb dX7_byTurns_77 rfl (lv_at hl 1 rfl) ?_
    refine lv_if_lt (tgt := 229) hx hb dX7_byTurns_78 (by decide) (fun h_1 => ?_) (fun h_1 => ?_)
    · replace hf := it_t hf h_1
      refine lv_aload_n hx hb dX7_byTurns_229 rfl (lv_at hl 0 rfl) ?_
      refine gf_7_13 X hP kc_279 q4_38 dX7_byTurns_230 ?_
      refine lv_iconst (v := (0 : Int32)) hx hb dX7_byTurns_233 (by decide) ?_
      refine ga_ldj (j := 0) X hP (iA_16 kc_286) (by unfold vp_in; decide) (by decide) dX7_byTurns_234 ?_
      exact g_iret X hP hS (sm_i hf) dX7_byTurns_235
    · replace hf := it_f hf h_1
      refine lv_iconst (v := (0 : Int32)) hx hb dX7_byTurns_81 (by decide) ?_
      refine lv_istore (lv' := [(4, .int (0 : Int32)), (0, .ref (gz g + 279)), (3, .int x3)]) hx hb dX7_byTurns_82 hl (by decide) rfl (fun ls hl => ?_)
      exact b_X7_byTurns_84 X ih FU x3 (0 : Int32) M _ _ _ hf hP hS (lv_sub hl [1, 2, 0] rfl)
def f_X7_byTurns_39 (x1 : Int32) (x2 : Int32)  : Nat → Int32 → Mem → Option (Int32 × Mem)
  | 0, _, _ => none
  | n + 1, x3, M =>
    if (6 : Int32) ≤ x3 then
      lt (x1 - (1 : Int32)) fun x3_2 =>
      f_X7_byTurns_77 FU x3_2 M
    else
      cb (f_X7_loudBy (x3 / (3 : Int32)) (x3 - x3 / (3 : Int32) * (3 : Int32)) x2 M) fun r_5 M_4 =>
      ck (((6 : Int32) * x1) + x3) 30 <|
      lt (up2 M_4 286 ((((6 : Int32) * x1) + x3)).toNatClampNeg r_5) fun M_6 =>
      (f_X7_byTurns_39 x1 x2 n) (x3 + (1 : Int32)) M_6
set_option maxRecDepth 20000 in
theorem b_X7_byTurns_39 {out : Int32 × Mem} (X : Bx p s m args meth c RX7 cX7_byTurns 9 (some .int) g)   {x1 : Int32} {x2 : Int32}     : ∀ (n : Nat) (x3 : Int32) (M : Mem) (H : Heap) (locs : List Loc) (ls : Array Slot), f_X7_byTurns_39 x1 x2 n x3 M = some out → va_P g.1 vwCl (gW g M) H → va_S (gA g) s.heap H locs → lv_has ls 9 [(0, .ref (gz g + 279)), (1, .int x1), (2, .int x2), (3, .int x3)] → W p l e (rM 5 114) s m args below meth c H locs 0 0 (MQ below (qI g out) args s 0 0 (gA g)) (F0 m 39 ls []) := by
  have hx := X.1
  have hb := X.2.1
  intro n
  induction n with
  | zero => intro _ _ _ _ _ hf; cases hf
  | succ n ih =>
    intro x3 M H locs ls hf hP hS hl
    rw [f_X7_byTurns_39] at hf
    refine lv_iload_n hx hb dX7_byTurns_39 rfl (lv_at hl 3 rfl) ?_
    refine lv_bipush (v := (6 : Int32)) hx hb dX7_byTurns_40 (by decide) ?_
    refine lv_icmp_ge (tgt := 73) hx hb dX7_byTurns_42 (by decide) (fun h_1 => ?_) (fun h_1 => ?_)
    · replace hf := it_t hf h_1
      refine lv_iload_n hx hb dX7_byTurns_73 rfl (lv_at hl 1 rfl) ?_
      refine lv_iconst (v := (1 : Int32)) hx hb dX7_byTurns_74 (by decide) ?_
      refine lv_isub hx hb dX7_byTurns_75 ?_
      refine lv_topi (fun x3_2 ex3_2 => ?_)
      replace hf := lt_go hf ex3_2
      refine lv_istore_n (lv' := [(3, .int x3_2), (0, .ref (gz g + 279)), (1, .int x1), (2, .int x2)]) hx hb dX7_byTurns_76 rfl hl (by decide) rfl (fun ls hl => ?_)
      exact b_X7_byTurns_77 X  FU x3_2 M _ _ _ hf hP hS (lv_sub hl [1, 0] rfl)
    · replace hf := it_f hf h_1
      refine lv_aload_n hx hb dX7_byTurns_45 rfl (lv_at hl 0 rfl) ?_
      refine gf_7_13 X hP kc_279 q4_38 dX7_byTurns_46 ?_
      refine lv_bipush (v := (6 : Int32)) hx hb dX7_byTurns_49 (by decide) ?_
      refine lv_iload_n hx hb dX7_byTurns_51 rfl (lv_at hl 1 rfl) ?_
      refine lv_imul hx hb dX7_byTurns_52 ?_
      refine lv_iload_n hx hb dX7_byTurns_53 rfl (lv_at hl 3 rfl) ?_
      refine lv_iadd hx hb dX7_byTurns_54 ?_
      refine lv_aload_n hx hb dX7_byTurns_55 rfl (lv_at hl 0 rfl) ?_
      refine lv_iload_n hx hb dX7_byTurns_56 rfl (lv_at hl 3 rfl) ?_
      refine lv_iconst (v := (3 : Int32)) hx hb dX7_byTurns_57 (by decide) ?_
      refine lv_idiv hx hb dX7_byTurns_58 (by decide) ?_
      refine lv_iload_n hx hb dX7_byTurns_59 rfl (lv_at hl 3 rfl) ?_
      refine lv_iconst (v := (3 : Int32)) hx hb dX7_byTurns_60 (by decide) ?_
      refine lv_irem hx hb dX7_byTurns_61 (by decide) ?_
      refine lv_iload_n hx hb dX7_byTurns_62 rfl (lv_at hl 2 rfl) ?_
      obtain ⟨r_5, M_4, hc_3, hf⟩ := cb_s hf
      refine g_goi (g_run X (c_X7_loudBy l g  hc_3) s_X7_loudBy (oB_7 kc_279) q5_81 ⟨Nat.le_of_ble_eq_true rfl, Nat.le_of_ble_eq_true rfl⟩ hP hS rfl hl.1 rfl (Nat.le_of_ble_eq_true rfl) ⟨Nat.le_refl _, Nat.le_refl _⟩ dX7_byTurns_63) hS (fun H locs hP hS => ?_)
      obtain ⟨hi_7, hf⟩ := ck_s hf
      refine ga_st X hP hS (iA_16 kc_286) hi_7 dX7_byTurns_66 (fun H locs M_6 eM_6 hP hS => ?_)
      replace hf := lt_go hf eM_6
      refine lv_iinc (v := (x3 + (1 : Int32))) (lv' := [(3, .int (x3 + (1 : Int32))), (0, .ref (gz g + 279)), (1, .int x1), (2, .int x2)]) hx hb dX7_byTurns_67 hl (k := 3) rfl rfl (by decide) rfl (fun ls hl => ?_)
      refine lv_goto (tgt := 39) hx hb dX7_byTurns_70 (by decide) ?_
      exact ih (x3 + (1 : Int32)) M_6 _ _ _ hf hP hS (lv_sub hl [1, 2, 3, 0] rfl)
def f_X7_byTurns (x1 : Int32) (x2 : Int32) (M : Mem) : Option (Int32 × Mem) :=
  cb (f_X7_isBox M) fun r_3 M_2 =>
  if r_3 = 0 then
    some ((-1000002 : Int32), M_2)
  else
    cb (f_X7_in ((x1).toInt64) (0 : Int64) (4 : Int64) M_2) fun r_7 M_6 =>
    if r_7 = 0 then
      some ((-1000001 : Int32), M_6)
    else
      cb (f_X7_in ((x2).toInt64) (1 : Int64) (20 : Int64) M_6) fun r_11 M_10 =>
      if r_11 = 0 then
        some ((-1000001 : Int32), M_10)
      else
        f_X7_byTurns_39 x1 x2 FU (0 : Int32) M_10
set_option maxRecDepth 20000 in
theorem c_X7_byTurns (l : Launch) (g : GC) {x1 : Int32} {x2 : Int32}  {M : Mem} {out : Int32 × Mem} (hf : f_X7_byTurns x1 x2 M = some out) : cI l g yX7_byTurns cX7_byTurns 9 (some .int) (rM 5 114) [.ref (gz g + 279), .int x1, .int x2] M out := by
  refine g_met (by decide) (Nat.le_of_ble_eq_true rfl) ?_
  intro p e s m below meth c X hP hS ls hl
  have X : Bx p s m _ meth c RX7 cX7_byTurns 9 (some .int) g := X
  have hl : lv_has ls 9 [(0, .ref (gz g + 279)), (1, .int x1), (2, .int x2)] := hl
  have hx := X.1
  have hb := X.2.1
  refine lv_aload_n hx hb dX7_byTurns_0 rfl (lv_at hl 0 rfl) ?_
  obtain ⟨r_3, M_2, hc_1, hf⟩ := cb_s hf
  refine g_goi (g_run X (c_X7_isBox l g  hc_1) s_X7_isBox (oB_7 kc_279) q4_180 ⟨Nat.le_of_ble_eq_true rfl, Nat.le_of_ble_eq_true rfl⟩ hP hS rfl hl.1 rfl (Nat.le_of_ble_eq_true rfl) ⟨Nat.le_refl _, Nat.le_refl _⟩ dX7_byTurns_1) hS (fun H locs hP hS => ?_)
  refine lv_if_ne (tgt := 10) hx hb dX7_byTurns_4 (by decide) (fun h_4 => ?_) (fun h_4 => ?_)
  · replace hf := it_f hf h_4
    refine lv_iload_n hx hb dX7_byTurns_10 rfl (lv_at hl 1 rfl) ?_
    refine lv_i2l hx hb dX7_byTurns_11 rfl ?_
    refine lv_lconst (v := (0 : Int64)) hx hb dX7_byTurns_12 (by decide) ?_
    refine lv_ldc2 hx hb X.2.2.2.1 (X.2.2.2.2.1 _ q5_80) dX7_byTurns_13 ?_
    obtain ⟨r_7, M_6, hc_5, hf⟩ := cb_s hf
    refine g_goi (g_runS X (c_X7_in l g  hc_5) s_X7_in q4_89 ⟨Nat.le_of_ble_eq_true rfl, Nat.le_of_ble_eq_true rfl⟩ hP hS rfl hl.1 rfl (Nat.le_of_ble_eq_true rfl) ⟨Nat.le_refl _, Nat.le_refl _⟩ dX7_byTurns_16) hS (fun H locs hP hS => ?_)
    refine lv_if_eq (tgt := 34) hx hb dX7_byTurns_19 (by decide) (fun h_8 => ?_) (fun h_8 => ?_)
    · replace hf := it_t hf h_8
      refine lv_ldc hx hb X.2.2.2.1 (X.2.2.2.2.1 _ q4_93) dX7_byTurns_34 ?_
      exact g_iret X hP hS (sm_i hf) dX7_byTurns_36
    · replace hf := it_f hf h_8
      refine lv_iload_n hx hb dX7_byTurns_22 rfl (lv_at hl 2 rfl) ?_
      refine lv_i2l hx hb dX7_byTurns_23 rfl ?_
      refine lv_lconst (v := (1 : Int64)) hx hb dX7_byTurns_24 (by decide) ?_
      refine lv_ldc2 hx hb X.2.2.2.1 (X.2.2.2.2.1 _ q5_48) dX7_byTurns_25 ?_
      obtain ⟨r_11, M_10, hc_9, hf⟩ := cb_s hf
      refine g_goi (g_runS X (c_X7_in l g  hc_9) s_X7_in q4_89 ⟨Nat.le_of_ble_eq_true rfl, Nat.le_of_ble_eq_true rfl⟩ hP hS rfl hl.1 rfl (Nat.le_of_ble_eq_true rfl) ⟨Nat.le_refl _, Nat.le_refl _⟩ dX7_byTurns_28) hS (fun H locs hP hS => ?_)
      refine lv_if_ne (tgt := 37) hx hb dX7_byTurns_31 (by decide) (fun h_12 => ?_) (fun h_12 => ?_)
      · replace hf := it_f hf h_12
        refine lv_iconst (v := (0 : Int32)) hx hb dX7_byTurns_37 (by decide) ?_
        refine lv_istore_n (lv' := [(3, .int (0 : Int32)), (0, .ref (gz g + 279)), (1, .int x1), (2, .int x2)]) hx hb dX7_byTurns_38 rfl hl (by decide) rfl (fun ls hl => ?_)
        exact b_X7_byTurns_39 X  FU (0 : Int32) M_10 _ _ _ hf hP hS (lv_sub hl [1, 2, 3, 0] rfl)
      · replace hf := it_t hf h_12
        refine lv_ldc hx hb X.2.2.2.1 (X.2.2.2.2.1 _ q4_93) dX7_byTurns_34 ?_
        exact g_iret X hP hS (sm_i hf) dX7_byTurns_36
  · replace hf := it_t hf h_4
    refine lv_ldc hx hb X.2.2.2.1 (X.2.2.2.2.1 _ q4_175) dX7_byTurns_7 ?_
    exact g_iret X hP hS (sm_i hf) dX7_byTurns_9
def f_X7_isSo_44 (x1 : Int32) (x2 : Int32) (k5 : Int32 → Int32 → Mem → Option (Int32 × Mem)) (x4 : Int32) (t0 : Int32) (M : Mem) : Option (Int32 × Mem) :=
  k5 t0 (x4 + (1 : Int32)) M
set_option maxRecDepth 20000 in
theorem b_X7_isSo_44 {out : Int32 × Mem} (X : Bx p s m args meth c RX7 cX7_isSo 5 (some .boolean) g)   {x1 : Int32} {x2 : Int32}   {k5 : Int32 → Int32 → Mem → Option (Int32 × Mem)} (hk5 : ∀ (x3 : Int32) (x4 : Int32) (M : Mem) (H : Heap) (locs : List Loc) (ls : Array Slot), k5 x3 x4 M = some out → va_P g.1 vwCl (gW g M) H → va_S (gA g) s.heap H locs → lv_has ls 5 [(0, .ref (gz g + 279)), (1, .int x1), (2, .int x2), (3, .int x3), (4, .int x4)] → W p l e (rM 3 67) s m args below meth c H locs 0 0 (MQ below (qI g out) args s 0 0 (gA g)) (F0 m 5 ls [])) (x4 : Int32) (t0 : Int32) (M : Mem) {H : Heap} {locs : List Loc} {ls : Array Slot} (hf : f_X7_isSo_44 x1 x2 k5 x4 t0 M = some out) (hP : va_P g.1 vwCl (gW g M) H) (hS : va_S (gA g) s.heap H locs) (hl : lv_has ls 5 [(0, .ref (gz g + 279)), (1, .int x1), (2, .int x2), (4, .int x4)]) : W p l e (rM 3 67) s m args below meth c H locs 0 0 (MQ below (qI g out) args s 0 0 (gA g)) (F0 m 44 ls [.int t0]) := by
  have hx := X.1
  have hb := X.2.1
  refine lv_istore_n (lv' := [(3, .int t0), (0, .ref (gz g + 279)), (1, .int x1), (2, .int x2), (4, .int x4)]) hx hb dX7_isSo_44 rfl hl (by decide) rfl (fun ls hl => ?_)
  refine lv_iinc (v := (x4 + (1 : Int32))) (lv' := [(4, .int (x4 + (1 : Int32))), (3, .int t0), (0, .ref (gz g + 279)), (1, .int x1), (2, .int x2)]) hx hb dX7_isSo_45 hl (k := 4) rfl rfl (by decide) rfl (fun ls hl => ?_)
  refine lv_goto (tgt := 5) hx hb dX7_isSo_48 (by decide) ?_
  exact hk5 t0 (x4 + (1 : Int32)) M _ _ _ hf hP hS (lv_sub hl [2, 3, 4, 1, 0] rfl)
def f_X7_isSo_43 (x1 : Int32) (x2 : Int32) (k5 : Int32 → Int32 → Mem → Option (Int32 × Mem)) (x4 : Int32) (M : Mem) : Option (Int32 × Mem) :=
  f_X7_isSo_44 x1 x2 k5 x4 (0 : Int32) M
set_option maxRecDepth 20000 in
theorem b_X7_isSo_43 {out : Int32 × Mem} (X : Bx p s m args meth c RX7 cX7_isSo 5 (some .boolean) g)   {x1 : Int32} {x2 : Int32}   {k5 : Int32 → Int32 → Mem → Option (Int32 × Mem)} (hk5 : ∀ (x3 : Int32) (x4 : Int32) (M : Mem) (H : Heap) (locs : List Loc) (ls : Array Slot), k5 x3 x4 M = some out → va_P g.1 vwCl (gW g M) H → va_S (gA g) s.heap H locs → lv_has ls 5 [(0, .ref (gz g + 279)), (1, .int x1), (2, .int x2), (3, .int x3), (4, .int x4)] → W p l e (rM 3 67) s m args below meth c H locs 0 0 (MQ below (qI g out) args s 0 0 (gA g)) (F0 m 5 ls [])) (x4 : Int32) (M : Mem) {H : Heap} {locs : List Loc} {ls : Array Slot} (hf : f_X7_isSo_43 x1 x2 k5 x4 M = some out) (hP : va_P g.1 vwCl (gW g M) H) (hS : va_S (gA g) s.heap H locs) (hl : lv_has ls 5 [(0, .ref (gz g + 279)), (1, .int x1), (2, .int x2), (4, .int x4)]) : W p l e (rM 3 67) s m args below meth c H locs 0 0 (MQ below (qI g out) args s 0 0 (gA g)) (F0 m 43 ls []) := by
  have hx := X.1
  have hb := X.2.1
  refine lv_iconst (v := (0 : Int32)) hx hb dX7_isSo_43 (by decide) ?_
  exact b_X7_isSo_44 X hk5 x4 (0 : Int32) M hf hP hS hl
def f_X7_isSo_5 (x1 : Int32) (x2 : Int32)  : Nat → Int32 → Int32 → Mem → Option (Int32 × Mem)
  | 0, _, _, _ => none
  | n + 1, x3, x4, M =>
    if x2 ≤ x4 then
      cbz x3 <| some (x3, M)
    else
      cv (f_X7_passes (43 : Int32) M) fun M_3 =>
      if x3 = 0 then
        f_X7_isSo_43 x1 x2 (f_X7_isSo_5 x1 x2 n) x4 M_3
      else
        cb (f_X7_loud (43 : Int32) M_3) fun r_7 M_6 =>
        ck (x1 + x4) 320 <|
        if r_7 = (M_6 284 ((x1 + x4)).toNatClampNeg) then
          f_X7_isSo_44 x1 x2 (f_X7_isSo_5 x1 x2 n) x4 (1 : Int32) M_6
        else
          f_X7_isSo_43 x1 x2 (f_X7_isSo_5 x1 x2 n) x4 M_6
set_option maxRecDepth 20000 in
theorem b_X7_isSo_5 {out : Int32 × Mem} (X : Bx p s m args meth c RX7 cX7_isSo 5 (some .boolean) g)   {x1 : Int32} {x2 : Int32}     : ∀ (n : Nat) (x3 : Int32) (x4 : Int32) (M : Mem) (H : Heap) (locs : List Loc) (ls : Array Slot), f_X7_isSo_5 x1 x2 n x3 x4 M = some out → va_P g.1 vwCl (gW g M) H → va_S (gA g) s.heap H locs → lv_has ls 5 [(0, .ref (gz g + 279)), (1, .int x1), (2, .int x2), (3, .int x3), (4, .int x4)] → W p l e (rM 3 67) s m args below meth c H locs 0 0 (MQ below (qI g out) args s 0 0 (gA g)) (F0 m 5 ls []) := by
  have hx := X.1
  have hb := X.2.1
  intro n
  induction n with
  | zero => intro _ _ _ _ _ _ hf; cases hf
  | succ n ih =>
    intro x3 x4 M H locs ls hf hP hS hl
    rw [f_X7_isSo_5] at hf
    refine lv_iload hx hb dX7_isSo_5 (lv_at hl 4 rfl) ?_
    refine lv_iload_n hx hb dX7_isSo_7 rfl (lv_at hl 2 rfl) ?_
    refine lv_icmp_ge (tgt := 51) hx hb dX7_isSo_8 (by decide) (fun h_1 => ?_) (fun h_1 => ?_)
    · replace hf := it_t hf h_1
      refine lv_iload_n hx hb dX7_isSo_51 rfl (lv_at hl 3 rfl) ?_
      obtain ⟨hbz, hf⟩ := cbz_s hf
      exact g_zret X hP hS hbz (sm_i hf) dX7_isSo_52
    · replace hf := it_f hf h_1
      refine lv_aload_n hx hb dX7_isSo_11 rfl (lv_at hl 0 rfl) ?_
      refine lv_bipush (v := (43 : Int32)) hx hb dX7_isSo_12 (by decide) ?_
      obtain ⟨M_3, hc_2, hf⟩ := cv_s hf
      refine g_gov (g_run X (c_X7_passes l g  hc_2) s_X7_passes (oB_7 kc_279) q4_189 ⟨Nat.le_of_ble_eq_true rfl, Nat.le_of_ble_eq_true rfl⟩ hP hS rfl hl.1 rfl (Nat.le_of_ble_eq_true rfl) ⟨Nat.le_refl _, Nat.le_refl _⟩ dX7_isSo_14) hS (fun H locs hP hS => ?_)
      refine lv_iload_n hx hb dX7_isSo_17 rfl (lv_at hl 3 rfl) ?_
      refine lv_if_eq (tgt := 43) hx hb dX7_isSo_18 (by decide) (fun h_4 => ?_) (fun h_4 => ?_)
      · replace hf := it_t hf h_4
        exact b_X7_isSo_43 X ih x4 M_3 hf hP hS (lv_sub hl [0, 1, 2, 4] rfl)
      · replace hf := it_f hf h_4
        refine lv_aload_n hx hb dX7_isSo_21 rfl (lv_at hl 0 rfl) ?_
        refine lv_bipush (v := (43 : Int32)) hx hb dX7_isSo_22 (by decide) ?_
        obtain ⟨r_7, M_6, hc_5, hf⟩ := cb_s hf
        refine g_goi (g_run X (c_X7_loud l g  hc_5) s_X7_loud (oB_7 kc_279) q4_204 ⟨Nat.le_of_ble_eq_true rfl, Nat.le_of_ble_eq_true rfl⟩ hP hS rfl hl.1 rfl (Nat.le_of_ble_eq_true rfl) ⟨Nat.le_refl _, Nat.le_refl _⟩ dX7_isSo_24) hS (fun H locs hP hS => ?_)
        refine lv_aload_n hx hb dX7_isSo_27 rfl (lv_at hl 0 rfl) ?_
        refine gf_7_8 X hP kc_279 q4_33 dX7_isSo_28 ?_
        refine lv_iload_n hx hb dX7_isSo_31 rfl (lv_at hl 1 rfl) ?_
        refine lv_iload hx hb dX7_isSo_32 (lv_at hl 4 rfl) ?_
        refine lv_iadd hx hb dX7_isSo_34 ?_
        obtain ⟨hi_8, hf⟩ := ck_s hf
        refine ga_ld X hP (iA_15 kc_284) hi_8 dX7_isSo_35 ?_
        refine lv_icmp_ne (tgt := 43) hx hb dX7_isSo_36 (by decide) (fun h_9 => ?_) (fun h_9 => ?_)
        · replace hf := it_f hf h_9
          exact b_X7_isSo_43 X ih x4 M_6 hf hP hS (lv_sub hl [0, 1, 2, 4] rfl)
        · replace hf := it_t hf h_9
          refine lv_iconst (v := (1 : Int32)) hx hb dX7_isSo_39 (by decide) ?_
          refine lv_goto (tgt := 44) hx hb dX7_isSo_40 (by decide) ?_
          exact b_X7_isSo_44 X ih x4 (1 : Int32) M_6 hf hP hS (lv_sub hl [0, 1, 2, 4] rfl)
def f_X7_isSo (x1 : Int32) (x2 : Int32) (M : Mem) : Option (Int32 × Mem) :=
  f_X7_isSo_5 x1 x2 FU (1 : Int32) (0 : Int32) M
set_option maxRecDepth 20000 in
theorem c_X7_isSo (l : Launch) (g : GC) {x1 : Int32} {x2 : Int32}  {M : Mem} {out : Int32 × Mem} (hf : f_X7_isSo x1 x2 M = some out) : cI l g yX7_isSo cX7_isSo 5 (some .boolean) (rM 3 67) [.ref (gz g + 279), .int x1, .int x2] M out := by
  refine g_met (by decide) (Nat.le_of_ble_eq_true rfl) ?_
  intro p e s m below meth c X hP hS ls hl
  have X : Bx p s m _ meth c RX7 cX7_isSo 5 (some .boolean) g := X
  have hl : lv_has ls 5 [(0, .ref (gz g + 279)), (1, .int x1), (2, .int x2)] := hl
  have hx := X.1
  have hb := X.2.1
  refine lv_iconst (v := (1 : Int32)) hx hb dX7_isSo_0 (by decide) ?_
  refine lv_istore_n (lv' := [(3, .int (1 : Int32)), (0, .ref (gz g + 279)), (1, .int x1), (2, .int x2)]) hx hb dX7_isSo_1 rfl hl (by decide) rfl (fun ls hl => ?_)
  refine lv_iconst (v := (0 : Int32)) hx hb dX7_isSo_2 (by decide) ?_
  refine lv_istore (lv' := [(4, .int (0 : Int32)), (3, .int (1 : Int32)), (0, .ref (gz g + 279)), (1, .int x1), (2, .int x2)]) hx hb dX7_isSo_3 hl (by decide) rfl (fun ls hl => ?_)
  exact b_X7_isSo_5 X  FU (1 : Int32) (0 : Int32) M _ _ _ hf hP hS (lv_sub hl [2, 3, 4, 1, 0] rfl)
def f_X7_who_248 (x2 : Int32) (x5 : Int32) (k179 : Int32 → Int32 → Int32 → Int32 → Int32 → Int32 → Int32 → Mem → Option (Int32 × Mem)) (x7 : Int32) (x9 : Int32) (x10 : Int32) (x11 : Int32) (x12 : Int32) (x13 : Int32) (x14 : Int32) (M : Mem) : Option (Int32 × Mem) :=
  k179 x7 x9 x10 x11 x12 x13 (x14 + (1 : Int32)) M
set_option maxRecDepth 20000 in
theorem b_X7_who_248 {out : Int32 × Mem} (X : Bx p s m args meth c RX7 cX7_who 15 (some .int) g)   {x2 : Int32} {x5 : Int32}   {k179 : Int32 → Int32 → Int32 → Int32 → Int32 → Int32 → Int32 → Mem → Option (Int32 × Mem)} (hk179 : ∀ (x7 : Int32) (x9 : Int32) (x10 : Int32) (x11 : Int32) (x12 : Int32) (x13 : Int32) (x14 : Int32) (M : Mem) (H : Heap) (locs : List Loc) (ls : Array Slot), k179 x7 x9 x10 x11 x12 x13 x14 M = some out → va_P g.1 vwCl (gW g M) H → va_S (gA g) s.heap H locs → lv_has ls 15 [(0, .ref (gz g + 279)), (2, .int x2), (5, .int x5), (7, .int x7), (9, .int x9), (10, .int x10), (11, .int x11), (12, .int x12), (13, .int x13), (14, .int x14)] → W p l e (rM 4 91) s m args below meth c H locs 0 0 (MQ below (qI g out) args s 0 0 (gA g)) (F0 m 179 ls [])) (x7 : Int32) (x9 : Int32) (x10 : Int32) (x11 : Int32) (x12 : Int32) (x13 : Int32) (x14 : Int32) (M : Mem) {H : Heap} {locs : List Loc} {ls : Array Slot} (hf : f_X7_who_248 x2 x5 k179 x7 x9 x10 x11 x12 x13 x14 M = some out) (hP : va_P g.1 vwCl (gW g M) H) (hS : va_S (gA g) s.heap H locs) (hl : lv_has ls 15 [(0, .ref (gz g + 279)), (2, .int x2), (5, .int x5), (7, .int x7), (9, .int x9), (10, .int x10), (11, .int x11), (12, .int x12), (13, .int x13), (14, .int x14)]) : W p l e (rM 4 91) s m args below meth c H locs 0 0 (MQ below (qI g out) args s 0 0 (gA g)) (F0 m 248 ls []) := by
  have hx := X.1
  have hb := X.2.1
  refine lv_iinc (v := (x14 + (1 : Int32))) (lv' := [(14, .int (x14 + (1 : Int32))), (0, .ref (gz g + 279)), (2, .int x2), (5, .int x5), (7, .int x7), (9, .int x9), (10, .int x10), (11, .int x11), (12, .int x12), (13, .int x13)]) hx hb dX7_who_248 hl (k := 9) rfl rfl (by decide) rfl (fun ls hl => ?_)
  refine lv_goto (tgt := 179) hx hb dX7_who_251 (by decide) ?_
  exact hk179 x7 x9 x10 x11 x12 x13 (x14 + (1 : Int32)) M _ _ _ hf hP hS (lv_sub hl [1, 2, 3, 4, 5, 6, 7, 8, 9, 0] rfl)
def f_X7_who_243 (x2 : Int32) (x5 : Int32) (k179 : Int32 → Int32 → Int32 → Int32 → Int32 → Int32 → Int32 → Mem → Option (Int32 × Mem)) (x7 : Int32) (x9 : Int32) (x10 : Int32) (x11 : Int32) (x12 : Int32) (x14 : Int32) (t0 : Int32) (M : Mem) : Option (Int32 × Mem) :=
  f_X7_who_248 x2 x5 k179 x7 x9 x10 x11 (x12 + (1 : Int32)) t0 x14 M
set_option maxRecDepth 20000 in
theorem b_X7_who_243 {out : Int32 × Mem} (X : Bx p s m args meth c RX7 cX7_who 15 (some .int) g)   {x2 : Int32} {x5 : Int32}   {k179 : Int32 → Int32 → Int32 → Int32 → Int32 → Int32 → Int32 → Mem → Option (Int32 × Mem)} (hk179 : ∀ (x7 : Int32) (x9 : Int32) (x10 : Int32) (x11 : Int32) (x12 : Int32) (x13 : Int32) (x14 : Int32) (M : Mem) (H : Heap) (locs : List Loc) (ls : Array Slot), k179 x7 x9 x10 x11 x12 x13 x14 M = some out → va_P g.1 vwCl (gW g M) H → va_S (gA g) s.heap H locs → lv_has ls 15 [(0, .ref (gz g + 279)), (2, .int x2), (5, .int x5), (7, .int x7), (9, .int x9), (10, .int x10), (11, .int x11), (12, .int x12), (13, .int x13), (14, .int x14)] → W p l e (rM 4 91) s m args below meth c H locs 0 0 (MQ below (qI g out) args s 0 0 (gA g)) (F0 m 179 ls [])) (x7 : Int32) (x9 : Int32) (x10 : Int32) (x11 : Int32) (x12 : Int32) (x14 : Int32) (t0 : Int32) (M : Mem) {H : Heap} {locs : List Loc} {ls : Array Slot} (hf : f_X7_who_243 x2 x5 k179 x7 x9 x10 x11 x12 x14 t0 M = some out) (hP : va_P g.1 vwCl (gW g M) H) (hS : va_S (gA g) s.heap H locs) (hl : lv_has ls 15 [(0, .ref (gz g + 279)), (2, .int x2), (5, .int x5), (7, .int x7), (9, .int x9), (10, .int x10), (11, .int x11), (12, .int x12), (14, .int x14)]) : W p l e (rM 4 91) s m args below meth c H locs 0 0 (MQ below (qI g out) args s 0 0 (gA g)) (F0 m 243 ls [.int t0]) := by
  have hx := X.1
  have hb := X.2.1
  refine lv_istore (lv' := [(13, .int t0), (0, .ref (gz g + 279)), (2, .int x2), (5, .int x5), (7, .int x7), (9, .int x9), (10, .int x10), (11, .int x11), (12, .int x12), (14, .int x14)]) hx hb dX7_who_243 hl (by decide) rfl (fun ls hl => ?_)
  refine lv_iinc (v := (x12 + (1 : Int32))) (lv' := [(12, .int (x12 + (1 : Int32))), (13, .int t0), (0, .ref (gz g + 279)), (2, .int x2), (5, .int x5), (7, .int x7), (9, .int x9), (10, .int x10), (11, .int x11), (14, .int x14)]) hx hb dX7_who_245 hl (k := 8) rfl rfl (by decide) rfl (fun ls hl => ?_)
  exact b_X7_who_248 X hk179 x7 x9 x10 x11 (x12 + (1 : Int32)) t0 x14 M hf hP hS (lv_sub hl [2, 3, 4, 5, 6, 7, 8, 0, 1, 9] rfl)
def f_X7_who_228 (x2 : Int32) (x5 : Int32) (k179 : Int32 → Int32 → Int32 → Int32 → Int32 → Int32 → Int32 → Mem → Option (Int32 × Mem)) (x7 : Int32) (x9 : Int32) (x10 : Int32) (x12 : Int32) (x13 : Int32) (x14 : Int32) (t0 : Int32) (t1 : Int32) (M : Mem) : Option (Int32 × Mem) :=
  lt (t0 ||| t1) fun x11_1 =>
  if x12 = 0 then
    f_X7_who_243 x2 x5 k179 x7 x9 x10 x11_1 x12 x14 x14 M
  else
    f_X7_who_243 x2 x5 k179 x7 x9 x10 x11_1 x12 x14 x13 M
set_option maxRecDepth 20000 in
theorem b_X7_who_228 {out : Int32 × Mem} (X : Bx p s m args meth c RX7 cX7_who 15 (some .int) g)   {x2 : Int32} {x5 : Int32}   {k179 : Int32 → Int32 → Int32 → Int32 → Int32 → Int32 → Int32 → Mem → Option (Int32 × Mem)} (hk179 : ∀ (x7 : Int32) (x9 : Int32) (x10 : Int32) (x11 : Int32) (x12 : Int32) (x13 : Int32) (x14 : Int32) (M : Mem) (H : Heap) (locs : List Loc) (ls : Array Slot), k179 x7 x9 x10 x11 x12 x13 x14 M = some out → va_P g.1 vwCl (gW g M) H → va_S (gA g) s.heap H locs → lv_has ls 15 [(0, .ref (gz g + 279)), (2, .int x2), (5, .int x5), (7, .int x7), (9, .int x9), (10, .int x10), (11, .int x11), (12, .int x12), (13, .int x13), (14, .int x14)] → W p l e (rM 4 91) s m args below meth c H locs 0 0 (MQ below (qI g out) args s 0 0 (gA g)) (F0 m 179 ls [])) (x7 : Int32) (x9 : Int32) (x10 : Int32) (x12 : Int32) (x13 : Int32) (x14 : Int32) (t0 : Int32) (t1 : Int32) (M : Mem) {H : Heap} {locs : List Loc} {ls : Array Slot} (hf : f_X7_who_228 x2 x5 k179 x7 x9 x10 x12 x13 x14 t0 t1 M = some out) (hP : va_P g.1 vwCl (gW g M) H) (hS : va_S (gA g) s.heap H locs) (hl : lv_has ls 15 [(0, .ref (gz g + 279)), (2, .int x2), (5, .int x5), (7, .int x7), (9, .int x9), (10, .int x10), (12, .int x12), (13, .int x13), (14, .int x14)]) : W p l e (rM 4 91) s m args below meth c H locs 0 0 (MQ below (qI g out) args s 0 0 (gA g)) (F0 m 228 ls [.int t1, .int t0]) := by
  have hx := X.1
  have hb := X.2.1
  refine lv_ior hx hb dX7_who_228 ?_
  refine lv_topi (fun x11_1 ex11_1 => ?_)
  replace hf := lt_go hf ex11_1
  refine lv_istore (lv' := [(11, .int x11_1), (0, .ref (gz g + 279)), (2, .int x2), (5, .int x5), (7, .int x7), (9, .int x9), (10, .int x10), (12, .int x12), (13, .int x13), (14, .int x14)]) hx hb dX7_who_229 hl (by decide) rfl (fun ls hl => ?_)
  refine lv_iload hx hb dX7_who_231 (lv_at hl 7 rfl) ?_
  refine lv_if_ne (tgt := 241) hx hb dX7_who_233 (by decide) (fun h_2 => ?_) (fun h_2 => ?_)
  · replace hf := it_f hf h_2
    refine lv_iload hx hb dX7_who_241 (lv_at hl 8 rfl) ?_
    exact b_X7_who_243 X hk179 x7 x9 x10 x11_1 x12 x14 x13 M hf hP hS (lv_sub hl [1, 2, 3, 4, 5, 6, 0, 7, 9] rfl)
  · replace hf := it_t hf h_2
    refine lv_iload hx hb dX7_who_236 (lv_at hl 9 rfl) ?_
    refine lv_goto (tgt := 243) hx hb dX7_who_238 (by decide) ?_
    exact b_X7_who_243 X hk179 x7 x9 x10 x11_1 x12 x14 x14 M hf hP hS (lv_sub hl [1, 2, 3, 4, 5, 6, 0, 7, 9] rfl)
def f_X7_who_179 (x2 : Int32) (x5 : Int32)  : Nat → Int32 → Int32 → Int32 → Int32 → Int32 → Int32 → Int32 → Mem → Option (Int32 × Mem)
  | 0, _, _, _, _, _, _, _, _ => none
  | n + 1, x7, x9, x10, x11, x12, x13, x14, M =>
    if x9 < x14 then
      if (3 : Int32) ≤ x2 then
        if x2 = (3 : Int32) then
          some (x12, M)
        else
          some (x13, M)
      else
        some (x11, M)
    else
      cv (f_X7_tries M) fun M_5 =>
      ck ((43 : Int32) + x10) 1247 <|
      lt (up2 M_5 280 (((43 : Int32) + x10)).toNatClampNeg x14) fun M_6 =>
      cb (f_X7_isSo x7 x5 M_6) fun r_10 M_9 =>
      if r_10 = 0 then
        f_X7_who_248 x2 x5 (f_X7_who_179 x2 x5 n) x7 x9 x10 x11 x12 x13 x14 M_9
      else
        if (3 : Int32) ≤ x2 then
          f_X7_who_228 x2 x5 (f_X7_who_179 x2 x5 n) x7 x9 x10 x12 x13 x14 x11 (0 : Int32) M_9
        else
          f_X7_who_228 x2 x5 (f_X7_who_179 x2 x5 n) x7 x9 x10 x12 x13 x14 x11 ((1 : Int32) <<< (x14 &&& 31)) M_9
set_option maxRecDepth 20000 in
theorem b_X7_who_179 {out : Int32 × Mem} (X : Bx p s m args meth c RX7 cX7_who 15 (some .int) g)   {x2 : Int32} {x5 : Int32}     : ∀ (n : Nat) (x7 : Int32) (x9 : Int32) (x10 : Int32) (x11 : Int32) (x12 : Int32) (x13 : Int32) (x14 : Int32) (M : Mem) (H : Heap) (locs : List Loc) (ls : Array Slot), f_X7_who_179 x2 x5 n x7 x9 x10 x11 x12 x13 x14 M = some out → va_P g.1 vwCl (gW g M) H → va_S (gA g) s.heap H locs → lv_has ls 15 [(0, .ref (gz g + 279)), (2, .int x2), (5, .int x5), (7, .int x7), (9, .int x9), (10, .int x10), (11, .int x11), (12, .int x12), (13, .int x13), (14, .int x14)] → W p l e (rM 4 91) s m args below meth c H locs 0 0 (MQ below (qI g out) args s 0 0 (gA g)) (F0 m 179 ls []) := by
  have hx := X.1
  have hb := X.2.1
  intro n
  induction n with
  | zero => intro _ _ _ _ _ _ _ _ _ _ _ hf; cases hf
  | succ n ih =>
    intro x7 x9 x10 x11 x12 x13 x14 M H locs ls hf hP hS hl
    rw [f_X7_who_179] at hf
    refine lv_iload hx hb dX7_who_179 (lv_at hl 9 rfl) ?_
    refine lv_iload hx hb dX7_who_181 (lv_at hl 4 rfl) ?_
    refine lv_icmp_gt (tgt := 254) hx hb dX7_who_183 (by decide) (fun h_1 => ?_) (fun h_1 => ?_)
    · replace hf := it_t hf h_1
      refine lv_iload_n hx hb dX7_who_254 rfl (lv_at hl 1 rfl) ?_
      refine lv_iconst (v := (3 : Int32)) hx hb dX7_who_255 (by decide) ?_
      refine lv_icmp_ge (tgt := 264) hx hb dX7_who_256 (by decide) (fun h_2 => ?_) (fun h_2 => ?_)
      · replace hf := it_t hf h_2
        refine lv_iload_n hx hb dX7_who_264 rfl (lv_at hl 1 rfl) ?_
        refine lv_iconst (v := (3 : Int32)) hx hb dX7_who_265 (by decide) ?_
        refine lv_icmp_ne (tgt := 274) hx hb dX7_who_266 (by decide) (fun h_3 => ?_) (fun h_3 => ?_)
        · replace hf := it_f hf h_3
          refine lv_iload hx hb dX7_who_274 (lv_at hl 8 rfl) ?_
          exact g_iret X hP hS (sm_i hf) dX7_who_276
        · replace hf := it_t hf h_3
          refine lv_iload hx hb dX7_who_269 (lv_at hl 7 rfl) ?_
          refine lv_goto (tgt := 276) hx hb dX7_who_271 (by decide) ?_
          exact g_iret X hP hS (sm_i hf) dX7_who_276
      · replace hf := it_f hf h_2
        refine lv_iload hx hb dX7_who_259 (lv_at hl 6 rfl) ?_
        refine lv_goto (tgt := 276) hx hb dX7_who_261 (by decide) ?_
        exact g_iret X hP hS (sm_i hf) dX7_who_276
    · replace hf := it_f hf h_1
      refine lv_aload_n hx hb dX7_who_186 rfl (lv_at hl 0 rfl) ?_
      obtain ⟨M_5, hc_4, hf⟩ := cv_s hf
      refine g_gov (g_run X (c_X7_tries l g  hc_4) s_X7_tries (oB_7 kc_279) q5_22 ⟨Nat.le_of_ble_eq_true rfl, Nat.le_of_ble_eq_true rfl⟩ hP hS rfl hl.1 rfl (Nat.le_of_ble_eq_true rfl) ⟨Nat.le_refl _, Nat.le_refl _⟩ dX7_who_187) hS (fun H locs hP hS => ?_)
      refine lv_aload_n hx hb dX7_who_190 rfl (lv_at hl 0 rfl) ?_
      refine gf_7_0 X hP kc_279 q4_25 dX7_who_191 ?_
      refine lv_bipush (v := (43 : Int32)) hx hb dX7_who_194 (by decide) ?_
      refine lv_iload hx hb dX7_who_196 (lv_at hl 5 rfl) ?_
      refine lv_iadd hx hb dX7_who_198 ?_
      refine lv_iload hx hb dX7_who_199 (lv_at hl 9 rfl) ?_
      obtain ⟨hi_7, hf⟩ := ck_s hf
      refine ga_st X hP hS (iA_13 kc_280) hi_7 dX7_who_201 (fun H locs M_6 eM_6 hP hS => ?_)
      replace hf := lt_go hf eM_6
      refine lv_aload_n hx hb dX7_who_202 rfl (lv_at hl 0 rfl) ?_
      refine lv_iload hx hb dX7_who_203 (lv_at hl 3 rfl) ?_
      refine lv_iload hx hb dX7_who_205 (lv_at hl 2 rfl) ?_
      obtain ⟨r_10, M_9, hc_8, hf⟩ := cb_s hf
      refine g_goi (g_run X (c_X7_isSo l g  hc_8) s_X7_isSo (oB_7 kc_279) q5_89 ⟨Nat.le_of_ble_eq_true rfl, Nat.le_of_ble_eq_true rfl⟩ hP hS rfl hl.1 rfl (Nat.le_of_ble_eq_true rfl) ⟨Nat.le_refl _, Nat.le_refl _⟩ dX7_who_207) hS (fun H locs hP hS => ?_)
      refine lv_if_eq (tgt := 248) hx hb dX7_who_210 (by decide) (fun h_11 => ?_) (fun h_11 => ?_)
      · replace hf := it_t hf h_11
        exact b_X7_who_248 X ih x7 x9 x10 x11 x12 x13 x14 M_9 hf hP hS hl
      · replace hf := it_f hf h_11
        refine lv_iload hx hb dX7_who_213 (lv_at hl 6 rfl) ?_
        refine lv_iload_n hx hb dX7_who_215 rfl (lv_at hl 1 rfl) ?_
        refine lv_iconst (v := (3 : Int32)) hx hb dX7_who_216 (by decide) ?_
        refine lv_icmp_ge (tgt := 227) hx hb dX7_who_217 (by decide) (fun h_12 => ?_) (fun h_12 => ?_)
        · replace hf := it_t hf h_12
          refine lv_iconst (v := (0 : Int32)) hx hb dX7_who_227 (by decide) ?_
          exact b_X7_who_228 X ih x7 x9 x10 x12 x13 x14 x11 (0 : Int32) M_9 hf hP hS (lv_sub hl [0, 1, 2, 3, 4, 5, 7, 8, 9] rfl)
        · replace hf := it_f hf h_12
          refine lv_iconst (v := (1 : Int32)) hx hb dX7_who_220 (by decide) ?_
          refine lv_iload hx hb dX7_who_221 (lv_at hl 9 rfl) ?_
          refine lv_ishl hx hb dX7_who_223 ?_
          refine lv_goto (tgt := 228) hx hb dX7_who_224 (by decide) ?_
          exact b_X7_who_228 X ih x7 x9 x10 x12 x13 x14 x11 ((1 : Int32) <<< (x14 &&& 31)) M_9 hf hP hS (lv_sub hl [0, 1, 2, 3, 4, 5, 7, 8, 9] rfl)
def f_X7_who_163 (x2 : Int32) (x5 : Int32)  (x7 : Int32) (x8 : Int32) (x9 : Int32) (t0 : Int32) (M : Mem) : Option (Int32 × Mem) :=
  f_X7_who_179 x2 x5 FU x7 x9 t0 (0 : Int32) (0 : Int32) (-1000000 : Int32) x8 M
set_option maxRecDepth 20000 in
theorem b_X7_who_163 {out : Int32 × Mem} (X : Bx p s m args meth c RX7 cX7_who 15 (some .int) g)   {x2 : Int32} {x5 : Int32}     (x7 : Int32) (x8 : Int32) (x9 : Int32) (t0 : Int32) (M : Mem) {H : Heap} {locs : List Loc} {ls : Array Slot} (hf : f_X7_who_163 x2 x5 x7 x8 x9 t0 M = some out) (hP : va_P g.1 vwCl (gW g M) H) (hS : va_S (gA g) s.heap H locs) (hl : lv_has ls 15 [(0, .ref (gz g + 279)), (2, .int x2), (5, .int x5), (7, .int x7), (8, .int x8), (9, .int x9)]) : W p l e (rM 4 91) s m args below meth c H locs 0 0 (MQ below (qI g out) args s 0 0 (gA g)) (F0 m 163 ls [.int t0]) := by
  have hx := X.1
  have hb := X.2.1
  refine lv_istore (lv' := [(10, .int t0), (0, .ref (gz g + 279)), (2, .int x2), (5, .int x5), (7, .int x7), (8, .int x8), (9, .int x9)]) hx hb dX7_who_163 hl (by decide) rfl (fun ls hl => ?_)
  refine lv_iconst (v := (0 : Int32)) hx hb dX7_who_165 (by decide) ?_
  refine lv_istore (lv' := [(11, .int (0 : Int32)), (10, .int t0), (0, .ref (gz g + 279)), (2, .int x2), (5, .int x5), (7, .int x7), (8, .int x8), (9, .int x9)]) hx hb dX7_who_166 hl (by decide) rfl (fun ls hl => ?_)
  refine lv_iconst (v := (0 : Int32)) hx hb dX7_who_168 (by decide) ?_
  refine lv_istore (lv' := [(12, .int (0 : Int32)), (11, .int (0 : Int32)), (10, .int t0), (0, .ref (gz g + 279)), (2, .int x2), (5, .int x5), (7, .int x7), (8, .int x8), (9, .int x9)]) hx hb dX7_who_169 hl (by decide) rfl (fun ls hl => ?_)
  refine lv_ldc hx hb X.2.2.2.1 (X.2.2.2.2.1 _ q5_39) dX7_who_171 ?_
  refine lv_istore (lv' := [(13, .int (-1000000 : Int32)), (12, .int (0 : Int32)), (11, .int (0 : Int32)), (10, .int t0), (0, .ref (gz g + 279)), (2, .int x2), (5, .int x5), (7, .int x7), (8, .int x8), (9, .int x9)]) hx hb dX7_who_173 hl (by decide) rfl (fun ls hl => ?_)
  refine lv_iload hx hb dX7_who_175 (lv_at hl 8 rfl) ?_
  refine lv_istore (lv' := [(14, .int x8), (13, .int (-1000000 : Int32)), (12, .int (0 : Int32)), (11, .int (0 : Int32)), (10, .int t0), (0, .ref (gz g + 279)), (2, .int x2), (5, .int x5), (7, .int x7), (8, .int x8), (9, .int x9)]) hx hb dX7_who_177 hl (by decide) rfl (fun ls hl => ?_)
  exact b_X7_who_179 X  FU x7 x9 t0 (0 : Int32) (0 : Int32) (-1000000 : Int32) x8 M _ _ _ hf hP hS (lv_sub hl [5, 6, 7, 8, 10, 4, 3, 2, 1, 0] rfl)
def f_X7_who_128 (x1 : Int32) (x2 : Int32) (x5 : Int32)  (x7 : Int32) (x8 : Int32) (t0 : Int32) (M : Mem) : Option (Int32 × Mem) :=
  if x2 = 0 then
    f_X7_who_163 x2 x5 x7 x8 t0 ((6 : Int32) + x1) M
  else
    if x2 = (1 : Int32) then
      f_X7_who_163 x2 x5 x7 x8 t0 ((12 : Int32) + x1) M
    else
      if x2 = (2 : Int32) then
        f_X7_who_163 x2 x5 x7 x8 t0 (3 : Int32) M
      else
        f_X7_who_163 x2 x5 x7 x8 t0 (2 : Int32) M
set_option maxRecDepth 20000 in
theorem b_X7_who_128 {out : Int32 × Mem} (X : Bx p s m args meth c RX7 cX7_who 15 (some .int) g)   {x1 : Int32} {x2 : Int32} {x5 : Int32}     (x7 : Int32) (x8 : Int32) (t0 : Int32) (M : Mem) {H : Heap} {locs : List Loc} {ls : Array Slot} (hf : f_X7_who_128 x1 x2 x5 x7 x8 t0 M = some out) (hP : va_P g.1 vwCl (gW g M) H) (hS : va_S (gA g) s.heap H locs) (hl : lv_has ls 15 [(0, .ref (gz g + 279)), (1, .int x1), (2, .int x2), (5, .int x5), (7, .int x7), (8, .int x8)]) : W p l e (rM 4 91) s m args below meth c H locs 0 0 (MQ below (qI g out) args s 0 0 (gA g)) (F0 m 128 ls [.int t0]) := by
  have hx := X.1
  have hb := X.2.1
  refine lv_istore (lv' := [(9, .int t0), (0, .ref (gz g + 279)), (1, .int x1), (2, .int x2), (5, .int x5), (7, .int x7), (8, .int x8)]) hx hb dX7_who_128 hl (by decide) rfl (fun ls hl => ?_)
  refine lv_iload_n hx hb dX7_who_130 rfl (lv_at hl 3 rfl) ?_
  refine lv_if_ne (tgt := 141) hx hb dX7_who_131 (by decide) (fun h_1 => ?_) (fun h_1 => ?_)
  · replace hf := it_f hf h_1
    refine lv_iload_n hx hb dX7_who_141 rfl (lv_at hl 3 rfl) ?_
    refine lv_iconst (v := (1 : Int32)) hx hb dX7_who_142 (by decide) ?_
    refine lv_icmp_ne (tgt := 153) hx hb dX7_who_143 (by decide) (fun h_2 => ?_) (fun h_2 => ?_)
    · replace hf := it_f hf h_2
      refine lv_iload_n hx hb dX7_who_153 rfl (lv_at hl 3 rfl) ?_
      refine lv_iconst (v := (2 : Int32)) hx hb dX7_who_154 (by decide) ?_
      refine lv_icmp_ne (tgt := 162) hx hb dX7_who_155 (by decide) (fun h_3 => ?_) (fun h_3 => ?_)
      · replace hf := it_f hf h_3
        refine lv_iconst (v := (2 : Int32)) hx hb dX7_who_162 (by decide) ?_
        exact b_X7_who_163 X  x7 x8 t0 (2 : Int32) M hf hP hS (lv_sub hl [1, 3, 4, 5, 6, 0] rfl)
      · replace hf := it_t hf h_3
        refine lv_iconst (v := (3 : Int32)) hx hb dX7_who_158 (by decide) ?_
        refine lv_goto (tgt := 163) hx hb dX7_who_159 (by decide) ?_
        exact b_X7_who_163 X  x7 x8 t0 (3 : Int32) M hf hP hS (lv_sub hl [1, 3, 4, 5, 6, 0] rfl)
    · replace hf := it_t hf h_2
      refine lv_bipush (v := (12 : Int32)) hx hb dX7_who_146 (by decide) ?_
      refine lv_iload_n hx hb dX7_who_148 rfl (lv_at hl 2 rfl) ?_
      refine lv_iadd hx hb dX7_who_149 ?_
      refine lv_goto (tgt := 163) hx hb dX7_who_150 (by decide) ?_
      exact b_X7_who_163 X  x7 x8 t0 ((12 : Int32) + x1) M hf hP hS (lv_sub hl [1, 3, 4, 5, 6, 0] rfl)
  · replace hf := it_t hf h_1
    refine lv_bipush (v := (6 : Int32)) hx hb dX7_who_134 (by decide) ?_
    refine lv_iload_n hx hb dX7_who_136 rfl (lv_at hl 2 rfl) ?_
    refine lv_iadd hx hb dX7_who_137 ?_
    refine lv_goto (tgt := 163) hx hb dX7_who_138 (by decide) ?_
    exact b_X7_who_163 X  x7 x8 t0 ((6 : Int32) + x1) M hf hP hS (lv_sub hl [1, 3, 4, 5, 6, 0] rfl)
def f_X7_who_90 (x1 : Int32) (x2 : Int32) (x5 : Int32)  (x7 : Int32) (t0 : Int32) (M : Mem) : Option (Int32 × Mem) :=
  if x2 = 0 then
    f_X7_who_128 x1 x2 x5 x7 t0 (5 : Int32) M
  else
    if x2 = (1 : Int32) then
      f_X7_who_128 x1 x2 x5 x7 t0 (9 : Int32) M
    else
      if x2 = (2 : Int32) then
        f_X7_who_128 x1 x2 x5 x7 t0 ((M 280 1) - (1 : Int32)) M
      else
        f_X7_who_128 x1 x2 x5 x7 t0 (99 : Int32) M
set_option maxRecDepth 20000 in
theorem b_X7_who_90 {out : Int32 × Mem} (X : Bx p s m args meth c RX7 cX7_who 15 (some .int) g)   {x1 : Int32} {x2 : Int32} {x5 : Int32}     (x7 : Int32) (t0 : Int32) (M : Mem) {H : Heap} {locs : List Loc} {ls : Array Slot} (hf : f_X7_who_90 x1 x2 x5 x7 t0 M = some out) (hP : va_P g.1 vwCl (gW g M) H) (hS : va_S (gA g) s.heap H locs) (hl : lv_has ls 15 [(0, .ref (gz g + 279)), (1, .int x1), (2, .int x2), (5, .int x5), (7, .int x7)]) : W p l e (rM 4 91) s m args below meth c H locs 0 0 (MQ below (qI g out) args s 0 0 (gA g)) (F0 m 90 ls [.int t0]) := by
  have hx := X.1
  have hb := X.2.1
  refine lv_istore (lv' := [(8, .int t0), (0, .ref (gz g + 279)), (1, .int x1), (2, .int x2), (5, .int x5), (7, .int x7)]) hx hb dX7_who_90 hl (by decide) rfl (fun ls hl => ?_)
  refine lv_iload_n hx hb dX7_who_92 rfl (lv_at hl 3 rfl) ?_
  refine lv_if_ne (tgt := 100) hx hb dX7_who_93 (by decide) (fun h_1 => ?_) (fun h_1 => ?_)
  · replace hf := it_f hf h_1
    refine lv_iload_n hx hb dX7_who_100 rfl (lv_at hl 3 rfl) ?_
    refine lv_iconst (v := (1 : Int32)) hx hb dX7_who_101 (by decide) ?_
    refine lv_icmp_ne (tgt := 110) hx hb dX7_who_102 (by decide) (fun h_2 => ?_) (fun h_2 => ?_)
    · replace hf := it_f hf h_2
      refine lv_iload_n hx hb dX7_who_110 rfl (lv_at hl 3 rfl) ?_
      refine lv_iconst (v := (2 : Int32)) hx hb dX7_who_111 (by decide) ?_
      refine lv_icmp_ne (tgt := 126) hx hb dX7_who_112 (by decide) (fun h_3 => ?_) (fun h_3 => ?_)
      · replace hf := it_f hf h_3
        refine lv_bipush (v := (99 : Int32)) hx hb dX7_who_126 (by decide) ?_
        exact b_X7_who_128 X  x7 t0 (99 : Int32) M hf hP hS (lv_sub hl [1, 2, 3, 4, 5, 0] rfl)
      · replace hf := it_t hf h_3
        refine lv_aload_n hx hb dX7_who_115 rfl (lv_at hl 1 rfl) ?_
        refine gf_7_0 X hP kc_279 q4_25 dX7_who_116 ?_
        refine lv_iconst (v := (1 : Int32)) hx hb dX7_who_119 (by decide) ?_
        refine ga_ldj (j := 1) X hP (iA_13 kc_280) (by unfold vp_in; decide) (by decide) dX7_who_120 ?_
        refine lv_iconst (v := (1 : Int32)) hx hb dX7_who_121 (by decide) ?_
        refine lv_isub hx hb dX7_who_122 ?_
        refine lv_goto (tgt := 128) hx hb dX7_who_123 (by decide) ?_
        exact b_X7_who_128 X  x7 t0 ((M 280 1) - (1 : Int32)) M hf hP hS (lv_sub hl [1, 2, 3, 4, 5, 0] rfl)
    · replace hf := it_t hf h_2
      refine lv_bipush (v := (9 : Int32)) hx hb dX7_who_105 (by decide) ?_
      refine lv_goto (tgt := 128) hx hb dX7_who_107 (by decide) ?_
      exact b_X7_who_128 X  x7 t0 (9 : Int32) M hf hP hS (lv_sub hl [1, 2, 3, 4, 5, 0] rfl)
  · replace hf := it_t hf h_1
    refine lv_iconst (v := (5 : Int32)) hx hb dX7_who_96 (by decide) ?_
    refine lv_goto (tgt := 128) hx hb dX7_who_97 (by decide) ?_
    exact b_X7_who_128 X  x7 t0 (5 : Int32) M hf hP hS (lv_sub hl [1, 2, 3, 4, 5, 0] rfl)
def f_X7_who (x1 : Int32) (x2 : Int32) (x3 : Int32) (x4 : Int32) (x5 : Int32) (M : Mem) : Option (Int32 × Mem) :=
  cb (f_X7_isTooth x1 M) fun r_3 M_2 =>
  if r_3 = 0 then
    some ((-1000001 : Int32), M_2)
  else
    cb (f_X7_in ((x2).toInt64) (0 : Int64) (4 : Int64) M_2) fun r_7 M_6 =>
    if r_7 = 0 then
      some ((-1000001 : Int32), M_6)
    else
      cb (f_X7_isRow x3 M_6) fun r_11 M_10 =>
      if r_11 = 0 then
        some ((-1000001 : Int32), M_10)
      else
        cb (f_X7_in ((x5).toInt64) (1 : Int64) (12 : Int64) M_10) fun r_15 M_14 =>
        if r_15 = 0 then
          some ((-1000001 : Int32), M_14)
        else
          cb (f_X7_against x3 x4 x5 M_14) fun r_19 M_18 =>
          if r_19 ≤ 0 then
            lt (up2 M_18 279 5 (0 : Int32)) fun M_21 =>
            lt (((40 : Int32) * x3) + x4) fun x7_22 =>
            if (2 : Int32) ≤ x2 then
              f_X7_who_90 x1 x2 x5 x7_22 (0 : Int32) M_21
            else
              f_X7_who_90 x1 x2 x5 x7_22 (1 : Int32) M_21
          else
            cb (f_X7_finds r_19 M_18) fun r_26 M_25 =>
            some (r_26, M_25)
set_option maxRecDepth 20000 in
theorem c_X7_who (l : Launch) (g : GC) {x1 : Int32} {x2 : Int32} {x3 : Int32} {x4 : Int32} {x5 : Int32}  {M : Mem} {out : Int32 × Mem} (hf : f_X7_who x1 x2 x3 x4 x5 M = some out) : cI l g yX7_who cX7_who 15 (some .int) (rM 4 91) [.ref (gz g + 279), .int x1, .int x2, .int x3, .int x4, .int x5] M out := by
  refine g_met (by decide) (Nat.le_of_ble_eq_true rfl) ?_
  intro p e s m below meth c X hP hS ls hl
  have X : Bx p s m _ meth c RX7 cX7_who 15 (some .int) g := X
  have hl : lv_has ls 15 [(0, .ref (gz g + 279)), (1, .int x1), (2, .int x2), (3, .int x3), (4, .int x4), (5, .int x5)] := hl
  have hx := X.1
  have hb := X.2.1
  refine lv_aload_n hx hb dX7_who_0 rfl (lv_at hl 0 rfl) ?_
  refine lv_iload_n hx hb dX7_who_1 rfl (lv_at hl 1 rfl) ?_
  obtain ⟨r_3, M_2, hc_1, hf⟩ := cb_s hf
  refine g_goi (g_run X (c_X7_isTooth l g  hc_1) s_X7_isTooth (oB_7 kc_279) q4_221 ⟨Nat.le_of_ble_eq_true rfl, Nat.le_of_ble_eq_true rfl⟩ hP hS rfl hl.1 rfl (Nat.le_of_ble_eq_true rfl) ⟨Nat.le_refl _, Nat.le_refl _⟩ dX7_who_2) hS (fun H locs hP hS => ?_)
  refine lv_if_eq (tgt := 40) hx hb dX7_who_5 (by decide) (fun h_4 => ?_) (fun h_4 => ?_)
  · replace hf := it_t hf h_4
    refine lv_ldc hx hb X.2.2.2.1 (X.2.2.2.2.1 _ q4_93) dX7_who_40 ?_
    exact g_iret X hP hS (sm_i hf) dX7_who_42
  · replace hf := it_f hf h_4
    refine lv_iload_n hx hb dX7_who_8 rfl (lv_at hl 2 rfl) ?_
    refine lv_i2l hx hb dX7_who_9 rfl ?_
    refine lv_lconst (v := (0 : Int64)) hx hb dX7_who_10 (by decide) ?_
    refine lv_ldc2 hx hb X.2.2.2.1 (X.2.2.2.2.1 _ q5_80) dX7_who_11 ?_
    obtain ⟨r_7, M_6, hc_5, hf⟩ := cb_s hf
    refine g_goi (g_runS X (c_X7_in l g  hc_5) s_X7_in q4_89 ⟨Nat.le_of_ble_eq_true rfl, Nat.le_of_ble_eq_true rfl⟩ hP hS rfl hl.1 rfl (Nat.le_of_ble_eq_true rfl) ⟨Nat.le_refl _, Nat.le_refl _⟩ dX7_who_14) hS (fun H locs hP hS => ?_)
    refine lv_if_eq (tgt := 40) hx hb dX7_who_17 (by decide) (fun h_8 => ?_) (fun h_8 => ?_)
    · replace hf := it_t hf h_8
      refine lv_ldc hx hb X.2.2.2.1 (X.2.2.2.2.1 _ q4_93) dX7_who_40 ?_
      exact g_iret X hP hS (sm_i hf) dX7_who_42
    · replace hf := it_f hf h_8
      refine lv_iload_n hx hb dX7_who_20 rfl (lv_at hl 3 rfl) ?_
      obtain ⟨r_11, M_10, hc_9, hf⟩ := cb_s hf
      refine g_goi (g_runS X (c_X7_isRow l g  hc_9) s_X7_isRow q4_85 ⟨Nat.le_of_ble_eq_true rfl, Nat.le_of_ble_eq_true rfl⟩ hP hS rfl hl.1 rfl (Nat.le_of_ble_eq_true rfl) ⟨Nat.le_refl _, Nat.le_refl _⟩ dX7_who_21) hS (fun H locs hP hS => ?_)
      refine lv_if_eq (tgt := 40) hx hb dX7_who_24 (by decide) (fun h_12 => ?_) (fun h_12 => ?_)
      · replace hf := it_t hf h_12
        refine lv_ldc hx hb X.2.2.2.1 (X.2.2.2.2.1 _ q4_93) dX7_who_40 ?_
        exact g_iret X hP hS (sm_i hf) dX7_who_42
      · replace hf := it_f hf h_12
        refine lv_iload hx hb dX7_who_27 (lv_at hl 5 rfl) ?_
        refine lv_i2l hx hb dX7_who_29 rfl ?_
        refine lv_lconst (v := (1 : Int64)) hx hb dX7_who_30 (by decide) ?_
        refine lv_ldc2 hx hb X.2.2.2.1 (X.2.2.2.2.1 _ q5_66) dX7_who_31 ?_
        obtain ⟨r_15, M_14, hc_13, hf⟩ := cb_s hf
        refine g_goi (g_runS X (c_X7_in l g  hc_13) s_X7_in q4_89 ⟨Nat.le_of_ble_eq_true rfl, Nat.le_of_ble_eq_true rfl⟩ hP hS rfl hl.1 rfl (Nat.le_of_ble_eq_true rfl) ⟨Nat.le_refl _, Nat.le_refl _⟩ dX7_who_34) hS (fun H locs hP hS => ?_)
        refine lv_if_ne (tgt := 43) hx hb dX7_who_37 (by decide) (fun h_16 => ?_) (fun h_16 => ?_)
        · replace hf := it_f hf h_16
          refine lv_aload_n hx hb dX7_who_43 rfl (lv_at hl 0 rfl) ?_
          refine lv_iload_n hx hb dX7_who_44 rfl (lv_at hl 3 rfl) ?_
          refine lv_iload hx hb dX7_who_45 (lv_at hl 4 rfl) ?_
          refine lv_iload hx hb dX7_who_47 (lv_at hl 5 rfl) ?_
          obtain ⟨r_19, M_18, hc_17, hf⟩ := cb_s hf
          refine g_goi (g_run X (c_X7_against l g  hc_17) s_X7_against (oB_7 kc_279) q4_103 ⟨Nat.le_of_ble_eq_true rfl, Nat.le_of_ble_eq_true rfl⟩ hP hS rfl hl.1 rfl (Nat.le_of_ble_eq_true rfl) ⟨Nat.le_refl _, Nat.le_refl _⟩ dX7_who_49) hS (fun H locs hP hS => ?_)
          refine lv_istore (lv' := [(6, .int r_19), (0, .ref (gz g + 279)), (1, .int x1), (2, .int x2), (3, .int x3), (4, .int x4), (5, .int x5)]) hx hb dX7_who_52 hl (by decide) rfl (fun ls hl => ?_)
          refine lv_iload hx hb dX7_who_54 (lv_at hl 0 rfl) ?_
          refine lv_if_le (tgt := 66) hx hb dX7_who_56 (by decide) (fun h_20 => ?_) (fun h_20 => ?_)
          · replace hf := it_t hf h_20
            refine lv_aload_n hx hb dX7_who_66 rfl (lv_at hl 1 rfl) ?_
            refine lv_iconst (v := (0 : Int32)) hx hb dX7_who_67 (by decide) ?_
            refine gp_7_5 X hP hS kc_279 q4_30 dX7_who_68 (fun H locs M_21 eM_21 hP hS => ?_)
            replace hf := lt_go hf eM_21
            refine lv_bipush (v := (40 : Int32)) hx hb dX7_who_71 (by decide) ?_
            refine lv_iload_n hx hb dX7_who_73 rfl (lv_at hl 4 rfl) ?_
            refine lv_imul hx hb dX7_who_74 ?_
            refine lv_iload hx hb dX7_who_75 (lv_at hl 5 rfl) ?_
            refine lv_iadd hx hb dX7_who_77 ?_
            refine lv_topi (fun x7_22 ex7_22 => ?_)
            replace hf := lt_go hf ex7_22
            refine lv_istore (lv' := [(7, .int x7_22), (6, .int r_19), (0, .ref (gz g + 279)), (1, .int x1), (2, .int x2), (3, .int x3), (4, .int x4), (5, .int x5)]) hx hb dX7_who_78 hl (by decide) rfl (fun ls hl => ?_)
            refine lv_iload_n hx hb dX7_who_80 rfl (lv_at hl 4 rfl) ?_
            refine lv_iconst (v := (2 : Int32)) hx hb dX7_who_81 (by decide) ?_
            refine lv_icmp_ge (tgt := 89) hx hb dX7_who_82 (by decide) (fun h_23 => ?_) (fun h_23 => ?_)
            · replace hf := it_t hf h_23
              refine lv_iconst (v := (0 : Int32)) hx hb dX7_who_89 (by decide) ?_
              exact b_X7_who_90 X  x7_22 (0 : Int32) M_21 hf hP hS (lv_sub hl [2, 3, 4, 7, 0] rfl)
            · replace hf := it_f hf h_23
              refine lv_iconst (v := (1 : Int32)) hx hb dX7_who_85 (by decide) ?_
              refine lv_goto (tgt := 90) hx hb dX7_who_86 (by decide) ?_
              exact b_X7_who_90 X  x7_22 (1 : Int32) M_21 hf hP hS (lv_sub hl [2, 3, 4, 7, 0] rfl)
          · replace hf := it_f hf h_20
            refine lv_aload_n hx hb dX7_who_59 rfl (lv_at hl 1 rfl) ?_
            refine lv_iload hx hb dX7_who_60 (lv_at hl 0 rfl) ?_
            obtain ⟨r_26, M_25, hc_24, hf⟩ := cb_s hf
            refine g_goi (g_run X (c_X7_finds l g  hc_24) s_X7_finds (oB_7 kc_279) q4_94 ⟨Nat.le_of_ble_eq_true rfl, Nat.le_of_ble_eq_true rfl⟩ hP hS rfl hl.1 rfl (Nat.le_of_ble_eq_true rfl) ⟨Nat.le_refl _, Nat.le_refl _⟩ dX7_who_62) hS (fun H locs hP hS => ?_)
            exact g_iret X hP hS (sm_i hf) dX7_who_65
        · replace hf := it_t hf h_16
          refine lv_ldc hx hb X.2.2.2.1 (X.2.2.2.2.1 _ q4_93) dX7_who_40 ?_
          exact g_iret X hP hS (sm_i hf) dX7_who_42
def f_X7_lost_275 (x4 : Int32)  : Nat → Int64 → Int64 → Int64 → Int64 → Mem → Option (Int64 × Mem)
  | 0, _, _, _, _, _ => none
  | n + 1, y6, y8, y10, y12, M =>
    if (lg_cmp y12 (0 : Int64)) = 0 then
      if x4 = 0 then
        czl y10 <|
        some ((y6 / y10), M)
      else
        czl y10 <|
        some ((y8 / y10), M)
    else
      czl y12 <|
      lt (y10 - y10 / y12 * y12) fun y14_6 =>
      (f_X7_lost_275 x4 n) y6 y8 y12 y14_6 M
set_option maxRecDepth 20000 in
theorem b_X7_lost_275 {out : Int64 × Mem} (X : Bx p s m args meth c RX7 cX7_lost 16 (some .long) g)   {x4 : Int32}     : ∀ (n : Nat) (y6 : Int64) (y8 : Int64) (y10 : Int64) (y12 : Int64) (M : Mem) (H : Heap) (locs : List Loc) (ls : Array Slot), f_X7_lost_275 x4 n y6 y8 y10 y12 M = some out → va_P g.1 vwCl (gW g M) H → va_S (gA g) s.heap H locs → lv_has ls 16 [(4, .int x4), (6, .long y6), (8, .long y8), (10, .long y10), (12, .long y12)] → W p l e (rM 4 89) s m args below meth c H locs 0 0 (MQ below (qL g out) args s 0 0 (gA g)) (F0 m 275 ls []) := by
  have hx := X.1
  have hb := X.2.1
  intro n
  induction n with
  | zero => intro _ _ _ _ _ _ _ _ hf; cases hf
  | succ n ih =>
    intro y6 y8 y10 y12 M H locs ls hf hP hS hl
    rw [f_X7_lost_275] at hf
    refine lv_lload hx hb dX7_lost_275 (lv_at hl 4 rfl) ?_
    refine lv_lconst (v := (0 : Int64)) hx hb dX7_lost_277 (by decide) ?_
    refine W.lcmp hx hb dX7_lost_278 ?_
    refine lv_if_eq (tgt := 300) hx hb dX7_lost_279 (by decide) (fun h_1 => ?_) (fun h_1 => ?_)
    · replace hf := it_t hf h_1
      refine lv_iload hx hb dX7_lost_300 (lv_at hl 0 rfl) ?_
      refine lv_if_ne (tgt := 313) hx hb dX7_lost_302 (by decide) (fun h_2 => ?_) (fun h_2 => ?_)
      · replace hf := it_f hf h_2
        refine lv_lload hx hb dX7_lost_313 (lv_at hl 2 rfl) ?_
        refine lv_lload hx hb dX7_lost_315 (lv_at hl 3 rfl) ?_
        obtain ⟨hz_3, hf⟩ := czl_s hf
        refine lv_ldiv hx hb dX7_lost_317 hz_3 ?_
        exact g_lret X hP hS (sm_i hf) dX7_lost_318
      · replace hf := it_t hf h_2
        refine lv_lload hx hb dX7_lost_305 (lv_at hl 1 rfl) ?_
        refine lv_lload hx hb dX7_lost_307 (lv_at hl 3 rfl) ?_
        obtain ⟨hz_4, hf⟩ := czl_s hf
        refine lv_ldiv hx hb dX7_lost_309 hz_4 ?_
        refine lv_goto (tgt := 318) hx hb dX7_lost_310 (by decide) ?_
        exact g_lret X hP hS (sm_i hf) dX7_lost_318
    · replace hf := it_f hf h_1
      refine lv_lload hx hb dX7_lost_282 (lv_at hl 3 rfl) ?_
      refine lv_lload hx hb dX7_lost_284 (lv_at hl 4 rfl) ?_
      obtain ⟨hz_5, hf⟩ := czl_s hf
      refine lv_lrem hx hb dX7_lost_286 hz_5 ?_
      refine lv_topl (fun y14_6 ey14_6 => ?_)
      replace hf := lt_go hf ey14_6
      refine lv_lstore (lv' := [(14, .long y14_6), (4, .int x4), (6, .long y6), (8, .long y8), (10, .long y10), (12, .long y12)]) hx hb dX7_lost_287 hl (by decide) rfl (fun ls hl => ?_)
      refine lv_lload hx hb dX7_lost_289 (lv_at hl 5 rfl) ?_
      refine lv_lstore (lv' := [(10, .long y12), (14, .long y14_6), (4, .int x4), (6, .long y6), (8, .long y8), (12, .long y12)]) hx hb dX7_lost_291 hl (by decide) rfl (fun ls hl => ?_)
      refine lv_lload hx hb dX7_lost_293 (lv_at hl 1 rfl) ?_
      refine lv_lstore (lv' := [(12, .long y14_6), (10, .long y12), (14, .long y14_6), (4, .int x4), (6, .long y6), (8, .long y8)]) hx hb dX7_lost_295 hl (by decide) rfl (fun ls hl => ?_)
      refine lv_goto (tgt := 275) hx hb dX7_lost_297 (by decide) ?_
      exact ih y6 y8 y12 y14_6 M _ _ _ hf hP hS (lv_sub hl [3, 4, 5, 1, 0] rfl)
def f_X7_lost_261 (x1 : Int32) (x2 : Int32) (x3 : Int32) (x4 : Int32) (k132 : Int32 → Int64 → Int64 → Int32 → Mem → Option (Int64 × Mem)) (x5 : Int32) (y6 : Int64) (y8 : Int64) (x10 : Int32) (M : Mem) : Option (Int64 × Mem) :=
  k132 x5 y6 y8 (x10 + (1 : Int32)) M
set_option maxRecDepth 20000 in
theorem b_X7_lost_261 {out : Int64 × Mem} (X : Bx p s m args meth c RX7 cX7_lost 16 (some .long) g)   {x1 : Int32} {x2 : Int32} {x3 : Int32} {x4 : Int32}   {k132 : Int32 → Int64 → Int64 → Int32 → Mem → Option (Int64 × Mem)} (hk132 : ∀ (x5 : Int32) (y6 : Int64) (y8 : Int64) (x10 : Int32) (M : Mem) (H : Heap) (locs : List Loc) (ls : Array Slot), k132 x5 y6 y8 x10 M = some out → va_P g.1 vwCl (gW g M) H → va_S (gA g) s.heap H locs → lv_has ls 16 [(0, .ref (gz g + 279)), (1, .int x1), (2, .int x2), (3, .int x3), (4, .int x4), (5, .int x5), (6, .long y6), (8, .long y8), (10, .int x10)] → W p l e (rM 4 89) s m args below meth c H locs 0 0 (MQ below (qL g out) args s 0 0 (gA g)) (F0 m 132 ls [])) (x5 : Int32) (y6 : Int64) (y8 : Int64) (x10 : Int32) (M : Mem) {H : Heap} {locs : List Loc} {ls : Array Slot} (hf : f_X7_lost_261 x1 x2 x3 x4 k132 x5 y6 y8 x10 M = some out) (hP : va_P g.1 vwCl (gW g M) H) (hS : va_S (gA g) s.heap H locs) (hl : lv_has ls 16 [(0, .ref (gz g + 279)), (1, .int x1), (2, .int x2), (3, .int x3), (4, .int x4), (5, .int x5), (6, .long y6), (8, .long y8), (10, .int x10)]) : W p l e (rM 4 89) s m args below meth c H locs 0 0 (MQ below (qL g out) args s 0 0 (gA g)) (F0 m 261 ls []) := by
  have hx := X.1
  have hb := X.2.1
  refine lv_iinc (v := (x10 + (1 : Int32))) (lv' := [(10, .int (x10 + (1 : Int32))), (0, .ref (gz g + 279)), (1, .int x1), (2, .int x2), (3, .int x3), (4, .int x4), (5, .int x5), (6, .long y6), (8, .long y8)]) hx hb dX7_lost_261 hl (k := 8) rfl rfl (by decide) rfl (fun ls hl => ?_)
  refine lv_goto (tgt := 132) hx hb dX7_lost_264 (by decide) ?_
  exact hk132 x5 y6 y8 (x10 + (1 : Int32)) M _ _ _ hf hP hS (lv_sub hl [1, 2, 3, 4, 5, 6, 7, 8, 0] rfl)
def f_X7_lost_258 (x1 : Int32) (x2 : Int32) (x3 : Int32) (x4 : Int32) (k132 : Int32 → Int64 → Int64 → Int32 → Mem → Option (Int64 × Mem)) (x5 : Int32) (y8 : Int64) (x10 : Int32) (u0 : Int64) (u1 : Int64) (M : Mem) : Option (Int64 × Mem) :=
  lt (u0 + u1) fun y6_1 =>
  f_X7_lost_261 x1 x2 x3 x4 k132 x5 y6_1 y8 x10 M
set_option maxRecDepth 20000 in
theorem b_X7_lost_258 {out : Int64 × Mem} (X : Bx p s m args meth c RX7 cX7_lost 16 (some .long) g)   {x1 : Int32} {x2 : Int32} {x3 : Int32} {x4 : Int32}   {k132 : Int32 → Int64 → Int64 → Int32 → Mem → Option (Int64 × Mem)} (hk132 : ∀ (x5 : Int32) (y6 : Int64) (y8 : Int64) (x10 : Int32) (M : Mem) (H : Heap) (locs : List Loc) (ls : Array Slot), k132 x5 y6 y8 x10 M = some out → va_P g.1 vwCl (gW g M) H → va_S (gA g) s.heap H locs → lv_has ls 16 [(0, .ref (gz g + 279)), (1, .int x1), (2, .int x2), (3, .int x3), (4, .int x4), (5, .int x5), (6, .long y6), (8, .long y8), (10, .int x10)] → W p l e (rM 4 89) s m args below meth c H locs 0 0 (MQ below (qL g out) args s 0 0 (gA g)) (F0 m 132 ls [])) (x5 : Int32) (y8 : Int64) (x10 : Int32) (u0 : Int64) (u1 : Int64) (M : Mem) {H : Heap} {locs : List Loc} {ls : Array Slot} (hf : f_X7_lost_258 x1 x2 x3 x4 k132 x5 y8 x10 u0 u1 M = some out) (hP : va_P g.1 vwCl (gW g M) H) (hS : va_S (gA g) s.heap H locs) (hl : lv_has ls 16 [(0, .ref (gz g + 279)), (1, .int x1), (2, .int x2), (3, .int x3), (4, .int x4), (5, .int x5), (8, .long y8), (10, .int x10)]) : W p l e (rM 4 89) s m args below meth c H locs 0 0 (MQ below (qL g out) args s 0 0 (gA g)) (F0 m 258 ls [.long u1, .long u0]) := by
  have hx := X.1
  have hb := X.2.1
  refine lv_ladd hx hb dX7_lost_258 ?_
  refine lv_topl (fun y6_1 ey6_1 => ?_)
  replace hf := lt_go hf ey6_1
  refine lv_lstore (lv' := [(6, .long y6_1), (0, .ref (gz g + 279)), (1, .int x1), (2, .int x2), (3, .int x3), (4, .int x4), (5, .int x5), (8, .long y8), (10, .int x10)]) hx hb dX7_lost_259 hl (by decide) rfl (fun ls hl => ?_)
  exact b_X7_lost_261 X hk132 x5 y6_1 y8 x10 M hf hP hS (lv_sub hl [1, 2, 3, 4, 5, 6, 0, 7, 8] rfl)
def f_X7_lost_218 (x1 : Int32) (x2 : Int32) (x3 : Int32) (x4 : Int32) (k132 : Int32 → Int64 → Int64 → Int32 → Mem → Option (Int64 × Mem)) (k151 : Int32 → Int64 → Int64 → Int32 → Int64 → Int32 → Mem → Option (Int64 × Mem)) (x5 : Int32) (y6 : Int64) (y8 : Int64) (x10 : Int32) (y11 : Int64) (x13 : Int32) (t1 : Int32) (t2 : Int32) (t3 : Int32) (M : Mem) : Option (Int64 × Mem) :=
  ck t1 1247 <|
  lt (up2 M 280 t1.toNatClampNeg (t2 &&& t3)) fun M_1 =>
  k151 x5 y6 y8 x10 y11 (x13 + (1 : Int32)) M_1
set_option maxRecDepth 20000 in
theorem b_X7_lost_218 {out : Int64 × Mem} (X : Bx p s m args meth c RX7 cX7_lost 16 (some .long) g)   {x1 : Int32} {x2 : Int32} {x3 : Int32} {x4 : Int32}   {k132 : Int32 → Int64 → Int64 → Int32 → Mem → Option (Int64 × Mem)} {k151 : Int32 → Int64 → Int64 → Int32 → Int64 → Int32 → Mem → Option (Int64 × Mem)} (hk132 : ∀ (x5 : Int32) (y6 : Int64) (y8 : Int64) (x10 : Int32) (M : Mem) (H : Heap) (locs : List Loc) (ls : Array Slot), k132 x5 y6 y8 x10 M = some out → va_P g.1 vwCl (gW g M) H → va_S (gA g) s.heap H locs → lv_has ls 16 [(0, .ref (gz g + 279)), (1, .int x1), (2, .int x2), (3, .int x3), (4, .int x4), (5, .int x5), (6, .long y6), (8, .long y8), (10, .int x10)] → W p l e (rM 4 89) s m args below meth c H locs 0 0 (MQ below (qL g out) args s 0 0 (gA g)) (F0 m 132 ls [])) (hk151 : ∀ (x5 : Int32) (y6 : Int64) (y8 : Int64) (x10 : Int32) (y11 : Int64) (x13 : Int32) (M : Mem) (H : Heap) (locs : List Loc) (ls : Array Slot), k151 x5 y6 y8 x10 y11 x13 M = some out → va_P g.1 vwCl (gW g M) H → va_S (gA g) s.heap H locs → lv_has ls 16 [(0, .ref (gz g + 279)), (1, .int x1), (2, .int x2), (3, .int x3), (4, .int x4), (5, .int x5), (6, .long y6), (8, .long y8), (10, .int x10), (11, .long y11), (13, .int x13)] → W p l e (rM 4 89) s m args below meth c H locs 0 0 (MQ below (qL g out) args s 0 0 (gA g)) (F0 m 151 ls [])) (x5 : Int32) (y6 : Int64) (y8 : Int64) (x10 : Int32) (y11 : Int64) (x13 : Int32) (t1 : Int32) (t2 : Int32) (t3 : Int32) (M : Mem) {H : Heap} {locs : List Loc} {ls : Array Slot} (hf : f_X7_lost_218 x1 x2 x3 x4 k132 k151 x5 y6 y8 x10 y11 x13 t1 t2 t3 M = some out) (hP : va_P g.1 vwCl (gW g M) H) (hS : va_S (gA g) s.heap H locs) (hl : lv_has ls 16 [(0, .ref (gz g + 279)), (1, .int x1), (2, .int x2), (3, .int x3), (4, .int x4), (5, .int x5), (6, .long y6), (8, .long y8), (10, .int x10), (11, .long y11), (13, .int x13)]) : W p l e (rM 4 89) s m args below meth c H locs 0 0 (MQ below (qL g out) args s 0 0 (gA g)) (F0 m 218 ls [.int t3, .int t2, .int t1, .ref (gz g + 280)]) := by
  have hx := X.1
  have hb := X.2.1
  refine lv_iand hx hb dX7_lost_218 ?_
  obtain ⟨hi_2, hf⟩ := ck_s hf
  refine ga_st X hP hS (iA_13 kc_280) hi_2 dX7_lost_219 (fun H locs M_1 eM_1 hP hS => ?_)
  replace hf := lt_go hf eM_1
  refine lv_iinc (v := (x13 + (1 : Int32))) (lv' := [(13, .int (x13 + (1 : Int32))), (0, .ref (gz g + 279)), (1, .int x1), (2, .int x2), (3, .int x3), (4, .int x4), (5, .int x5), (6, .long y6), (8, .long y8), (10, .int x10), (11, .long y11)]) hx hb dX7_lost_220 hl (k := 10) rfl rfl (by decide) rfl (fun ls hl => ?_)
  refine lv_goto (tgt := 151) hx hb dX7_lost_223 (by decide) ?_
  exact hk151 x5 y6 y8 x10 y11 (x13 + (1 : Int32)) M_1 _ _ _ hf hP hS (lv_sub hl [1, 2, 3, 4, 5, 6, 7, 8, 9, 10, 0] rfl)
def f_X7_lost_180 (x1 : Int32) (x2 : Int32) (x3 : Int32) (x4 : Int32) (k132 : Int32 → Int64 → Int64 → Int32 → Mem → Option (Int64 × Mem)) (k151 : Int32 → Int64 → Int64 → Int32 → Int64 → Int32 → Mem → Option (Int64 × Mem)) (x5 : Int32) (y6 : Int64) (y8 : Int64) (x10 : Int32) (x13 : Int32) (u0 : Int64) (u1 : Int64) (M : Mem) : Option (Int64 × Mem) :=
  lt (u0 * u1) fun y11_1 =>
  ck x13 12 <|
  ck ((73 : Int32) + (M 287 x13.toNatClampNeg)) 1247 <|
  cb (f_X7_has x10 x13 M) fun r_6 M_5 =>
  if r_6 = 0 then
    f_X7_lost_218 x1 x2 x3 x4 k132 k151 x5 y6 y8 x10 y11_1 x13 ((73 : Int32) + (M 287 x13.toNatClampNeg)) (M 280 (((73 : Int32) + (M 287 x13.toNatClampNeg))).toNatClampNeg) (-1 : Int32) M_5
  else
    f_X7_lost_218 x1 x2 x3 x4 k132 k151 x5 y6 y8 x10 y11_1 x13 ((73 : Int32) + (M 287 x13.toNatClampNeg)) (M 280 (((73 : Int32) + (M 287 x13.toNatClampNeg))).toNatClampNeg) (((1 : Int32) <<< (x1 &&& 31)) ^^^ (-1 : Int32)) M_5
set_option maxRecDepth 20000 in
theorem b_X7_lost_180 {out : Int64 × Mem} (X : Bx p s m args meth c RX7 cX7_lost 16 (some .long) g)   {x1 : Int32} {x2 : Int32} {x3 : Int32} {x4 : Int32}   {k132 : Int32 → Int64 → Int64 → Int32 → Mem → Option (Int64 × Mem)} {k151 : Int32 → Int64 → Int64 → Int32 → Int64 → Int32 → Mem → Option (Int64 × Mem)} (hk132 : ∀ (x5 : Int32) (y6 : Int64) (y8 : Int64) (x10 : Int32) (M : Mem) (H : Heap) (locs : List Loc) (ls : Array Slot), k132 x5 y6 y8 x10 M = some out → va_P g.1 vwCl (gW g M) H → va_S (gA g) s.heap H locs → lv_has ls 16 [(0, .ref (gz g + 279)), (1, .int x1), (2, .int x2), (3, .int x3), (4, .int x4), (5, .int x5), (6, .long y6), (8, .long y8), (10, .int x10)] → W p l e (rM 4 89) s m args below meth c H locs 0 0 (MQ below (qL g out) args s 0 0 (gA g)) (F0 m 132 ls [])) (hk151 : ∀ (x5 : Int32) (y6 : Int64) (y8 : Int64) (x10 : Int32) (y11 : Int64) (x13 : Int32) (M : Mem) (H : Heap) (locs : List Loc) (ls : Array Slot), k151 x5 y6 y8 x10 y11 x13 M = some out → va_P g.1 vwCl (gW g M) H → va_S (gA g) s.heap H locs → lv_has ls 16 [(0, .ref (gz g + 279)), (1, .int x1), (2, .int x2), (3, .int x3), (4, .int x4), (5, .int x5), (6, .long y6), (8, .long y8), (10, .int x10), (11, .long y11), (13, .int x13)] → W p l e (rM 4 89) s m args below meth c H locs 0 0 (MQ below (qL g out) args s 0 0 (gA g)) (F0 m 151 ls [])) (x5 : Int32) (y6 : Int64) (y8 : Int64) (x10 : Int32) (x13 : Int32) (u0 : Int64) (u1 : Int64) (M : Mem) {H : Heap} {locs : List Loc} {ls : Array Slot} (hf : f_X7_lost_180 x1 x2 x3 x4 k132 k151 x5 y6 y8 x10 x13 u0 u1 M = some out) (hP : va_P g.1 vwCl (gW g M) H) (hS : va_S (gA g) s.heap H locs) (hl : lv_has ls 16 [(0, .ref (gz g + 279)), (1, .int x1), (2, .int x2), (3, .int x3), (4, .int x4), (5, .int x5), (6, .long y6), (8, .long y8), (10, .int x10), (13, .int x13)]) : W p l e (rM 4 89) s m args below meth c H locs 0 0 (MQ below (qL g out) args s 0 0 (gA g)) (F0 m 180 ls [.long u1, .long u0]) := by
  have hx := X.1
  have hb := X.2.1
  refine lv_lmul hx hb dX7_lost_180 ?_
  refine lv_topl (fun y11_1 ey11_1 => ?_)
  replace hf := lt_go hf ey11_1
  refine lv_lstore (lv' := [(11, .long y11_1), (0, .ref (gz g + 279)), (1, .int x1), (2, .int x2), (3, .int x3), (4, .int x4), (5, .int x5), (6, .long y6), (8, .long y8), (10, .int x10), (13, .int x13)]) hx hb dX7_lost_181 hl (by decide) rfl (fun ls hl => ?_)
  refine lv_aload_n hx hb dX7_lost_183 rfl (lv_at hl 1 rfl) ?_
  refine gf_7_0 X hP kc_279 q4_25 dX7_lost_184 ?_
  refine lv_bipush (v := (73 : Int32)) hx hb dX7_lost_187 (by decide) ?_
  refine lv_aload_n hx hb dX7_lost_189 rfl (lv_at hl 1 rfl) ?_
  refine gf_7_14 X hP kc_279 q4_39 dX7_lost_190 ?_
  refine lv_iload hx hb dX7_lost_193 (lv_at hl 10 rfl) ?_
  obtain ⟨hi_2, hf⟩ := ck_s hf
  refine ga_ld X hP (iA_9 kc_287) hi_2 dX7_lost_195 ?_
  refine lv_iadd hx hb dX7_lost_196 ?_
  refine lv_dup2_11 hx hb dX7_lost_197 rfl rfl ?_
  obtain ⟨hi_3, hf⟩ := ck_s hf
  refine ga_ld X hP (iA_13 kc_280) hi_3 dX7_lost_198 ?_
  refine lv_iload hx hb dX7_lost_199 (lv_at hl 9 rfl) ?_
  refine lv_iload hx hb dX7_lost_201 (lv_at hl 10 rfl) ?_
  obtain ⟨r_6, M_5, hc_4, hf⟩ := cb_s hf
  refine g_goi (g_runS X (c_X7_has l g  hc_4) s_X7_has q4_197 ⟨Nat.le_of_ble_eq_true rfl, Nat.le_of_ble_eq_true rfl⟩ hP hS rfl hl.1 rfl (Nat.le_of_ble_eq_true rfl) ⟨Nat.le_refl _, Nat.le_refl _⟩ dX7_lost_203) hS (fun H locs hP hS => ?_)
  refine lv_if_eq (tgt := 217) hx hb dX7_lost_206 (by decide) (fun h_7 => ?_) (fun h_7 => ?_)
  · replace hf := it_t hf h_7
    refine lv_iconst (v := (-1 : Int32)) hx hb dX7_lost_217 (by decide) ?_
    exact b_X7_lost_218 X hk132 hk151 x5 y6 y8 x10 y11_1 x13 ((73 : Int32) + (M 287 x13.toNatClampNeg)) (M 280 (((73 : Int32) + (M 287 x13.toNatClampNeg))).toNatClampNeg) (-1 : Int32) M_5 hf hP hS (lv_sub hl [1, 2, 3, 4, 5, 6, 7, 8, 9, 0, 10] rfl)
  · replace hf := it_f hf h_7
    refine lv_iconst (v := (1 : Int32)) hx hb dX7_lost_209 (by decide) ?_
    refine lv_iload_n hx hb dX7_lost_210 rfl (lv_at hl 2 rfl) ?_
    refine lv_ishl hx hb dX7_lost_211 ?_
    refine lv_iconst (v := (-1 : Int32)) hx hb dX7_lost_212 (by decide) ?_
    refine lv_ixor hx hb dX7_lost_213 ?_
    refine lv_goto (tgt := 218) hx hb dX7_lost_214 (by decide) ?_
    exact b_X7_lost_218 X hk132 hk151 x5 y6 y8 x10 y11_1 x13 ((73 : Int32) + (M 287 x13.toNatClampNeg)) (M 280 (((73 : Int32) + (M 287 x13.toNatClampNeg))).toNatClampNeg) (((1 : Int32) <<< (x1 &&& 31)) ^^^ (-1 : Int32)) M_5 hf hP hS (lv_sub hl [1, 2, 3, 4, 5, 6, 7, 8, 9, 0, 10] rfl)
def f_X7_lost_151 (x1 : Int32) (x2 : Int32) (x3 : Int32) (x4 : Int32) (k132 : Int32 → Int64 → Int64 → Int32 → Mem → Option (Int64 × Mem)) : Nat → Int32 → Int64 → Int64 → Int32 → Int64 → Int32 → Mem → Option (Int64 × Mem)
  | 0, _, _, _, _, _, _, _ => none
  | n + 1, x5, y6, y8, x10, y11, x13, M =>
    if x5 ≤ x13 then
      if (lg_cmp y11 (0 : Int64)) ≤ 0 then
        f_X7_lost_261 x1 x2 x3 x4 k132 x5 y6 y8 x10 M
      else
        cv (f_X7_goesOn x2 M) fun M_4 =>
        ck ((61 : Int32) + x1) 1247 <|
        if (M_4 280 (((61 : Int32) + x1)).toNatClampNeg) ≤ 0 then
          f_X7_lost_258 x1 x2 x3 x4 k132 x5 y8 x10 y6 (0 : Int64) M_4
        else
          f_X7_lost_258 x1 x2 x3 x4 k132 x5 y8 x10 y6 y11 M_4
    else
      cb (f_X7_has x10 x13 M) fun r_9 M_8 =>
      if r_9 = 0 then
        f_X7_lost_180 x1 x2 x3 x4 k132 (f_X7_lost_151 x1 x2 x3 x4 k132 n) x5 y6 y8 x10 x13 y11 ((((10 : Int32) - x3)).toInt64) M_8
      else
        f_X7_lost_180 x1 x2 x3 x4 k132 (f_X7_lost_151 x1 x2 x3 x4 k132 n) x5 y6 y8 x10 x13 y11 ((x3).toInt64) M_8
set_option maxRecDepth 20000 in
theorem b_X7_lost_151 {out : Int64 × Mem} (X : Bx p s m args meth c RX7 cX7_lost 16 (some .long) g)   {x1 : Int32} {x2 : Int32} {x3 : Int32} {x4 : Int32}   {k132 : Int32 → Int64 → Int64 → Int32 → Mem → Option (Int64 × Mem)} (hk132 : ∀ (x5 : Int32) (y6 : Int64) (y8 : Int64) (x10 : Int32) (M : Mem) (H : Heap) (locs : List Loc) (ls : Array Slot), k132 x5 y6 y8 x10 M = some out → va_P g.1 vwCl (gW g M) H → va_S (gA g) s.heap H locs → lv_has ls 16 [(0, .ref (gz g + 279)), (1, .int x1), (2, .int x2), (3, .int x3), (4, .int x4), (5, .int x5), (6, .long y6), (8, .long y8), (10, .int x10)] → W p l e (rM 4 89) s m args below meth c H locs 0 0 (MQ below (qL g out) args s 0 0 (gA g)) (F0 m 132 ls [])) : ∀ (n : Nat) (x5 : Int32) (y6 : Int64) (y8 : Int64) (x10 : Int32) (y11 : Int64) (x13 : Int32) (M : Mem) (H : Heap) (locs : List Loc) (ls : Array Slot), f_X7_lost_151 x1 x2 x3 x4 k132 n x5 y6 y8 x10 y11 x13 M = some out → va_P g.1 vwCl (gW g M) H → va_S (gA g) s.heap H locs → lv_has ls 16 [(0, .ref (gz g + 279)), (1, .int x1), (2, .int x2), (3, .int x3), (4, .int x4), (5, .int x5), (6, .long y6), (8, .long y8), (10, .int x10), (11, .long y11), (13, .int x13)] → W p l e (rM 4 89) s m args below meth c H locs 0 0 (MQ below (qL g out) args s 0 0 (gA g)) (F0 m 151 ls []) := by
  have hx := X.1
  have hb := X.2.1
  intro n
  induction n with
  | zero => intro _ _ _ _ _ _ _ _ _ _ hf; cases hf
  | succ n ih =>
    intro x5 y6 y8 x10 y11 x13 M H locs ls hf hP hS hl
    rw [f_X7_lost_151] at hf
    refine lv_iload hx hb dX7_lost_151 (lv_at hl 10 rfl) ?_
    refine lv_iload hx hb dX7_lost_153 (lv_at hl 5 rfl) ?_
    refine lv_icmp_ge (tgt := 226) hx hb dX7_lost_155 (by decide) (fun h_1 => ?_) (fun h_1 => ?_)
    · replace hf := it_t hf h_1
      refine lv_lload hx hb dX7_lost_226 (lv_at hl 9 rfl) ?_
      refine lv_lconst (v := (0 : Int64)) hx hb dX7_lost_228 (by decide) ?_
      refine W.lcmp hx hb dX7_lost_229 ?_
      refine lv_if_le (tgt := 261) hx hb dX7_lost_230 (by decide) (fun h_2 => ?_) (fun h_2 => ?_)
      · replace hf := it_t hf h_2
        exact b_X7_lost_261 X hk132 x5 y6 y8 x10 M hf hP hS (lv_sub hl [0, 1, 2, 3, 4, 5, 6, 7, 8] rfl)
      · replace hf := it_f hf h_2
        refine lv_aload_n hx hb dX7_lost_233 rfl (lv_at hl 0 rfl) ?_
        refine lv_iload_n hx hb dX7_lost_234 rfl (lv_at hl 2 rfl) ?_
        obtain ⟨M_4, hc_3, hf⟩ := cv_s hf
        refine g_gov (g_run X (c_X7_goesOn l g  hc_3) s_X7_goesOn (oB_7 kc_279) q5_26 ⟨Nat.le_of_ble_eq_true rfl, Nat.le_of_ble_eq_true rfl⟩ hP hS rfl hl.1 rfl (Nat.le_of_ble_eq_true rfl) ⟨Nat.le_refl _, Nat.le_refl _⟩ dX7_lost_235) hS (fun H locs hP hS => ?_)
        refine lv_lload hx hb dX7_lost_238 (lv_at hl 6 rfl) ?_
        refine lv_aload_n hx hb dX7_lost_240 rfl (lv_at hl 0 rfl) ?_
        refine gf_7_0 X hP kc_279 q4_25 dX7_lost_241 ?_
        refine lv_bipush (v := (61 : Int32)) hx hb dX7_lost_244 (by decide) ?_
        refine lv_iload_n hx hb dX7_lost_246 rfl (lv_at hl 1 rfl) ?_
        refine lv_iadd hx hb dX7_lost_247 ?_
        obtain ⟨hi_5, hf⟩ := ck_s hf
        refine ga_ld X hP (iA_13 kc_280) hi_5 dX7_lost_248 ?_
        refine lv_if_le (tgt := 257) hx hb dX7_lost_249 (by decide) (fun h_6 => ?_) (fun h_6 => ?_)
        · replace hf := it_t hf h_6
          refine lv_lconst (v := (0 : Int64)) hx hb dX7_lost_257 (by decide) ?_
          exact b_X7_lost_258 X hk132 x5 y8 x10 y6 (0 : Int64) M_4 hf hP hS (lv_sub hl [0, 1, 2, 3, 4, 5, 7, 8] rfl)
        · replace hf := it_f hf h_6
          refine lv_lload hx hb dX7_lost_252 (lv_at hl 9 rfl) ?_
          refine lv_goto (tgt := 258) hx hb dX7_lost_254 (by decide) ?_
          exact b_X7_lost_258 X hk132 x5 y8 x10 y6 y11 M_4 hf hP hS (lv_sub hl [0, 1, 2, 3, 4, 5, 7, 8] rfl)
    · replace hf := it_f hf h_1
      refine lv_lload hx hb dX7_lost_158 (lv_at hl 9 rfl) ?_
      refine lv_iload hx hb dX7_lost_160 (lv_at hl 8 rfl) ?_
      refine lv_iload hx hb dX7_lost_162 (lv_at hl 10 rfl) ?_
      obtain ⟨r_9, M_8, hc_7, hf⟩ := cb_s hf
      refine g_goi (g_runS X (c_X7_has l g  hc_7) s_X7_has q4_197 ⟨Nat.le_of_ble_eq_true rfl, Nat.le_of_ble_eq_true rfl⟩ hP hS rfl hl.1 rfl (Nat.le_of_ble_eq_true rfl) ⟨Nat.le_refl _, Nat.le_refl _⟩ dX7_lost_164) hS (fun H locs hP hS => ?_)
      refine lv_if_eq (tgt := 175) hx hb dX7_lost_167 (by decide) (fun h_10 => ?_) (fun h_10 => ?_)
      · replace hf := it_t hf h_10
        refine lv_bipush (v := (10 : Int32)) hx hb dX7_lost_175 (by decide) ?_
        refine lv_iload_n hx hb dX7_lost_177 rfl (lv_at hl 3 rfl) ?_
        refine lv_isub hx hb dX7_lost_178 ?_
        refine lv_i2l hx hb dX7_lost_179 rfl ?_
        exact b_X7_lost_180 X hk132 ih x5 y6 y8 x10 x13 y11 ((((10 : Int32) - x3)).toInt64) M_8 hf hP hS (lv_sub hl [0, 1, 2, 3, 4, 5, 6, 7, 8, 10] rfl)
      · replace hf := it_f hf h_10
        refine lv_iload_n hx hb dX7_lost_170 rfl (lv_at hl 3 rfl) ?_
        refine lv_i2l hx hb dX7_lost_171 rfl ?_
        refine lv_goto (tgt := 180) hx hb dX7_lost_172 (by decide) ?_
        exact b_X7_lost_180 X hk132 ih x5 y6 y8 x10 x13 y11 ((x3).toInt64) M_8 hf hP hS (lv_sub hl [0, 1, 2, 3, 4, 5, 6, 7, 8, 10] rfl)
def f_X7_lost_132 (x1 : Int32) (x2 : Int32) (x3 : Int32) (x4 : Int32)  : Nat → Int32 → Int64 → Int64 → Int32 → Mem → Option (Int64 × Mem)
  | 0, _, _, _, _, _ => none
  | n + 1, x5, y6, y8, x10, M =>
    if ((1 : Int32) <<< (x5 &&& 31)) ≤ x10 then
      f_X7_lost_275 x4 FU y6 y8 y6 y8 M
    else
      cv (f_X7_tries M) fun M_3 =>
      f_X7_lost_151 x1 x2 x3 x4 (f_X7_lost_132 x1 x2 x3 x4 n) FU x5 y6 y8 x10 (1 : Int64) (0 : Int32) M_3
set_option maxRecDepth 20000 in
theorem b_X7_lost_132 {out : Int64 × Mem} (X : Bx p s m args meth c RX7 cX7_lost 16 (some .long) g)   {x1 : Int32} {x2 : Int32} {x3 : Int32} {x4 : Int32}     : ∀ (n : Nat) (x5 : Int32) (y6 : Int64) (y8 : Int64) (x10 : Int32) (M : Mem) (H : Heap) (locs : List Loc) (ls : Array Slot), f_X7_lost_132 x1 x2 x3 x4 n x5 y6 y8 x10 M = some out → va_P g.1 vwCl (gW g M) H → va_S (gA g) s.heap H locs → lv_has ls 16 [(0, .ref (gz g + 279)), (1, .int x1), (2, .int x2), (3, .int x3), (4, .int x4), (5, .int x5), (6, .long y6), (8, .long y8), (10, .int x10)] → W p l e (rM 4 89) s m args below meth c H locs 0 0 (MQ below (qL g out) args s 0 0 (gA g)) (F0 m 132 ls []) := by
  have hx := X.1
  have hb := X.2.1
  intro n
  induction n with
  | zero => intro _ _ _ _ _ _ _ _ hf; cases hf
  | succ n ih =>
    intro x5 y6 y8 x10 M H locs ls hf hP hS hl
    rw [f_X7_lost_132] at hf
    refine lv_iload hx hb dX7_lost_132 (lv_at hl 8 rfl) ?_
    refine lv_iconst (v := (1 : Int32)) hx hb dX7_lost_134 (by decide) ?_
    refine lv_iload hx hb dX7_lost_135 (lv_at hl 5 rfl) ?_
    refine lv_ishl hx hb dX7_lost_137 ?_
    refine lv_icmp_ge (tgt := 267) hx hb dX7_lost_138 (by decide) (fun h_1 => ?_) (fun h_1 => ?_)
    · replace hf := it_t hf h_1
      refine lv_lload hx hb dX7_lost_267 (lv_at hl 6 rfl) ?_
      refine lv_lstore (lv' := [(10, .long y6), (0, .ref (gz g + 279)), (1, .int x1), (2, .int x2), (3, .int x3), (4, .int x4), (5, .int x5), (6, .long y6), (8, .long y8)]) hx hb dX7_lost_269 hl (by decide) rfl (fun ls hl => ?_)
      refine lv_lload hx hb dX7_lost_271 (lv_at hl 8 rfl) ?_
      refine lv_lstore (lv' := [(12, .long y8), (10, .long y6), (0, .ref (gz g + 279)), (1, .int x1), (2, .int x2), (3, .int x3), (4, .int x4), (5, .int x5), (6, .long y6), (8, .long y8)]) hx hb dX7_lost_273 hl (by decide) rfl (fun ls hl => ?_)
      exact b_X7_lost_275 X  FU y6 y8 y6 y8 M _ _ _ hf hP hS (lv_sub hl [6, 8, 9, 1, 0] rfl)
    · replace hf := it_f hf h_1
      refine lv_lconst (v := (1 : Int64)) hx hb dX7_lost_141 (by decide) ?_
      refine lv_lstore (lv' := [(11, .long (1 : Int64)), (0, .ref (gz g + 279)), (1, .int x1), (2, .int x2), (3, .int x3), (4, .int x4), (5, .int x5), (6, .long y6), (8, .long y8), (10, .int x10)]) hx hb dX7_lost_142 hl (by decide) rfl (fun ls hl => ?_)
      refine lv_aload_n hx hb dX7_lost_144 rfl (lv_at hl 1 rfl) ?_
      obtain ⟨M_3, hc_2, hf⟩ := cv_s hf
      refine g_gov (g_run X (c_X7_tries l g  hc_2) s_X7_tries (oB_7 kc_279) q5_22 ⟨Nat.le_of_ble_eq_true rfl, Nat.le_of_ble_eq_true rfl⟩ hP hS rfl hl.1 rfl (Nat.le_of_ble_eq_true rfl) ⟨Nat.le_refl _, Nat.le_refl _⟩ dX7_lost_145) hS (fun H locs hP hS => ?_)
      refine lv_iconst (v := (0 : Int32)) hx hb dX7_lost_148 (by decide) ?_
      refine lv_istore (lv' := [(13, .int (0 : Int32)), (11, .long (1 : Int64)), (0, .ref (gz g + 279)), (1, .int x1), (2, .int x2), (3, .int x3), (4, .int x4), (5, .int x5), (6, .long y6), (8, .long y8), (10, .int x10)]) hx hb dX7_lost_149 hl (by decide) rfl (fun ls hl => ?_)
      exact b_X7_lost_151 X ih FU x5 y6 y8 x10 (1 : Int64) (0 : Int32) M_3 _ _ _ hf hP hS (lv_sub hl [2, 3, 4, 5, 6, 7, 8, 9, 10, 1, 0] rfl)
def f_X7_lost_108 (x1 : Int32) (x2 : Int32) (x3 : Int32) (x4 : Int32)  : Nat → Int32 → Int64 → Int64 → Int32 → Mem → Option (Int64 × Mem)
  | 0, _, _, _, _, _ => none
  | n + 1, x5, y6, y8, x10, M =>
    if x5 ≤ x10 then
      f_X7_lost_132 x1 x2 x3 x4 FU x5 y6 y8 (0 : Int32) M
    else
      lt (y8 * (10 : Int64)) fun y8_2 =>
      (f_X7_lost_108 x1 x2 x3 x4 n) x5 y6 y8_2 (x10 + (1 : Int32)) M
set_option maxRecDepth 20000 in
theorem b_X7_lost_108 {out : Int64 × Mem} (X : Bx p s m args meth c RX7 cX7_lost 16 (some .long) g)   {x1 : Int32} {x2 : Int32} {x3 : Int32} {x4 : Int32}     : ∀ (n : Nat) (x5 : Int32) (y6 : Int64) (y8 : Int64) (x10 : Int32) (M : Mem) (H : Heap) (locs : List Loc) (ls : Array Slot), f_X7_lost_108 x1 x2 x3 x4 n x5 y6 y8 x10 M = some out → va_P g.1 vwCl (gW g M) H → va_S (gA g) s.heap H locs → lv_has ls 16 [(0, .ref (gz g + 279)), (1, .int x1), (2, .int x2), (3, .int x3), (4, .int x4), (5, .int x5), (6, .long y6), (8, .long y8), (10, .int x10)] → W p l e (rM 4 89) s m args below meth c H locs 0 0 (MQ below (qL g out) args s 0 0 (gA g)) (F0 m 108 ls []) := by
  have hx := X.1
  have hb := X.2.1
  intro n
  induction n with
  | zero => intro _ _ _ _ _ _ _ _ hf; cases hf
  | succ n ih =>
    intro x5 y6 y8 x10 M H locs ls hf hP hS hl
    rw [f_X7_lost_108] at hf
    refine lv_iload hx hb dX7_lost_108 (lv_at hl 8 rfl) ?_
    refine lv_iload hx hb dX7_lost_110 (lv_at hl 5 rfl) ?_
    refine lv_icmp_ge (tgt := 129) hx hb dX7_lost_112 (by decide) (fun h_1 => ?_) (fun h_1 => ?_)
    · replace hf := it_t hf h_1
      refine lv_iconst (v := (0 : Int32)) hx hb dX7_lost_129 (by decide) ?_
      refine lv_istore (lv' := [(10, .int (0 : Int32)), (0, .ref (gz g + 279)), (1, .int x1), (2, .int x2), (3, .int x3), (4, .int x4), (5, .int x5), (6, .long y6), (8, .long y8)]) hx hb dX7_lost_130 hl (by decide) rfl (fun ls hl => ?_)
      exact b_X7_lost_132 X  FU x5 y6 y8 (0 : Int32) M _ _ _ hf hP hS (lv_sub hl [1, 2, 3, 4, 5, 6, 7, 8, 0] rfl)
    · replace hf := it_f hf h_1
      refine lv_lload hx hb dX7_lost_115 (lv_at hl 7 rfl) ?_
      refine lv_ldc2 hx hb X.2.2.2.1 (X.2.2.2.2.1 _ q5_97) dX7_lost_117 ?_
      refine lv_lmul hx hb dX7_lost_120 ?_
      refine lv_topl (fun y8_2 ey8_2 => ?_)
      replace hf := lt_go hf ey8_2
      refine lv_lstore (lv' := [(8, .long y8_2), (0, .ref (gz g + 279)), (1, .int x1), (2, .int x2), (3, .int x3), (4, .int x4), (5, .int x5), (6, .long y6), (10, .int x10)]) hx hb dX7_lost_121 hl (by decide) rfl (fun ls hl => ?_)
      refine lv_iinc (v := (x10 + (1 : Int32))) (lv' := [(10, .int (x10 + (1 : Int32))), (8, .long y8_2), (0, .ref (gz g + 279)), (1, .int x1), (2, .int x2), (3, .int x3), (4, .int x4), (5, .int x5), (6, .long y6)]) hx hb dX7_lost_123 hl (k := 8) rfl rfl (by decide) rfl (fun ls hl => ?_)
      refine lv_goto (tgt := 108) hx hb dX7_lost_126 (by decide) ?_
      exact ih x5 y6 y8_2 (x10 + (1 : Int32)) M _ _ _ hf hP hS (lv_sub hl [2, 3, 4, 5, 6, 7, 8, 1, 0] rfl)
def f_X7_lost_93 (x1 : Int32) (x2 : Int32) (x3 : Int32) (x4 : Int32) (k53 : Int32 → Int32 → Mem → Option (Int64 × Mem)) (x5 : Int32) (x6 : Int32) (M : Mem) : Option (Int64 × Mem) :=
  k53 x5 (x6 + (1 : Int32)) M
set_option maxRecDepth 20000 in
theorem b_X7_lost_93 {out : Int64 × Mem} (X : Bx p s m args meth c RX7 cX7_lost 16 (some .long) g)   {x1 : Int32} {x2 : Int32} {x3 : Int32} {x4 : Int32}   {k53 : Int32 → Int32 → Mem → Option (Int64 × Mem)} (hk53 : ∀ (x5 : Int32) (x6 : Int32) (M : Mem) (H : Heap) (locs : List Loc) (ls : Array Slot), k53 x5 x6 M = some out → va_P g.1 vwCl (gW g M) H → va_S (gA g) s.heap H locs → lv_has ls 16 [(0, .ref (gz g + 279)), (1, .int x1), (2, .int x2), (3, .int x3), (4, .int x4), (5, .int x5), (6, .int x6)] → W p l e (rM 4 89) s m args below meth c H locs 0 0 (MQ below (qL g out) args s 0 0 (gA g)) (F0 m 53 ls [])) (x5 : Int32) (x6 : Int32) (M : Mem) {H : Heap} {locs : List Loc} {ls : Array Slot} (hf : f_X7_lost_93 x1 x2 x3 x4 k53 x5 x6 M = some out) (hP : va_P g.1 vwCl (gW g M) H) (hS : va_S (gA g) s.heap H locs) (hl : lv_has ls 16 [(0, .ref (gz g + 279)), (1, .int x1), (2, .int x2), (3, .int x3), (4, .int x4), (5, .int x5), (6, .int x6)]) : W p l e (rM 4 89) s m args below meth c H locs 0 0 (MQ below (qL g out) args s 0 0 (gA g)) (F0 m 93 ls []) := by
  have hx := X.1
  have hb := X.2.1
  refine lv_iinc (v := (x6 + (1 : Int32))) (lv' := [(6, .int (x6 + (1 : Int32))), (0, .ref (gz g + 279)), (1, .int x1), (2, .int x2), (3, .int x3), (4, .int x4), (5, .int x5)]) hx hb dX7_lost_93 hl (k := 6) rfl rfl (by decide) rfl (fun ls hl => ?_)
  refine lv_goto (tgt := 53) hx hb dX7_lost_96 (by decide) ?_
  exact hk53 x5 (x6 + (1 : Int32)) M _ _ _ hf hP hS (lv_sub hl [1, 2, 3, 4, 5, 6, 0] rfl)
def f_X7_lost_53 (x1 : Int32) (x2 : Int32) (x3 : Int32) (x4 : Int32)  : Nat → Int32 → Int32 → Mem → Option (Int64 × Mem)
  | 0, _, _, _ => none
  | n + 1, x5, x6, M =>
    if (M 280 1) ≤ x6 then
      f_X7_lost_108 x1 x2 x3 x4 FU x5 (0 : Int64) (1 : Int64) (0 : Int32) M
    else
      ck ((30 : Int32) + x6) 1247 <|
      cb (f_X7_has (M 280 (((30 : Int32) + x6)).toNatClampNeg) x1 M) fun r_5 M_4 =>
      if r_5 = 0 then
        f_X7_lost_93 x1 x2 x3 x4 (f_X7_lost_53 x1 x2 x3 x4 n) x5 x6 M_4
      else
        ck x5 12 <|
        lt (up2 M_4 287 x5.toNatClampNeg x6) fun M_7 =>
        f_X7_lost_93 x1 x2 x3 x4 (f_X7_lost_53 x1 x2 x3 x4 n) (x5 + (1 : Int32)) x6 M_7
set_option maxRecDepth 20000 in
theorem b_X7_lost_53 {out : Int64 × Mem} (X : Bx p s m args meth c RX7 cX7_lost 16 (some .long) g)   {x1 : Int32} {x2 : Int32} {x3 : Int32} {x4 : Int32}     : ∀ (n : Nat) (x5 : Int32) (x6 : Int32) (M : Mem) (H : Heap) (locs : List Loc) (ls : Array Slot), f_X7_lost_53 x1 x2 x3 x4 n x5 x6 M = some out → va_P g.1 vwCl (gW g M) H → va_S (gA g) s.heap H locs → lv_has ls 16 [(0, .ref (gz g + 279)), (1, .int x1), (2, .int x2), (3, .int x3), (4, .int x4), (5, .int x5), (6, .int x6)] → W p l e (rM 4 89) s m args below meth c H locs 0 0 (MQ below (qL g out) args s 0 0 (gA g)) (F0 m 53 ls []) := by
  have hx := X.1
  have hb := X.2.1
  intro n
  induction n with
  | zero => intro _ _ _ _ _ _ hf; cases hf
  | succ n ih =>
    intro x5 x6 M H locs ls hf hP hS hl
    rw [f_X7_lost_53] at hf
    refine lv_iload hx hb dX7_lost_53 (lv_at hl 6 rfl) ?_
    refine lv_aload_n hx hb dX7_lost_55 rfl (lv_at hl 0 rfl) ?_
    refine gf_7_0 X hP kc_279 q4_25 dX7_lost_56 ?_
    refine lv_iconst (v := (1 : Int32)) hx hb dX7_lost_59 (by decide) ?_
    refine ga_ldj (j := 1) X hP (iA_13 kc_280) (by unfold vp_in; decide) (by decide) dX7_lost_60 ?_
    refine lv_icmp_ge (tgt := 99) hx hb dX7_lost_61 (by decide) (fun h_1 => ?_) (fun h_1 => ?_)
    · replace hf := it_t hf h_1
      refine lv_lconst (v := (0 : Int64)) hx hb dX7_lost_99 (by decide) ?_
      refine lv_lstore (lv' := [(6, .long (0 : Int64)), (0, .ref (gz g + 279)), (1, .int x1), (2, .int x2), (3, .int x3), (4, .int x4), (5, .int x5)]) hx hb dX7_lost_100 hl (by decide) rfl (fun ls hl => ?_)
      refine lv_lconst (v := (1 : Int64)) hx hb dX7_lost_102 (by decide) ?_
      refine lv_lstore (lv' := [(8, .long (1 : Int64)), (6, .long (0 : Int64)), (0, .ref (gz g + 279)), (1, .int x1), (2, .int x2), (3, .int x3), (4, .int x4), (5, .int x5)]) hx hb dX7_lost_103 hl (by decide) rfl (fun ls hl => ?_)
      refine lv_iconst (v := (0 : Int32)) hx hb dX7_lost_105 (by decide) ?_
      refine lv_istore (lv' := [(10, .int (0 : Int32)), (8, .long (1 : Int64)), (6, .long (0 : Int64)), (0, .ref (gz g + 279)), (1, .int x1), (2, .int x2), (3, .int x3), (4, .int x4), (5, .int x5)]) hx hb dX7_lost_106 hl (by decide) rfl (fun ls hl => ?_)
      exact b_X7_lost_108 X  FU x5 (0 : Int64) (1 : Int64) (0 : Int32) M _ _ _ hf hP hS (lv_sub hl [3, 4, 5, 6, 7, 8, 2, 1, 0] rfl)
    · replace hf := it_f hf h_1
      refine lv_aload_n hx hb dX7_lost_64 rfl (lv_at hl 0 rfl) ?_
      refine gf_7_0 X hP kc_279 q4_25 dX7_lost_65 ?_
      refine lv_bipush (v := (30 : Int32)) hx hb dX7_lost_68 (by decide) ?_
      refine lv_iload hx hb dX7_lost_70 (lv_at hl 6 rfl) ?_
      refine lv_iadd hx hb dX7_lost_72 ?_
      obtain ⟨hi_2, hf⟩ := ck_s hf
      refine ga_ld X hP (iA_13 kc_280) hi_2 dX7_lost_73 ?_
      refine lv_iload_n hx hb dX7_lost_74 rfl (lv_at hl 1 rfl) ?_
      obtain ⟨r_5, M_4, hc_3, hf⟩ := cb_s hf
      refine g_goi (g_runS X (c_X7_has l g  hc_3) s_X7_has q4_197 ⟨Nat.le_of_ble_eq_true rfl, Nat.le_of_ble_eq_true rfl⟩ hP hS rfl hl.1 rfl (Nat.le_of_ble_eq_true rfl) ⟨Nat.le_refl _, Nat.le_refl _⟩ dX7_lost_75) hS (fun H locs hP hS => ?_)
      refine lv_if_eq (tgt := 93) hx hb dX7_lost_78 (by decide) (fun h_6 => ?_) (fun h_6 => ?_)
      · replace hf := it_t hf h_6
        exact b_X7_lost_93 X ih x5 x6 M_4 hf hP hS hl
      · replace hf := it_f hf h_6
        refine lv_aload_n hx hb dX7_lost_81 rfl (lv_at hl 0 rfl) ?_
        refine gf_7_14 X hP kc_279 q4_39 dX7_lost_82 ?_
        refine lv_iload hx hb dX7_lost_85 (lv_at hl 5 rfl) ?_
        refine lv_iload hx hb dX7_lost_87 (lv_at hl 6 rfl) ?_
        obtain ⟨hi_8, hf⟩ := ck_s hf
        refine ga_st X hP hS (iA_9 kc_287) hi_8 dX7_lost_89 (fun H locs M_7 eM_7 hP hS => ?_)
        replace hf := lt_go hf eM_7
        refine lv_iinc (v := (x5 + (1 : Int32))) (lv' := [(5, .int (x5 + (1 : Int32))), (0, .ref (gz g + 279)), (1, .int x1), (2, .int x2), (3, .int x3), (4, .int x4), (6, .int x6)]) hx hb dX7_lost_90 hl (k := 5) rfl rfl (by decide) rfl (fun ls hl => ?_)
        exact b_X7_lost_93 X ih (x5 + (1 : Int32)) x6 M_7 hf hP hS (lv_sub hl [1, 2, 3, 4, 5, 0, 6] rfl)
def f_X7_lost (x1 : Int32) (x2 : Int32) (x3 : Int32) (x4 : Int32) (M : Mem) : Option (Int64 × Mem) :=
  cb (f_X7_isTooth x1 M) fun r_3 M_2 =>
  if r_3 = 0 then
    some ((-1000001 : Int64), M_2)
  else
    cb (f_X7_in ((x2).toInt64) (0 : Int64) (20 : Int64) M_2) fun r_7 M_6 =>
    if r_7 = 0 then
      some ((-1000001 : Int64), M_6)
    else
      cb (f_X7_in ((x3).toInt64) (0 : Int64) (10 : Int64) M_6) fun r_11 M_10 =>
      if r_11 = 0 then
        some ((-1000001 : Int64), M_10)
      else
        cb (f_X7_in ((x4).toInt64) (0 : Int64) (1 : Int64) M_10) fun r_15 M_14 =>
        if r_15 = 0 then
          some ((-1000001 : Int64), M_14)
        else
          f_X7_lost_53 x1 x2 x3 x4 FU (0 : Int32) (0 : Int32) M_14
set_option maxRecDepth 20000 in
theorem c_X7_lost (l : Launch) (g : GC) {x1 : Int32} {x2 : Int32} {x3 : Int32} {x4 : Int32}  {M : Mem} {out : Int64 × Mem} (hf : f_X7_lost x1 x2 x3 x4 M = some out) : cL l g yX7_lost cX7_lost 16 (some .long) (rM 4 89) [.ref (gz g + 279), .int x1, .int x2, .int x3, .int x4] M out := by
  refine g_met (by decide) (Nat.le_of_ble_eq_true rfl) ?_
  intro p e s m below meth c X hP hS ls hl
  have X : Bx p s m _ meth c RX7 cX7_lost 16 (some .long) g := X
  have hl : lv_has ls 16 [(0, .ref (gz g + 279)), (1, .int x1), (2, .int x2), (3, .int x3), (4, .int x4)] := hl
  have hx := X.1
  have hb := X.2.1
  refine lv_aload_n hx hb dX7_lost_0 rfl (lv_at hl 0 rfl) ?_
  refine lv_iload_n hx hb dX7_lost_1 rfl (lv_at hl 1 rfl) ?_
  obtain ⟨r_3, M_2, hc_1, hf⟩ := cb_s hf
  refine g_goi (g_run X (c_X7_isTooth l g  hc_1) s_X7_isTooth (oB_7 kc_279) q4_221 ⟨Nat.le_of_ble_eq_true rfl, Nat.le_of_ble_eq_true rfl⟩ hP hS rfl hl.1 rfl (Nat.le_of_ble_eq_true rfl) ⟨Nat.le_refl _, Nat.le_refl _⟩ dX7_lost_2) hS (fun H locs hP hS => ?_)
  refine lv_if_eq (tgt := 43) hx hb dX7_lost_5 (by decide) (fun h_4 => ?_) (fun h_4 => ?_)
  · replace hf := it_t hf h_4
    refine lv_ldc2 hx hb X.2.2.2.1 (X.2.2.2.2.1 _ q5_98) dX7_lost_43 ?_
    exact g_lret X hP hS (sm_i hf) dX7_lost_46
  · replace hf := it_f hf h_4
    refine lv_iload_n hx hb dX7_lost_8 rfl (lv_at hl 2 rfl) ?_
    refine lv_i2l hx hb dX7_lost_9 rfl ?_
    refine lv_lconst (v := (0 : Int64)) hx hb dX7_lost_10 (by decide) ?_
    refine lv_ldc2 hx hb X.2.2.2.1 (X.2.2.2.2.1 _ q5_48) dX7_lost_11 ?_
    obtain ⟨r_7, M_6, hc_5, hf⟩ := cb_s hf
    refine g_goi (g_runS X (c_X7_in l g  hc_5) s_X7_in q4_89 ⟨Nat.le_of_ble_eq_true rfl, Nat.le_of_ble_eq_true rfl⟩ hP hS rfl hl.1 rfl (Nat.le_of_ble_eq_true rfl) ⟨Nat.le_refl _, Nat.le_refl _⟩ dX7_lost_14) hS (fun H locs hP hS => ?_)
    refine lv_if_eq (tgt := 43) hx hb dX7_lost_17 (by decide) (fun h_8 => ?_) (fun h_8 => ?_)
    · replace hf := it_t hf h_8
      refine lv_ldc2 hx hb X.2.2.2.1 (X.2.2.2.2.1 _ q5_98) dX7_lost_43 ?_
      exact g_lret X hP hS (sm_i hf) dX7_lost_46
    · replace hf := it_f hf h_8
      refine lv_iload_n hx hb dX7_lost_20 rfl (lv_at hl 3 rfl) ?_
      refine lv_i2l hx hb dX7_lost_21 rfl ?_
      refine lv_lconst (v := (0 : Int64)) hx hb dX7_lost_22 (by decide) ?_
      refine lv_ldc2 hx hb X.2.2.2.1 (X.2.2.2.2.1 _ q5_97) dX7_lost_23 ?_
      obtain ⟨r_11, M_10, hc_9, hf⟩ := cb_s hf
      refine g_goi (g_runS X (c_X7_in l g  hc_9) s_X7_in q4_89 ⟨Nat.le_of_ble_eq_true rfl, Nat.le_of_ble_eq_true rfl⟩ hP hS rfl hl.1 rfl (Nat.le_of_ble_eq_true rfl) ⟨Nat.le_refl _, Nat.le_refl _⟩ dX7_lost_26) hS (fun H locs hP hS => ?_)
      refine lv_if_eq (tgt := 43) hx hb dX7_lost_29 (by decide) (fun h_12 => ?_) (fun h_12 => ?_)
      · replace hf := it_t hf h_12
        refine lv_ldc2 hx hb X.2.2.2.1 (X.2.2.2.2.1 _ q5_98) dX7_lost_43 ?_
        exact g_lret X hP hS (sm_i hf) dX7_lost_46
      · replace hf := it_f hf h_12
        refine lv_iload hx hb dX7_lost_32 (lv_at hl 4 rfl) ?_
        refine lv_i2l hx hb dX7_lost_34 rfl ?_
        refine lv_lconst (v := (0 : Int64)) hx hb dX7_lost_35 (by decide) ?_
        refine lv_lconst (v := (1 : Int64)) hx hb dX7_lost_36 (by decide) ?_
        obtain ⟨r_15, M_14, hc_13, hf⟩ := cb_s hf
        refine g_goi (g_runS X (c_X7_in l g  hc_13) s_X7_in q4_89 ⟨Nat.le_of_ble_eq_true rfl, Nat.le_of_ble_eq_true rfl⟩ hP hS rfl hl.1 rfl (Nat.le_of_ble_eq_true rfl) ⟨Nat.le_refl _, Nat.le_refl _⟩ dX7_lost_37) hS (fun H locs hP hS => ?_)
        refine lv_if_ne (tgt := 47) hx hb dX7_lost_40 (by decide) (fun h_16 => ?_) (fun h_16 => ?_)
        · replace hf := it_f hf h_16
          refine lv_iconst (v := (0 : Int32)) hx hb dX7_lost_47 (by decide) ?_
          refine lv_istore (lv' := [(5, .int (0 : Int32)), (0, .ref (gz g + 279)), (1, .int x1), (2, .int x2), (3, .int x3), (4, .int x4)]) hx hb dX7_lost_48 hl (by decide) rfl (fun ls hl => ?_)
          refine lv_iconst (v := (0 : Int32)) hx hb dX7_lost_50 (by decide) ?_
          refine lv_istore (lv' := [(6, .int (0 : Int32)), (5, .int (0 : Int32)), (0, .ref (gz g + 279)), (1, .int x1), (2, .int x2), (3, .int x3), (4, .int x4)]) hx hb dX7_lost_51 hl (by decide) rfl (fun ls hl => ?_)
          exact b_X7_lost_53 X  FU (0 : Int32) (0 : Int32) M_14 _ _ _ hf hP hS (lv_sub hl [2, 3, 4, 5, 6, 1, 0] rfl)
        · replace hf := it_t hf h_16
          refine lv_ldc2 hx hb X.2.2.2.1 (X.2.2.2.2.1 _ q5_98) dX7_lost_43 ?_
          exact g_lret X hP hS (sm_i hf) dX7_lost_46
def f_X7_drawn_187 (x1 : Int32) (x3 : Int32) (k69 : Int64 → Int32 → Int32 → Mem → Option (Int32 × Mem)) (y4 : Int64) (x6 : Int32) (x7 : Int32) (M : Mem) : Option (Int32 × Mem) :=
  cv (f_X7_passes (43 : Int32) M) fun M_2 =>
  cb (f_X7_loud (43 : Int32) M_2) fun r_5 M_4 =>
  lt (x6 + r_5) fun x6_6 =>
  k69 y4 x6_6 (x7 + (1 : Int32)) M_4
set_option maxRecDepth 20000 in
theorem b_X7_drawn_187 {out : Int32 × Mem} (X : Bx p s m args meth c RX7 cX7_drawn 9 (some .int) g)   {x1 : Int32} {x3 : Int32}   {k69 : Int64 → Int32 → Int32 → Mem → Option (Int32 × Mem)} (hk69 : ∀ (y4 : Int64) (x6 : Int32) (x7 : Int32) (M : Mem) (H : Heap) (locs : List Loc) (ls : Array Slot), k69 y4 x6 x7 M = some out → va_P g.1 vwCl (gW g M) H → va_S (gA g) s.heap H locs → lv_has ls 9 [(0, .ref (gz g + 279)), (1, .int x1), (3, .int x3), (4, .long y4), (6, .int x6), (7, .int x7)] → W p l e (rM 3 67) s m args below meth c H locs 0 0 (MQ below (qI g out) args s 0 0 (gA g)) (F0 m 69 ls [])) (y4 : Int64) (x6 : Int32) (x7 : Int32) (M : Mem) {H : Heap} {locs : List Loc} {ls : Array Slot} (hf : f_X7_drawn_187 x1 x3 k69 y4 x6 x7 M = some out) (hP : va_P g.1 vwCl (gW g M) H) (hS : va_S (gA g) s.heap H locs) (hl : lv_has ls 9 [(0, .ref (gz g + 279)), (1, .int x1), (3, .int x3), (4, .long y4), (6, .int x6), (7, .int x7)]) : W p l e (rM 3 67) s m args below meth c H locs 0 0 (MQ below (qI g out) args s 0 0 (gA g)) (F0 m 187 ls []) := by
  have hx := X.1
  have hb := X.2.1
  refine lv_aload_n hx hb dX7_drawn_187 rfl (lv_at hl 0 rfl) ?_
  refine lv_bipush (v := (43 : Int32)) hx hb dX7_drawn_188 (by decide) ?_
  obtain ⟨M_2, hc_1, hf⟩ := cv_s hf
  refine g_gov (g_run X (c_X7_passes l g  hc_1) s_X7_passes (oB_7 kc_279) q4_189 ⟨Nat.le_of_ble_eq_true rfl, Nat.le_of_ble_eq_true rfl⟩ hP hS rfl hl.1 rfl (Nat.le_of_ble_eq_true rfl) ⟨Nat.le_refl _, Nat.le_refl _⟩ dX7_drawn_190) hS (fun H locs hP hS => ?_)
  refine lv_iload hx hb dX7_drawn_193 (lv_at hl 4 rfl) ?_
  refine lv_aload_n hx hb dX7_drawn_195 rfl (lv_at hl 0 rfl) ?_
  refine lv_bipush (v := (43 : Int32)) hx hb dX7_drawn_196 (by decide) ?_
  obtain ⟨r_5, M_4, hc_3, hf⟩ := cb_s hf
  refine g_goi (g_run X (c_X7_loud l g  hc_3) s_X7_loud (oB_7 kc_279) q4_204 ⟨Nat.le_of_ble_eq_true rfl, Nat.le_of_ble_eq_true rfl⟩ hP hS rfl hl.1 rfl (Nat.le_of_ble_eq_true rfl) ⟨Nat.le_refl _, Nat.le_refl _⟩ dX7_drawn_198) hS (fun H locs hP hS => ?_)
  refine lv_iadd hx hb dX7_drawn_201 ?_
  refine lv_topi (fun x6_6 ex6_6 => ?_)
  replace hf := lt_go hf ex6_6
  refine lv_istore (lv' := [(6, .int x6_6), (0, .ref (gz g + 279)), (1, .int x1), (3, .int x3), (4, .long y4), (7, .int x7)]) hx hb dX7_drawn_202 hl (by decide) rfl (fun ls hl => ?_)
  refine lv_iinc (v := (x7 + (1 : Int32))) (lv' := [(7, .int (x7 + (1 : Int32))), (6, .int x6_6), (0, .ref (gz g + 279)), (1, .int x1), (3, .int x3), (4, .long y4)]) hx hb dX7_drawn_204 hl (k := 5) rfl rfl (by decide) rfl (fun ls hl => ?_)
  refine lv_goto (tgt := 69) hx hb dX7_drawn_207 (by decide) ?_
  exact hk69 y4 x6_6 (x7 + (1 : Int32)) M_4 _ _ _ hf hP hS (lv_sub hl [2, 3, 4, 5, 1, 0] rfl)
def f_X7_drawn_151 (x1 : Int32) (x3 : Int32) (k69 : Int64 → Int32 → Int32 → Mem → Option (Int32 × Mem)) (y4 : Int64) (x6 : Int32) (x7 : Int32) (M : Mem) : Option (Int32 × Mem) :=
  czl (((M 280 0)).toInt64) <|
  lt (((y4 - y4 / ((M 280 0)).toInt64 * ((M 280 0)).toInt64)).toInt32) fun x8_2 =>
  cb (f_X7_has (M 280 48) x8_2 M) fun r_5 M_4 =>
  if r_5 = 0 then
    f_X7_drawn_187 x1 x3 k69 y4 x6 x7 M_4
  else
    cv (f_X7_mends (43 : Int32) x8_2 M_4) fun M_8 =>
    f_X7_drawn_187 x1 x3 k69 y4 x6 x7 M_8
set_option maxRecDepth 20000 in
theorem b_X7_drawn_151 {out : Int32 × Mem} (X : Bx p s m args meth c RX7 cX7_drawn 9 (some .int) g)   {x1 : Int32} {x3 : Int32}   {k69 : Int64 → Int32 → Int32 → Mem → Option (Int32 × Mem)} (hk69 : ∀ (y4 : Int64) (x6 : Int32) (x7 : Int32) (M : Mem) (H : Heap) (locs : List Loc) (ls : Array Slot), k69 y4 x6 x7 M = some out → va_P g.1 vwCl (gW g M) H → va_S (gA g) s.heap H locs → lv_has ls 9 [(0, .ref (gz g + 279)), (1, .int x1), (3, .int x3), (4, .long y4), (6, .int x6), (7, .int x7)] → W p l e (rM 3 67) s m args below meth c H locs 0 0 (MQ below (qI g out) args s 0 0 (gA g)) (F0 m 69 ls [])) (y4 : Int64) (x6 : Int32) (x7 : Int32) (M : Mem) {H : Heap} {locs : List Loc} {ls : Array Slot} (hf : f_X7_drawn_151 x1 x3 k69 y4 x6 x7 M = some out) (hP : va_P g.1 vwCl (gW g M) H) (hS : va_S (gA g) s.heap H locs) (hl : lv_has ls 9 [(0, .ref (gz g + 279)), (1, .int x1), (3, .int x3), (4, .long y4), (6, .int x6), (7, .int x7)]) : W p l e (rM 3 67) s m args below meth c H locs 0 0 (MQ below (qI g out) args s 0 0 (gA g)) (F0 m 151 ls []) := by
  have hx := X.1
  have hb := X.2.1
  refine lv_lload hx hb dX7_drawn_151 (lv_at hl 3 rfl) ?_
  refine lv_aload_n hx hb dX7_drawn_153 rfl (lv_at hl 0 rfl) ?_
  refine gf_7_0 X hP kc_279 q4_25 dX7_drawn_154 ?_
  refine lv_iconst (v := (0 : Int32)) hx hb dX7_drawn_157 (by decide) ?_
  refine ga_ldj (j := 0) X hP (iA_13 kc_280) (by unfold vp_in; decide) (by decide) dX7_drawn_158 ?_
  refine lv_i2l hx hb dX7_drawn_159 rfl ?_
  obtain ⟨hz_1, hf⟩ := czl_s hf
  refine lv_lrem hx hb dX7_drawn_160 hz_1 ?_
  refine lv_l2i hx hb dX7_drawn_161 rfl ?_
  refine lv_topi (fun x8_2 ex8_2 => ?_)
  replace hf := lt_go hf ex8_2
  refine lv_istore (lv' := [(8, .int x8_2), (0, .ref (gz g + 279)), (1, .int x1), (3, .int x3), (4, .long y4), (6, .int x6), (7, .int x7)]) hx hb dX7_drawn_162 hl (by decide) rfl (fun ls hl => ?_)
  refine lv_aload_n hx hb dX7_drawn_164 rfl (lv_at hl 1 rfl) ?_
  refine gf_7_0 X hP kc_279 q4_25 dX7_drawn_165 ?_
  refine lv_bipush (v := (48 : Int32)) hx hb dX7_drawn_168 (by decide) ?_
  refine ga_ldj (j := 48) X hP (iA_13 kc_280) (by unfold vp_in; decide) (by decide) dX7_drawn_170 ?_
  refine lv_iload hx hb dX7_drawn_171 (lv_at hl 0 rfl) ?_
  obtain ⟨r_5, M_4, hc_3, hf⟩ := cb_s hf
  refine g_goi (g_runS X (c_X7_has l g  hc_3) s_X7_has q4_197 ⟨Nat.le_of_ble_eq_true rfl, Nat.le_of_ble_eq_true rfl⟩ hP hS rfl hl.1 rfl (Nat.le_of_ble_eq_true rfl) ⟨Nat.le_refl _, Nat.le_refl _⟩ dX7_drawn_173) hS (fun H locs hP hS => ?_)
  refine lv_if_eq (tgt := 187) hx hb dX7_drawn_176 (by decide) (fun h_6 => ?_) (fun h_6 => ?_)
  · replace hf := it_t hf h_6
    exact b_X7_drawn_187 X hk69 y4 x6 x7 M_4 hf hP hS (lv_sub hl [1, 2, 3, 4, 5, 6] rfl)
  · replace hf := it_f hf h_6
    refine lv_aload_n hx hb dX7_drawn_179 rfl (lv_at hl 1 rfl) ?_
    refine lv_bipush (v := (43 : Int32)) hx hb dX7_drawn_180 (by decide) ?_
    refine lv_iload hx hb dX7_drawn_182 (lv_at hl 0 rfl) ?_
    obtain ⟨M_8, hc_7, hf⟩ := cv_s hf
    refine g_gov (g_run X (c_X7_mends l g  hc_7) s_X7_mends (oB_7 kc_279) q4_233 ⟨Nat.le_of_ble_eq_true rfl, Nat.le_of_ble_eq_true rfl⟩ hP hS rfl hl.1 rfl (Nat.le_of_ble_eq_true rfl) ⟨Nat.le_refl _, Nat.le_refl _⟩ dX7_drawn_184) hS (fun H locs hP hS => ?_)
    exact b_X7_drawn_187 X hk69 y4 x6 x7 M_8 hf hP hS (lv_sub hl [1, 2, 3, 4, 5, 6] rfl)
def f_X7_drawn_69 (x1 : Int32) (x3 : Int32)  : Nat → Int64 → Int32 → Int32 → Mem → Option (Int32 × Mem)
  | 0, _, _, _, _ => none
  | n + 1, y4, x6, x7, M =>
    if x1 ≤ x7 then
      if x3 = 0 then
        some ((M 280 85), M)
      else
        some (x6, M)
    else
      lt ((y4 * (16807 : Int64)) - (y4 * (16807 : Int64)) / (2147483647 : Int64) * (2147483647 : Int64)) fun y4_3 =>
      if (M 280 45) = 0 then
        lt (up2 M 280 45 (((y4_3 - y4_3 / (30 : Int64) * (30 : Int64))).toInt32)) fun M_9 =>
        f_X7_drawn_151 x1 x3 (f_X7_drawn_69 x1 x3 n) y4_3 x6 x7 M_9
      else
        if (lg_cmp (y4_3 - y4_3 / (3 : Int64) * (3 : Int64)) (0 : Int64)) = 0 then
          czl (((M 280 1)).toInt64) <|
          ck ((73 : Int32) + ((y4_3 - y4_3 / ((M 280 1)).toInt64 * ((M 280 1)).toInt64)).toInt32) 1247 <|
          lt (up2 M 280 (((73 : Int32) + ((y4_3 - y4_3 / ((M 280 1)).toInt64 * ((M 280 1)).toInt64)).toInt32)).toNatClampNeg (((y4_3 - y4_3 / (64 : Int64) * (64 : Int64))).toInt32)) fun M_7 =>
          f_X7_drawn_151 x1 x3 (f_X7_drawn_69 x1 x3 n) y4_3 x6 x7 M_7
        else
          f_X7_drawn_151 x1 x3 (f_X7_drawn_69 x1 x3 n) y4_3 x6 x7 M
set_option maxRecDepth 20000 in
theorem b_X7_drawn_69 {out : Int32 × Mem} (X : Bx p s m args meth c RX7 cX7_drawn 9 (some .int) g)   {x1 : Int32} {x3 : Int32}     : ∀ (n : Nat) (y4 : Int64) (x6 : Int32) (x7 : Int32) (M : Mem) (H : Heap) (locs : List Loc) (ls : Array Slot), f_X7_drawn_69 x1 x3 n y4 x6 x7 M = some out → va_P g.1 vwCl (gW g M) H → va_S (gA g) s.heap H locs → lv_has ls 9 [(0, .ref (gz g + 279)), (1, .int x1), (3, .int x3), (4, .long y4), (6, .int x6), (7, .int x7)] → W p l e (rM 3 67) s m args below meth c H locs 0 0 (MQ below (qI g out) args s 0 0 (gA g)) (F0 m 69 ls []) := by
  have hx := X.1
  have hb := X.2.1
  intro n
  induction n with
  | zero => intro _ _ _ _ _ _ _ hf; cases hf
  | succ n ih =>
    intro y4 x6 x7 M H locs ls hf hP hS hl
    rw [f_X7_drawn_69] at hf
    refine lv_iload hx hb dX7_drawn_69 (lv_at hl 5 rfl) ?_
    refine lv_iload_n hx hb dX7_drawn_71 rfl (lv_at hl 1 rfl) ?_
    refine lv_icmp_ge (tgt := 210) hx hb dX7_drawn_72 (by decide) (fun h_1 => ?_) (fun h_1 => ?_)
    · replace hf := it_t hf h_1
      refine lv_iload_n hx hb dX7_drawn_210 rfl (lv_at hl 2 rfl) ?_
      refine lv_if_ne (tgt := 224) hx hb dX7_drawn_211 (by decide) (fun h_2 => ?_) (fun h_2 => ?_)
      · replace hf := it_f hf h_2
        refine lv_iload hx hb dX7_drawn_224 (lv_at hl 4 rfl) ?_
        exact g_iret X hP hS (sm_i hf) dX7_drawn_226
      · replace hf := it_t hf h_2
        refine lv_aload_n hx hb dX7_drawn_214 rfl (lv_at hl 0 rfl) ?_
        refine gf_7_0 X hP kc_279 q4_25 dX7_drawn_215 ?_
        refine lv_bipush (v := (85 : Int32)) hx hb dX7_drawn_218 (by decide) ?_
        refine ga_ldj (j := 85) X hP (iA_13 kc_280) (by unfold vp_in; decide) (by decide) dX7_drawn_220 ?_
        refine lv_goto (tgt := 226) hx hb dX7_drawn_221 (by decide) ?_
        exact g_iret X hP hS (sm_i hf) dX7_drawn_226
    · replace hf := it_f hf h_1
      refine lv_lload hx hb dX7_drawn_75 (lv_at hl 3 rfl) ?_
      refine lv_ldc2 hx hb X.2.2.2.1 (X.2.2.2.2.1 _ q5_104) dX7_drawn_77 ?_
      refine lv_lmul hx hb dX7_drawn_80 ?_
      refine lv_ldc2 hx hb X.2.2.2.1 (X.2.2.2.2.1 _ q5_105) dX7_drawn_81 ?_
      refine lv_lrem hx hb dX7_drawn_84 (by decide) ?_
      refine lv_topl (fun y4_3 ey4_3 => ?_)
      replace hf := lt_go hf ey4_3
      refine lv_lstore (lv' := [(4, .long y4_3), (0, .ref (gz g + 279)), (1, .int x1), (3, .int x3), (6, .int x6), (7, .int x7)]) hx hb dX7_drawn_85 hl (by decide) rfl (fun ls hl => ?_)
      refine lv_aload_n hx hb dX7_drawn_87 rfl (lv_at hl 1 rfl) ?_
      refine gf_7_0 X hP kc_279 q4_25 dX7_drawn_88 ?_
      refine lv_bipush (v := (45 : Int32)) hx hb dX7_drawn_91 (by decide) ?_
      refine ga_ldj (j := 45) X hP (iA_13 kc_280) (by unfold vp_in; decide) (by decide) dX7_drawn_93 ?_
      refine lv_if_ne (tgt := 114) hx hb dX7_drawn_94 (by decide) (fun h_4 => ?_) (fun h_4 => ?_)
      · replace hf := it_f hf h_4
        refine lv_lload hx hb dX7_drawn_114 (lv_at hl 0 rfl) ?_
        refine lv_ldc2 hx hb X.2.2.2.1 (X.2.2.2.2.1 _ q5_34) dX7_drawn_116 ?_
        refine lv_lrem hx hb dX7_drawn_119 (by decide) ?_
        refine lv_lconst (v := (0 : Int64)) hx hb dX7_drawn_120 (by decide) ?_
        refine W.lcmp hx hb dX7_drawn_121 ?_
        refine lv_if_ne (tgt := 151) hx hb dX7_drawn_122 (by decide) (fun h_5 => ?_) (fun h_5 => ?_)
        · replace hf := it_f hf h_5
          exact b_X7_drawn_151 X ih y4_3 x6 x7 M hf hP hS (lv_sub hl [1, 2, 3, 0, 4, 5] rfl)
        · replace hf := it_t hf h_5
          refine lv_aload_n hx hb dX7_drawn_125 rfl (lv_at hl 1 rfl) ?_
          refine gf_7_0 X hP kc_279 q4_25 dX7_drawn_126 ?_
          refine lv_bipush (v := (73 : Int32)) hx hb dX7_drawn_129 (by decide) ?_
          refine lv_lload hx hb dX7_drawn_131 (lv_at hl 0 rfl) ?_
          refine lv_aload_n hx hb dX7_drawn_133 rfl (lv_at hl 1 rfl) ?_
          refine gf_7_0 X hP kc_279 q4_25 dX7_drawn_134 ?_
          refine lv_iconst (v := (1 : Int32)) hx hb dX7_drawn_137 (by decide) ?_
          refine ga_ldj (j := 1) X hP (iA_13 kc_280) (by unfold vp_in; decide) (by decide) dX7_drawn_138 ?_
          refine lv_i2l hx hb dX7_drawn_139 rfl ?_
          obtain ⟨hz_6, hf⟩ := czl_s hf
          refine lv_lrem hx hb dX7_drawn_140 hz_6 ?_
          refine lv_l2i hx hb dX7_drawn_141 rfl ?_
          refine lv_iadd hx hb dX7_drawn_142 ?_
          refine lv_lload hx hb dX7_drawn_143 (lv_at hl 0 rfl) ?_
          refine lv_ldc2 hx hb X.2.2.2.1 (X.2.2.2.2.1 _ q5_107) dX7_drawn_145 ?_
          refine lv_lrem hx hb dX7_drawn_148 (by decide) ?_
          refine lv_l2i hx hb dX7_drawn_149 rfl ?_
          obtain ⟨hi_8, hf⟩ := ck_s hf
          refine ga_st X hP hS (iA_13 kc_280) hi_8 dX7_drawn_150 (fun H locs M_7 eM_7 hP hS => ?_)
          replace hf := lt_go hf eM_7
          exact b_X7_drawn_151 X ih y4_3 x6 x7 M_7 hf hP hS (lv_sub hl [1, 2, 3, 0, 4, 5] rfl)
      · replace hf := it_t hf h_4
        refine lv_aload_n hx hb dX7_drawn_97 rfl (lv_at hl 1 rfl) ?_
        refine gf_7_0 X hP kc_279 q4_25 dX7_drawn_98 ?_
        refine lv_bipush (v := (45 : Int32)) hx hb dX7_drawn_101 (by decide) ?_
        refine lv_lload hx hb dX7_drawn_103 (lv_at hl 0 rfl) ?_
        refine lv_ldc2 hx hb X.2.2.2.1 (X.2.2.2.2.1 _ q5_106) dX7_drawn_105 ?_
        refine lv_lrem hx hb dX7_drawn_108 (by decide) ?_
        refine lv_l2i hx hb dX7_drawn_109 rfl ?_
        refine ga_stj (j := 45) X hP hS (iA_13 kc_280) (by unfold vp_in; decide) (by decide) dX7_drawn_110 (fun H locs M_9 eM_9 hP hS => ?_)
        replace hf := lt_go hf eM_9
        refine lv_goto (tgt := 151) hx hb dX7_drawn_111 (by decide) ?_
        exact b_X7_drawn_151 X ih y4_3 x6 x7 M_9 hf hP hS (lv_sub hl [1, 2, 3, 0, 4, 5] rfl)
def f_X7_drawn (x1 : Int32) (x2 : Int32) (x3 : Int32) (M : Mem) : Option (Int32 × Mem) :=
  cb (f_X7_isBox M) fun r_3 M_2 =>
  if r_3 = 0 then
    some ((-1000002 : Int32), M_2)
  else
    cb (f_X7_in ((x1).toInt64) (0 : Int64) (60 : Int64) M_2) fun r_7 M_6 =>
    if r_7 = 0 then
      some ((-1000001 : Int32), M_6)
    else
      cb (f_X7_in ((x2).toInt64) (1 : Int64) (999999 : Int64) M_6) fun r_11 M_10 =>
      if r_11 = 0 then
        some ((-1000001 : Int32), M_10)
      else
        cb (f_X7_in ((x3).toInt64) (0 : Int64) (1 : Int64) M_10) fun r_15 M_14 =>
        if r_15 = 0 then
          some ((-1000001 : Int32), M_14)
        else
          cv (f_X7_tries M_14) fun M_18 =>
          lt (up2 M_18 280 85 (0 : Int32)) fun M_19 =>
          lt ((x2).toInt64) fun y4_20 =>
          f_X7_drawn_69 x1 x3 FU y4_20 (0 : Int32) (0 : Int32) M_19
set_option maxRecDepth 20000 in
theorem c_X7_drawn (l : Launch) (g : GC) {x1 : Int32} {x2 : Int32} {x3 : Int32}  {M : Mem} {out : Int32 × Mem} (hf : f_X7_drawn x1 x2 x3 M = some out) : cI l g yX7_drawn cX7_drawn 9 (some .int) (rM 3 67) [.ref (gz g + 279), .int x1, .int x2, .int x3] M out := by
  refine g_met (by decide) (Nat.le_of_ble_eq_true rfl) ?_
  intro p e s m below meth c X hP hS ls hl
  have X : Bx p s m _ meth c RX7 cX7_drawn 9 (some .int) g := X
  have hl : lv_has ls 9 [(0, .ref (gz g + 279)), (1, .int x1), (2, .int x2), (3, .int x3)] := hl
  have hx := X.1
  have hb := X.2.1
  refine lv_aload_n hx hb dX7_drawn_0 rfl (lv_at hl 0 rfl) ?_
  obtain ⟨r_3, M_2, hc_1, hf⟩ := cb_s hf
  refine g_goi (g_run X (c_X7_isBox l g  hc_1) s_X7_isBox (oB_7 kc_279) q4_180 ⟨Nat.le_of_ble_eq_true rfl, Nat.le_of_ble_eq_true rfl⟩ hP hS rfl hl.1 rfl (Nat.le_of_ble_eq_true rfl) ⟨Nat.le_refl _, Nat.le_refl _⟩ dX7_drawn_1) hS (fun H locs hP hS => ?_)
  refine lv_if_ne (tgt := 10) hx hb dX7_drawn_4 (by decide) (fun h_4 => ?_) (fun h_4 => ?_)
  · replace hf := it_f hf h_4
    refine lv_iload_n hx hb dX7_drawn_10 rfl (lv_at hl 1 rfl) ?_
    refine lv_i2l hx hb dX7_drawn_11 rfl ?_
    refine lv_lconst (v := (0 : Int64)) hx hb dX7_drawn_12 (by decide) ?_
    refine lv_ldc2 hx hb X.2.2.2.1 (X.2.2.2.2.1 _ q5_21) dX7_drawn_13 ?_
    obtain ⟨r_7, M_6, hc_5, hf⟩ := cb_s hf
    refine g_goi (g_runS X (c_X7_in l g  hc_5) s_X7_in q4_89 ⟨Nat.le_of_ble_eq_true rfl, Nat.le_of_ble_eq_true rfl⟩ hP hS rfl hl.1 rfl (Nat.le_of_ble_eq_true rfl) ⟨Nat.le_refl _, Nat.le_refl _⟩ dX7_drawn_16) hS (fun H locs hP hS => ?_)
    refine lv_if_eq (tgt := 44) hx hb dX7_drawn_19 (by decide) (fun h_8 => ?_) (fun h_8 => ?_)
    · replace hf := it_t hf h_8
      refine lv_ldc hx hb X.2.2.2.1 (X.2.2.2.2.1 _ q4_93) dX7_drawn_44 ?_
      exact g_iret X hP hS (sm_i hf) dX7_drawn_46
    · replace hf := it_f hf h_8
      refine lv_iload_n hx hb dX7_drawn_22 rfl (lv_at hl 2 rfl) ?_
      refine lv_i2l hx hb dX7_drawn_23 rfl ?_
      refine lv_lconst (v := (1 : Int64)) hx hb dX7_drawn_24 (by decide) ?_
      refine lv_ldc2 hx hb X.2.2.2.1 (X.2.2.2.2.1 _ q5_103) dX7_drawn_25 ?_
      obtain ⟨r_11, M_10, hc_9, hf⟩ := cb_s hf
      refine g_goi (g_runS X (c_X7_in l g  hc_9) s_X7_in q4_89 ⟨Nat.le_of_ble_eq_true rfl, Nat.le_of_ble_eq_true rfl⟩ hP hS rfl hl.1 rfl (Nat.le_of_ble_eq_true rfl) ⟨Nat.le_refl _, Nat.le_refl _⟩ dX7_drawn_28) hS (fun H locs hP hS => ?_)
      refine lv_if_eq (tgt := 44) hx hb dX7_drawn_31 (by decide) (fun h_12 => ?_) (fun h_12 => ?_)
      · replace hf := it_t hf h_12
        refine lv_ldc hx hb X.2.2.2.1 (X.2.2.2.2.1 _ q4_93) dX7_drawn_44 ?_
        exact g_iret X hP hS (sm_i hf) dX7_drawn_46
      · replace hf := it_f hf h_12
        refine lv_iload_n hx hb dX7_drawn_34 rfl (lv_at hl 3 rfl) ?_
        refine lv_i2l hx hb dX7_drawn_35 rfl ?_
        refine lv_lconst (v := (0 : Int64)) hx hb dX7_drawn_36 (by decide) ?_
        refine lv_lconst (v := (1 : Int64)) hx hb dX7_drawn_37 (by decide) ?_
        obtain ⟨r_15, M_14, hc_13, hf⟩ := cb_s hf
        refine g_goi (g_runS X (c_X7_in l g  hc_13) s_X7_in q4_89 ⟨Nat.le_of_ble_eq_true rfl, Nat.le_of_ble_eq_true rfl⟩ hP hS rfl hl.1 rfl (Nat.le_of_ble_eq_true rfl) ⟨Nat.le_refl _, Nat.le_refl _⟩ dX7_drawn_38) hS (fun H locs hP hS => ?_)
        refine lv_if_ne (tgt := 47) hx hb dX7_drawn_41 (by decide) (fun h_16 => ?_) (fun h_16 => ?_)
        · replace hf := it_f hf h_16
          refine lv_aload_n hx hb dX7_drawn_47 rfl (lv_at hl 0 rfl) ?_
          obtain ⟨M_18, hc_17, hf⟩ := cv_s hf
          refine g_gov (g_run X (c_X7_tries l g  hc_17) s_X7_tries (oB_7 kc_279) q5_22 ⟨Nat.le_of_ble_eq_true rfl, Nat.le_of_ble_eq_true rfl⟩ hP hS rfl hl.1 rfl (Nat.le_of_ble_eq_true rfl) ⟨Nat.le_refl _, Nat.le_refl _⟩ dX7_drawn_48) hS (fun H locs hP hS => ?_)
          refine lv_aload_n hx hb dX7_drawn_51 rfl (lv_at hl 0 rfl) ?_
          refine gf_7_0 X hP kc_279 q4_25 dX7_drawn_52 ?_
          refine lv_bipush (v := (85 : Int32)) hx hb dX7_drawn_55 (by decide) ?_
          refine lv_iconst (v := (0 : Int32)) hx hb dX7_drawn_57 (by decide) ?_
          refine ga_stj (j := 85) X hP hS (iA_13 kc_280) (by unfold vp_in; decide) (by decide) dX7_drawn_58 (fun H locs M_19 eM_19 hP hS => ?_)
          replace hf := lt_go hf eM_19
          refine lv_iload_n hx hb dX7_drawn_59 rfl (lv_at hl 2 rfl) ?_
          refine lv_i2l hx hb dX7_drawn_60 rfl ?_
          refine lv_topl (fun y4_20 ey4_20 => ?_)
          replace hf := lt_go hf ey4_20
          refine lv_lstore (lv' := [(4, .long y4_20), (0, .ref (gz g + 279)), (1, .int x1), (2, .int x2), (3, .int x3)]) hx hb dX7_drawn_61 hl (by decide) rfl (fun ls hl => ?_)
          refine lv_iconst (v := (0 : Int32)) hx hb dX7_drawn_63 (by decide) ?_
          refine lv_istore (lv' := [(6, .int (0 : Int32)), (4, .long y4_20), (0, .ref (gz g + 279)), (1, .int x1), (2, .int x2), (3, .int x3)]) hx hb dX7_drawn_64 hl (by decide) rfl (fun ls hl => ?_)
          refine lv_iconst (v := (0 : Int32)) hx hb dX7_drawn_66 (by decide) ?_
          refine lv_istore (lv' := [(7, .int (0 : Int32)), (6, .int (0 : Int32)), (4, .long y4_20), (0, .ref (gz g + 279)), (1, .int x1), (2, .int x2), (3, .int x3)]) hx hb dX7_drawn_67 hl (by decide) rfl (fun ls hl => ?_)
          exact b_X7_drawn_69 X  FU y4_20 (0 : Int32) (0 : Int32) M_19 _ _ _ hf hP hS (lv_sub hl [3, 4, 6, 2, 1, 0] rfl)
        · replace hf := it_t hf h_16
          refine lv_ldc hx hb X.2.2.2.1 (X.2.2.2.2.1 _ q4_93) dX7_drawn_44 ?_
          exact g_iret X hP hS (sm_i hf) dX7_drawn_46
  · replace hf := it_t hf h_4
    refine lv_ldc hx hb X.2.2.2.1 (X.2.2.2.2.1 _ q4_175) dX7_drawn_7 ?_
    exact g_iret X hP hS (sm_i hf) dX7_drawn_9
def f_X7_image (x1 : Int32) (M : Mem) : Option (Int32 × Mem) :=
  cb (f_X7_in ((x1).toInt64) (0 : Int64) (1 : Int64) M) fun r_3 M_2 =>
  if r_3 = 0 then
    some ((-1000001 : Int32), M_2)
  else
    cb (f_X7_isBox M_2) fun r_7 M_6 =>
    if r_7 = 0 then
      some ((-1000002 : Int32), M_6)
    else
      cv (f_X7_copyOf (0 : Int32) ((86 : Int32) + ((43 : Int32) * x1)) M_6) fun M_10 =>
      ck x1 2 <|
      lt (up2 M_10 288 x1.toNatClampNeg (vp_nar .boolean (1 : Int32))) fun M_11 =>
      some ((1 : Int32), M_11)
set_option maxRecDepth 20000 in
theorem c_X7_image (l : Launch) (g : GC) {x1 : Int32}  {M : Mem} {out : Int32 × Mem} (hf : f_X7_image x1 M = some out) : cI l g yX7_image cX7_image 2 (some .int) (rM 1 25) [.ref (gz g + 279), .int x1] M out := by
  refine g_met (by decide) (Nat.le_of_ble_eq_true rfl) ?_
  intro p e s m below meth c X hP hS ls hl
  have X : Bx p s m _ meth c RX7 cX7_image 2 (some .int) g := X
  have hl : lv_has ls 2 [(0, .ref (gz g + 279)), (1, .int x1)] := hl
  have hx := X.1
  have hb := X.2.1
  refine lv_iload_n hx hb dX7_image_0 rfl (lv_at hl 1 rfl) ?_
  refine lv_i2l hx hb dX7_image_1 rfl ?_
  refine lv_lconst (v := (0 : Int64)) hx hb dX7_image_2 (by decide) ?_
  refine lv_lconst (v := (1 : Int64)) hx hb dX7_image_3 (by decide) ?_
  obtain ⟨r_3, M_2, hc_1, hf⟩ := cb_s hf
  refine g_goi (g_runS X (c_X7_in l g  hc_1) s_X7_in q4_89 ⟨Nat.le_of_ble_eq_true rfl, Nat.le_of_ble_eq_true rfl⟩ hP hS rfl hl.1 rfl (Nat.le_of_ble_eq_true rfl) ⟨Nat.le_refl _, Nat.le_refl _⟩ dX7_image_4) hS (fun H locs hP hS => ?_)
  refine lv_if_ne (tgt := 13) hx hb dX7_image_7 (by decide) (fun h_4 => ?_) (fun h_4 => ?_)
  · replace hf := it_f hf h_4
    refine lv_aload_n hx hb dX7_image_13 rfl (lv_at hl 0 rfl) ?_
    obtain ⟨r_7, M_6, hc_5, hf⟩ := cb_s hf
    refine g_goi (g_run X (c_X7_isBox l g  hc_5) s_X7_isBox (oB_7 kc_279) q4_180 ⟨Nat.le_of_ble_eq_true rfl, Nat.le_of_ble_eq_true rfl⟩ hP hS rfl hl.1 rfl (Nat.le_of_ble_eq_true rfl) ⟨Nat.le_refl _, Nat.le_refl _⟩ dX7_image_14) hS (fun H locs hP hS => ?_)
    refine lv_if_ne (tgt := 23) hx hb dX7_image_17 (by decide) (fun h_8 => ?_) (fun h_8 => ?_)
    · replace hf := it_f hf h_8
      refine lv_aload_n hx hb dX7_image_23 rfl (lv_at hl 0 rfl) ?_
      refine lv_iconst (v := (0 : Int32)) hx hb dX7_image_24 (by decide) ?_
      refine lv_bipush (v := (86 : Int32)) hx hb dX7_image_25 (by decide) ?_
      refine lv_bipush (v := (43 : Int32)) hx hb dX7_image_27 (by decide) ?_
      refine lv_iload_n hx hb dX7_image_29 rfl (lv_at hl 1 rfl) ?_
      refine lv_imul hx hb dX7_image_30 ?_
      refine lv_iadd hx hb dX7_image_31 ?_
      obtain ⟨M_10, hc_9, hf⟩ := cv_s hf
      refine g_gov (g_run X (c_X7_copyOf l g  hc_9) s_X7_copyOf (oB_7 kc_279) q4_163 ⟨Nat.le_of_ble_eq_true rfl, Nat.le_of_ble_eq_true rfl⟩ hP hS rfl hl.1 rfl (Nat.le_of_ble_eq_true rfl) ⟨Nat.le_refl _, Nat.le_refl _⟩ dX7_image_32) hS (fun H locs hP hS => ?_)
      refine lv_aload_n hx hb dX7_image_35 rfl (lv_at hl 0 rfl) ?_
      refine gf_7_15 X hP kc_279 q4_40 dX7_image_36 ?_
      refine lv_iload_n hx hb dX7_image_39 rfl (lv_at hl 1 rfl) ?_
      refine lv_iconst (v := (1 : Int32)) hx hb dX7_image_40 (by decide) ?_
      obtain ⟨hi_12, hf⟩ := ck_s hf
      refine gz_st X hP hS (iZ_17 kc_288) hi_12 dX7_image_41 (fun H locs M_11 eM_11 hP hS => ?_)
      replace hf := lt_go hf eM_11
      refine lv_iconst (v := (1 : Int32)) hx hb dX7_image_42 (by decide) ?_
      exact g_iret X hP hS (sm_i hf) dX7_image_43
    · replace hf := it_t hf h_8
      refine lv_ldc hx hb X.2.2.2.1 (X.2.2.2.2.1 _ q4_175) dX7_image_20 ?_
      exact g_iret X hP hS (sm_i hf) dX7_image_22
  · replace hf := it_t hf h_4
    refine lv_ldc hx hb X.2.2.2.1 (X.2.2.2.2.1 _ q4_93) dX7_image_10 ?_
    exact g_iret X hP hS (sm_i hf) dX7_image_12
def f_X7_restore (x1 : Int32) (M : Mem) : Option (Int32 × Mem) :=
  cb (f_X7_in ((x1).toInt64) (0 : Int64) (1 : Int64) M) fun r_3 M_2 =>
  if r_3 = 0 then
    some ((-1000001 : Int32), M_2)
  else
    ck x1 2 <|
    if (M_2 288 x1.toNatClampNeg) = 0 then
      some ((-1000002 : Int32), M_2)
    else
      cv (f_X7_copyOf ((86 : Int32) + ((43 : Int32) * x1)) (0 : Int32) M_2) fun M_8 =>
      lt (up2 M_8 279 1 (0 : Int32)) fun M_9 =>
      some ((1 : Int32), M_9)
set_option maxRecDepth 20000 in
theorem c_X7_restore (l : Launch) (g : GC) {x1 : Int32}  {M : Mem} {out : Int32 × Mem} (hf : f_X7_restore x1 M = some out) : cI l g yX7_restore cX7_restore 2 (some .int) (rM 1 25) [.ref (gz g + 279), .int x1] M out := by
  refine g_met (by decide) (Nat.le_of_ble_eq_true rfl) ?_
  intro p e s m below meth c X hP hS ls hl
  have X : Bx p s m _ meth c RX7 cX7_restore 2 (some .int) g := X
  have hl : lv_has ls 2 [(0, .ref (gz g + 279)), (1, .int x1)] := hl
  have hx := X.1
  have hb := X.2.1
  refine lv_iload_n hx hb dX7_restore_0 rfl (lv_at hl 1 rfl) ?_
  refine lv_i2l hx hb dX7_restore_1 rfl ?_
  refine lv_lconst (v := (0 : Int64)) hx hb dX7_restore_2 (by decide) ?_
  refine lv_lconst (v := (1 : Int64)) hx hb dX7_restore_3 (by decide) ?_
  obtain ⟨r_3, M_2, hc_1, hf⟩ := cb_s hf
  refine g_goi (g_runS X (c_X7_in l g  hc_1) s_X7_in q4_89 ⟨Nat.le_of_ble_eq_true rfl, Nat.le_of_ble_eq_true rfl⟩ hP hS rfl hl.1 rfl (Nat.le_of_ble_eq_true rfl) ⟨Nat.le_refl _, Nat.le_refl _⟩ dX7_restore_4) hS (fun H locs hP hS => ?_)
  refine lv_if_ne (tgt := 13) hx hb dX7_restore_7 (by decide) (fun h_4 => ?_) (fun h_4 => ?_)
  · replace hf := it_f hf h_4
    refine lv_aload_n hx hb dX7_restore_13 rfl (lv_at hl 0 rfl) ?_
    refine gf_7_15 X hP kc_279 q4_40 dX7_restore_14 ?_
    refine lv_iload_n hx hb dX7_restore_17 rfl (lv_at hl 1 rfl) ?_
    obtain ⟨hi_5, hf⟩ := ck_s hf
    refine gz_ld X hP (iZ_17 kc_288) hi_5 dX7_restore_18 ?_
    refine lv_if_ne (tgt := 25) hx hb dX7_restore_19 (by decide) (fun h_6 => ?_) (fun h_6 => ?_)
    · replace hf := it_f hf h_6
      refine lv_aload_n hx hb dX7_restore_25 rfl (lv_at hl 0 rfl) ?_
      refine lv_bipush (v := (86 : Int32)) hx hb dX7_restore_26 (by decide) ?_
      refine lv_bipush (v := (43 : Int32)) hx hb dX7_restore_28 (by decide) ?_
      refine lv_iload_n hx hb dX7_restore_30 rfl (lv_at hl 1 rfl) ?_
      refine lv_imul hx hb dX7_restore_31 ?_
      refine lv_iadd hx hb dX7_restore_32 ?_
      refine lv_iconst (v := (0 : Int32)) hx hb dX7_restore_33 (by decide) ?_
      obtain ⟨M_8, hc_7, hf⟩ := cv_s hf
      refine g_gov (g_run X (c_X7_copyOf l g  hc_7) s_X7_copyOf (oB_7 kc_279) q4_163 ⟨Nat.le_of_ble_eq_true rfl, Nat.le_of_ble_eq_true rfl⟩ hP hS rfl hl.1 rfl (Nat.le_of_ble_eq_true rfl) ⟨Nat.le_refl _, Nat.le_refl _⟩ dX7_restore_34) hS (fun H locs hP hS => ?_)
      refine lv_aload_n hx hb dX7_restore_37 rfl (lv_at hl 0 rfl) ?_
      refine lv_iconst (v := (0 : Int32)) hx hb dX7_restore_38 (by decide) ?_
      refine gp_7_1 X hP hS kc_279 q4_26 dX7_restore_39 (fun H locs M_9 eM_9 hP hS => ?_)
      replace hf := lt_go hf eM_9
      refine lv_iconst (v := (1 : Int32)) hx hb dX7_restore_42 (by decide) ?_
      exact g_iret X hP hS (sm_i hf) dX7_restore_43
    · replace hf := it_t hf h_6
      refine lv_ldc hx hb X.2.2.2.1 (X.2.2.2.2.1 _ q4_175) dX7_restore_22 ?_
      exact g_iret X hP hS (sm_i hf) dX7_restore_24
  · replace hf := it_t hf h_4
    refine lv_ldc hx hb X.2.2.2.1 (X.2.2.2.2.1 _ q4_93) dX7_restore_10 ?_
    exact g_iret X hP hS (sm_i hf) dX7_restore_12
def f_X7_kind (x1 : Int32) (M : Mem) : Option (Int32 × Mem) :=
  cb (f_X7_isTooth x1 M) fun r_3 M_2 =>
  if r_3 = 0 then
    some ((-1000001 : Int32), M_2)
  else
    ck ((6 : Int32) + x1) 1247 <|
    some ((M_2 280 (((6 : Int32) + x1)).toNatClampNeg), M_2)
set_option maxRecDepth 20000 in
theorem c_X7_kind (l : Launch) (g : GC) {x1 : Int32}  {M : Mem} {out : Int32 × Mem} (hf : f_X7_kind x1 M = some out) : cI l g yX7_kind cX7_kind 2 (some .int) (rM 2 46) [.ref (gz g + 279), .int x1] M out := by
  refine g_met (by decide) (Nat.le_of_ble_eq_true rfl) ?_
  intro p e s m below meth c X hP hS ls hl
  have X : Bx p s m _ meth c RX7 cX7_kind 2 (some .int) g := X
  have hl : lv_has ls 2 [(0, .ref (gz g + 279)), (1, .int x1)] := hl
  have hx := X.1
  have hb := X.2.1
  refine lv_aload_n hx hb dX7_kind_0 rfl (lv_at hl 0 rfl) ?_
  refine lv_iload_n hx hb dX7_kind_1 rfl (lv_at hl 1 rfl) ?_
  obtain ⟨r_3, M_2, hc_1, hf⟩ := cb_s hf
  refine g_goi (g_run X (c_X7_isTooth l g  hc_1) s_X7_isTooth (oB_7 kc_279) q4_221 ⟨Nat.le_of_ble_eq_true rfl, Nat.le_of_ble_eq_true rfl⟩ hP hS rfl hl.1 rfl (Nat.le_of_ble_eq_true rfl) ⟨Nat.le_refl _, Nat.le_refl _⟩ dX7_kind_2) hS (fun H locs hP hS => ?_)
  refine lv_if_eq (tgt := 20) hx hb dX7_kind_5 (by decide) (fun h_4 => ?_) (fun h_4 => ?_)
  · replace hf := it_t hf h_4
    refine lv_ldc hx hb X.2.2.2.1 (X.2.2.2.2.1 _ q4_93) dX7_kind_20 ?_
    exact g_iret X hP hS (sm_i hf) dX7_kind_22
  · replace hf := it_f hf h_4
    refine lv_aload_n hx hb dX7_kind_8 rfl (lv_at hl 0 rfl) ?_
    refine gf_7_0 X hP kc_279 q4_25 dX7_kind_9 ?_
    refine lv_bipush (v := (6 : Int32)) hx hb dX7_kind_12 (by decide) ?_
    refine lv_iload_n hx hb dX7_kind_14 rfl (lv_at hl 1 rfl) ?_
    refine lv_iadd hx hb dX7_kind_15 ?_
    obtain ⟨hi_5, hf⟩ := ck_s hf
    refine ga_ld X hP (iA_13 kc_280) hi_5 dX7_kind_16 ?_
    refine lv_goto (tgt := 22) hx hb dX7_kind_17 (by decide) ?_
    exact g_iret X hP hS (sm_i hf) dX7_kind_22
def f_X7_isA_34    (M : Mem) : Option (Int32 × Mem) :=
  some ((1 : Int32), M)
set_option maxRecDepth 20000 in
theorem b_X7_isA_34 {out : Int32 × Mem} (X : Bx p s m args meth c RX7 cX7_isA 2 (some .boolean) g)         (M : Mem) {H : Heap} {locs : List Loc} {ls : Array Slot} (hf : f_X7_isA_34 M = some out) (hP : va_P g.1 vwCl (gW g M) H) (hS : va_S (gA g) s.heap H locs) (hl : lv_has ls 2 []) : W p l e (rM 0 0) s m args below meth c H locs 0 0 (MQ below (qI g out) args s 0 0 (gA g)) (F0 m 34 ls []) := by
  have hx := X.1
  have hb := X.2.1
  refine lv_iconst (v := (1 : Int32)) hx hb dX7_isA_34 (by decide) ?_
  refine lv_goto (tgt := 39) hx hb dX7_isA_35 (by decide) ?_
  exact g_zret X hP hS rfl (sm_i hf) dX7_isA_39
def f_X7_isA_24 (x0 : Int32) (x1 : Int32)   (M : Mem) : Option (Int32 × Mem) :=
  if x1 = (4 : Int32) then
    if x0 = (5 : Int32) then
      f_X7_isA_34 M
    else
      some ((0 : Int32), M)
  else
    some ((0 : Int32), M)
set_option maxRecDepth 20000 in
theorem b_X7_isA_24 {out : Int32 × Mem} (X : Bx p s m args meth c RX7 cX7_isA 2 (some .boolean) g)   {x0 : Int32} {x1 : Int32}      (M : Mem) {H : Heap} {locs : List Loc} {ls : Array Slot} (hf : f_X7_isA_24 x0 x1 M = some out) (hP : va_P g.1 vwCl (gW g M) H) (hS : va_S (gA g) s.heap H locs) (hl : lv_has ls 2 [(0, .int x0), (1, .int x1)]) : W p l e (rM 0 0) s m args below meth c H locs 0 0 (MQ below (qI g out) args s 0 0 (gA g)) (F0 m 24 ls []) := by
  have hx := X.1
  have hb := X.2.1
  refine lv_iload_n hx hb dX7_isA_24 rfl (lv_at hl 1 rfl) ?_
  refine lv_iconst (v := (4 : Int32)) hx hb dX7_isA_25 (by decide) ?_
  refine lv_icmp_ne (tgt := 38) hx hb dX7_isA_26 (by decide) (fun h_1 => ?_) (fun h_1 => ?_)
  · replace hf := it_f hf h_1
    refine lv_iconst (v := (0 : Int32)) hx hb dX7_isA_38 (by decide) ?_
    exact g_zret X hP hS rfl (sm_i hf) dX7_isA_39
  · replace hf := it_t hf h_1
    refine lv_iload_n hx hb dX7_isA_29 rfl (lv_at hl 0 rfl) ?_
    refine lv_iconst (v := (5 : Int32)) hx hb dX7_isA_30 (by decide) ?_
    refine lv_icmp_ne (tgt := 38) hx hb dX7_isA_31 (by decide) (fun h_2 => ?_) (fun h_2 => ?_)
    · replace hf := it_f hf h_2
      refine lv_iconst (v := (0 : Int32)) hx hb dX7_isA_38 (by decide) ?_
      exact g_zret X hP hS rfl (sm_i hf) dX7_isA_39
    · replace hf := it_t hf h_2
      exact b_X7_isA_34 X   M hf hP hS (lv_sub hl [] rfl)
def f_X7_isA (x0 : Int32) (x1 : Int32) (M : Mem) : Option (Int32 × Mem) :=
  if x1 = 0 then
    f_X7_isA_34 M
  else
    if x1 = x0 then
      f_X7_isA_34 M
    else
      if x1 = (1 : Int32) then
        if x0 = (2 : Int32) then
          f_X7_isA_34 M
        else
          if x0 = (3 : Int32) then
            f_X7_isA_34 M
          else
            f_X7_isA_24 x0 x1 M
      else
        f_X7_isA_24 x0 x1 M
set_option maxRecDepth 20000 in
theorem c_X7_isA (l : Launch) (g : GC) {x0 : Int32} {x1 : Int32}  {M : Mem} {out : Int32 × Mem} (hf : f_X7_isA x0 x1 M = some out) : cI l g yX7_isA cX7_isA 2 (some .boolean) (rM 0 0) [.int x0, .int x1] M out := by
  refine g_met (by decide) (Nat.le_of_ble_eq_true rfl) ?_
  intro p e s m below meth c X hP hS ls hl
  have X : Bx p s m _ meth c RX7 cX7_isA 2 (some .boolean) g := X
  have hl : lv_has ls 2 [(0, .int x0), (1, .int x1)] := hl
  have hx := X.1
  have hb := X.2.1
  refine lv_iload_n hx hb dX7_isA_0 rfl (lv_at hl 1 rfl) ?_
  refine lv_if_eq (tgt := 34) hx hb dX7_isA_1 (by decide) (fun h_1 => ?_) (fun h_1 => ?_)
  · replace hf := it_t hf h_1
    exact b_X7_isA_34 X   M hf hP hS (lv_sub hl [] rfl)
  · replace hf := it_f hf h_1
    refine lv_iload_n hx hb dX7_isA_4 rfl (lv_at hl 1 rfl) ?_
    refine lv_iload_n hx hb dX7_isA_5 rfl (lv_at hl 0 rfl) ?_
    refine lv_icmp_eq (tgt := 34) hx hb dX7_isA_6 (by decide) (fun h_2 => ?_) (fun h_2 => ?_)
    · replace hf := it_t hf h_2
      exact b_X7_isA_34 X   M hf hP hS (lv_sub hl [] rfl)
    · replace hf := it_f hf h_2
      refine lv_iload_n hx hb dX7_isA_9 rfl (lv_at hl 1 rfl) ?_
      refine lv_iconst (v := (1 : Int32)) hx hb dX7_isA_10 (by decide) ?_
      refine lv_icmp_ne (tgt := 24) hx hb dX7_isA_11 (by decide) (fun h_3 => ?_) (fun h_3 => ?_)
      · replace hf := it_f hf h_3
        exact b_X7_isA_24 X   M hf hP hS hl
      · replace hf := it_t hf h_3
        refine lv_iload_n hx hb dX7_isA_14 rfl (lv_at hl 0 rfl) ?_
        refine lv_iconst (v := (2 : Int32)) hx hb dX7_isA_15 (by decide) ?_
        refine lv_icmp_eq (tgt := 34) hx hb dX7_isA_16 (by decide) (fun h_4 => ?_) (fun h_4 => ?_)
        · replace hf := it_t hf h_4
          exact b_X7_isA_34 X   M hf hP hS (lv_sub hl [] rfl)
        · replace hf := it_f hf h_4
          refine lv_iload_n hx hb dX7_isA_19 rfl (lv_at hl 0 rfl) ?_
          refine lv_iconst (v := (3 : Int32)) hx hb dX7_isA_20 (by decide) ?_
          refine lv_icmp_eq (tgt := 34) hx hb dX7_isA_21 (by decide) (fun h_5 => ?_) (fun h_5 => ?_)
          · replace hf := it_t hf h_5
            exact b_X7_isA_34 X   M hf hP hS (lv_sub hl [] rfl)
          · replace hf := it_f hf h_5
            exact b_X7_isA_24 X   M hf hP hS hl
def f_X7_as (x1 : Int32) (x2 : Int32) (M : Mem) : Option (Int32 × Mem) :=
  cb (f_X7_isTooth x1 M) fun r_3 M_2 =>
  if r_3 = 0 then
    some ((-1000001 : Int32), M_2)
  else
    cb (f_X7_in ((x2).toInt64) (0 : Int64) (5 : Int64) M_2) fun r_7 M_6 =>
    if r_7 = 0 then
      some ((-1000001 : Int32), M_6)
    else
      ck ((6 : Int32) + x1) 1247 <|
      cb (f_X7_isA (M_6 280 (((6 : Int32) + x1)).toNatClampNeg) x2 M_6) fun r_12 M_11 =>
      if r_12 = 0 then
        cb (f_X7_finds (3 : Int32) M_11) fun r_17 M_16 =>
        some (r_17, M_16)
      else
        lt (up2 M_11 279 5 (0 : Int32)) fun M_14 =>
        some (x1, M_14)
set_option maxRecDepth 20000 in
theorem c_X7_as (l : Launch) (g : GC) {x1 : Int32} {x2 : Int32}  {M : Mem} {out : Int32 × Mem} (hf : f_X7_as x1 x2 M = some out) : cI l g yX7_as cX7_as 3 (some .int) (rM 2 46) [.ref (gz g + 279), .int x1, .int x2] M out := by
  refine g_met (by decide) (Nat.le_of_ble_eq_true rfl) ?_
  intro p e s m below meth c X hP hS ls hl
  have X : Bx p s m _ meth c RX7 cX7_as 3 (some .int) g := X
  have hl : lv_has ls 3 [(0, .ref (gz g + 279)), (1, .int x1), (2, .int x2)] := hl
  have hx := X.1
  have hb := X.2.1
  refine lv_aload_n hx hb dX7_as_0 rfl (lv_at hl 0 rfl) ?_
  refine lv_iload_n hx hb dX7_as_1 rfl (lv_at hl 1 rfl) ?_
  obtain ⟨r_3, M_2, hc_1, hf⟩ := cb_s hf
  refine g_goi (g_run X (c_X7_isTooth l g  hc_1) s_X7_isTooth (oB_7 kc_279) q4_221 ⟨Nat.le_of_ble_eq_true rfl, Nat.le_of_ble_eq_true rfl⟩ hP hS rfl hl.1 rfl (Nat.le_of_ble_eq_true rfl) ⟨Nat.le_refl _, Nat.le_refl _⟩ dX7_as_2) hS (fun H locs hP hS => ?_)
  refine lv_if_eq (tgt := 20) hx hb dX7_as_5 (by decide) (fun h_4 => ?_) (fun h_4 => ?_)
  · replace hf := it_t hf h_4
    refine lv_ldc hx hb X.2.2.2.1 (X.2.2.2.2.1 _ q4_93) dX7_as_20 ?_
    exact g_iret X hP hS (sm_i hf) dX7_as_22
  · replace hf := it_f hf h_4
    refine lv_iload_n hx hb dX7_as_8 rfl (lv_at hl 2 rfl) ?_
    refine lv_i2l hx hb dX7_as_9 rfl ?_
    refine lv_lconst (v := (0 : Int64)) hx hb dX7_as_10 (by decide) ?_
    refine lv_ldc2 hx hb X.2.2.2.1 (X.2.2.2.2.1 _ q5_124) dX7_as_11 ?_
    obtain ⟨r_7, M_6, hc_5, hf⟩ := cb_s hf
    refine g_goi (g_runS X (c_X7_in l g  hc_5) s_X7_in q4_89 ⟨Nat.le_of_ble_eq_true rfl, Nat.le_of_ble_eq_true rfl⟩ hP hS rfl hl.1 rfl (Nat.le_of_ble_eq_true rfl) ⟨Nat.le_refl _, Nat.le_refl _⟩ dX7_as_14) hS (fun H locs hP hS => ?_)
    refine lv_if_ne (tgt := 23) hx hb dX7_as_17 (by decide) (fun h_8 => ?_) (fun h_8 => ?_)
    · replace hf := it_f hf h_8
      refine lv_aload_n hx hb dX7_as_23 rfl (lv_at hl 0 rfl) ?_
      refine gf_7_0 X hP kc_279 q4_25 dX7_as_24 ?_
      refine lv_bipush (v := (6 : Int32)) hx hb dX7_as_27 (by decide) ?_
      refine lv_iload_n hx hb dX7_as_29 rfl (lv_at hl 1 rfl) ?_
      refine lv_iadd hx hb dX7_as_30 ?_
      obtain ⟨hi_9, hf⟩ := ck_s hf
      refine ga_ld X hP (iA_13 kc_280) hi_9 dX7_as_31 ?_
      refine lv_iload_n hx hb dX7_as_32 rfl (lv_at hl 2 rfl) ?_
      obtain ⟨r_12, M_11, hc_10, hf⟩ := cb_s hf
      refine g_goi (g_runS X (c_X7_isA l g  hc_10) s_X7_isA q5_125 ⟨Nat.le_of_ble_eq_true rfl, Nat.le_of_ble_eq_true rfl⟩ hP hS rfl hl.1 rfl (Nat.le_of_ble_eq_true rfl) ⟨Nat.le_refl _, Nat.le_refl _⟩ dX7_as_33) hS (fun H locs hP hS => ?_)
      refine lv_if_ne (tgt := 45) hx hb dX7_as_36 (by decide) (fun h_13 => ?_) (fun h_13 => ?_)
      · replace hf := it_f hf h_13
        refine lv_aload_n hx hb dX7_as_45 rfl (lv_at hl 0 rfl) ?_
        refine lv_iconst (v := (0 : Int32)) hx hb dX7_as_46 (by decide) ?_
        refine gp_7_5 X hP hS kc_279 q4_30 dX7_as_47 (fun H locs M_14 eM_14 hP hS => ?_)
        replace hf := lt_go hf eM_14
        refine lv_iload_n hx hb dX7_as_50 rfl (lv_at hl 1 rfl) ?_
        exact g_iret X hP hS (sm_i hf) dX7_as_51
      · replace hf := it_t hf h_13
        refine lv_aload_n hx hb dX7_as_39 rfl (lv_at hl 0 rfl) ?_
        refine lv_iconst (v := (3 : Int32)) hx hb dX7_as_40 (by decide) ?_
        obtain ⟨r_17, M_16, hc_15, hf⟩ := cb_s hf
        refine g_goi (g_run X (c_X7_finds l g  hc_15) s_X7_finds (oB_7 kc_279) q4_94 ⟨Nat.le_of_ble_eq_true rfl, Nat.le_of_ble_eq_true rfl⟩ hP hS rfl hl.1 rfl (Nat.le_of_ble_eq_true rfl) ⟨Nat.le_refl _, Nat.le_refl _⟩ dX7_as_41) hS (fun H locs hP hS => ?_)
        exact g_iret X hP hS (sm_i hf) dX7_as_44
    · replace hf := it_t hf h_8
      refine lv_ldc hx hb X.2.2.2.1 (X.2.2.2.2.1 _ q4_93) dX7_as_20 ?_
      exact g_iret X hP hS (sm_i hf) dX7_as_22
def f_X7_traces (x1 : Int32) (M : Mem) : Option Mem :=
  if (16 : Int32) ≤ (M 279 17) then
    some M
  else
    ck (M 279 17) 16 <|
    lt (up2 M 289 ((M 279 17)).toNatClampNeg x1) fun M_2 =>
    lt (up2 M_2 279 17 ((M_2 279 17) + (1 : Int32))) fun M_4 =>
    some M_4
set_option maxRecDepth 20000 in
theorem c_X7_traces (l : Launch) (g : GC) {x1 : Int32}  {M : Mem} {out : Mem} (hf : f_X7_traces x1 M = some out) : cV l g yX7_traces cX7_traces 2 (rM 0 0) [.ref (gz g + 279), .int x1] M out := by
  refine g_met (by decide) (Nat.le_of_ble_eq_true rfl) ?_
  intro p e s m below meth c X hP hS ls hl
  have X : Bx p s m _ meth c RX7 cX7_traces 2 none g := X
  have hl : lv_has ls 2 [(0, .ref (gz g + 279)), (1, .int x1)] := hl
  have hx := X.1
  have hb := X.2.1
  refine lv_aload_n hx hb dX7_traces_0 rfl (lv_at hl 0 rfl) ?_
  refine gf_7_17 X hP kc_279 q4_42 dX7_traces_1 ?_
  refine lv_bipush (v := (16 : Int32)) hx hb dX7_traces_4 (by decide) ?_
  refine lv_icmp_ge (tgt := 29) hx hb dX7_traces_6 (by decide) (fun h_1 => ?_) (fun h_1 => ?_)
  · replace hf := it_t hf h_1
    exact g_vret X hP hS (sm_i hf) dX7_traces_29
  · replace hf := it_f hf h_1
    refine lv_aload_n hx hb dX7_traces_9 rfl (lv_at hl 0 rfl) ?_
    refine gf_7_16 X hP kc_279 q4_41 dX7_traces_10 ?_
    refine lv_aload_n hx hb dX7_traces_13 rfl (lv_at hl 0 rfl) ?_
    refine gf_7_17 X hP kc_279 q4_42 dX7_traces_14 ?_
    refine lv_iload_n hx hb dX7_traces_17 rfl (lv_at hl 1 rfl) ?_
    obtain ⟨hi_3, hf⟩ := ck_s hf
    refine ga_st X hP hS (iA_12 kc_289) hi_3 dX7_traces_18 (fun H locs M_2 eM_2 hP hS => ?_)
    replace hf := lt_go hf eM_2
    refine lv_aload_n hx hb dX7_traces_19 rfl (lv_at hl 0 rfl) ?_
    refine lv_dup hx hb dX7_traces_20 rfl ?_
    refine gf_7_17 X hP kc_279 q4_42 dX7_traces_21 ?_
    refine lv_iconst (v := (1 : Int32)) hx hb dX7_traces_24 (by decide) ?_
    refine lv_iadd hx hb dX7_traces_25 ?_
    refine gp_7_17 X hP hS kc_279 q4_42 dX7_traces_26 (fun H locs M_4 eM_4 hP hS => ?_)
    replace hf := lt_go hf eM_4
    exact g_vret X hP hS (sm_i hf) dX7_traces_29
def f_X7_size10 (x1 : Int32) (M : Mem) : Option (Int32 × Mem) :=
  cv (f_X7_traces (10 : Int32) M) fun M_2 =>
  ck ((12 : Int32) + x1) 1247 <|
  some ((M_2 280 (((12 : Int32) + x1)).toNatClampNeg), M_2)
set_option maxRecDepth 20000 in
theorem c_X7_size10 (l : Launch) (g : GC) {x1 : Int32}  {M : Mem} {out : Int32 × Mem} (hf : f_X7_size10 x1 M = some out) : cI l g yX7_size10 cX7_size10 2 (some .int) (rM 1 21) [.ref (gz g + 279), .int x1] M out := by
  refine g_met (by decide) (Nat.le_of_ble_eq_true rfl) ?_
  intro p e s m below meth c X hP hS ls hl
  have X : Bx p s m _ meth c RX7 cX7_size10 2 (some .int) g := X
  have hl : lv_has ls 2 [(0, .ref (gz g + 279)), (1, .int x1)] := hl
  have hx := X.1
  have hb := X.2.1
  refine lv_aload_n hx hb dX7_size10_0 rfl (lv_at hl 0 rfl) ?_
  refine lv_bipush (v := (10 : Int32)) hx hb dX7_size10_1 (by decide) ?_
  obtain ⟨M_2, hc_1, hf⟩ := cv_s hf
  refine g_gov (g_run X (c_X7_traces l g  hc_1) s_X7_traces (oB_7 kc_279) q5_136 ⟨Nat.le_of_ble_eq_true rfl, Nat.le_of_ble_eq_true rfl⟩ hP hS rfl hl.1 rfl (Nat.le_of_ble_eq_true rfl) ⟨Nat.le_refl _, Nat.le_refl _⟩ dX7_size10_3) hS (fun H locs hP hS => ?_)
  refine lv_aload_n hx hb dX7_size10_6 rfl (lv_at hl 0 rfl) ?_
  refine gf_7_0 X hP kc_279 q4_25 dX7_size10_7 ?_
  refine lv_bipush (v := (12 : Int32)) hx hb dX7_size10_10 (by decide) ?_
  refine lv_iload_n hx hb dX7_size10_12 rfl (lv_at hl 1 rfl) ?_
  refine lv_iadd hx hb dX7_size10_13 ?_
  obtain ⟨hi_3, hf⟩ := ck_s hf
  refine ga_ld X hP (iA_13 kc_280) hi_3 dX7_size10_14 ?_
  exact g_iret X hP hS (sm_i hf) dX7_size10_15
def f_X7_mark20 (x1 : Int32) (M : Mem) : Option (Int32 × Mem) :=
  cv (f_X7_traces (20 : Int32) M) fun M_2 =>
  some (x1, M_2)
set_option maxRecDepth 20000 in
theorem c_X7_mark20 (l : Launch) (g : GC) {x1 : Int32}  {M : Mem} {out : Int32 × Mem} (hf : f_X7_mark20 x1 M = some out) : cI l g yX7_mark20 cX7_mark20 2 (some .int) (rM 1 21) [.ref (gz g + 279), .int x1] M out := by
  refine g_met (by decide) (Nat.le_of_ble_eq_true rfl) ?_
  intro p e s m below meth c X hP hS ls hl
  have X : Bx p s m _ meth c RX7 cX7_mark20 2 (some .int) g := X
  have hl : lv_has ls 2 [(0, .ref (gz g + 279)), (1, .int x1)] := hl
  have hx := X.1
  have hb := X.2.1
  refine lv_aload_n hx hb dX7_mark20_0 rfl (lv_at hl 0 rfl) ?_
  refine lv_bipush (v := (20 : Int32)) hx hb dX7_mark20_1 (by decide) ?_
  obtain ⟨M_2, hc_1, hf⟩ := cv_s hf
  refine g_gov (g_run X (c_X7_traces l g  hc_1) s_X7_traces (oB_7 kc_279) q5_136 ⟨Nat.le_of_ble_eq_true rfl, Nat.le_of_ble_eq_true rfl⟩ hP hS rfl hl.1 rfl (Nat.le_of_ble_eq_true rfl) ⟨Nat.le_refl _, Nat.le_refl _⟩ dX7_mark20_3) hS (fun H locs hP hS => ?_)
  refine lv_iload_n hx hb dX7_mark20_6 rfl (lv_at hl 1 rfl) ?_
  exact g_iret X hP hS (sm_i hf) dX7_mark20_7
def f_X7_mark21 (x1 : Int32) (M : Mem) : Option (Int32 × Mem) :=
  cv (f_X7_traces (21 : Int32) M) fun M_2 =>
  cb (f_X7_mark20 x1 M_2) fun r_5 M_4 =>
  ck ((18 : Int32) + x1) 1247 <|
  some ((r_5 + (M_4 280 (((18 : Int32) + x1)).toNatClampNeg)), M_4)
set_option maxRecDepth 20000 in
theorem c_X7_mark21 (l : Launch) (g : GC) {x1 : Int32}  {M : Mem} {out : Int32 × Mem} (hf : f_X7_mark21 x1 M = some out) : cI l g yX7_mark21 cX7_mark21 2 (some .int) (rM 2 42) [.ref (gz g + 279), .int x1] M out := by
  refine g_met (by decide) (Nat.le_of_ble_eq_true rfl) ?_
  intro p e s m below meth c X hP hS ls hl
  have X : Bx p s m _ meth c RX7 cX7_mark21 2 (some .int) g := X
  have hl : lv_has ls 2 [(0, .ref (gz g + 279)), (1, .int x1)] := hl
  have hx := X.1
  have hb := X.2.1
  refine lv_aload_n hx hb dX7_mark21_0 rfl (lv_at hl 0 rfl) ?_
  refine lv_bipush (v := (21 : Int32)) hx hb dX7_mark21_1 (by decide) ?_
  obtain ⟨M_2, hc_1, hf⟩ := cv_s hf
  refine g_gov (g_run X (c_X7_traces l g  hc_1) s_X7_traces (oB_7 kc_279) q5_136 ⟨Nat.le_of_ble_eq_true rfl, Nat.le_of_ble_eq_true rfl⟩ hP hS rfl hl.1 rfl (Nat.le_of_ble_eq_true rfl) ⟨Nat.le_refl _, Nat.le_refl _⟩ dX7_mark21_3) hS (fun H locs hP hS => ?_)
  refine lv_aload_n hx hb dX7_mark21_6 rfl (lv_at hl 0 rfl) ?_
  refine lv_iload_n hx hb dX7_mark21_7 rfl (lv_at hl 1 rfl) ?_
  obtain ⟨r_5, M_4, hc_3, hf⟩ := cb_s hf
  refine g_goi (g_run X (c_X7_mark20 l g  hc_3) s_X7_mark20 (oB_7 kc_279) q5_156 ⟨Nat.le_of_ble_eq_true rfl, Nat.le_of_ble_eq_true rfl⟩ hP hS rfl hl.1 rfl (Nat.le_of_ble_eq_true rfl) ⟨Nat.le_refl _, Nat.le_refl _⟩ dX7_mark21_8) hS (fun H locs hP hS => ?_)
  refine lv_aload_n hx hb dX7_mark21_11 rfl (lv_at hl 0 rfl) ?_
  refine gf_7_0 X hP kc_279 q4_25 dX7_mark21_12 ?_
  refine lv_bipush (v := (18 : Int32)) hx hb dX7_mark21_15 (by decide) ?_
  refine lv_iload_n hx hb dX7_mark21_17 rfl (lv_at hl 1 rfl) ?_
  refine lv_iadd hx hb dX7_mark21_18 ?_
  obtain ⟨hi_6, hf⟩ := ck_s hf
  refine ga_ld X hP (iA_13 kc_280) hi_6 dX7_mark21_19 ?_
  refine lv_iadd hx hb dX7_mark21_20 ?_
  exact g_iret X hP hS (sm_i hf) dX7_mark21_21
def f_X7_markOf (x1 : Int32) (M : Mem) : Option (Int32 × Mem) :=
  ck ((6 : Int32) + x1) 1247 <|
  lt (M 280 (((6 : Int32) + x1)).toNatClampNeg) fun v_2 =>
  if v_2 = (2 : Int32) then
    cv (f_X7_traces (24 : Int32) M) fun M_5 =>
    cb (f_X7_mark21 x1 M_5) fun r_8 M_7 =>
    some (((2 : Int32) * r_8), M_7)
  else
    if v_2 = (3 : Int32) then
      cv (f_X7_traces (22 : Int32) M) fun M_11 =>
      cb (f_X7_mark21 x1 M_11) fun r_14 M_13 =>
      some ((r_14 - (1000 : Int32)), M_13)
    else
      cb (f_X7_mark21 x1 M) fun r_17 M_16 =>
      some (r_17, M_16)
set_option maxRecDepth 20000 in
theorem c_X7_markOf (l : Launch) (g : GC) {x1 : Int32}  {M : Mem} {out : Int32 × Mem} (hf : f_X7_markOf x1 M = some out) : cI l g yX7_markOf cX7_markOf 2 (some .int) (rM 3 63) [.ref (gz g + 279), .int x1] M out := by
  refine g_met (by decide) (Nat.le_of_ble_eq_true rfl) ?_
  intro p e s m below meth c X hP hS ls hl
  have X : Bx p s m _ meth c RX7 cX7_markOf 2 (some .int) g := X
  have hl : lv_has ls 2 [(0, .ref (gz g + 279)), (1, .int x1)] := hl
  have hx := X.1
  have hb := X.2.1
  refine lv_aload_n hx hb dX7_markOf_0 rfl (lv_at hl 0 rfl) ?_
  refine gf_7_0 X hP kc_279 q4_25 dX7_markOf_1 ?_
  refine lv_bipush (v := (6 : Int32)) hx hb dX7_markOf_4 (by decide) ?_
  refine lv_iload_n hx hb dX7_markOf_6 rfl (lv_at hl 1 rfl) ?_
  refine lv_iadd hx hb dX7_markOf_7 ?_
  obtain ⟨hi_1, hf⟩ := ck_s hf
  refine ga_ld X hP (iA_13 kc_280) hi_1 dX7_markOf_8 ?_
  refine lv_topi (fun v_2 ev_2 => ?_)
  replace hf := lt_go hf ev_2
  by_cases h_3 : v_2 = (2 : Int32)
  · replace hf := it_t hf h_3
    refine lv_lookup (off := 27) (tgt := 36) hx hb dX7_markOf_9 (by decide) (by rw [h_3]; rfl) (by decide) ?_
    refine lv_aload_n hx hb dX7_markOf_36 rfl (lv_at hl 0 rfl) ?_
    refine lv_bipush (v := (24 : Int32)) hx hb dX7_markOf_37 (by decide) ?_
    obtain ⟨M_5, hc_4, hf⟩ := cv_s hf
    refine g_gov (g_run X (c_X7_traces l g  hc_4) s_X7_traces (oB_7 kc_279) q5_136 ⟨Nat.le_of_ble_eq_true rfl, Nat.le_of_ble_eq_true rfl⟩ hP hS rfl hl.1 rfl (Nat.le_of_ble_eq_true rfl) ⟨Nat.le_refl _, Nat.le_refl _⟩ dX7_markOf_39) hS (fun H locs hP hS => ?_)
    refine lv_iconst (v := (2 : Int32)) hx hb dX7_markOf_42 (by decide) ?_
    refine lv_aload_n hx hb dX7_markOf_43 rfl (lv_at hl 0 rfl) ?_
    refine lv_iload_n hx hb dX7_markOf_44 rfl (lv_at hl 1 rfl) ?_
    obtain ⟨r_8, M_7, hc_6, hf⟩ := cb_s hf
    refine g_goi (g_run X (c_X7_mark21 l g  hc_6) s_X7_mark21 (oB_7 kc_279) q5_152 ⟨Nat.le_of_ble_eq_true rfl, Nat.le_of_ble_eq_true rfl⟩ hP hS rfl hl.1 rfl (Nat.le_of_ble_eq_true rfl) ⟨Nat.le_refl _, Nat.le_refl _⟩ dX7_markOf_45) hS (fun H locs hP hS => ?_)
    refine lv_imul hx hb dX7_markOf_48 ?_
    exact g_iret X hP hS (sm_i hf) dX7_markOf_49
  · replace hf := it_f hf h_3
    by_cases h_9 : v_2 = (3 : Int32)
    · replace hf := it_t hf h_9
      refine lv_lookup (off := 41) (tgt := 50) hx hb dX7_markOf_9 (by decide) (by rw [h_9]; rfl) (by decide) ?_
      refine lv_aload_n hx hb dX7_markOf_50 rfl (lv_at hl 0 rfl) ?_
      refine lv_bipush (v := (22 : Int32)) hx hb dX7_markOf_51 (by decide) ?_
      obtain ⟨M_11, hc_10, hf⟩ := cv_s hf
      refine g_gov (g_run X (c_X7_traces l g  hc_10) s_X7_traces (oB_7 kc_279) q5_136 ⟨Nat.le_of_ble_eq_true rfl, Nat.le_of_ble_eq_true rfl⟩ hP hS rfl hl.1 rfl (Nat.le_of_ble_eq_true rfl) ⟨Nat.le_refl _, Nat.le_refl _⟩ dX7_markOf_53) hS (fun H locs hP hS => ?_)
      refine lv_aload_n hx hb dX7_markOf_56 rfl (lv_at hl 0 rfl) ?_
      refine lv_iload_n hx hb dX7_markOf_57 rfl (lv_at hl 1 rfl) ?_
      obtain ⟨r_14, M_13, hc_12, hf⟩ := cb_s hf
      refine g_goi (g_run X (c_X7_mark21 l g  hc_12) s_X7_mark21 (oB_7 kc_279) q5_152 ⟨Nat.le_of_ble_eq_true rfl, Nat.le_of_ble_eq_true rfl⟩ hP hS rfl hl.1 rfl (Nat.le_of_ble_eq_true rfl) ⟨Nat.le_refl _, Nat.le_refl _⟩ dX7_markOf_58) hS (fun H locs hP hS => ?_)
      refine lv_sipush (v := (1000 : Int32)) hx hb dX7_markOf_61 (by decide) ?_
      refine lv_isub hx hb dX7_markOf_64 ?_
      exact g_iret X hP hS (sm_i hf) dX7_markOf_65
    · replace hf := it_f hf h_9
      refine lv_lookup (off := 57) (tgt := 66) hx hb dX7_markOf_9 (by decide) ((lv_osw h_3 rfl).trans ((lv_osw h_9 rfl).trans rfl)) (by decide) ?_
      refine lv_aload_n hx hb dX7_markOf_66 rfl (lv_at hl 0 rfl) ?_
      refine lv_iload_n hx hb dX7_markOf_67 rfl (lv_at hl 1 rfl) ?_
      obtain ⟨r_17, M_16, hc_15, hf⟩ := cb_s hf
      refine g_goi (g_run X (c_X7_mark21 l g  hc_15) s_X7_mark21 (oB_7 kc_279) q5_152 ⟨Nat.le_of_ble_eq_true rfl, Nat.le_of_ble_eq_true rfl⟩ hP hS rfl hl.1 rfl (Nat.le_of_ble_eq_true rfl) ⟨Nat.le_refl _, Nat.le_refl _⟩ dX7_markOf_68) hS (fun H locs hP hS => ?_)
      exact g_iret X hP hS (sm_i hf) dX7_markOf_71
def f_X7_size11 (x1 : Int32) (M : Mem) : Option (Int32 × Mem) :=
  cv (f_X7_traces (11 : Int32) M) fun M_2 =>
  cb (f_X7_size10 x1 M_2) fun r_5 M_4 =>
  cb (f_X7_markOf x1 M_4) fun r_8 M_7 =>
  some ((r_5 + r_8), M_7)
set_option maxRecDepth 20000 in
theorem c_X7_size11 (l : Launch) (g : GC) {x1 : Int32}  {M : Mem} {out : Int32 × Mem} (hf : f_X7_size11 x1 M = some out) : cI l g yX7_size11 cX7_size11 3 (some .int) (rM 4 84) [.ref (gz g + 279), .int x1] M out := by
  refine g_met (by decide) (Nat.le_of_ble_eq_true rfl) ?_
  intro p e s m below meth c X hP hS ls hl
  have X : Bx p s m _ meth c RX7 cX7_size11 3 (some .int) g := X
  have hl : lv_has ls 3 [(0, .ref (gz g + 279)), (1, .int x1)] := hl
  have hx := X.1
  have hb := X.2.1
  refine lv_aload_n hx hb dX7_size11_0 rfl (lv_at hl 0 rfl) ?_
  refine lv_bipush (v := (11 : Int32)) hx hb dX7_size11_1 (by decide) ?_
  obtain ⟨M_2, hc_1, hf⟩ := cv_s hf
  refine g_gov (g_run X (c_X7_traces l g  hc_1) s_X7_traces (oB_7 kc_279) q5_136 ⟨Nat.le_of_ble_eq_true rfl, Nat.le_of_ble_eq_true rfl⟩ hP hS rfl hl.1 rfl (Nat.le_of_ble_eq_true rfl) ⟨Nat.le_refl _, Nat.le_refl _⟩ dX7_size11_3) hS (fun H locs hP hS => ?_)
  refine lv_aload_n hx hb dX7_size11_6 rfl (lv_at hl 0 rfl) ?_
  refine lv_iload_n hx hb dX7_size11_7 rfl (lv_at hl 1 rfl) ?_
  obtain ⟨r_5, M_4, hc_3, hf⟩ := cb_s hf
  refine g_goi (g_run X (c_X7_size10 l g  hc_3) s_X7_size10 (oB_7 kc_279) q5_144 ⟨Nat.le_of_ble_eq_true rfl, Nat.le_of_ble_eq_true rfl⟩ hP hS rfl hl.1 rfl (Nat.le_of_ble_eq_true rfl) ⟨Nat.le_refl _, Nat.le_refl _⟩ dX7_size11_8) hS (fun H locs hP hS => ?_)
  refine lv_istore_n (lv' := [(2, .int r_5), (0, .ref (gz g + 279)), (1, .int x1)]) hx hb dX7_size11_11 rfl hl (by decide) rfl (fun ls hl => ?_)
  refine lv_iload_n hx hb dX7_size11_12 rfl (lv_at hl 0 rfl) ?_
  refine lv_aload_n hx hb dX7_size11_13 rfl (lv_at hl 1 rfl) ?_
  refine lv_iload_n hx hb dX7_size11_14 rfl (lv_at hl 2 rfl) ?_
  obtain ⟨r_8, M_7, hc_6, hf⟩ := cb_s hf
  refine g_goi (g_run X (c_X7_markOf l g  hc_6) s_X7_markOf (oB_7 kc_279) q5_148 ⟨Nat.le_of_ble_eq_true rfl, Nat.le_of_ble_eq_true rfl⟩ hP hS rfl hl.1 rfl (Nat.le_of_ble_eq_true rfl) ⟨Nat.le_refl _, Nat.le_refl _⟩ dX7_size11_15) hS (fun H locs hP hS => ?_)
  refine lv_iadd hx hb dX7_size11_18 ?_
  exact g_iret X hP hS (sm_i hf) dX7_size11_19
def f_X7_size13 (x1 : Int32) (M : Mem) : Option (Int32 × Mem) :=
  cv (f_X7_traces (13 : Int32) M) fun M_2 =>
  cb (f_X7_size10 x1 M_2) fun r_5 M_4 =>
  some ((r_5 - (100 : Int32)), M_4)
set_option maxRecDepth 20000 in
theorem c_X7_size13 (l : Launch) (g : GC) {x1 : Int32}  {M : Mem} {out : Int32 × Mem} (hf : f_X7_size13 x1 M = some out) : cI l g yX7_size13 cX7_size13 2 (some .int) (rM 2 42) [.ref (gz g + 279), .int x1] M out := by
  refine g_met (by decide) (Nat.le_of_ble_eq_true rfl) ?_
  intro p e s m below meth c X hP hS ls hl
  have X : Bx p s m _ meth c RX7 cX7_size13 2 (some .int) g := X
  have hl : lv_has ls 2 [(0, .ref (gz g + 279)), (1, .int x1)] := hl
  have hx := X.1
  have hb := X.2.1
  refine lv_aload_n hx hb dX7_size13_0 rfl (lv_at hl 0 rfl) ?_
  refine lv_bipush (v := (13 : Int32)) hx hb dX7_size13_1 (by decide) ?_
  obtain ⟨M_2, hc_1, hf⟩ := cv_s hf
  refine g_gov (g_run X (c_X7_traces l g  hc_1) s_X7_traces (oB_7 kc_279) q5_136 ⟨Nat.le_of_ble_eq_true rfl, Nat.le_of_ble_eq_true rfl⟩ hP hS rfl hl.1 rfl (Nat.le_of_ble_eq_true rfl) ⟨Nat.le_refl _, Nat.le_refl _⟩ dX7_size13_3) hS (fun H locs hP hS => ?_)
  refine lv_aload_n hx hb dX7_size13_6 rfl (lv_at hl 0 rfl) ?_
  refine lv_iload_n hx hb dX7_size13_7 rfl (lv_at hl 1 rfl) ?_
  obtain ⟨r_5, M_4, hc_3, hf⟩ := cb_s hf
  refine g_goi (g_run X (c_X7_size10 l g  hc_3) s_X7_size10 (oB_7 kc_279) q5_144 ⟨Nat.le_of_ble_eq_true rfl, Nat.le_of_ble_eq_true rfl⟩ hP hS rfl hl.1 rfl (Nat.le_of_ble_eq_true rfl) ⟨Nat.le_refl _, Nat.le_refl _⟩ dX7_size13_8) hS (fun H locs hP hS => ?_)
  refine lv_bipush (v := (100 : Int32)) hx hb dX7_size13_11 (by decide) ?_
  refine lv_isub hx hb dX7_size13_13 ?_
  exact g_iret X hP hS (sm_i hf) dX7_size13_14
def f_X7_sizeOf_73 (x1 : Int32)   (M : Mem) : Option (Int32 × Mem) :=
  cb (f_X7_size11 x1 M) fun r_3 M_2 =>
  some (r_3, M_2)
set_option maxRecDepth 20000 in
theorem b_X7_sizeOf_73 {out : Int32 × Mem} (X : Bx p s m args meth c RX7 cX7_sizeOf 2 (some .int) g)   {x1 : Int32}      (M : Mem) {H : Heap} {locs : List Loc} {ls : Array Slot} (hf : f_X7_sizeOf_73 x1 M = some out) (hP : va_P g.1 vwCl (gW g M) H) (hS : va_S (gA g) s.heap H locs) (hl : lv_has ls 2 [(0, .ref (gz g + 279)), (1, .int x1)]) : W p l e (rM 5 106) s m args below meth c H locs 0 0 (MQ below (qI g out) args s 0 0 (gA g)) (F0 m 73 ls []) := by
  have hx := X.1
  have hb := X.2.1
  refine lv_aload_n hx hb dX7_sizeOf_73 rfl (lv_at hl 0 rfl) ?_
  refine lv_iload_n hx hb dX7_sizeOf_74 rfl (lv_at hl 1 rfl) ?_
  obtain ⟨r_3, M_2, hc_1, hf⟩ := cb_s hf
  refine g_goi (g_run X (c_X7_size11 l g  hc_1) s_X7_size11 (oB_7 kc_279) q5_140 ⟨Nat.le_of_ble_eq_true rfl, Nat.le_of_ble_eq_true rfl⟩ hP hS rfl hl.1 rfl (Nat.le_of_ble_eq_true rfl) ⟨Nat.le_refl _, Nat.le_refl _⟩ dX7_sizeOf_75) hS (fun H locs hP hS => ?_)
  exact g_iret X hP hS (sm_i hf) dX7_sizeOf_78
def f_X7_sizeOf (x1 : Int32) (M : Mem) : Option (Int32 × Mem) :=
  ck ((6 : Int32) + x1) 1247 <|
  lt (M 280 (((6 : Int32) + x1)).toNatClampNeg) fun v_2 =>
  if v_2 = (2 : Int32) then
    cv (f_X7_traces (12 : Int32) M) fun M_5 =>
    cb (f_X7_size11 x1 M_5) fun r_8 M_7 =>
    some ((-r_8), M_7)
  else
    if v_2 = (3 : Int32) then
      f_X7_sizeOf_73 x1 M
    else
      if v_2 = (4 : Int32) then
        cb (f_X7_size13 x1 M) fun r_13 M_12 =>
        some (r_13, M_12)
      else
        if v_2 = (5 : Int32) then
          cv (f_X7_traces (14 : Int32) M) fun M_16 =>
          cb (f_X7_size13 x1 M_16) fun r_19 M_18 =>
          some (((2 : Int32) * r_19), M_18)
        else
          f_X7_sizeOf_73 x1 M
set_option maxRecDepth 20000 in
theorem c_X7_sizeOf (l : Launch) (g : GC) {x1 : Int32}  {M : Mem} {out : Int32 × Mem} (hf : f_X7_sizeOf x1 M = some out) : cI l g yX7_sizeOf cX7_sizeOf 2 (some .int) (rM 5 106) [.ref (gz g + 279), .int x1] M out := by
  refine g_met (by decide) (Nat.le_of_ble_eq_true rfl) ?_
  intro p e s m below meth c X hP hS ls hl
  have X : Bx p s m _ meth c RX7 cX7_sizeOf 2 (some .int) g := X
  have hl : lv_has ls 2 [(0, .ref (gz g + 279)), (1, .int x1)] := hl
  have hx := X.1
  have hb := X.2.1
  refine lv_aload_n hx hb dX7_sizeOf_0 rfl (lv_at hl 0 rfl) ?_
  refine gf_7_0 X hP kc_279 q4_25 dX7_sizeOf_1 ?_
  refine lv_bipush (v := (6 : Int32)) hx hb dX7_sizeOf_4 (by decide) ?_
  refine lv_iload_n hx hb dX7_sizeOf_6 rfl (lv_at hl 1 rfl) ?_
  refine lv_iadd hx hb dX7_sizeOf_7 ?_
  obtain ⟨hi_1, hf⟩ := ck_s hf
  refine ga_ld X hP (iA_13 kc_280) hi_1 dX7_sizeOf_8 ?_
  refine lv_topi (fun v_2 ev_2 => ?_)
  replace hf := lt_go hf ev_2
  by_cases h_3 : v_2 = (2 : Int32)
  · replace hf := it_t hf h_3
    refine lv_tableIn (off := 31) (tgt := 40) hx hb dX7_sizeOf_9 (by rw [h_3]; decide) (by rw [h_3]; decide) (by rw [h_3]; rfl) (by decide) ?_
    refine lv_aload_n hx hb dX7_sizeOf_40 rfl (lv_at hl 0 rfl) ?_
    refine lv_bipush (v := (12 : Int32)) hx hb dX7_sizeOf_41 (by decide) ?_
    obtain ⟨M_5, hc_4, hf⟩ := cv_s hf
    refine g_gov (g_run X (c_X7_traces l g  hc_4) s_X7_traces (oB_7 kc_279) q5_136 ⟨Nat.le_of_ble_eq_true rfl, Nat.le_of_ble_eq_true rfl⟩ hP hS rfl hl.1 rfl (Nat.le_of_ble_eq_true rfl) ⟨Nat.le_refl _, Nat.le_refl _⟩ dX7_sizeOf_43) hS (fun H locs hP hS => ?_)
    refine lv_aload_n hx hb dX7_sizeOf_46 rfl (lv_at hl 0 rfl) ?_
    refine lv_iload_n hx hb dX7_sizeOf_47 rfl (lv_at hl 1 rfl) ?_
    obtain ⟨r_8, M_7, hc_6, hf⟩ := cb_s hf
    refine g_goi (g_run X (c_X7_size11 l g  hc_6) s_X7_size11 (oB_7 kc_279) q5_140 ⟨Nat.le_of_ble_eq_true rfl, Nat.le_of_ble_eq_true rfl⟩ hP hS rfl hl.1 rfl (Nat.le_of_ble_eq_true rfl) ⟨Nat.le_refl _, Nat.le_refl _⟩ dX7_sizeOf_48) hS (fun H locs hP hS => ?_)
    refine lv_ineg hx hb dX7_sizeOf_51 ?_
    exact g_iret X hP hS (sm_i hf) dX7_sizeOf_52
  · replace hf := it_f hf h_3
    by_cases h_9 : v_2 = (3 : Int32)
    · replace hf := it_t hf h_9
      refine lv_tableIn (off := 64) (tgt := 73) hx hb dX7_sizeOf_9 (by rw [h_9]; decide) (by rw [h_9]; decide) (by rw [h_9]; rfl) (by decide) ?_
      exact b_X7_sizeOf_73 X   M hf hP hS hl
    · replace hf := it_f hf h_9
      by_cases h_10 : v_2 = (4 : Int32)
      · replace hf := it_t hf h_10
        refine lv_tableIn (off := 44) (tgt := 53) hx hb dX7_sizeOf_9 (by rw [h_10]; decide) (by rw [h_10]; decide) (by rw [h_10]; rfl) (by decide) ?_
        refine lv_aload_n hx hb dX7_sizeOf_53 rfl (lv_at hl 0 rfl) ?_
        refine lv_iload_n hx hb dX7_sizeOf_54 rfl (lv_at hl 1 rfl) ?_
        obtain ⟨r_13, M_12, hc_11, hf⟩ := cb_s hf
        refine g_goi (g_run X (c_X7_size13 l g  hc_11) s_X7_size13 (oB_7 kc_279) q5_160 ⟨Nat.le_of_ble_eq_true rfl, Nat.le_of_ble_eq_true rfl⟩ hP hS rfl hl.1 rfl (Nat.le_of_ble_eq_true rfl) ⟨Nat.le_refl _, Nat.le_refl _⟩ dX7_sizeOf_55) hS (fun H locs hP hS => ?_)
        exact g_iret X hP hS (sm_i hf) dX7_sizeOf_58
      · replace hf := it_f hf h_10
        by_cases h_14 : v_2 = (5 : Int32)
        · replace hf := it_t hf h_14
          refine lv_tableIn (off := 50) (tgt := 59) hx hb dX7_sizeOf_9 (by rw [h_14]; decide) (by rw [h_14]; decide) (by rw [h_14]; rfl) (by decide) ?_
          refine lv_aload_n hx hb dX7_sizeOf_59 rfl (lv_at hl 0 rfl) ?_
          refine lv_bipush (v := (14 : Int32)) hx hb dX7_sizeOf_60 (by decide) ?_
          obtain ⟨M_16, hc_15, hf⟩ := cv_s hf
          refine g_gov (g_run X (c_X7_traces l g  hc_15) s_X7_traces (oB_7 kc_279) q5_136 ⟨Nat.le_of_ble_eq_true rfl, Nat.le_of_ble_eq_true rfl⟩ hP hS rfl hl.1 rfl (Nat.le_of_ble_eq_true rfl) ⟨Nat.le_refl _, Nat.le_refl _⟩ dX7_sizeOf_62) hS (fun H locs hP hS => ?_)
          refine lv_iconst (v := (2 : Int32)) hx hb dX7_sizeOf_65 (by decide) ?_
          refine lv_aload_n hx hb dX7_sizeOf_66 rfl (lv_at hl 0 rfl) ?_
          refine lv_iload_n hx hb dX7_sizeOf_67 rfl (lv_at hl 1 rfl) ?_
          obtain ⟨r_19, M_18, hc_17, hf⟩ := cb_s hf
          refine g_goi (g_run X (c_X7_size13 l g  hc_17) s_X7_size13 (oB_7 kc_279) q5_160 ⟨Nat.le_of_ble_eq_true rfl, Nat.le_of_ble_eq_true rfl⟩ hP hS rfl hl.1 rfl (Nat.le_of_ble_eq_true rfl) ⟨Nat.le_refl _, Nat.le_refl _⟩ dX7_sizeOf_68) hS (fun H locs hP hS => ?_)
          refine lv_imul hx hb dX7_sizeOf_71 ?_
          exact g_iret X hP hS (sm_i hf) dX7_sizeOf_72
        · replace hf := it_f hf h_14
          refine lv_tableOut (tgt := 73) hx hb dX7_sizeOf_9 (by have n0 := lv_neT (a := 2) h_3 rfl; have n1 := lv_neT (a := 3) h_9 rfl; have n2 := lv_neT (a := 4) h_10 rfl; have n3 := lv_neT (a := 5) h_14 rfl; omega) (by decide) ?_
          exact b_X7_sizeOf_73 X   M hf hP hS hl
def f_X7_mark23 (x1 : Int32) (M : Mem) : Option (Int32 × Mem) :=
  cv (f_X7_traces (23 : Int32) M) fun M_2 =>
  cb (f_X7_mark20 x1 M_2) fun r_5 M_4 =>
  cb (f_X7_sizeOf x1 M_4) fun r_8 M_7 =>
  some ((r_5 - r_8), M_7)
set_option maxRecDepth 20000 in
theorem c_X7_mark23 (l : Launch) (g : GC) {x1 : Int32}  {M : Mem} {out : Int32 × Mem} (hf : f_X7_mark23 x1 M = some out) : cI l g yX7_mark23 cX7_mark23 3 (some .int) (rM 6 127) [.ref (gz g + 279), .int x1] M out := by
  refine g_met (by decide) (Nat.le_of_ble_eq_true rfl) ?_
  intro p e s m below meth c X hP hS ls hl
  have X : Bx p s m _ meth c RX7 cX7_mark23 3 (some .int) g := X
  have hl : lv_has ls 3 [(0, .ref (gz g + 279)), (1, .int x1)] := hl
  have hx := X.1
  have hb := X.2.1
  refine lv_aload_n hx hb dX7_mark23_0 rfl (lv_at hl 0 rfl) ?_
  refine lv_bipush (v := (23 : Int32)) hx hb dX7_mark23_1 (by decide) ?_
  obtain ⟨M_2, hc_1, hf⟩ := cv_s hf
  refine g_gov (g_run X (c_X7_traces l g  hc_1) s_X7_traces (oB_7 kc_279) q5_136 ⟨Nat.le_of_ble_eq_true rfl, Nat.le_of_ble_eq_true rfl⟩ hP hS rfl hl.1 rfl (Nat.le_of_ble_eq_true rfl) ⟨Nat.le_refl _, Nat.le_refl _⟩ dX7_mark23_3) hS (fun H locs hP hS => ?_)
  refine lv_aload_n hx hb dX7_mark23_6 rfl (lv_at hl 0 rfl) ?_
  refine lv_iload_n hx hb dX7_mark23_7 rfl (lv_at hl 1 rfl) ?_
  obtain ⟨r_5, M_4, hc_3, hf⟩ := cb_s hf
  refine g_goi (g_run X (c_X7_mark20 l g  hc_3) s_X7_mark20 (oB_7 kc_279) q5_156 ⟨Nat.le_of_ble_eq_true rfl, Nat.le_of_ble_eq_true rfl⟩ hP hS rfl hl.1 rfl (Nat.le_of_ble_eq_true rfl) ⟨Nat.le_refl _, Nat.le_refl _⟩ dX7_mark23_8) hS (fun H locs hP hS => ?_)
  refine lv_istore_n (lv' := [(2, .int r_5), (0, .ref (gz g + 279)), (1, .int x1)]) hx hb dX7_mark23_11 rfl hl (by decide) rfl (fun ls hl => ?_)
  refine lv_iload_n hx hb dX7_mark23_12 rfl (lv_at hl 0 rfl) ?_
  refine lv_aload_n hx hb dX7_mark23_13 rfl (lv_at hl 1 rfl) ?_
  refine lv_iload_n hx hb dX7_mark23_14 rfl (lv_at hl 2 rfl) ?_
  obtain ⟨r_8, M_7, hc_6, hf⟩ := cb_s hf
  refine g_goi (g_run X (c_X7_sizeOf l g  hc_6) s_X7_sizeOf (oB_7 kc_279) q5_132 ⟨Nat.le_of_ble_eq_true rfl, Nat.le_of_ble_eq_true rfl⟩ hP hS rfl hl.1 rfl (Nat.le_of_ble_eq_true rfl) ⟨Nat.le_refl _, Nat.le_refl _⟩ dX7_mark23_15) hS (fun H locs hP hS => ?_)
  refine lv_isub hx hb dX7_mark23_18 ?_
  exact g_iret X hP hS (sm_i hf) dX7_mark23_19
def f_X7_ask (x1 : Int32) (x2 : Int32) (M : Mem) : Option (Int32 × Mem) :=
  cb (f_X7_isTooth x1 M) fun r_3 M_2 =>
  if r_3 = 0 then
    some ((-1000001 : Int32), M_2)
  else
    cb (f_X7_in ((x2).toInt64) (0 : Int64) (1 : Int64) M_2) fun r_7 M_6 =>
    if r_7 = 0 then
      some ((-1000001 : Int32), M_6)
    else
      lt (up2 M_6 279 17 (0 : Int32)) fun M_9 =>
      if x2 = 0 then
        cb (f_X7_sizeOf x1 M_9) fun r_21 M_20 =>
        some (r_21, M_20)
      else
        ck ((6 : Int32) + x1) 1247 <|
        if (M_9 280 (((6 : Int32) + x1)).toNatClampNeg) < (4 : Int32) then
          cb (f_X7_markOf x1 M_9) fun r_15 M_14 =>
          some (r_15, M_14)
        else
          cb (f_X7_mark23 x1 M_9) fun r_18 M_17 =>
          some (r_18, M_17)
set_option maxRecDepth 20000 in
theorem c_X7_ask (l : Launch) (g : GC) {x1 : Int32} {x2 : Int32}  {M : Mem} {out : Int32 × Mem} (hf : f_X7_ask x1 x2 M = some out) : cI l g yX7_ask cX7_ask 3 (some .int) (rM 7 149) [.ref (gz g + 279), .int x1, .int x2] M out := by
  refine g_met (by decide) (Nat.le_of_ble_eq_true rfl) ?_
  intro p e s m below meth c X hP hS ls hl
  have X : Bx p s m _ meth c RX7 cX7_ask 3 (some .int) g := X
  have hl : lv_has ls 3 [(0, .ref (gz g + 279)), (1, .int x1), (2, .int x2)] := hl
  have hx := X.1
  have hb := X.2.1
  refine lv_aload_n hx hb dX7_ask_0 rfl (lv_at hl 0 rfl) ?_
  refine lv_iload_n hx hb dX7_ask_1 rfl (lv_at hl 1 rfl) ?_
  obtain ⟨r_3, M_2, hc_1, hf⟩ := cb_s hf
  refine g_goi (g_run X (c_X7_isTooth l g  hc_1) s_X7_isTooth (oB_7 kc_279) q4_221 ⟨Nat.le_of_ble_eq_true rfl, Nat.le_of_ble_eq_true rfl⟩ hP hS rfl hl.1 rfl (Nat.le_of_ble_eq_true rfl) ⟨Nat.le_refl _, Nat.le_refl _⟩ dX7_ask_2) hS (fun H locs hP hS => ?_)
  refine lv_if_eq (tgt := 18) hx hb dX7_ask_5 (by decide) (fun h_4 => ?_) (fun h_4 => ?_)
  · replace hf := it_t hf h_4
    refine lv_ldc hx hb X.2.2.2.1 (X.2.2.2.2.1 _ q4_93) dX7_ask_18 ?_
    exact g_iret X hP hS (sm_i hf) dX7_ask_20
  · replace hf := it_f hf h_4
    refine lv_iload_n hx hb dX7_ask_8 rfl (lv_at hl 2 rfl) ?_
    refine lv_i2l hx hb dX7_ask_9 rfl ?_
    refine lv_lconst (v := (0 : Int64)) hx hb dX7_ask_10 (by decide) ?_
    refine lv_lconst (v := (1 : Int64)) hx hb dX7_ask_11 (by decide) ?_
    obtain ⟨r_7, M_6, hc_5, hf⟩ := cb_s hf
    refine g_goi (g_runS X (c_X7_in l g  hc_5) s_X7_in q4_89 ⟨Nat.le_of_ble_eq_true rfl, Nat.le_of_ble_eq_true rfl⟩ hP hS rfl hl.1 rfl (Nat.le_of_ble_eq_true rfl) ⟨Nat.le_refl _, Nat.le_refl _⟩ dX7_ask_12) hS (fun H locs hP hS => ?_)
    refine lv_if_ne (tgt := 21) hx hb dX7_ask_15 (by decide) (fun h_8 => ?_) (fun h_8 => ?_)
    · replace hf := it_f hf h_8
      refine lv_aload_n hx hb dX7_ask_21 rfl (lv_at hl 0 rfl) ?_
      refine lv_iconst (v := (0 : Int32)) hx hb dX7_ask_22 (by decide) ?_
      refine gp_7_17 X hP hS kc_279 q4_42 dX7_ask_23 (fun H locs M_9 eM_9 hP hS => ?_)
      replace hf := lt_go hf eM_9
      refine lv_iload_n hx hb dX7_ask_26 rfl (lv_at hl 2 rfl) ?_
      refine lv_if_ne (tgt := 38) hx hb dX7_ask_27 (by decide) (fun h_10 => ?_) (fun h_10 => ?_)
      · replace hf := it_f hf h_10
        refine lv_aload_n hx hb dX7_ask_38 rfl (lv_at hl 0 rfl) ?_
        refine gf_7_0 X hP kc_279 q4_25 dX7_ask_39 ?_
        refine lv_bipush (v := (6 : Int32)) hx hb dX7_ask_42 (by decide) ?_
        refine lv_iload_n hx hb dX7_ask_44 rfl (lv_at hl 1 rfl) ?_
        refine lv_iadd hx hb dX7_ask_45 ?_
        obtain ⟨hi_11, hf⟩ := ck_s hf
        refine ga_ld X hP (iA_13 kc_280) hi_11 dX7_ask_46 ?_
        refine lv_iconst (v := (4 : Int32)) hx hb dX7_ask_47 (by decide) ?_
        refine lv_icmp_lt (tgt := 59) hx hb dX7_ask_48 (by decide) (fun h_12 => ?_) (fun h_12 => ?_)
        · replace hf := it_t hf h_12
          refine lv_aload_n hx hb dX7_ask_59 rfl (lv_at hl 0 rfl) ?_
          refine lv_iload_n hx hb dX7_ask_60 rfl (lv_at hl 1 rfl) ?_
          obtain ⟨r_15, M_14, hc_13, hf⟩ := cb_s hf
          refine g_goi (g_run X (c_X7_markOf l g  hc_13) s_X7_markOf (oB_7 kc_279) q5_148 ⟨Nat.le_of_ble_eq_true rfl, Nat.le_of_ble_eq_true rfl⟩ hP hS rfl hl.1 rfl (Nat.le_of_ble_eq_true rfl) ⟨Nat.le_refl _, Nat.le_refl _⟩ dX7_ask_61) hS (fun H locs hP hS => ?_)
          exact g_iret X hP hS (sm_i hf) dX7_ask_64
        · replace hf := it_f hf h_12
          refine lv_aload_n hx hb dX7_ask_51 rfl (lv_at hl 0 rfl) ?_
          refine lv_iload_n hx hb dX7_ask_52 rfl (lv_at hl 1 rfl) ?_
          obtain ⟨r_18, M_17, hc_16, hf⟩ := cb_s hf
          refine g_goi (g_run X (c_X7_mark23 l g  hc_16) s_X7_mark23 (oB_7 kc_279) q5_164 ⟨Nat.le_of_ble_eq_true rfl, Nat.le_of_ble_eq_true rfl⟩ hP hS rfl hl.1 rfl (Nat.le_of_ble_eq_true rfl) ⟨Nat.le_refl _, Nat.le_refl _⟩ dX7_ask_53) hS (fun H locs hP hS => ?_)
          refine lv_goto (tgt := 64) hx hb dX7_ask_56 (by decide) ?_
          exact g_iret X hP hS (sm_i hf) dX7_ask_64
      · replace hf := it_t hf h_10
        refine lv_aload_n hx hb dX7_ask_30 rfl (lv_at hl 0 rfl) ?_
        refine lv_iload_n hx hb dX7_ask_31 rfl (lv_at hl 1 rfl) ?_
        obtain ⟨r_21, M_20, hc_19, hf⟩ := cb_s hf
        refine g_goi (g_run X (c_X7_sizeOf l g  hc_19) s_X7_sizeOf (oB_7 kc_279) q5_132 ⟨Nat.le_of_ble_eq_true rfl, Nat.le_of_ble_eq_true rfl⟩ hP hS rfl hl.1 rfl (Nat.le_of_ble_eq_true rfl) ⟨Nat.le_refl _, Nat.le_refl _⟩ dX7_ask_32) hS (fun H locs hP hS => ?_)
        refine lv_goto (tgt := 64) hx hb dX7_ask_35 (by decide) ?_
        exact g_iret X hP hS (sm_i hf) dX7_ask_64
    · replace hf := it_t hf h_8
      refine lv_ldc hx hb X.2.2.2.1 (X.2.2.2.2.1 _ q4_93) dX7_ask_18 ?_
      exact g_iret X hP hS (sm_i hf) dX7_ask_20
def f_X7_trace (x1 : Int32) (M : Mem) : Option (Int32 × Mem) :=
  cb (f_X7_in ((x1).toInt64) (0 : Int64) ((((M 279 17) - (1 : Int32))).toInt64) M) fun r_3 M_2 =>
  if r_3 = 0 then
    some ((-1000000 : Int32), M_2)
  else
    ck x1 16 <|
    some ((M_2 289 x1.toNatClampNeg), M_2)
set_option maxRecDepth 20000 in
theorem c_X7_trace (l : Launch) (g : GC) {x1 : Int32}  {M : Mem} {out : Int32 × Mem} (hf : f_X7_trace x1 M = some out) : cI l g yX7_trace cX7_trace 2 (some .int) (rM 1 25) [.ref (gz g + 279), .int x1] M out := by
  refine g_met (by decide) (Nat.le_of_ble_eq_true rfl) ?_
  intro p e s m below meth c X hP hS ls hl
  have X : Bx p s m _ meth c RX7 cX7_trace 2 (some .int) g := X
  have hl : lv_has ls 2 [(0, .ref (gz g + 279)), (1, .int x1)] := hl
  have hx := X.1
  have hb := X.2.1
  refine lv_iload_n hx hb dX7_trace_0 rfl (lv_at hl 1 rfl) ?_
  refine lv_i2l hx hb dX7_trace_1 rfl ?_
  refine lv_lconst (v := (0 : Int64)) hx hb dX7_trace_2 (by decide) ?_
  refine lv_aload_n hx hb dX7_trace_3 rfl (lv_at hl 0 rfl) ?_
  refine gf_7_17 X hP kc_279 q4_42 dX7_trace_4 ?_
  refine lv_iconst (v := (1 : Int32)) hx hb dX7_trace_7 (by decide) ?_
  refine lv_isub hx hb dX7_trace_8 ?_
  refine lv_i2l hx hb dX7_trace_9 rfl ?_
  obtain ⟨r_3, M_2, hc_1, hf⟩ := cb_s hf
  refine g_goi (g_runS X (c_X7_in l g  hc_1) s_X7_in q4_89 ⟨Nat.le_of_ble_eq_true rfl, Nat.le_of_ble_eq_true rfl⟩ hP hS rfl hl.1 rfl (Nat.le_of_ble_eq_true rfl) ⟨Nat.le_refl _, Nat.le_refl _⟩ dX7_trace_10) hS (fun H locs hP hS => ?_)
  refine lv_if_eq (tgt := 25) hx hb dX7_trace_13 (by decide) (fun h_4 => ?_) (fun h_4 => ?_)
  · replace hf := it_t hf h_4
    refine lv_ldc hx hb X.2.2.2.1 (X.2.2.2.2.1 _ q5_39) dX7_trace_25 ?_
    exact g_iret X hP hS (sm_i hf) dX7_trace_27
  · replace hf := it_f hf h_4
    refine lv_aload_n hx hb dX7_trace_16 rfl (lv_at hl 0 rfl) ?_
    refine gf_7_16 X hP kc_279 q4_41 dX7_trace_17 ?_
    refine lv_iload_n hx hb dX7_trace_20 rfl (lv_at hl 1 rfl) ?_
    obtain ⟨hi_5, hf⟩ := ck_s hf
    refine ga_ld X hP (iA_12 kc_289) hi_5 dX7_trace_21 ?_
    refine lv_goto (tgt := 27) hx hb dX7_trace_22 (by decide) ?_
    exact g_iret X hP hS (sm_i hf) dX7_trace_27
def f_X7_rowsThere_25  (k4 : Int32 → Int32 → Mem → Option (Int32 × Mem)) (x2 : Int32) (t0 : Int32) (t1 : Int32) (M : Mem) : Option (Int32 × Mem) :=
  lt (t0 + t1) fun x1_1 =>
  k4 x1_1 (x2 + (1 : Int32)) M
set_option maxRecDepth 20000 in
theorem b_X7_rowsThere_25 {out : Int32 × Mem} (X : Bx p s m args meth c RX7 cX7_rowsThere 3 (some .int) g)      {k4 : Int32 → Int32 → Mem → Option (Int32 × Mem)} (hk4 : ∀ (x1 : Int32) (x2 : Int32) (M : Mem) (H : Heap) (locs : List Loc) (ls : Array Slot), k4 x1 x2 M = some out → va_P g.1 vwCl (gW g M) H → va_S (gA g) s.heap H locs → lv_has ls 3 [(0, .ref (gz g + 279)), (1, .int x1), (2, .int x2)] → W p l e (rM 0 0) s m args below meth c H locs 0 0 (MQ below (qI g out) args s 0 0 (gA g)) (F0 m 4 ls [])) (x2 : Int32) (t0 : Int32) (t1 : Int32) (M : Mem) {H : Heap} {locs : List Loc} {ls : Array Slot} (hf : f_X7_rowsThere_25 k4 x2 t0 t1 M = some out) (hP : va_P g.1 vwCl (gW g M) H) (hS : va_S (gA g) s.heap H locs) (hl : lv_has ls 3 [(0, .ref (gz g + 279)), (2, .int x2)]) : W p l e (rM 0 0) s m args below meth c H locs 0 0 (MQ below (qI g out) args s 0 0 (gA g)) (F0 m 25 ls [.int t1, .int t0]) := by
  have hx := X.1
  have hb := X.2.1
  refine lv_iadd hx hb dX7_rowsThere_25 ?_
  refine lv_topi (fun x1_1 ex1_1 => ?_)
  replace hf := lt_go hf ex1_1
  refine lv_istore_n (lv' := [(1, .int x1_1), (0, .ref (gz g + 279)), (2, .int x2)]) hx hb dX7_rowsThere_26 rfl hl (by decide) rfl (fun ls hl => ?_)
  refine lv_iinc (v := (x2 + (1 : Int32))) (lv' := [(2, .int (x2 + (1 : Int32))), (1, .int x1_1), (0, .ref (gz g + 279))]) hx hb dX7_rowsThere_27 hl (k := 2) rfl rfl (by decide) rfl (fun ls hl => ?_)
  refine lv_goto (tgt := 4) hx hb dX7_rowsThere_30 (by decide) ?_
  exact hk4 x1_1 (x2 + (1 : Int32)) M _ _ _ hf hP hS (lv_sub hl [2, 1, 0] rfl)
def f_X7_rowsThere_4   : Nat → Int32 → Int32 → Mem → Option (Int32 × Mem)
  | 0, _, _, _ => none
  | n + 1, x1, x2, M =>
    if (8 : Int32) ≤ x2 then
      some (x1, M)
    else
      ck x2 8 <|
      if (M 282 x2.toNatClampNeg) < 0 then
        f_X7_rowsThere_25 (f_X7_rowsThere_4 n) x2 x1 (0 : Int32) M
      else
        f_X7_rowsThere_25 (f_X7_rowsThere_4 n) x2 x1 (1 : Int32) M
set_option maxRecDepth 20000 in
theorem b_X7_rowsThere_4 {out : Int32 × Mem} (X : Bx p s m args meth c RX7 cX7_rowsThere 3 (some .int) g)        : ∀ (n : Nat) (x1 : Int32) (x2 : Int32) (M : Mem) (H : Heap) (locs : List Loc) (ls : Array Slot), f_X7_rowsThere_4 n x1 x2 M = some out → va_P g.1 vwCl (gW g M) H → va_S (gA g) s.heap H locs → lv_has ls 3 [(0, .ref (gz g + 279)), (1, .int x1), (2, .int x2)] → W p l e (rM 0 0) s m args below meth c H locs 0 0 (MQ below (qI g out) args s 0 0 (gA g)) (F0 m 4 ls []) := by
  have hx := X.1
  have hb := X.2.1
  intro n
  induction n with
  | zero => intro _ _ _ _ _ _ hf; cases hf
  | succ n ih =>
    intro x1 x2 M H locs ls hf hP hS hl
    rw [f_X7_rowsThere_4] at hf
    refine lv_iload_n hx hb dX7_rowsThere_4 rfl (lv_at hl 2 rfl) ?_
    refine lv_bipush (v := (8 : Int32)) hx hb dX7_rowsThere_5 (by decide) ?_
    refine lv_icmp_ge (tgt := 33) hx hb dX7_rowsThere_7 (by decide) (fun h_1 => ?_) (fun h_1 => ?_)
    · replace hf := it_t hf h_1
      refine lv_iload_n hx hb dX7_rowsThere_33 rfl (lv_at hl 1 rfl) ?_
      exact g_iret X hP hS (sm_i hf) dX7_rowsThere_34
    · replace hf := it_f hf h_1
      refine lv_iload_n hx hb dX7_rowsThere_10 rfl (lv_at hl 1 rfl) ?_
      refine lv_aload_n hx hb dX7_rowsThere_11 rfl (lv_at hl 0 rfl) ?_
      refine gf_7_6 X hP kc_279 q4_31 dX7_rowsThere_12 ?_
      refine lv_iload_n hx hb dX7_rowsThere_15 rfl (lv_at hl 2 rfl) ?_
      obtain ⟨hi_2, hf⟩ := ck_s hf
      refine ga_ld X hP (iA_14 kc_282) hi_2 dX7_rowsThere_16 ?_
      refine lv_if_lt (tgt := 24) hx hb dX7_rowsThere_17 (by decide) (fun h_3 => ?_) (fun h_3 => ?_)
      · replace hf := it_t hf h_3
        refine lv_iconst (v := (0 : Int32)) hx hb dX7_rowsThere_24 (by decide) ?_
        exact b_X7_rowsThere_25 X ih x2 x1 (0 : Int32) M hf hP hS (lv_sub hl [0, 2] rfl)
      · replace hf := it_f hf h_3
        refine lv_iconst (v := (1 : Int32)) hx hb dX7_rowsThere_20 (by decide) ?_
        refine lv_goto (tgt := 25) hx hb dX7_rowsThere_21 (by decide) ?_
        exact b_X7_rowsThere_25 X ih x2 x1 (1 : Int32) M hf hP hS (lv_sub hl [0, 2] rfl)
def f_X7_rowsThere  (M : Mem) : Option (Int32 × Mem) :=
  f_X7_rowsThere_4 FU (0 : Int32) (0 : Int32) M
set_option maxRecDepth 20000 in
theorem c_X7_rowsThere (l : Launch) (g : GC)   {M : Mem} {out : Int32 × Mem} (hf : f_X7_rowsThere  M = some out) : cI l g yX7_rowsThere cX7_rowsThere 3 (some .int) (rM 0 0) [.ref (gz g + 279)] M out := by
  refine g_met (by decide) (Nat.le_of_ble_eq_true rfl) ?_
  intro p e s m below meth c X hP hS ls hl
  have X : Bx p s m _ meth c RX7 cX7_rowsThere 3 (some .int) g := X
  have hl : lv_has ls 3 [(0, .ref (gz g + 279))] := hl
  have hx := X.1
  have hb := X.2.1
  refine lv_iconst (v := (0 : Int32)) hx hb dX7_rowsThere_0 (by decide) ?_
  refine lv_istore_n (lv' := [(1, .int (0 : Int32)), (0, .ref (gz g + 279))]) hx hb dX7_rowsThere_1 rfl hl (by decide) rfl (fun ls hl => ?_)
  refine lv_iconst (v := (0 : Int32)) hx hb dX7_rowsThere_2 (by decide) ?_
  refine lv_istore_n (lv' := [(2, .int (0 : Int32)), (1, .int (0 : Int32)), (0, .ref (gz g + 279))]) hx hb dX7_rowsThere_3 rfl hl (by decide) rfl (fun ls hl => ?_)
  exact b_X7_rowsThere_4 X  FU (0 : Int32) (0 : Int32) M _ _ _ hf hP hS (lv_sub hl [2, 1, 0] rfl)
def f_X7_pluckedAll_4   : Nat → Int32 → Int32 → Mem → Option (Int32 × Mem)
  | 0, _, _, _ => none
  | n + 1, x1, x2, M =>
    if (M 280 0) ≤ x2 then
      some (x1, M)
    else
      ck ((24 : Int32) + x2) 1247 <|
      lt (x1 + (M 280 (((24 : Int32) + x2)).toNatClampNeg)) fun x1_3 =>
      (f_X7_pluckedAll_4 n) x1_3 (x2 + (1 : Int32)) M
set_option maxRecDepth 20000 in
theorem b_X7_pluckedAll_4 {out : Int32 × Mem} (X : Bx p s m args meth c RX7 cX7_pluckedAll 3 (some .int) g)        : ∀ (n : Nat) (x1 : Int32) (x2 : Int32) (M : Mem) (H : Heap) (locs : List Loc) (ls : Array Slot), f_X7_pluckedAll_4 n x1 x2 M = some out → va_P g.1 vwCl (gW g M) H → va_S (gA g) s.heap H locs → lv_has ls 3 [(0, .ref (gz g + 279)), (1, .int x1), (2, .int x2)] → W p l e (rM 0 0) s m args below meth c H locs 0 0 (MQ below (qI g out) args s 0 0 (gA g)) (F0 m 4 ls []) := by
  have hx := X.1
  have hb := X.2.1
  intro n
  induction n with
  | zero => intro _ _ _ _ _ _ hf; cases hf
  | succ n ih =>
    intro x1 x2 M H locs ls hf hP hS hl
    rw [f_X7_pluckedAll_4] at hf
    refine lv_iload_n hx hb dX7_pluckedAll_4 rfl (lv_at hl 2 rfl) ?_
    refine lv_aload_n hx hb dX7_pluckedAll_5 rfl (lv_at hl 0 rfl) ?_
    refine gf_7_0 X hP kc_279 q4_25 dX7_pluckedAll_6 ?_
    refine lv_iconst (v := (0 : Int32)) hx hb dX7_pluckedAll_9 (by decide) ?_
    refine ga_ldj (j := 0) X hP (iA_13 kc_280) (by unfold vp_in; decide) (by decide) dX7_pluckedAll_10 ?_
    refine lv_icmp_ge (tgt := 32) hx hb dX7_pluckedAll_11 (by decide) (fun h_1 => ?_) (fun h_1 => ?_)
    · replace hf := it_t hf h_1
      refine lv_iload_n hx hb dX7_pluckedAll_32 rfl (lv_at hl 1 rfl) ?_
      exact g_iret X hP hS (sm_i hf) dX7_pluckedAll_33
    · replace hf := it_f hf h_1
      refine lv_iload_n hx hb dX7_pluckedAll_14 rfl (lv_at hl 1 rfl) ?_
      refine lv_aload_n hx hb dX7_pluckedAll_15 rfl (lv_at hl 0 rfl) ?_
      refine gf_7_0 X hP kc_279 q4_25 dX7_pluckedAll_16 ?_
      refine lv_bipush (v := (24 : Int32)) hx hb dX7_pluckedAll_19 (by decide) ?_
      refine lv_iload_n hx hb dX7_pluckedAll_21 rfl (lv_at hl 2 rfl) ?_
      refine lv_iadd hx hb dX7_pluckedAll_22 ?_
      obtain ⟨hi_2, hf⟩ := ck_s hf
      refine ga_ld X hP (iA_13 kc_280) hi_2 dX7_pluckedAll_23 ?_
      refine lv_iadd hx hb dX7_pluckedAll_24 ?_
      refine lv_topi (fun x1_3 ex1_3 => ?_)
      replace hf := lt_go hf ex1_3
      refine lv_istore_n (lv' := [(1, .int x1_3), (0, .ref (gz g + 279)), (2, .int x2)]) hx hb dX7_pluckedAll_25 rfl hl (by decide) rfl (fun ls hl => ?_)
      refine lv_iinc (v := (x2 + (1 : Int32))) (lv' := [(2, .int (x2 + (1 : Int32))), (1, .int x1_3), (0, .ref (gz g + 279))]) hx hb dX7_pluckedAll_26 hl (k := 2) rfl rfl (by decide) rfl (fun ls hl => ?_)
      refine lv_goto (tgt := 4) hx hb dX7_pluckedAll_29 (by decide) ?_
      exact ih x1_3 (x2 + (1 : Int32)) M _ _ _ hf hP hS (lv_sub hl [2, 1, 0] rfl)
def f_X7_pluckedAll  (M : Mem) : Option (Int32 × Mem) :=
  f_X7_pluckedAll_4 FU (0 : Int32) (0 : Int32) M
set_option maxRecDepth 20000 in
theorem c_X7_pluckedAll (l : Launch) (g : GC)   {M : Mem} {out : Int32 × Mem} (hf : f_X7_pluckedAll  M = some out) : cI l g yX7_pluckedAll cX7_pluckedAll 3 (some .int) (rM 0 0) [.ref (gz g + 279)] M out := by
  refine g_met (by decide) (Nat.le_of_ble_eq_true rfl) ?_
  intro p e s m below meth c X hP hS ls hl
  have X : Bx p s m _ meth c RX7 cX7_pluckedAll 3 (some .int) g := X
  have hl : lv_has ls 3 [(0, .ref (gz g + 279))] := hl
  have hx := X.1
  have hb := X.2.1
  refine lv_iconst (v := (0 : Int32)) hx hb dX7_pluckedAll_0 (by decide) ?_
  refine lv_istore_n (lv' := [(1, .int (0 : Int32)), (0, .ref (gz g + 279))]) hx hb dX7_pluckedAll_1 rfl hl (by decide) rfl (fun ls hl => ?_)
  refine lv_iconst (v := (0 : Int32)) hx hb dX7_pluckedAll_2 (by decide) ?_
  refine lv_istore_n (lv' := [(2, .int (0 : Int32)), (1, .int (0 : Int32)), (0, .ref (gz g + 279))]) hx hb dX7_pluckedAll_3 rfl hl (by decide) rfl (fun ls hl => ?_)
  exact b_X7_pluckedAll_4 X  FU (0 : Int32) (0 : Int32) M _ _ _ hf hP hS (lv_sub hl [2, 1, 0] rfl)
def f_X7_count (x1 : Int32) (M : Mem) : Option (Int32 × Mem) :=
  lt x1 fun v_1 =>
  if v_1 = (0 : Int32) then
    cb (f_X7_rowsThere M) fun r_5 M_4 =>
    some (r_5, M_4)
  else
    if v_1 = (1 : Int32) then
      some ((M 280 0), M)
    else
      if v_1 = (2 : Int32) then
        some ((M 280 1), M)
      else
        if v_1 = (3 : Int32) then
          some ((M 280 4), M)
        else
          if v_1 = (4 : Int32) then
            some ((M 280 2), M)
          else
            if v_1 = (5 : Int32) then
              cb (f_X7_pluckedAll M) fun r_13 M_12 =>
              some (r_13, M_12)
            else
              if v_1 = (6 : Int32) then
                some ((M 279 1), M)
              else
                if v_1 = (7 : Int32) then
                  some ((M 279 3), M)
                else
                  some ((-1000001 : Int32), M)
set_option maxRecDepth 20000 in
theorem c_X7_count (l : Launch) (g : GC) {x1 : Int32}  {M : Mem} {out : Int32 × Mem} (hf : f_X7_count x1 M = some out) : cI l g yX7_count cX7_count 2 (some .int) (rM 1 22) [.ref (gz g + 279), .int x1] M out := by
  refine g_met (by decide) (Nat.le_of_ble_eq_true rfl) ?_
  intro p e s m below meth c X hP hS ls hl
  have X : Bx p s m _ meth c RX7 cX7_count 2 (some .int) g := X
  have hl : lv_has ls 2 [(0, .ref (gz g + 279)), (1, .int x1)] := hl
  have hx := X.1
  have hb := X.2.1
  refine lv_iload_n hx hb dX7_count_0 rfl (lv_at hl 1 rfl) ?_
  refine lv_topi (fun v_1 ev_1 => ?_)
  replace hf := lt_go hf ev_1
  by_cases h_2 : v_1 = (0 : Int32)
  · replace hf := it_t hf h_2
    refine lv_tableIn (off := 47) (tgt := 48) hx hb dX7_count_1 (by rw [h_2]; decide) (by rw [h_2]; decide) (by rw [h_2]; rfl) (by decide) ?_
    refine lv_aload_n hx hb dX7_count_48 rfl (lv_at hl 0 rfl) ?_
    obtain ⟨r_5, M_4, hc_3, hf⟩ := cb_s hf
    refine g_goi (g_run X (c_X7_rowsThere l g  hc_3) s_X7_rowsThere (oB_7 kc_279) q5_176 ⟨Nat.le_of_ble_eq_true rfl, Nat.le_of_ble_eq_true rfl⟩ hP hS rfl hl.1 rfl (Nat.le_of_ble_eq_true rfl) ⟨Nat.le_refl _, Nat.le_refl _⟩ dX7_count_49) hS (fun H locs hP hS => ?_)
    exact g_iret X hP hS (sm_i hf) dX7_count_52
  · replace hf := it_f hf h_2
    by_cases h_6 : v_1 = (1 : Int32)
    · replace hf := it_t hf h_6
      refine lv_tableIn (off := 52) (tgt := 53) hx hb dX7_count_1 (by rw [h_6]; decide) (by rw [h_6]; decide) (by rw [h_6]; rfl) (by decide) ?_
      refine lv_aload_n hx hb dX7_count_53 rfl (lv_at hl 0 rfl) ?_
      refine gf_7_0 X hP kc_279 q4_25 dX7_count_54 ?_
      refine lv_iconst (v := (0 : Int32)) hx hb dX7_count_57 (by decide) ?_
      refine ga_ldj (j := 0) X hP (iA_13 kc_280) (by unfold vp_in; decide) (by decide) dX7_count_58 ?_
      exact g_iret X hP hS (sm_i hf) dX7_count_59
    · replace hf := it_f hf h_6
      by_cases h_7 : v_1 = (2 : Int32)
      · replace hf := it_t hf h_7
        refine lv_tableIn (off := 59) (tgt := 60) hx hb dX7_count_1 (by rw [h_7]; decide) (by rw [h_7]; decide) (by rw [h_7]; rfl) (by decide) ?_
        refine lv_aload_n hx hb dX7_count_60 rfl (lv_at hl 0 rfl) ?_
        refine gf_7_0 X hP kc_279 q4_25 dX7_count_61 ?_
        refine lv_iconst (v := (1 : Int32)) hx hb dX7_count_64 (by decide) ?_
        refine ga_ldj (j := 1) X hP (iA_13 kc_280) (by unfold vp_in; decide) (by decide) dX7_count_65 ?_
        exact g_iret X hP hS (sm_i hf) dX7_count_66
      · replace hf := it_f hf h_7
        by_cases h_8 : v_1 = (3 : Int32)
        · replace hf := it_t hf h_8
          refine lv_tableIn (off := 66) (tgt := 67) hx hb dX7_count_1 (by rw [h_8]; decide) (by rw [h_8]; decide) (by rw [h_8]; rfl) (by decide) ?_
          refine lv_aload_n hx hb dX7_count_67 rfl (lv_at hl 0 rfl) ?_
          refine gf_7_0 X hP kc_279 q4_25 dX7_count_68 ?_
          refine lv_iconst (v := (4 : Int32)) hx hb dX7_count_71 (by decide) ?_
          refine ga_ldj (j := 4) X hP (iA_13 kc_280) (by unfold vp_in; decide) (by decide) dX7_count_72 ?_
          exact g_iret X hP hS (sm_i hf) dX7_count_73
        · replace hf := it_f hf h_8
          by_cases h_9 : v_1 = (4 : Int32)
          · replace hf := it_t hf h_9
            refine lv_tableIn (off := 73) (tgt := 74) hx hb dX7_count_1 (by rw [h_9]; decide) (by rw [h_9]; decide) (by rw [h_9]; rfl) (by decide) ?_
            refine lv_aload_n hx hb dX7_count_74 rfl (lv_at hl 0 rfl) ?_
            refine gf_7_0 X hP kc_279 q4_25 dX7_count_75 ?_
            refine lv_iconst (v := (2 : Int32)) hx hb dX7_count_78 (by decide) ?_
            refine ga_ldj (j := 2) X hP (iA_13 kc_280) (by unfold vp_in; decide) (by decide) dX7_count_79 ?_
            exact g_iret X hP hS (sm_i hf) dX7_count_80
          · replace hf := it_f hf h_9
            by_cases h_10 : v_1 = (5 : Int32)
            · replace hf := it_t hf h_10
              refine lv_tableIn (off := 80) (tgt := 81) hx hb dX7_count_1 (by rw [h_10]; decide) (by rw [h_10]; decide) (by rw [h_10]; rfl) (by decide) ?_
              refine lv_aload_n hx hb dX7_count_81 rfl (lv_at hl 0 rfl) ?_
              obtain ⟨r_13, M_12, hc_11, hf⟩ := cb_s hf
              refine g_goi (g_run X (c_X7_pluckedAll l g  hc_11) s_X7_pluckedAll (oB_7 kc_279) q5_180 ⟨Nat.le_of_ble_eq_true rfl, Nat.le_of_ble_eq_true rfl⟩ hP hS rfl hl.1 rfl (Nat.le_of_ble_eq_true rfl) ⟨Nat.le_refl _, Nat.le_refl _⟩ dX7_count_82) hS (fun H locs hP hS => ?_)
              exact g_iret X hP hS (sm_i hf) dX7_count_85
            · replace hf := it_f hf h_10
              by_cases h_14 : v_1 = (6 : Int32)
              · replace hf := it_t hf h_14
                refine lv_tableIn (off := 85) (tgt := 86) hx hb dX7_count_1 (by rw [h_14]; decide) (by rw [h_14]; decide) (by rw [h_14]; rfl) (by decide) ?_
                refine lv_aload_n hx hb dX7_count_86 rfl (lv_at hl 0 rfl) ?_
                refine gf_7_1 X hP kc_279 q4_26 dX7_count_87 ?_
                exact g_iret X hP hS (sm_i hf) dX7_count_90
              · replace hf := it_f hf h_14
                by_cases h_15 : v_1 = (7 : Int32)
                · replace hf := it_t hf h_15
                  refine lv_tableIn (off := 90) (tgt := 91) hx hb dX7_count_1 (by rw [h_15]; decide) (by rw [h_15]; decide) (by rw [h_15]; rfl) (by decide) ?_
                  refine lv_aload_n hx hb dX7_count_91 rfl (lv_at hl 0 rfl) ?_
                  refine gf_7_3 X hP kc_279 q4_28 dX7_count_92 ?_
                  exact g_iret X hP hS (sm_i hf) dX7_count_95
                · replace hf := it_f hf h_15
                  refine lv_tableOut (tgt := 96) hx hb dX7_count_1 (by have n0 := lv_neT (a := 0) h_2 rfl; have n1 := lv_neT (a := 1) h_6 rfl; have n2 := lv_neT (a := 2) h_7 rfl; have n3 := lv_neT (a := 3) h_8 rfl; have n4 := lv_neT (a := 4) h_9 rfl; have n5 := lv_neT (a := 5) h_10 rfl; have n6 := lv_neT (a := 6) h_14 rfl; have n7 := lv_neT (a := 7) h_15 rfl; omega) (by decide) ?_
                  refine lv_ldc hx hb X.2.2.2.1 (X.2.2.2.2.1 _ q4_93) dX7_count_96 ?_
                  exact g_iret X hP hS (sm_i hf) dX7_count_98
def f_X7_status  (M : Mem) : Option (Int32 × Mem) :=
  some ((M 279 5), M)
set_option maxRecDepth 20000 in
theorem c_X7_status (l : Launch) (g : GC)   {M : Mem} {out : Int32 × Mem} (hf : f_X7_status  M = some out) : cI l g yX7_status cX7_status 1 (some .int) (rM 0 0) [.ref (gz g + 279)] M out := by
  refine g_met (by decide) (Nat.le_of_ble_eq_true rfl) ?_
  intro p e s m below meth c X hP hS ls hl
  have X : Bx p s m _ meth c RX7 cX7_status 1 (some .int) g := X
  have hl : lv_has ls 1 [(0, .ref (gz g + 279))] := hl
  have hx := X.1
  have hb := X.2.1
  refine lv_aload_n hx hb dX7_status_0 rfl (lv_at hl 0 rfl) ?_
  refine gf_7_5 X hP kc_279 q4_30 dX7_status_1 ?_
  exact g_iret X hP hS (sm_i hf) dX7_status_4
