variable {p : Program} {l : Launch} {e : Env} {s : State} {m : MethodId} {args : Array Value} {below : List Frame} {meth : Method} {c : Code} {g : GC}
def f_J7_fill_53178_5 (o0 : Nat) (a0 : Nat) (x1 : Int32)  : Nat → Int32 → Int32 → Mem → Option Mem
  | 0, _, _, _ => none
  | n + 1, x2, x3, M =>
    if x3 ≤ x2 then
      some M
    else
      ck x2 a0 <|
      lt (up2 M o0 x2.toNatClampNeg x1) fun M_2 =>
      (f_J7_fill_53178_5 o0 a0 x1 n) (x2 + (1 : Int32)) x3 M_2
set_option maxRecDepth 20000 in
theorem b_J7_fill_53178_5 {out : Mem} (X : Bx p s m args meth c RJ7 cJ7_fill_53178 4 none g)   {o0 : Nat} {a0 : Nat} {x1 : Int32}  (h0 : iA g o0 a0)   : ∀ (n : Nat) (x2 : Int32) (x3 : Int32) (M : Mem) (H : Heap) (locs : List Loc) (ls : Array Slot), f_J7_fill_53178_5 o0 a0 x1 n x2 x3 M = some out → va_P g.1 vwCl (gW g M) H → va_S (gA g) s.heap H locs → lv_has ls 4 [(0, .ref (gz g + o0)), (1, .int x1), (2, .int x2), (3, .int x3)] → W p l e (rM 0 0) s m args below meth c H locs 0 0 (MQ below (qV g out) args s 0 0 (gA g)) (F0 m 5 ls []) := by
  have hx := X.1
  have hb := X.2.1
  intro n
  induction n with
  | zero => intro _ _ _ _ _ _ hf; cases hf
  | succ n ih =>
    intro x2 x3 M H locs ls hf hP hS hl
    rw [f_J7_fill_53178_5] at hf
    refine lv_iload_n hx hb dJ7_fill_53178_5 rfl (lv_at hl 2 rfl) ?_
    refine lv_iload_n hx hb dJ7_fill_53178_6 rfl (lv_at hl 3 rfl) ?_
    refine lv_icmp_ge (tgt := 20) hx hb dJ7_fill_53178_7 (by decide) (fun h_1 => ?_) (fun h_1 => ?_)
    · replace hf := it_t hf h_1
      exact g_vret X hP hS (sm_i hf) dJ7_fill_53178_20
    · replace hf := it_f hf h_1
      refine lv_aload_n hx hb dJ7_fill_53178_10 rfl (lv_at hl 0 rfl) ?_
      refine lv_iload_n hx hb dJ7_fill_53178_11 rfl (lv_at hl 2 rfl) ?_
      refine lv_iload_n hx hb dJ7_fill_53178_12 rfl (lv_at hl 1 rfl) ?_
      obtain ⟨hi_3, hf⟩ := ck_s hf
      refine ga_st X hP hS h0 hi_3 dJ7_fill_53178_13 (fun H locs M_2 eM_2 hP hS => ?_)
      replace hf := lt_go hf eM_2
      refine lv_iinc (v := (x2 + (1 : Int32))) (lv' := [(2, .int (x2 + (1 : Int32))), (0, .ref (gz g + o0)), (1, .int x1), (3, .int x3)]) hx hb dJ7_fill_53178_14 hl (k := 2) rfl rfl (by decide) rfl (fun ls hl => ?_)
      refine lv_goto (tgt := 5) hx hb dJ7_fill_53178_17 (by decide) ?_
      exact ih (x2 + (1 : Int32)) x3 M_2 _ _ _ hf hP hS (lv_sub hl [1, 2, 0, 3] rfl)
def f_J7_fill_53178 (o0 : Nat) (a0 : Nat) (x1 : Int32) (M : Mem) : Option Mem :=
  lt (Int32.ofNat a0) fun x3_1 =>
  f_J7_fill_53178_5 o0 a0 x1 FU (0 : Int32) x3_1 M
set_option maxRecDepth 20000 in
theorem c_J7_fill_53178 (l : Launch) (g : GC) {o0 : Nat} {a0 : Nat} {x1 : Int32} (h0 : iA g o0 a0) {M : Mem} {out : Mem} (hf : f_J7_fill_53178 o0 a0 x1 M = some out) : cV l g yJ7_fill_53178 cJ7_fill_53178 4 (rM 0 0) [.ref (gz g + o0), .int x1] M out := by
  refine g_met (by decide) (Nat.le_of_ble_eq_true rfl) ?_
  intro p e s m below meth c X hP hS ls hl
  have X : Bx p s m _ meth c RJ7 cJ7_fill_53178 4 none g := X
  have hl : lv_has ls 4 [(0, .ref (gz g + o0)), (1, .int x1)] := hl
  have hx := X.1
  have hb := X.2.1
  refine lv_iconst (v := (0 : Int32)) hx hb dJ7_fill_53178_0 (by decide) ?_
  refine lv_istore_n (lv' := [(2, .int (0 : Int32)), (0, .ref (gz g + o0)), (1, .int x1)]) hx hb dJ7_fill_53178_1 rfl hl (by decide) rfl (fun ls hl => ?_)
  refine lv_aload_n hx hb dJ7_fill_53178_2 rfl (lv_at hl 1 rfl) ?_
  refine ga_len X hP h0 dJ7_fill_53178_3 ?_
  refine lv_topi (fun x3_1 ex3_1 => ?_)
  replace hf := lt_go hf ex3_1
  refine lv_istore_n (lv' := [(3, .int x3_1), (2, .int (0 : Int32)), (0, .ref (gz g + o0)), (1, .int x1)]) hx hb dJ7_fill_53178_4 rfl hl (by decide) rfl (fun ls hl => ?_)
  exact b_J7_fill_53178_5 X h0 FU (0 : Int32) x3_1 M _ _ _ hf hP hS (lv_sub hl [2, 3, 1, 0] rfl)
def f_X2_startOver (r0 : Nat) (x1 : Int32) (x2 : Int32) (M : Mem) : Option Mem :=
  lt (up2 M r0 1 (1 : Int32)) fun M_1 =>
  lt (up2 M_1 r0 2 x1) fun M_2 =>
  lt (up2 M_2 r0 3 x2) fun M_3 =>
  cv (f_J7_fill_53178 (r0 + 1) 40 (0 : Int32) M_3) fun M_5 =>
  some M_5
set_option maxRecDepth 20000 in
theorem c_X2_startOver (l : Launch) (g : GC) {r0 : Nat} {x1 : Int32} {x2 : Int32} (h0 : kd r0 = 2) {M : Mem} {out : Mem} (hf : f_X2_startOver r0 x1 x2 M = some out) : cV l g yX2_startOver cX2_startOver 3 (rM 1 23) [.ref (gz g + r0), .int x1, .int x2] M out := by
  refine g_met (by decide) (Nat.le_of_ble_eq_true rfl) ?_
  intro p e s m below meth c X hP hS ls hl
  have X : Bx p s m _ meth c RX2 cX2_startOver 3 none g := X
  have hl : lv_has ls 3 [(0, .ref (gz g + r0)), (1, .int x1), (2, .int x2)] := hl
  have hx := X.1
  have hb := X.2.1
  refine lv_aload_n hx hb dX2_startOver_0 rfl (lv_at hl 0 rfl) ?_
  refine lv_iconst (v := (1 : Int32)) hx hb dX2_startOver_1 (by decide) ?_
  refine gp_2_1 X hP hS h0 rfl rfl q1_183 dX2_startOver_2 (fun H locs M_1 eM_1 hP hS => ?_)
  replace hf := lt_go hf eM_1
  refine lv_aload_n hx hb dX2_startOver_5 rfl (lv_at hl 0 rfl) ?_
  refine lv_iload_n hx hb dX2_startOver_6 rfl (lv_at hl 1 rfl) ?_
  refine gp_2_2 X hP hS h0 q1_185 dX2_startOver_7 (fun H locs M_2 eM_2 hP hS => ?_)
  replace hf := lt_go hf eM_2
  refine lv_aload_n hx hb dX2_startOver_10 rfl (lv_at hl 0 rfl) ?_
  refine lv_iload_n hx hb dX2_startOver_11 rfl (lv_at hl 2 rfl) ?_
  refine gp_2_3 X hP hS h0 q1_187 dX2_startOver_12 (fun H locs M_3 eM_3 hP hS => ?_)
  replace hf := lt_go hf eM_3
  refine lv_aload_n hx hb dX2_startOver_15 rfl (lv_at hl 0 rfl) ?_
  refine gf_2_0 X hP h0 q1_180 dX2_startOver_16 ?_
  refine lv_iconst (v := (0 : Int32)) hx hb dX2_startOver_19 (by decide) ?_
  obtain ⟨M_5, hc_4, hf⟩ := cv_s hf
  refine g_gov (g_runS X (c_J7_fill_53178 l g (iA_10 (kdR1 h0)) hc_4) s_J7_fill_53178 q2_9 ⟨Nat.le_of_ble_eq_true rfl, Nat.le_of_ble_eq_true rfl⟩ hP hS rfl hl.1 rfl (Nat.le_of_ble_eq_true rfl) ⟨Nat.le_refl _, Nat.le_refl _⟩ dX2_startOver_20) hS (fun H locs hP hS => ?_)
  exact g_vret X hP hS (sm_i hf) dX2_startOver_23
def f_X2_holds (r0 : Nat) (x1 : Int32) (x2 : Int32) (M : Mem) : Option (Int32 × Mem) :=
  if x1 < 0 then
    some ((0 : Int32), M)
  else
    if x2 < 0 then
      some ((0 : Int32), M)
    else
      if (M r0 3) < x1 then
        some ((0 : Int32), M)
      else
        if ((M r0 3) - x1) < x2 then
          some ((0 : Int32), M)
        else
          some ((1 : Int32), M)
set_option maxRecDepth 20000 in
theorem c_X2_holds (l : Launch) (g : GC) {r0 : Nat} {x1 : Int32} {x2 : Int32} (h0 : kd r0 = 2) {M : Mem} {out : Int32 × Mem} (hf : f_X2_holds r0 x1 x2 M = some out) : cI l g yX2_holds cX2_holds 3 (some .boolean) (rM 0 0) [.ref (gz g + r0), .int x1, .int x2] M out := by
  refine g_met (by decide) (Nat.le_of_ble_eq_true rfl) ?_
  intro p e s m below meth c X hP hS ls hl
  have X : Bx p s m _ meth c RX2 cX2_holds 3 (some .boolean) g := X
  have hl : lv_has ls 3 [(0, .ref (gz g + r0)), (1, .int x1), (2, .int x2)] := hl
  have hx := X.1
  have hb := X.2.1
  refine lv_iload_n hx hb dX2_holds_0 rfl (lv_at hl 1 rfl) ?_
  refine lv_if_lt (tgt := 30) hx hb dX2_holds_1 (by decide) (fun h_1 => ?_) (fun h_1 => ?_)
  · replace hf := it_t hf h_1
    refine lv_iconst (v := (0 : Int32)) hx hb dX2_holds_30 (by decide) ?_
    exact g_zret X hP hS rfl (sm_i hf) dX2_holds_31
  · replace hf := it_f hf h_1
    refine lv_iload_n hx hb dX2_holds_4 rfl (lv_at hl 2 rfl) ?_
    refine lv_if_lt (tgt := 30) hx hb dX2_holds_5 (by decide) (fun h_2 => ?_) (fun h_2 => ?_)
    · replace hf := it_t hf h_2
      refine lv_iconst (v := (0 : Int32)) hx hb dX2_holds_30 (by decide) ?_
      exact g_zret X hP hS rfl (sm_i hf) dX2_holds_31
    · replace hf := it_f hf h_2
      refine lv_iload_n hx hb dX2_holds_8 rfl (lv_at hl 1 rfl) ?_
      refine lv_aload_n hx hb dX2_holds_9 rfl (lv_at hl 0 rfl) ?_
      refine gf_2_3 X hP h0 q1_187 dX2_holds_10 ?_
      refine lv_icmp_gt (tgt := 30) hx hb dX2_holds_13 (by decide) (fun h_3 => ?_) (fun h_3 => ?_)
      · replace hf := it_t hf h_3
        refine lv_iconst (v := (0 : Int32)) hx hb dX2_holds_30 (by decide) ?_
        exact g_zret X hP hS rfl (sm_i hf) dX2_holds_31
      · replace hf := it_f hf h_3
        refine lv_iload_n hx hb dX2_holds_16 rfl (lv_at hl 2 rfl) ?_
        refine lv_aload_n hx hb dX2_holds_17 rfl (lv_at hl 0 rfl) ?_
        refine gf_2_3 X hP h0 q1_187 dX2_holds_18 ?_
        refine lv_iload_n hx hb dX2_holds_21 rfl (lv_at hl 1 rfl) ?_
        refine lv_isub hx hb dX2_holds_22 ?_
        refine lv_icmp_gt (tgt := 30) hx hb dX2_holds_23 (by decide) (fun h_4 => ?_) (fun h_4 => ?_)
        · replace hf := it_t hf h_4
          refine lv_iconst (v := (0 : Int32)) hx hb dX2_holds_30 (by decide) ?_
          exact g_zret X hP hS rfl (sm_i hf) dX2_holds_31
        · replace hf := it_f hf h_4
          refine lv_iconst (v := (1 : Int32)) hx hb dX2_holds_26 (by decide) ?_
          refine lv_goto (tgt := 31) hx hb dX2_holds_27 (by decide) ?_
          exact g_zret X hP hS rfl (sm_i hf) dX2_holds_31
def f_X2_cut (r0 : Nat) (x1 : Int32) (M : Mem) : Option (Int32 × Mem) :=
  lt (M r0 2) fun v_1 =>
  if v_1 = (0 : Int32) then
    some ((x1).toInt8.toInt32, M)
  else
    if v_1 = (1 : Int32) then
      some ((x1).toInt16.toInt32, M)
    else
      some (x1, M)
set_option maxRecDepth 20000 in
theorem c_X2_cut (l : Launch) (g : GC) {r0 : Nat} {x1 : Int32} (h0 : kd r0 = 2) {M : Mem} {out : Int32 × Mem} (hf : f_X2_cut r0 x1 M = some out) : cI l g yX2_cut cX2_cut 2 (some .int) (rM 0 0) [.ref (gz g + r0), .int x1] M out := by
  refine g_met (by decide) (Nat.le_of_ble_eq_true rfl) ?_
  intro p e s m below meth c X hP hS ls hl
  have X : Bx p s m _ meth c RX2 cX2_cut 2 (some .int) g := X
  have hl : lv_has ls 2 [(0, .ref (gz g + r0)), (1, .int x1)] := hl
  have hx := X.1
  have hb := X.2.1
  refine lv_aload_n hx hb dX2_cut_0 rfl (lv_at hl 0 rfl) ?_
  refine gf_2_2 X hP h0 q1_185 dX2_cut_1 ?_
  refine lv_topi (fun v_1 ev_1 => ?_)
  replace hf := lt_go hf ev_1
  by_cases h_2 : v_1 = (0 : Int32)
  · replace hf := it_t hf h_2
    refine lv_lookup (off := 28) (tgt := 32) hx hb dX2_cut_4 (by decide) (by rw [h_2]; rfl) (by decide) ?_
    refine lv_iload_n hx hb dX2_cut_32 rfl (lv_at hl 1 rfl) ?_
    refine lv_i2b hx hb dX2_cut_33 rfl ?_
    exact g_iret X hP hS (sm_i hf) dX2_cut_34
  · replace hf := it_f hf h_2
    by_cases h_3 : v_1 = (1 : Int32)
    · replace hf := it_t hf h_3
      refine lv_lookup (off := 31) (tgt := 35) hx hb dX2_cut_4 (by decide) (by rw [h_3]; rfl) (by decide) ?_
      refine lv_iload_n hx hb dX2_cut_35 rfl (lv_at hl 1 rfl) ?_
      refine lv_i2s hx hb dX2_cut_36 rfl ?_
      exact g_iret X hP hS (sm_i hf) dX2_cut_37
    · replace hf := it_f hf h_3
      refine lv_lookup (off := 34) (tgt := 38) hx hb dX2_cut_4 (by decide) ((lv_osw h_2 rfl).trans ((lv_osw h_3 rfl).trans rfl)) (by decide) ?_
      refine lv_iload_n hx hb dX2_cut_38 rfl (lv_at hl 1 rfl) ?_
      exact g_iret X hP hS (sm_i hf) dX2_cut_39
def f_X2_put (r0 : Nat) (x1 : Int32) (x2 : Int32) (M : Mem) : Option (Int32 × Mem) :=
  cb (f_X2_cut r0 x2 M) fun r_3 M_2 =>
  ck x1 40 <|
  lt (up2 M_2 (r0 + 1) x1.toNatClampNeg r_3) fun M_4 =>
  ck x1 40 <|
  some ((M_4 (r0 + 1) x1.toNatClampNeg), M_4)
set_option maxRecDepth 20000 in
theorem c_X2_put (l : Launch) (g : GC) {r0 : Nat} {x1 : Int32} {x2 : Int32} (h0 : kd r0 = 2) {M : Mem} {out : Int32 × Mem} (hf : f_X2_put r0 x1 x2 M = some out) : cI l g yX2_put cX2_put 3 (some .int) (rM 1 21) [.ref (gz g + r0), .int x1, .int x2] M out := by
  refine g_met (by decide) (Nat.le_of_ble_eq_true rfl) ?_
  intro p e s m below meth c X hP hS ls hl
  have X : Bx p s m _ meth c RX2 cX2_put 3 (some .int) g := X
  have hl : lv_has ls 3 [(0, .ref (gz g + r0)), (1, .int x1), (2, .int x2)] := hl
  have hx := X.1
  have hb := X.2.1
  refine lv_aload_n hx hb dX2_put_0 rfl (lv_at hl 0 rfl) ?_
  refine gf_2_0 X hP h0 q1_180 dX2_put_1 ?_
  refine lv_iload_n hx hb dX2_put_4 rfl (lv_at hl 1 rfl) ?_
  refine lv_aload_n hx hb dX2_put_5 rfl (lv_at hl 0 rfl) ?_
  refine lv_iload_n hx hb dX2_put_6 rfl (lv_at hl 2 rfl) ?_
  obtain ⟨r_3, M_2, hc_1, hf⟩ := cb_s hf
  refine g_goi (g_run X (c_X2_cut l g h0 hc_1) s_X2_cut (oB_2 h0) q2_31 ⟨Nat.le_of_ble_eq_true rfl, Nat.le_of_ble_eq_true rfl⟩ hP hS rfl hl.1 rfl (Nat.le_of_ble_eq_true rfl) ⟨Nat.le_refl _, Nat.le_refl _⟩ dX2_put_7) hS (fun H locs hP hS => ?_)
  obtain ⟨hi_5, hf⟩ := ck_s hf
  refine ga_st X hP hS (iA_10 (kdR1 h0)) hi_5 dX2_put_10 (fun H locs M_4 eM_4 hP hS => ?_)
  replace hf := lt_go hf eM_4
  refine lv_aload_n hx hb dX2_put_11 rfl (lv_at hl 0 rfl) ?_
  refine gf_2_0 X hP h0 q1_180 dX2_put_12 ?_
  refine lv_iload_n hx hb dX2_put_15 rfl (lv_at hl 1 rfl) ?_
  obtain ⟨hi_6, hf⟩ := ck_s hf
  refine ga_ld X hP (iA_10 (kdR1 h0)) hi_6 dX2_put_16 ?_
  exact g_iret X hP hS (sm_i hf) dX2_put_17
def f_J6_bitCount_0f7a4 (x0 : Int32) (M : Mem) : Option (Int32 × Mem) :=
  lt (x0 - (((x0).toUInt32 >>> (((1 : Int32)).toUInt32 &&& Int32.toUInt32 31)).toInt32 &&& (1431655765 : Int32))) fun x0_1 =>
  lt ((x0_1 &&& (858993459 : Int32)) + (((x0_1).toUInt32 >>> (((2 : Int32)).toUInt32 &&& Int32.toUInt32 31)).toInt32 &&& (858993459 : Int32))) fun x0_2 =>
  lt ((x0_2 + ((x0_2).toUInt32 >>> (((4 : Int32)).toUInt32 &&& Int32.toUInt32 31)).toInt32) &&& (252645135 : Int32)) fun x0_3 =>
  lt (x0_3 + ((x0_3).toUInt32 >>> (((8 : Int32)).toUInt32 &&& Int32.toUInt32 31)).toInt32) fun x0_4 =>
  lt (x0_4 + ((x0_4).toUInt32 >>> (((16 : Int32)).toUInt32 &&& Int32.toUInt32 31)).toInt32) fun x0_5 =>
  some ((x0_5 &&& (63 : Int32)), M)
set_option maxRecDepth 20000 in
theorem c_J6_bitCount_0f7a4 (l : Launch) (g : GC) {x0 : Int32}  {M : Mem} {out : Int32 × Mem} (hf : f_J6_bitCount_0f7a4 x0 M = some out) : cI l g yJ6_bitCount_0f7a4 cJ6_bitCount_0f7a4 1 (some .int) (rM 0 0) [.int x0] M out := by
  refine g_met (by decide) (Nat.le_of_ble_eq_true rfl) ?_
  intro p e s m below meth c X hP hS ls hl
  have X : Bx p s m _ meth c RJ6 cJ6_bitCount_0f7a4 1 (some .int) g := X
  have hl : lv_has ls 1 [(0, .int x0)] := hl
  have hx := X.1
  have hb := X.2.1
  refine lv_iload_n hx hb dJ6_bitCount_0f7a4_0 rfl (lv_at hl 0 rfl) ?_
  refine lv_iload_n hx hb dJ6_bitCount_0f7a4_1 rfl (lv_at hl 0 rfl) ?_
  refine lv_iconst (v := (1 : Int32)) hx hb dJ6_bitCount_0f7a4_2 (by decide) ?_
  refine lv_iushr hx hb dJ6_bitCount_0f7a4_3 rfl ?_
  refine lv_ldcw hx hb X.2.2.2.1 (X.2.2.2.2.1 _ q3_167) dJ6_bitCount_0f7a4_4 ?_
  refine lv_iand hx hb dJ6_bitCount_0f7a4_7 ?_
  refine lv_isub hx hb dJ6_bitCount_0f7a4_8 ?_
  refine lv_topi (fun x0_1 ex0_1 => ?_)
  replace hf := lt_go hf ex0_1
  refine lv_istore_n (lv' := [(0, .int x0_1)]) hx hb dJ6_bitCount_0f7a4_9 rfl hl (by decide) rfl (fun ls hl => ?_)
  refine lv_iload_n hx hb dJ6_bitCount_0f7a4_10 rfl (lv_at hl 0 rfl) ?_
  refine lv_ldcw hx hb X.2.2.2.1 (X.2.2.2.2.1 _ q3_168) dJ6_bitCount_0f7a4_11 ?_
  refine lv_iand hx hb dJ6_bitCount_0f7a4_14 ?_
  refine lv_iload_n hx hb dJ6_bitCount_0f7a4_15 rfl (lv_at hl 0 rfl) ?_
  refine lv_iconst (v := (2 : Int32)) hx hb dJ6_bitCount_0f7a4_16 (by decide) ?_
  refine lv_iushr hx hb dJ6_bitCount_0f7a4_17 rfl ?_
  refine lv_ldcw hx hb X.2.2.2.1 (X.2.2.2.2.1 _ q3_168) dJ6_bitCount_0f7a4_18 ?_
  refine lv_iand hx hb dJ6_bitCount_0f7a4_21 ?_
  refine lv_iadd hx hb dJ6_bitCount_0f7a4_22 ?_
  refine lv_topi (fun x0_2 ex0_2 => ?_)
  replace hf := lt_go hf ex0_2
  refine lv_istore_n (lv' := [(0, .int x0_2)]) hx hb dJ6_bitCount_0f7a4_23 rfl hl (by decide) rfl (fun ls hl => ?_)
  refine lv_iload_n hx hb dJ6_bitCount_0f7a4_24 rfl (lv_at hl 0 rfl) ?_
  refine lv_iload_n hx hb dJ6_bitCount_0f7a4_25 rfl (lv_at hl 0 rfl) ?_
  refine lv_iconst (v := (4 : Int32)) hx hb dJ6_bitCount_0f7a4_26 (by decide) ?_
  refine lv_iushr hx hb dJ6_bitCount_0f7a4_27 rfl ?_
  refine lv_iadd hx hb dJ6_bitCount_0f7a4_28 ?_
  refine lv_ldcw hx hb X.2.2.2.1 (X.2.2.2.2.1 _ q3_169) dJ6_bitCount_0f7a4_29 ?_
  refine lv_iand hx hb dJ6_bitCount_0f7a4_32 ?_
  refine lv_topi (fun x0_3 ex0_3 => ?_)
  replace hf := lt_go hf ex0_3
  refine lv_istore_n (lv' := [(0, .int x0_3)]) hx hb dJ6_bitCount_0f7a4_33 rfl hl (by decide) rfl (fun ls hl => ?_)
  refine lv_iload_n hx hb dJ6_bitCount_0f7a4_34 rfl (lv_at hl 0 rfl) ?_
  refine lv_iload_n hx hb dJ6_bitCount_0f7a4_35 rfl (lv_at hl 0 rfl) ?_
  refine lv_bipush (v := (8 : Int32)) hx hb dJ6_bitCount_0f7a4_36 (by decide) ?_
  refine lv_iushr hx hb dJ6_bitCount_0f7a4_38 rfl ?_
  refine lv_iadd hx hb dJ6_bitCount_0f7a4_39 ?_
  refine lv_topi (fun x0_4 ex0_4 => ?_)
  replace hf := lt_go hf ex0_4
  refine lv_istore_n (lv' := [(0, .int x0_4)]) hx hb dJ6_bitCount_0f7a4_40 rfl hl (by decide) rfl (fun ls hl => ?_)
  refine lv_iload_n hx hb dJ6_bitCount_0f7a4_41 rfl (lv_at hl 0 rfl) ?_
  refine lv_iload_n hx hb dJ6_bitCount_0f7a4_42 rfl (lv_at hl 0 rfl) ?_
  refine lv_bipush (v := (16 : Int32)) hx hb dJ6_bitCount_0f7a4_43 (by decide) ?_
  refine lv_iushr hx hb dJ6_bitCount_0f7a4_45 rfl ?_
  refine lv_iadd hx hb dJ6_bitCount_0f7a4_46 ?_
  refine lv_topi (fun x0_5 ex0_5 => ?_)
  replace hf := lt_go hf ex0_5
  refine lv_istore_n (lv' := [(0, .int x0_5)]) hx hb dJ6_bitCount_0f7a4_47 rfl hl (by decide) rfl (fun ls hl => ?_)
  refine lv_iload_n hx hb dJ6_bitCount_0f7a4_48 rfl (lv_at hl 0 rfl) ?_
  refine lv_bipush (v := (63 : Int32)) hx hb dJ6_bitCount_0f7a4_49 (by decide) ?_
  refine lv_iand hx hb dJ6_bitCount_0f7a4_51 ?_
  exact g_iret X hP hS (sm_i hf) dJ6_bitCount_0f7a4_52
