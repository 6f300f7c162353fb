variable {p : Program} {l : Launch} {e : Env} {s : State} {m : MethodId} {args : Array Value} {below : List Frame} {meth : Method} {c : Code} {g : GC}
def f_X3_tryAhead (x1 : Int32) (M : Mem) : Option Mem :=
  cv (f_X5_takeFrom 164 3 M) fun M_2 =>
  cv (f_X5_turnTimes 164 x1 M_2) fun M_4 =>
  some M_4
set_option maxRecDepth 20000 in
theorem c_X3_tryAhead (l : Launch) (g : GC) {x1 : Int32}  {M : Mem} {out : Mem} (hf : f_X3_tryAhead x1 M = some out) : cV l g yX3_tryAhead cX3_tryAhead 2 (rM 4 96) [.ref (gz g + 163), .int x1] M out := by
  refine g_met (by decide) (Nat.le_of_ble_eq_true rfl) ?_
  intro p e s m below meth c X hP hS ls hl
  have X : Bx p s m _ meth c RX3 cX3_tryAhead 2 none g := X
  have hl : lv_has ls 2 [(0, .ref (gz g + 163)), (1, .int x1)] := hl
  have hx := X.1
  have hb := X.2.1
  refine lv_aload_n hx hb dX3_tryAhead_0 rfl (lv_at hl 0 rfl) ?_
  refine gf_3_1 X hP kc_163 q1_148 dX3_tryAhead_1 ?_
  refine lv_aload_n hx hb dX3_tryAhead_4 rfl (lv_at hl 0 rfl) ?_
  refine gf_3_0 X hP kc_163 q1_147 dX3_tryAhead_5 ?_
  obtain ⟨M_2, hc_1, hf⟩ := cv_s hf
  refine g_gov (g_run X (c_X5_takeFrom l g kc_164 kc_3 hc_1) s_X5_takeFrom (oB_5 kc_164) q2_237 ⟨Nat.le_of_ble_eq_true rfl, Nat.le_of_ble_eq_true rfl⟩ hP hS rfl hl.1 rfl (Nat.le_of_ble_eq_true rfl) ⟨Nat.le_refl _, Nat.le_refl _⟩ dX3_tryAhead_8) hS (fun H locs hP hS => ?_)
  refine lv_aload_n hx hb dX3_tryAhead_11 rfl (lv_at hl 0 rfl) ?_
  refine gf_3_1 X hP kc_163 q1_148 dX3_tryAhead_12 ?_
  refine lv_iload_n hx hb dX3_tryAhead_15 rfl (lv_at hl 1 rfl) ?_
  obtain ⟨M_4, hc_3, hf⟩ := cv_s hf
  refine g_gov (g_run X (c_X5_turnTimes l g kc_164 hc_3) s_X5_turnTimes (oB_5 kc_164) q2_238 ⟨Nat.le_of_ble_eq_true rfl, Nat.le_of_ble_eq_true rfl⟩ hP hS rfl hl.1 rfl (Nat.le_of_ble_eq_true rfl) ⟨Nat.le_refl _, Nat.le_refl _⟩ dX3_tryAhead_16) hS (fun H locs hP hS => ?_)
  exact g_vret X hP hS (sm_i hf) dX3_tryAhead_19
def f_X3_toothAhead (x1 : Int32) (x2 : Int32) (x3 : Int32) (M : Mem) : Option (Int32 × Mem) :=
  cv (f_X3_tryAhead x2 M) fun M_2 =>
  lt x3 fun v_3 =>
  if v_3 = (0 : Int32) then
    ck x1 6 <|
    some ((M_2 (164 + 4) x1.toNatClampNeg), M_2)
  else
    if v_3 = (1 : Int32) then
      ck x1 6 <|
      some ((M_2 (164 + 5) x1.toNatClampNeg), M_2)
    else
      cb (f_X5_isBroken 164 x1 M_2) fun r_10 M_9 =>
      if r_10 = 0 then
        some ((0 : Int32), M_9)
      else
        some ((1 : Int32), M_9)
set_option maxRecDepth 20000 in
theorem c_X3_toothAhead (l : Launch) (g : GC) {x1 : Int32} {x2 : Int32} {x3 : Int32}  {M : Mem} {out : Int32 × Mem} (hf : f_X3_toothAhead x1 x2 x3 M = some out) : cI l g yX3_toothAhead cX3_toothAhead 4 (some .int) (rM 5 117) [.ref (gz g + 163), .int x1, .int x2, .int x3] M out := by
  refine g_met (by decide) (Nat.le_of_ble_eq_true rfl) ?_
  intro p e s m below meth c X hP hS ls hl
  have X : Bx p s m _ meth c RX3 cX3_toothAhead 4 (some .int) g := X
  have hl : lv_has ls 4 [(0, .ref (gz g + 163)), (1, .int x1), (2, .int x2), (3, .int x3)] := hl
  have hx := X.1
  have hb := X.2.1
  refine lv_aload_n hx hb dX3_toothAhead_0 rfl (lv_at hl 0 rfl) ?_
  refine lv_iload_n hx hb dX3_toothAhead_1 rfl (lv_at hl 2 rfl) ?_
  obtain ⟨M_2, hc_1, hf⟩ := cv_s hf
  refine g_gov (g_run X (c_X3_tryAhead l g  hc_1) s_X3_tryAhead (oB_3 kc_163) q2_233 ⟨Nat.le_of_ble_eq_true rfl, Nat.le_of_ble_eq_true rfl⟩ hP hS rfl hl.1 rfl (Nat.le_of_ble_eq_true rfl) ⟨Nat.le_refl _, Nat.le_refl _⟩ dX3_toothAhead_2) hS (fun H locs hP hS => ?_)
  refine lv_iload_n hx hb dX3_toothAhead_5 rfl (lv_at hl 3 rfl) ?_
  refine lv_topi (fun v_3 ev_3 => ?_)
  replace hf := lt_go hf ev_3
  by_cases h_4 : v_3 = (0 : Int32)
  · replace hf := it_t hf h_4
    refine lv_lookup (off := 26) (tgt := 32) hx hb dX3_toothAhead_6 (by decide) (by rw [h_4]; rfl) (by decide) ?_
    refine lv_aload_n hx hb dX3_toothAhead_32 rfl (lv_at hl 0 rfl) ?_
    refine gf_3_1 X hP kc_163 q1_148 dX3_toothAhead_33 ?_
    refine gf_5_9 X hP kc_164 q1_65 dX3_toothAhead_36 ?_
    refine lv_iload_n hx hb dX3_toothAhead_39 rfl (lv_at hl 1 rfl) ?_
    obtain ⟨hi_5, hf⟩ := ck_s hf
    refine ga_ld X hP (iA_8 (kdW4 kc_164)) hi_5 dX3_toothAhead_40 ?_
    exact g_iret X hP hS (sm_i hf) dX3_toothAhead_41
  · replace hf := it_f hf h_4
    by_cases h_6 : v_3 = (1 : Int32)
    · replace hf := it_t hf h_6
      refine lv_lookup (off := 36) (tgt := 42) hx hb dX3_toothAhead_6 (by decide) (by rw [h_6]; rfl) (by decide) ?_
      refine lv_aload_n hx hb dX3_toothAhead_42 rfl (lv_at hl 0 rfl) ?_
      refine gf_3_1 X hP kc_163 q1_148 dX3_toothAhead_43 ?_
      refine gf_5_10 X hP kc_164 q1_69 dX3_toothAhead_46 ?_
      refine lv_iload_n hx hb dX3_toothAhead_49 rfl (lv_at hl 1 rfl) ?_
      obtain ⟨hi_7, hf⟩ := ck_s hf
      refine ga_ld X hP (iA_8 (kdW5 kc_164)) hi_7 dX3_toothAhead_50 ?_
      exact g_iret X hP hS (sm_i hf) dX3_toothAhead_51
    · replace hf := it_f hf h_6
      refine lv_lookup (off := 46) (tgt := 52) hx hb dX3_toothAhead_6 (by decide) ((lv_osw h_4 rfl).trans ((lv_osw h_6 rfl).trans rfl)) (by decide) ?_
      refine lv_aload_n hx hb dX3_toothAhead_52 rfl (lv_at hl 0 rfl) ?_
      refine gf_3_1 X hP kc_163 q1_148 dX3_toothAhead_53 ?_
      refine lv_iload_n hx hb dX3_toothAhead_56 rfl (lv_at hl 1 rfl) ?_
      obtain ⟨r_10, M_9, hc_8, hf⟩ := cb_s hf
      refine g_goi (g_run X (c_X5_isBroken l g kc_164 hc_8) s_X5_isBroken (oB_5 kc_164) q3_3 ⟨Nat.le_of_ble_eq_true rfl, Nat.le_of_ble_eq_true rfl⟩ hP hS rfl hl.1 rfl (Nat.le_of_ble_eq_true rfl) ⟨Nat.le_refl _, Nat.le_refl _⟩ dX3_toothAhead_57) hS (fun H locs hP hS => ?_)
      refine lv_if_eq (tgt := 67) hx hb dX3_toothAhead_60 (by decide) (fun h_11 => ?_) (fun h_11 => ?_)
      · replace hf := it_t hf h_11
        refine lv_iconst (v := (0 : Int32)) hx hb dX3_toothAhead_67 (by decide) ?_
        exact g_iret X hP hS (sm_i hf) dX3_toothAhead_68
      · replace hf := it_f hf h_11
        refine lv_iconst (v := (1 : Int32)) hx hb dX3_toothAhead_63 (by decide) ?_
        refine lv_goto (tgt := 68) hx hb dX3_toothAhead_64 (by decide) ?_
        exact g_iret X hP hS (sm_i hf) dX3_toothAhead_68
def f_X3_boxAhead (x1 : Int32) (x2 : Int32) (M : Mem) : Option (Int32 × Mem) :=
  cv (f_X3_tryAhead x1 M) fun M_2 =>
  lt x2 fun v_3 =>
  if v_3 = (0 : Int32) then
    cb (f_X5_loud 164 M_2) fun r_7 M_6 =>
    some (r_7, M_6)
  else
    if v_3 = (1 : Int32) then
      cb (f_X5_ringing 164 M_2) fun r_11 M_10 =>
      some (r_11, M_10)
    else
      if v_3 = (2 : Int32) then
        some ((M_2 164 3), M_2)
      else
        some ((M_2 164 2), M_2)
set_option maxRecDepth 20000 in
theorem c_X3_boxAhead (l : Launch) (g : GC) {x1 : Int32} {x2 : Int32}  {M : Mem} {out : Int32 × Mem} (hf : f_X3_boxAhead x1 x2 M = some out) : cI l g yX3_boxAhead cX3_boxAhead 3 (some .int) (rM 5 117) [.ref (gz g + 163), .int x1, .int x2] M out := by
  refine g_met (by decide) (Nat.le_of_ble_eq_true rfl) ?_
  intro p e s m below meth c X hP hS ls hl
  have X : Bx p s m _ meth c RX3 cX3_boxAhead 3 (some .int) g := X
  have hl : lv_has ls 3 [(0, .ref (gz g + 163)), (1, .int x1), (2, .int x2)] := hl
  have hx := X.1
  have hb := X.2.1
  refine lv_aload_n hx hb dX3_boxAhead_0 rfl (lv_at hl 0 rfl) ?_
  refine lv_iload_n hx hb dX3_boxAhead_1 rfl (lv_at hl 1 rfl) ?_
  obtain ⟨M_2, hc_1, hf⟩ := cv_s hf
  refine g_gov (g_run X (c_X3_tryAhead l g  hc_1) s_X3_tryAhead (oB_3 kc_163) q2_233 ⟨Nat.le_of_ble_eq_true rfl, Nat.le_of_ble_eq_true rfl⟩ hP hS rfl hl.1 rfl (Nat.le_of_ble_eq_true rfl) ⟨Nat.le_refl _, Nat.le_refl _⟩ dX3_boxAhead_2) hS (fun H locs hP hS => ?_)
  refine lv_iload_n hx hb dX3_boxAhead_5 rfl (lv_at hl 2 rfl) ?_
  refine lv_topi (fun v_3 ev_3 => ?_)
  replace hf := lt_go hf ev_3
  by_cases h_4 : v_3 = (0 : Int32)
  · replace hf := it_t hf h_4
    refine lv_tableIn (off := 26) (tgt := 32) hx hb dX3_boxAhead_6 (by rw [h_4]; decide) (by rw [h_4]; decide) (by rw [h_4]; rfl) (by decide) ?_
    refine lv_aload_n hx hb dX3_boxAhead_32 rfl (lv_at hl 0 rfl) ?_
    refine gf_3_1 X hP kc_163 q1_148 dX3_boxAhead_33 ?_
    obtain ⟨r_7, M_6, hc_5, hf⟩ := cb_s hf
    refine g_goi (g_run X (c_X5_loud l g kc_164 hc_5) s_X5_loud (oB_5 kc_164) q3_12 ⟨Nat.le_of_ble_eq_true rfl, Nat.le_of_ble_eq_true rfl⟩ hP hS rfl hl.1 rfl (Nat.le_of_ble_eq_true rfl) ⟨Nat.le_refl _, Nat.le_refl _⟩ dX3_boxAhead_36) hS (fun H locs hP hS => ?_)
    exact g_iret X hP hS (sm_i hf) dX3_boxAhead_39
  · replace hf := it_f hf h_4
    by_cases h_8 : v_3 = (1 : Int32)
    · replace hf := it_t hf h_8
      refine lv_tableIn (off := 34) (tgt := 40) hx hb dX3_boxAhead_6 (by rw [h_8]; decide) (by rw [h_8]; decide) (by rw [h_8]; rfl) (by decide) ?_
      refine lv_aload_n hx hb dX3_boxAhead_40 rfl (lv_at hl 0 rfl) ?_
      refine gf_3_1 X hP kc_163 q1_148 dX3_boxAhead_41 ?_
      obtain ⟨r_11, M_10, hc_9, hf⟩ := cb_s hf
      refine g_goi (g_run X (c_X5_ringing l g kc_164 hc_9) s_X5_ringing (oB_5 kc_164) q3_13 ⟨Nat.le_of_ble_eq_true rfl, Nat.le_of_ble_eq_true rfl⟩ hP hS rfl hl.1 rfl (Nat.le_of_ble_eq_true rfl) ⟨Nat.le_refl _, Nat.le_refl _⟩ dX3_boxAhead_44) hS (fun H locs hP hS => ?_)
      exact g_iret X hP hS (sm_i hf) dX3_boxAhead_47
    · replace hf := it_f hf h_8
      by_cases h_12 : v_3 = (2 : Int32)
      · replace hf := it_t hf h_12
        refine lv_tableIn (off := 42) (tgt := 48) hx hb dX3_boxAhead_6 (by rw [h_12]; decide) (by rw [h_12]; decide) (by rw [h_12]; rfl) (by decide) ?_
        refine lv_aload_n hx hb dX3_boxAhead_48 rfl (lv_at hl 0 rfl) ?_
        refine gf_3_1 X hP kc_163 q1_148 dX3_boxAhead_49 ?_
        refine gf_5_3 X hP kc_164 q1_43 dX3_boxAhead_52 ?_
        exact g_iret X hP hS (sm_i hf) dX3_boxAhead_55
      · replace hf := it_f hf h_12
        refine lv_tableOut (tgt := 56) hx hb dX3_boxAhead_6 (by have n0 := lv_neT (a := 0) h_4 rfl; have n1 := lv_neT (a := 1) h_8 rfl; have n2 := lv_neT (a := 2) h_12 rfl; omega) (by decide) ?_
        refine lv_aload_n hx hb dX3_boxAhead_56 rfl (lv_at hl 0 rfl) ?_
        refine gf_3_1 X hP kc_163 q1_148 dX3_boxAhead_57 ?_
        refine gf_5_2 X hP kc_164 q1_40 dX3_boxAhead_60 ?_
        exact g_iret X hP hS (sm_i hf) dX3_boxAhead_63
def f_X3_firstTick_51 (x1 : Int32) (x2 : Int32) (k13 : Int32 → Mem → Option (Int32 × Mem)) (x3 : Int32) (t0 : Int32) (M : Mem) : Option (Int32 × Mem) :=
  if t0 = 0 then
    cb (f_X5_turn 164 M) fun r_4 M_3 =>
    k13 (x3 + (1 : Int32)) M_3
  else
    some (x3, M)
set_option maxRecDepth 20000 in
theorem b_X3_firstTick_51 {out : Int32 × Mem} (X : Bx p s m args meth c RX3 cX3_firstTick 5 (some .int) g)   {x1 : Int32} {x2 : Int32}   {k13 : Int32 → Mem → Option (Int32 × Mem)} (hk13 : ∀ (x3 : Int32) (M : Mem) (H : Heap) (locs : List Loc) (ls : Array Slot), k13 x3 M = some out → va_P g.1 vwCl (gW g M) H → va_S (gA g) s.heap H locs → lv_has ls 5 [(0, .ref (gz g + 163)), (1, .int x1), (2, .int x2), (3, .int x3)] → W p l e (rM 3 74) s m args below meth c H locs 0 0 (MQ below (qI g out) args s 0 0 (gA g)) (F0 m 13 ls [])) (x3 : Int32) (t0 : Int32) (M : Mem) {H : Heap} {locs : List Loc} {ls : Array Slot} (hf : f_X3_firstTick_51 x1 x2 k13 x3 t0 M = some out) (hP : va_P g.1 vwCl (gW g M) H) (hS : va_S (gA g) s.heap H locs) (hl : lv_has ls 5 [(0, .ref (gz g + 163)), (1, .int x1), (2, .int x2), (3, .int x3)]) : W p l e (rM 3 74) s m args below meth c H locs 0 0 (MQ below (qI g out) args s 0 0 (gA g)) (F0 m 51 ls [.int t0]) := by
  have hx := X.1
  have hb := X.2.1
  refine lv_istore (lv' := [(4, .int t0), (0, .ref (gz g + 163)), (1, .int x1), (2, .int x2), (3, .int x3)]) hx hb dX3_firstTick_51 hl (by decide) rfl (fun ls hl => ?_)
  refine lv_iload hx hb dX3_firstTick_53 (lv_at hl 0 rfl) ?_
  refine lv_if_eq (tgt := 60) hx hb dX3_firstTick_55 (by decide) (fun h_1 => ?_) (fun h_1 => ?_)
  · replace hf := it_t hf h_1
    refine lv_aload_n hx hb dX3_firstTick_60 rfl (lv_at hl 1 rfl) ?_
    refine gf_3_1 X hP kc_163 q1_148 dX3_firstTick_61 ?_
    obtain ⟨r_4, M_3, hc_2, hf⟩ := cb_s hf
    refine g_goi (g_run X (c_X5_turn l g kc_164 hc_2) s_X5_turn (oB_5 kc_164) q3_22 ⟨Nat.le_of_ble_eq_true rfl, Nat.le_of_ble_eq_true rfl⟩ hP hS rfl hl.1 rfl (Nat.le_of_ble_eq_true rfl) ⟨Nat.le_refl _, Nat.le_refl _⟩ dX3_firstTick_64) hS (fun H locs hP hS => ?_)
    refine lv_pop hx hb dX3_firstTick_67 rfl ?_
    refine lv_iinc (v := (x3 + (1 : Int32))) (lv' := [(3, .int (x3 + (1 : Int32))), (4, .int t0), (0, .ref (gz g + 163)), (1, .int x1), (2, .int x2)]) hx hb dX3_firstTick_68 hl (k := 4) rfl rfl (by decide) rfl (fun ls hl => ?_)
    refine lv_goto (tgt := 13) hx hb dX3_firstTick_71 (by decide) ?_
    exact hk13 (x3 + (1 : Int32)) M_3 _ _ _ hf hP hS (lv_sub hl [2, 3, 4, 0] rfl)
  · replace hf := it_f hf h_1
    refine lv_iload_n hx hb dX3_firstTick_58 rfl (lv_at hl 4 rfl) ?_
    exact g_iret X hP hS (sm_i hf) dX3_firstTick_59
def f_X3_firstTick_13 (x1 : Int32) (x2 : Int32)  : Nat → Int32 → Mem → Option (Int32 × Mem)
  | 0, _, _ => none
  | n + 1, x3, M =>
    if (60 : Int32) < x3 then
      some ((-1000000 : Int32), M)
    else
      if x2 = 0 then
        ck x1 6 <|
        if (M (164 + 4) x1.toNatClampNeg) ≤ 0 then
          f_X3_firstTick_51 x1 x2 (f_X3_firstTick_13 x1 x2 n) x3 (0 : Int32) M
        else
          f_X3_firstTick_51 x1 x2 (f_X3_firstTick_13 x1 x2 n) x3 (1 : Int32) M
      else
        cb (f_X5_isBroken 164 x1 M) fun r_5 M_4 =>
        f_X3_firstTick_51 x1 x2 (f_X3_firstTick_13 x1 x2 n) x3 r_5 M_4
set_option maxRecDepth 20000 in
theorem b_X3_firstTick_13 {out : Int32 × Mem} (X : Bx p s m args meth c RX3 cX3_firstTick 5 (some .int) g)   {x1 : Int32} {x2 : Int32}     : ∀ (n : Nat) (x3 : Int32) (M : Mem) (H : Heap) (locs : List Loc) (ls : Array Slot), f_X3_firstTick_13 x1 x2 n x3 M = some out → va_P g.1 vwCl (gW g M) H → va_S (gA g) s.heap H locs → lv_has ls 5 [(0, .ref (gz g + 163)), (1, .int x1), (2, .int x2), (3, .int x3)] → W p l e (rM 3 74) s m args below meth c H locs 0 0 (MQ below (qI g out) args s 0 0 (gA g)) (F0 m 13 ls []) := by
  have hx := X.1
  have hb := X.2.1
  intro n
  induction n with
  | zero => intro _ _ _ _ _ hf; cases hf
  | succ n ih =>
    intro x3 M H locs ls hf hP hS hl
    rw [f_X3_firstTick_13] at hf
    refine lv_iload_n hx hb dX3_firstTick_13 rfl (lv_at hl 3 rfl) ?_
    refine lv_bipush (v := (60 : Int32)) hx hb dX3_firstTick_14 (by decide) ?_
    refine lv_icmp_gt (tgt := 74) hx hb dX3_firstTick_16 (by decide) (fun h_1 => ?_) (fun h_1 => ?_)
    · replace hf := it_t hf h_1
      refine lv_ldc hx hb X.2.2.2.1 (X.2.2.2.2.1 _ q3_23) dX3_firstTick_74 ?_
      exact g_iret X hP hS (sm_i hf) dX3_firstTick_76
    · replace hf := it_f hf h_1
      refine lv_iload_n hx hb dX3_firstTick_19 rfl (lv_at hl 2 rfl) ?_
      refine lv_if_ne (tgt := 43) hx hb dX3_firstTick_20 (by decide) (fun h_2 => ?_) (fun h_2 => ?_)
      · replace hf := it_f hf h_2
        refine lv_aload_n hx hb dX3_firstTick_43 rfl (lv_at hl 0 rfl) ?_
        refine gf_3_1 X hP kc_163 q1_148 dX3_firstTick_44 ?_
        refine lv_iload_n hx hb dX3_firstTick_47 rfl (lv_at hl 1 rfl) ?_
        obtain ⟨r_5, M_4, hc_3, hf⟩ := cb_s hf
        refine g_goi (g_run X (c_X5_isBroken l g kc_164 hc_3) s_X5_isBroken (oB_5 kc_164) q3_3 ⟨Nat.le_of_ble_eq_true rfl, Nat.le_of_ble_eq_true rfl⟩ hP hS rfl hl.1 rfl (Nat.le_of_ble_eq_true rfl) ⟨Nat.le_refl _, Nat.le_refl _⟩ dX3_firstTick_48) hS (fun H locs hP hS => ?_)
        exact b_X3_firstTick_51 X ih x3 r_5 M_4 hf hP hS hl
      · replace hf := it_t hf h_2
        refine lv_aload_n hx hb dX3_firstTick_23 rfl (lv_at hl 0 rfl) ?_
        refine gf_3_1 X hP kc_163 q1_148 dX3_firstTick_24 ?_
        refine gf_5_9 X hP kc_164 q1_65 dX3_firstTick_27 ?_
        refine lv_iload_n hx hb dX3_firstTick_30 rfl (lv_at hl 1 rfl) ?_
        obtain ⟨hi_6, hf⟩ := ck_s hf
        refine ga_ld X hP (iA_8 (kdW4 kc_164)) hi_6 dX3_firstTick_31 ?_
        refine lv_if_le (tgt := 39) hx hb dX3_firstTick_32 (by decide) (fun h_7 => ?_) (fun h_7 => ?_)
        · replace hf := it_t hf h_7
          refine lv_iconst (v := (0 : Int32)) hx hb dX3_firstTick_39 (by decide) ?_
          refine lv_goto (tgt := 51) hx hb dX3_firstTick_40 (by decide) ?_
          exact b_X3_firstTick_51 X ih x3 (0 : Int32) M hf hP hS hl
        · replace hf := it_f hf h_7
          refine lv_iconst (v := (1 : Int32)) hx hb dX3_firstTick_35 (by decide) ?_
          refine lv_goto (tgt := 51) hx hb dX3_firstTick_36 (by decide) ?_
          exact b_X3_firstTick_51 X ih x3 (1 : Int32) M hf hP hS hl
def f_X3_firstTick (x1 : Int32) (x2 : Int32) (M : Mem) : Option (Int32 × Mem) :=
  cv (f_X5_takeFrom 164 3 M) fun M_2 =>
  f_X3_firstTick_13 x1 x2 FU (0 : Int32) M_2
set_option maxRecDepth 20000 in
theorem c_X3_firstTick (l : Launch) (g : GC) {x1 : Int32} {x2 : Int32}  {M : Mem} {out : Int32 × Mem} (hf : f_X3_firstTick x1 x2 M = some out) : cI l g yX3_firstTick cX3_firstTick 5 (some .int) (rM 3 74) [.ref (gz g + 163), .int x1, .int x2] M out := by
  refine g_met (by decide) (Nat.le_of_ble_eq_true rfl) ?_
  intro p e s m below meth c X hP hS ls hl
  have X : Bx p s m _ meth c RX3 cX3_firstTick 5 (some .int) g := X
  have hl : lv_has ls 5 [(0, .ref (gz g + 163)), (1, .int x1), (2, .int x2)] := hl
  have hx := X.1
  have hb := X.2.1
  refine lv_aload_n hx hb dX3_firstTick_0 rfl (lv_at hl 0 rfl) ?_
  refine gf_3_1 X hP kc_163 q1_148 dX3_firstTick_1 ?_
  refine lv_aload_n hx hb dX3_firstTick_4 rfl (lv_at hl 0 rfl) ?_
  refine gf_3_0 X hP kc_163 q1_147 dX3_firstTick_5 ?_
  obtain ⟨M_2, hc_1, hf⟩ := cv_s hf
  refine g_gov (g_run X (c_X5_takeFrom l g kc_164 kc_3 hc_1) s_X5_takeFrom (oB_5 kc_164) q2_237 ⟨Nat.le_of_ble_eq_true rfl, Nat.le_of_ble_eq_true rfl⟩ hP hS rfl hl.1 rfl (Nat.le_of_ble_eq_true rfl) ⟨Nat.le_refl _, Nat.le_refl _⟩ dX3_firstTick_8) hS (fun H locs hP hS => ?_)
  refine lv_iconst (v := (0 : Int32)) hx hb dX3_firstTick_11 (by decide) ?_
  refine lv_istore_n (lv' := [(3, .int (0 : Int32)), (0, .ref (gz g + 163)), (1, .int x1), (2, .int x2)]) hx hb dX3_firstTick_12 rfl hl (by decide) rfl (fun ls hl => ?_)
  exact b_X3_firstTick_13 X  FU (0 : Int32) M_2 _ _ _ hf hP hS (lv_sub hl [1, 2, 3, 0] rfl)
def f_X3_firstStop_13   : Nat → Int32 → Mem → Option (Int32 × Mem)
  | 0, _, _ => none
  | n + 1, x1, M =>
    if (60 : Int32) < x1 then
      some ((-1000000 : Int32), M)
    else
      if (M 164 2) = 0 then
        some (x1, M)
      else
        cb (f_X5_turn 164 M) fun r_5 M_4 =>
        (f_X3_firstStop_13 n) (x1 + (1 : Int32)) M_4
set_option maxRecDepth 20000 in
theorem b_X3_firstStop_13 {out : Int32 × Mem} (X : Bx p s m args meth c RX3 cX3_firstStop 2 (some .int) g)        : ∀ (n : Nat) (x1 : Int32) (M : Mem) (H : Heap) (locs : List Loc) (ls : Array Slot), f_X3_firstStop_13 n x1 M = some out → va_P g.1 vwCl (gW g M) H → va_S (gA g) s.heap H locs → lv_has ls 2 [(0, .ref (gz g + 163)), (1, .int x1)] → W p l e (rM 3 74) s m args below meth c H locs 0 0 (MQ below (qI g out) args s 0 0 (gA g)) (F0 m 13 ls []) := by
  have hx := X.1
  have hb := X.2.1
  intro n
  induction n with
  | zero => intro _ _ _ _ _ hf; cases hf
  | succ n ih =>
    intro x1 M H locs ls hf hP hS hl
    rw [f_X3_firstStop_13] at hf
    refine lv_iload_n hx hb dX3_firstStop_13 rfl (lv_at hl 1 rfl) ?_
    refine lv_bipush (v := (60 : Int32)) hx hb dX3_firstStop_14 (by decide) ?_
    refine lv_icmp_gt (tgt := 45) hx hb dX3_firstStop_16 (by decide) (fun h_1 => ?_) (fun h_1 => ?_)
    · replace hf := it_t hf h_1
      refine lv_ldc hx hb X.2.2.2.1 (X.2.2.2.2.1 _ q3_23) dX3_firstStop_45 ?_
      exact g_iret X hP hS (sm_i hf) dX3_firstStop_47
    · replace hf := it_f hf h_1
      refine lv_aload_n hx hb dX3_firstStop_19 rfl (lv_at hl 0 rfl) ?_
      refine gf_3_1 X hP kc_163 q1_148 dX3_firstStop_20 ?_
      refine gf_5_2 X hP kc_164 q1_40 dX3_firstStop_23 ?_
      refine lv_if_ne (tgt := 31) hx hb dX3_firstStop_26 (by decide) (fun h_2 => ?_) (fun h_2 => ?_)
      · replace hf := it_f hf h_2
        refine lv_aload_n hx hb dX3_firstStop_31 rfl (lv_at hl 0 rfl) ?_
        refine gf_3_1 X hP kc_163 q1_148 dX3_firstStop_32 ?_
        obtain ⟨r_5, M_4, hc_3, hf⟩ := cb_s hf
        refine g_goi (g_run X (c_X5_turn l g kc_164 hc_3) s_X5_turn (oB_5 kc_164) q3_22 ⟨Nat.le_of_ble_eq_true rfl, Nat.le_of_ble_eq_true rfl⟩ hP hS rfl hl.1 rfl (Nat.le_of_ble_eq_true rfl) ⟨Nat.le_refl _, Nat.le_refl _⟩ dX3_firstStop_35) hS (fun H locs hP hS => ?_)
        refine lv_pop hx hb dX3_firstStop_38 rfl ?_
        refine lv_iinc (v := (x1 + (1 : Int32))) (lv' := [(1, .int (x1 + (1 : Int32))), (0, .ref (gz g + 163))]) hx hb dX3_firstStop_39 hl (k := 1) rfl rfl (by decide) rfl (fun ls hl => ?_)
        refine lv_goto (tgt := 13) hx hb dX3_firstStop_42 (by decide) ?_
        exact ih (x1 + (1 : Int32)) M_4 _ _ _ hf hP hS (lv_sub hl [1, 0] rfl)
      · replace hf := it_t hf h_2
        refine lv_iload_n hx hb dX3_firstStop_29 rfl (lv_at hl 1 rfl) ?_
        exact g_iret X hP hS (sm_i hf) dX3_firstStop_30
def f_X3_firstStop  (M : Mem) : Option (Int32 × Mem) :=
  cv (f_X5_takeFrom 164 3 M) fun M_2 =>
  f_X3_firstStop_13 FU (0 : Int32) M_2
set_option maxRecDepth 20000 in
theorem c_X3_firstStop (l : Launch) (g : GC)   {M : Mem} {out : Int32 × Mem} (hf : f_X3_firstStop  M = some out) : cI l g yX3_firstStop cX3_firstStop 2 (some .int) (rM 3 74) [.ref (gz g + 163)] M out := by
  refine g_met (by decide) (Nat.le_of_ble_eq_true rfl) ?_
  intro p e s m below meth c X hP hS ls hl
  have X : Bx p s m _ meth c RX3 cX3_firstStop 2 (some .int) g := X
  have hl : lv_has ls 2 [(0, .ref (gz g + 163))] := hl
  have hx := X.1
  have hb := X.2.1
  refine lv_aload_n hx hb dX3_firstStop_0 rfl (lv_at hl 0 rfl) ?_
  refine gf_3_1 X hP kc_163 q1_148 dX3_firstStop_1 ?_
  refine lv_aload_n hx hb dX3_firstStop_4 rfl (lv_at hl 0 rfl) ?_
  refine gf_3_0 X hP kc_163 q1_147 dX3_firstStop_5 ?_
  obtain ⟨M_2, hc_1, hf⟩ := cv_s hf
  refine g_gov (g_run X (c_X5_takeFrom l g kc_164 kc_3 hc_1) s_X5_takeFrom (oB_5 kc_164) q2_237 ⟨Nat.le_of_ble_eq_true rfl, Nat.le_of_ble_eq_true rfl⟩ hP hS rfl hl.1 rfl (Nat.le_of_ble_eq_true rfl) ⟨Nat.le_refl _, Nat.le_refl _⟩ dX3_firstStop_8) hS (fun H locs hP hS => ?_)
  refine lv_iconst (v := (0 : Int32)) hx hb dX3_firstStop_11 (by decide) ?_
  refine lv_istore_n (lv' := [(1, .int (0 : Int32)), (0, .ref (gz g + 163))]) hx hb dX3_firstStop_12 rfl hl (by decide) rfl (fun ls hl => ?_)
  exact b_X3_firstStop_13 X  FU (0 : Int32) M_2 _ _ _ hf hP hS (lv_sub hl [1, 0] rfl)
def f_X3_loudestPin_87 (x1 : Int32) (x2 : Int32) (k8 : Int32 → Int32 → Int32 → Mem → Option (Int32 × Mem)) (k23 : Int32 → Int32 → Int32 → Int32 → Mem → Option (Int32 × Mem)) (x3 : Int32) (x4 : Int32) (x5 : Int32) (x6 : Int32) (M : Mem) : Option (Int32 × Mem) :=
  k23 x3 x4 x5 (x6 + (1 : Int32)) M
set_option maxRecDepth 20000 in
theorem b_X3_loudestPin_87 {out : Int32 × Mem} (X : Bx p s m args meth c RX3 cX3_loudestPin 8 (some .int) g)   {x1 : Int32} {x2 : Int32}   {k8 : Int32 → Int32 → Int32 → Mem → Option (Int32 × Mem)} {k23 : Int32 → Int32 → Int32 → Int32 → Mem → Option (Int32 × Mem)} (hk8 : ∀ (x3 : Int32) (x4 : Int32) (x5 : Int32) (M : Mem) (H : Heap) (locs : List Loc) (ls : Array Slot), k8 x3 x4 x5 M = some out → va_P g.1 vwCl (gW g M) H → va_S (gA g) s.heap H locs → lv_has ls 8 [(0, .ref (gz g + 163)), (1, .int x1), (2, .int x2), (3, .int x3), (4, .int x4), (5, .int x5)] → W p l e (rM 4 97) s m args below meth c H locs 0 0 (MQ below (qI g out) args s 0 0 (gA g)) (F0 m 8 ls [])) (hk23 : ∀ (x3 : Int32) (x4 : Int32) (x5 : Int32) (x6 : Int32) (M : Mem) (H : Heap) (locs : List Loc) (ls : Array Slot), k23 x3 x4 x5 x6 M = some out → va_P g.1 vwCl (gW g M) H → va_S (gA g) s.heap H locs → lv_has ls 8 [(0, .ref (gz g + 163)), (1, .int x1), (2, .int x2), (3, .int x3), (4, .int x4), (5, .int x5), (6, .int x6)] → W p l e (rM 4 97) s m args below meth c H locs 0 0 (MQ below (qI g out) args s 0 0 (gA g)) (F0 m 23 ls [])) (x3 : Int32) (x4 : Int32) (x5 : Int32) (x6 : Int32) (M : Mem) {H : Heap} {locs : List Loc} {ls : Array Slot} (hf : f_X3_loudestPin_87 x1 x2 k8 k23 x3 x4 x5 x6 M = some out) (hP : va_P g.1 vwCl (gW g M) H) (hS : va_S (gA g) s.heap H locs) (hl : lv_has ls 8 [(0, .ref (gz g + 163)), (1, .int x1), (2, .int x2), (3, .int x3), (4, .int x4), (5, .int x5), (6, .int x6)]) : W p l e (rM 4 97) s m args below meth c H locs 0 0 (MQ below (qI g out) args s 0 0 (gA g)) (F0 m 87 ls []) := by
  have hx := X.1
  have hb := X.2.1
  refine lv_iinc (v := (x6 + (1 : Int32))) (lv' := [(6, .int (x6 + (1 : Int32))), (0, .ref (gz g + 163)), (1, .int x1), (2, .int x2), (3, .int x3), (4, .int x4), (5, .int x5)]) hx hb dX3_loudestPin_87 hl (k := 6) rfl rfl (by decide) rfl (fun ls hl => ?_)
  refine lv_goto (tgt := 23) hx hb dX3_loudestPin_90 (by decide) ?_
  exact hk23 x3 x4 x5 (x6 + (1 : Int32)) M _ _ _ hf hP hS (lv_sub hl [1, 2, 3, 4, 5, 6, 0] rfl)
def f_X3_loudestPin_23 (x1 : Int32) (x2 : Int32) (k8 : Int32 → Int32 → Int32 → Mem → Option (Int32 × Mem)) : Nat → Int32 → Int32 → Int32 → Int32 → Mem → Option (Int32 × Mem)
  | 0, _, _, _, _, _ => none
  | n + 1, x3, x4, x5, x6, M =>
    if (M 3 1) ≤ x6 then
      k8 x3 x4 (x5 + (1 : Int32)) M
    else
      cv (f_X5_takeFrom 164 3 M) fun M_3 =>
      cv (f_X5_togglePin 164 x5 x6 M_3) fun M_5 =>
      cb (f_X5_loudOver 164 x1 M_5) fun r_8 M_7 =>
      if r_8 ≤ x4 then
        f_X3_loudestPin_87 x1 x2 k8 (f_X3_loudestPin_23 x1 x2 k8 n) x3 x4 x5 x6 M_7
      else
        lt (((10 : Int32) * x5) + x6) fun x3_10 =>
        f_X3_loudestPin_87 x1 x2 k8 (f_X3_loudestPin_23 x1 x2 k8 n) x3_10 r_8 x5 x6 M_7
set_option maxRecDepth 20000 in
theorem b_X3_loudestPin_23 {out : Int32 × Mem} (X : Bx p s m args meth c RX3 cX3_loudestPin 8 (some .int) g)   {x1 : Int32} {x2 : Int32}   {k8 : Int32 → Int32 → Int32 → Mem → Option (Int32 × Mem)} (hk8 : ∀ (x3 : Int32) (x4 : Int32) (x5 : Int32) (M : Mem) (H : Heap) (locs : List Loc) (ls : Array Slot), k8 x3 x4 x5 M = some out → va_P g.1 vwCl (gW g M) H → va_S (gA g) s.heap H locs → lv_has ls 8 [(0, .ref (gz g + 163)), (1, .int x1), (2, .int x2), (3, .int x3), (4, .int x4), (5, .int x5)] → W p l e (rM 4 97) s m args below meth c H locs 0 0 (MQ below (qI g out) args s 0 0 (gA g)) (F0 m 8 ls [])) : ∀ (n : Nat) (x3 : Int32) (x4 : Int32) (x5 : Int32) (x6 : Int32) (M : Mem) (H : Heap) (locs : List Loc) (ls : Array Slot), f_X3_loudestPin_23 x1 x2 k8 n x3 x4 x5 x6 M = some out → va_P g.1 vwCl (gW g M) H → va_S (gA g) s.heap H locs → lv_has ls 8 [(0, .ref (gz g + 163)), (1, .int x1), (2, .int x2), (3, .int x3), (4, .int x4), (5, .int x5), (6, .int x6)] → W p l e (rM 4 97) s m args below meth c H locs 0 0 (MQ below (qI g out) args s 0 0 (gA g)) (F0 m 23 ls []) := by
  have hx := X.1
  have hb := X.2.1
  intro n
  induction n with
  | zero => intro _ _ _ _ _ _ _ _ hf; cases hf
  | succ n ih =>
    intro x3 x4 x5 x6 M H locs ls hf hP hS hl
    rw [f_X3_loudestPin_23] at hf
    refine lv_iload hx hb dX3_loudestPin_23 (lv_at hl 6 rfl) ?_
    refine lv_aload_n hx hb dX3_loudestPin_25 rfl (lv_at hl 0 rfl) ?_
    refine gf_3_0 X hP kc_163 q1_147 dX3_loudestPin_26 ?_
    refine gf_5_1 X hP kc_3 q1_36 dX3_loudestPin_29 ?_
    refine lv_icmp_ge (tgt := 93) hx hb dX3_loudestPin_32 (by decide) (fun h_1 => ?_) (fun h_1 => ?_)
    · replace hf := it_t hf h_1
      refine lv_iinc (v := (x5 + (1 : Int32))) (lv' := [(5, .int (x5 + (1 : Int32))), (0, .ref (gz g + 163)), (1, .int x1), (2, .int x2), (3, .int x3), (4, .int x4), (6, .int x6)]) hx hb dX3_loudestPin_93 hl (k := 5) rfl rfl (by decide) rfl (fun ls hl => ?_)
      refine lv_goto (tgt := 8) hx hb dX3_loudestPin_96 (by decide) ?_
      exact hk8 x3 x4 (x5 + (1 : Int32)) M _ _ _ hf hP hS (lv_sub hl [1, 2, 3, 4, 5, 0] rfl)
    · replace hf := it_f hf h_1
      refine lv_aload_n hx hb dX3_loudestPin_35 rfl (lv_at hl 0 rfl) ?_
      refine gf_3_1 X hP kc_163 q1_148 dX3_loudestPin_36 ?_
      refine lv_aload_n hx hb dX3_loudestPin_39 rfl (lv_at hl 0 rfl) ?_
      refine gf_3_0 X hP kc_163 q1_147 dX3_loudestPin_40 ?_
      obtain ⟨M_3, hc_2, hf⟩ := cv_s hf
      refine g_gov (g_run X (c_X5_takeFrom l g kc_164 kc_3 hc_2) s_X5_takeFrom (oB_5 kc_164) q2_237 ⟨Nat.le_of_ble_eq_true rfl, Nat.le_of_ble_eq_true rfl⟩ hP hS rfl hl.1 rfl (Nat.le_of_ble_eq_true rfl) ⟨Nat.le_refl _, Nat.le_refl _⟩ dX3_loudestPin_43) hS (fun H locs hP hS => ?_)
      refine lv_aload_n hx hb dX3_loudestPin_46 rfl (lv_at hl 0 rfl) ?_
      refine gf_3_1 X hP kc_163 q1_148 dX3_loudestPin_47 ?_
      refine lv_iload hx hb dX3_loudestPin_50 (lv_at hl 5 rfl) ?_
      refine lv_iload hx hb dX3_loudestPin_52 (lv_at hl 6 rfl) ?_
      obtain ⟨M_5, hc_4, hf⟩ := cv_s hf
      refine g_gov (g_run X (c_X5_togglePin l g kc_164 hc_4) s_X5_togglePin (oB_5 kc_164) q3_40 ⟨Nat.le_of_ble_eq_true rfl, Nat.le_of_ble_eq_true rfl⟩ hP hS rfl hl.1 rfl (Nat.le_of_ble_eq_true rfl) ⟨Nat.le_refl _, Nat.le_refl _⟩ dX3_loudestPin_54) hS (fun H locs hP hS => ?_)
      refine lv_aload_n hx hb dX3_loudestPin_57 rfl (lv_at hl 0 rfl) ?_
      refine gf_3_1 X hP kc_163 q1_148 dX3_loudestPin_58 ?_
      refine lv_iload_n hx hb dX3_loudestPin_61 rfl (lv_at hl 1 rfl) ?_
      obtain ⟨r_8, M_7, hc_6, hf⟩ := cb_s hf
      refine g_goi (g_run X (c_X5_loudOver l g kc_164 hc_6) s_X5_loudOver (oB_5 kc_164) q3_41 ⟨Nat.le_of_ble_eq_true rfl, Nat.le_of_ble_eq_true rfl⟩ hP hS rfl hl.1 rfl (Nat.le_of_ble_eq_true rfl) ⟨Nat.le_refl _, Nat.le_refl _⟩ dX3_loudestPin_62) hS (fun H locs hP hS => ?_)
      refine lv_istore (lv' := [(7, .int r_8), (0, .ref (gz g + 163)), (1, .int x1), (2, .int x2), (3, .int x3), (4, .int x4), (5, .int x5), (6, .int x6)]) hx hb dX3_loudestPin_65 hl (by decide) rfl (fun ls hl => ?_)
      refine lv_iload hx hb dX3_loudestPin_67 (lv_at hl 0 rfl) ?_
      refine lv_iload hx hb dX3_loudestPin_69 (lv_at hl 5 rfl) ?_
      refine lv_icmp_le (tgt := 87) hx hb dX3_loudestPin_71 (by decide) (fun h_9 => ?_) (fun h_9 => ?_)
      · replace hf := it_t hf h_9
        exact b_X3_loudestPin_87 X hk8 ih x3 x4 x5 x6 M_7 hf hP hS (lv_sub hl [1, 2, 3, 4, 5, 6, 7] rfl)
      · replace hf := it_f hf h_9
        refine lv_iload hx hb dX3_loudestPin_74 (lv_at hl 0 rfl) ?_
        refine lv_istore (lv' := [(4, .int r_8), (7, .int r_8), (0, .ref (gz g + 163)), (1, .int x1), (2, .int x2), (3, .int x3), (5, .int x5), (6, .int x6)]) hx hb dX3_loudestPin_76 hl (by decide) rfl (fun ls hl => ?_)
        refine lv_bipush (v := (10 : Int32)) hx hb dX3_loudestPin_78 (by decide) ?_
        refine lv_iload hx hb dX3_loudestPin_80 (lv_at hl 6 rfl) ?_
        refine lv_imul hx hb dX3_loudestPin_82 ?_
        refine lv_iload hx hb dX3_loudestPin_83 (lv_at hl 7 rfl) ?_
        refine lv_iadd hx hb dX3_loudestPin_85 ?_
        refine lv_topi (fun x3_10 ex3_10 => ?_)
        replace hf := lt_go hf ex3_10
        refine lv_istore_n (lv' := [(3, .int x3_10), (4, .int r_8), (7, .int r_8), (0, .ref (gz g + 163)), (1, .int x1), (2, .int x2), (5, .int x5), (6, .int x6)]) hx hb dX3_loudestPin_86 rfl hl (by decide) rfl (fun ls hl => ?_)
        exact b_X3_loudestPin_87 X hk8 ih x3_10 r_8 x5 x6 M_7 hf hP hS (lv_sub hl [3, 4, 5, 0, 1, 6, 7] rfl)
def f_X3_loudestPin_8 (x1 : Int32) (x2 : Int32)  : Nat → Int32 → Int32 → Int32 → Mem → Option (Int32 × Mem)
  | 0, _, _, _, _ => none
  | n + 1, x3, x4, x5, M =>
    if (M 3 0) ≤ x5 then
      if x2 = 0 then
        some (x3, M)
      else
        some (x4, M)
    else
      f_X3_loudestPin_23 x1 x2 (f_X3_loudestPin_8 x1 x2 n) FU x3 x4 x5 (0 : Int32) M
set_option maxRecDepth 20000 in
theorem b_X3_loudestPin_8 {out : Int32 × Mem} (X : Bx p s m args meth c RX3 cX3_loudestPin 8 (some .int) g)   {x1 : Int32} {x2 : Int32}     : ∀ (n : Nat) (x3 : Int32) (x4 : Int32) (x5 : Int32) (M : Mem) (H : Heap) (locs : List Loc) (ls : Array Slot), f_X3_loudestPin_8 x1 x2 n x3 x4 x5 M = some out → va_P g.1 vwCl (gW g M) H → va_S (gA g) s.heap H locs → lv_has ls 8 [(0, .ref (gz g + 163)), (1, .int x1), (2, .int x2), (3, .int x3), (4, .int x4), (5, .int x5)] → W p l e (rM 4 97) s m args below meth c H locs 0 0 (MQ below (qI g out) args s 0 0 (gA g)) (F0 m 8 ls []) := by
  have hx := X.1
  have hb := X.2.1
  intro n
  induction n with
  | zero => intro _ _ _ _ _ _ _ hf; cases hf
  | succ n ih =>
    intro x3 x4 x5 M H locs ls hf hP hS hl
    rw [f_X3_loudestPin_8] at hf
    refine lv_iload hx hb dX3_loudestPin_8 (lv_at hl 5 rfl) ?_
    refine lv_aload_n hx hb dX3_loudestPin_10 rfl (lv_at hl 0 rfl) ?_
    refine gf_3_0 X hP kc_163 q1_147 dX3_loudestPin_11 ?_
    refine gf_5_0 X hP kc_3 q1_32 dX3_loudestPin_14 ?_
    refine lv_icmp_ge (tgt := 99) hx hb dX3_loudestPin_17 (by decide) (fun h_1 => ?_) (fun h_1 => ?_)
    · replace hf := it_t hf h_1
      refine lv_iload_n hx hb dX3_loudestPin_99 rfl (lv_at hl 2 rfl) ?_
      refine lv_if_ne (tgt := 107) hx hb dX3_loudestPin_100 (by decide) (fun h_2 => ?_) (fun h_2 => ?_)
      · replace hf := it_f hf h_2
        refine lv_iload hx hb dX3_loudestPin_107 (lv_at hl 4 rfl) ?_
        exact g_iret X hP hS (sm_i hf) dX3_loudestPin_109
      · replace hf := it_t hf h_2
        refine lv_iload_n hx hb dX3_loudestPin_103 rfl (lv_at hl 3 rfl) ?_
        refine lv_goto (tgt := 109) hx hb dX3_loudestPin_104 (by decide) ?_
        exact g_iret X hP hS (sm_i hf) dX3_loudestPin_109
    · replace hf := it_f hf h_1
      refine lv_iconst (v := (0 : Int32)) hx hb dX3_loudestPin_20 (by decide) ?_
      refine lv_istore (lv' := [(6, .int (0 : Int32)), (0, .ref (gz g + 163)), (1, .int x1), (2, .int x2), (3, .int x3), (4, .int x4), (5, .int x5)]) hx hb dX3_loudestPin_21 hl (by decide) rfl (fun ls hl => ?_)
      exact b_X3_loudestPin_23 X ih FU x3 x4 x5 (0 : Int32) M _ _ _ hf hP hS (lv_sub hl [1, 2, 3, 4, 5, 6, 0] rfl)
def f_X3_loudestPin (x1 : Int32) (x2 : Int32) (M : Mem) : Option (Int32 × Mem) :=
  f_X3_loudestPin_8 x1 x2 FU (0 : Int32) (-1 : Int32) (0 : Int32) M
set_option maxRecDepth 20000 in
theorem c_X3_loudestPin (l : Launch) (g : GC) {x1 : Int32} {x2 : Int32}  {M : Mem} {out : Int32 × Mem} (hf : f_X3_loudestPin x1 x2 M = some out) : cI l g yX3_loudestPin cX3_loudestPin 8 (some .int) (rM 4 97) [.ref (gz g + 163), .int x1, .int x2] M out := by
  refine g_met (by decide) (Nat.le_of_ble_eq_true rfl) ?_
  intro p e s m below meth c X hP hS ls hl
  have X : Bx p s m _ meth c RX3 cX3_loudestPin 8 (some .int) g := X
  have hl : lv_has ls 8 [(0, .ref (gz g + 163)), (1, .int x1), (2, .int x2)] := hl
  have hx := X.1
  have hb := X.2.1
  refine lv_iconst (v := (0 : Int32)) hx hb dX3_loudestPin_0 (by decide) ?_
  refine lv_istore_n (lv' := [(3, .int (0 : Int32)), (0, .ref (gz g + 163)), (1, .int x1), (2, .int x2)]) hx hb dX3_loudestPin_1 rfl hl (by decide) rfl (fun ls hl => ?_)
  refine lv_iconst (v := (-1 : Int32)) hx hb dX3_loudestPin_2 (by decide) ?_
  refine lv_istore (lv' := [(4, .int (-1 : Int32)), (3, .int (0 : Int32)), (0, .ref (gz g + 163)), (1, .int x1), (2, .int x2)]) hx hb dX3_loudestPin_3 hl (by decide) rfl (fun ls hl => ?_)
  refine lv_iconst (v := (0 : Int32)) hx hb dX3_loudestPin_5 (by decide) ?_
  refine lv_istore (lv' := [(5, .int (0 : Int32)), (4, .int (-1 : Int32)), (3, .int (0 : Int32)), (0, .ref (gz g + 163)), (1, .int x1), (2, .int x2)]) hx hb dX3_loudestPin_6 hl (by decide) rfl (fun ls hl => ?_)
  exact b_X3_loudestPin_8 X  FU (0 : Int32) (-1 : Int32) (0 : Int32) M _ _ _ hf hP hS (lv_sub hl [3, 4, 5, 2, 1, 0] rfl)
def f_X3_loudestColumn_64 (x1 : Int32) (x2 : Int32) (k8 : Int32 → Int32 → Int32 → Mem → Option (Int32 × Mem)) (x3 : Int32) (x4 : Int32) (x5 : Int32) (M : Mem) : Option (Int32 × Mem) :=
  k8 x3 x4 (x5 + (1 : Int32)) M
set_option maxRecDepth 20000 in
theorem b_X3_loudestColumn_64 {out : Int32 × Mem} (X : Bx p s m args meth c RX3 cX3_loudestColumn 7 (some .int) g)   {x1 : Int32} {x2 : Int32}   {k8 : Int32 → Int32 → Int32 → Mem → Option (Int32 × Mem)} (hk8 : ∀ (x3 : Int32) (x4 : Int32) (x5 : Int32) (M : Mem) (H : Heap) (locs : List Loc) (ls : Array Slot), k8 x3 x4 x5 M = some out → va_P g.1 vwCl (gW g M) H → va_S (gA g) s.heap H locs → lv_has ls 7 [(0, .ref (gz g + 163)), (1, .int x1), (2, .int x2), (3, .int x3), (4, .int x4), (5, .int x5)] → W p l e (rM 4 97) s m args below meth c H locs 0 0 (MQ below (qI g out) args s 0 0 (gA g)) (F0 m 8 ls [])) (x3 : Int32) (x4 : Int32) (x5 : Int32) (M : Mem) {H : Heap} {locs : List Loc} {ls : Array Slot} (hf : f_X3_loudestColumn_64 x1 x2 k8 x3 x4 x5 M = some out) (hP : va_P g.1 vwCl (gW g M) H) (hS : va_S (gA g) s.heap H locs) (hl : lv_has ls 7 [(0, .ref (gz g + 163)), (1, .int x1), (2, .int x2), (3, .int x3), (4, .int x4), (5, .int x5)]) : W p l e (rM 4 97) s m args below meth c H locs 0 0 (MQ below (qI g out) args s 0 0 (gA g)) (F0 m 64 ls []) := by
  have hx := X.1
  have hb := X.2.1
  refine lv_iinc (v := (x5 + (1 : Int32))) (lv' := [(5, .int (x5 + (1 : Int32))), (0, .ref (gz g + 163)), (1, .int x1), (2, .int x2), (3, .int x3), (4, .int x4)]) hx hb dX3_loudestColumn_64 hl (k := 5) rfl rfl (by decide) rfl (fun ls hl => ?_)
  refine lv_goto (tgt := 8) hx hb dX3_loudestColumn_67 (by decide) ?_
  exact hk8 x3 x4 (x5 + (1 : Int32)) M _ _ _ hf hP hS (lv_sub hl [1, 2, 3, 4, 5, 0] rfl)
def f_X3_loudestColumn_8 (x1 : Int32) (x2 : Int32)  : Nat → Int32 → Int32 → Int32 → Mem → Option (Int32 × Mem)
  | 0, _, _, _, _ => none
  | n + 1, x3, x4, x5, M =>
    if (M 3 0) ≤ x5 then
      if x2 = 0 then
        some (x3, M)
      else
        some (x4, M)
    else
      cv (f_X5_takeFrom 164 3 M) fun M_4 =>
      lt (up2 M_4 164 3 x5) fun M_5 =>
      cb (f_X5_loudOver 164 x1 M_5) fun r_8 M_7 =>
      if r_8 ≤ x4 then
        f_X3_loudestColumn_64 x1 x2 (f_X3_loudestColumn_8 x1 x2 n) x3 x4 x5 M_7
      else
        f_X3_loudestColumn_64 x1 x2 (f_X3_loudestColumn_8 x1 x2 n) x5 r_8 x5 M_7
set_option maxRecDepth 20000 in
theorem b_X3_loudestColumn_8 {out : Int32 × Mem} (X : Bx p s m args meth c RX3 cX3_loudestColumn 7 (some .int) g)   {x1 : Int32} {x2 : Int32}     : ∀ (n : Nat) (x3 : Int32) (x4 : Int32) (x5 : Int32) (M : Mem) (H : Heap) (locs : List Loc) (ls : Array Slot), f_X3_loudestColumn_8 x1 x2 n x3 x4 x5 M = some out → va_P g.1 vwCl (gW g M) H → va_S (gA g) s.heap H locs → lv_has ls 7 [(0, .ref (gz g + 163)), (1, .int x1), (2, .int x2), (3, .int x3), (4, .int x4), (5, .int x5)] → W p l e (rM 4 97) s m args below meth c H locs 0 0 (MQ below (qI g out) args s 0 0 (gA g)) (F0 m 8 ls []) := by
  have hx := X.1
  have hb := X.2.1
  intro n
  induction n with
  | zero => intro _ _ _ _ _ _ _ hf; cases hf
  | succ n ih =>
    intro x3 x4 x5 M H locs ls hf hP hS hl
    rw [f_X3_loudestColumn_8] at hf
    refine lv_iload hx hb dX3_loudestColumn_8 (lv_at hl 5 rfl) ?_
    refine lv_aload_n hx hb dX3_loudestColumn_10 rfl (lv_at hl 0 rfl) ?_
    refine gf_3_0 X hP kc_163 q1_147 dX3_loudestColumn_11 ?_
    refine gf_5_0 X hP kc_3 q1_32 dX3_loudestColumn_14 ?_
    refine lv_icmp_ge (tgt := 70) hx hb dX3_loudestColumn_17 (by decide) (fun h_1 => ?_) (fun h_1 => ?_)
    · replace hf := it_t hf h_1
      refine lv_iload_n hx hb dX3_loudestColumn_70 rfl (lv_at hl 2 rfl) ?_
      refine lv_if_ne (tgt := 78) hx hb dX3_loudestColumn_71 (by decide) (fun h_2 => ?_) (fun h_2 => ?_)
      · replace hf := it_f hf h_2
        refine lv_iload hx hb dX3_loudestColumn_78 (lv_at hl 4 rfl) ?_
        exact g_iret X hP hS (sm_i hf) dX3_loudestColumn_80
      · replace hf := it_t hf h_2
        refine lv_iload_n hx hb dX3_loudestColumn_74 rfl (lv_at hl 3 rfl) ?_
        refine lv_goto (tgt := 80) hx hb dX3_loudestColumn_75 (by decide) ?_
        exact g_iret X hP hS (sm_i hf) dX3_loudestColumn_80
    · replace hf := it_f hf h_1
      refine lv_aload_n hx hb dX3_loudestColumn_20 rfl (lv_at hl 0 rfl) ?_
      refine gf_3_1 X hP kc_163 q1_148 dX3_loudestColumn_21 ?_
      refine lv_aload_n hx hb dX3_loudestColumn_24 rfl (lv_at hl 0 rfl) ?_
      refine gf_3_0 X hP kc_163 q1_147 dX3_loudestColumn_25 ?_
      obtain ⟨M_4, hc_3, hf⟩ := cv_s hf
      refine g_gov (g_run X (c_X5_takeFrom l g kc_164 kc_3 hc_3) s_X5_takeFrom (oB_5 kc_164) q2_237 ⟨Nat.le_of_ble_eq_true rfl, Nat.le_of_ble_eq_true rfl⟩ hP hS rfl hl.1 rfl (Nat.le_of_ble_eq_true rfl) ⟨Nat.le_refl _, Nat.le_refl _⟩ dX3_loudestColumn_28) hS (fun H locs hP hS => ?_)
      refine lv_aload_n hx hb dX3_loudestColumn_31 rfl (lv_at hl 0 rfl) ?_
      refine gf_3_1 X hP kc_163 q1_148 dX3_loudestColumn_32 ?_
      refine lv_iload hx hb dX3_loudestColumn_35 (lv_at hl 5 rfl) ?_
      refine gp_5_3 X hP hS kc_164 q1_43 dX3_loudestColumn_37 (fun H locs M_5 eM_5 hP hS => ?_)
      replace hf := lt_go hf eM_5
      refine lv_aload_n hx hb dX3_loudestColumn_40 rfl (lv_at hl 0 rfl) ?_
      refine gf_3_1 X hP kc_163 q1_148 dX3_loudestColumn_41 ?_
      refine lv_iload_n hx hb dX3_loudestColumn_44 rfl (lv_at hl 1 rfl) ?_
      obtain ⟨r_8, M_7, hc_6, hf⟩ := cb_s hf
      refine g_goi (g_run X (c_X5_loudOver l g kc_164 hc_6) s_X5_loudOver (oB_5 kc_164) q3_41 ⟨Nat.le_of_ble_eq_true rfl, Nat.le_of_ble_eq_true rfl⟩ hP hS rfl hl.1 rfl (Nat.le_of_ble_eq_true rfl) ⟨Nat.le_refl _, Nat.le_refl _⟩ dX3_loudestColumn_45) hS (fun H locs hP hS => ?_)
      refine lv_istore (lv' := [(6, .int r_8), (0, .ref (gz g + 163)), (1, .int x1), (2, .int x2), (3, .int x3), (4, .int x4), (5, .int x5)]) hx hb dX3_loudestColumn_48 hl (by decide) rfl (fun ls hl => ?_)
      refine lv_iload hx hb dX3_loudestColumn_50 (lv_at hl 0 rfl) ?_
      refine lv_iload hx hb dX3_loudestColumn_52 (lv_at hl 5 rfl) ?_
      refine lv_icmp_le (tgt := 64) hx hb dX3_loudestColumn_54 (by decide) (fun h_9 => ?_) (fun h_9 => ?_)
      · replace hf := it_t hf h_9
        exact b_X3_loudestColumn_64 X ih x3 x4 x5 M_7 hf hP hS (lv_sub hl [1, 2, 3, 4, 5, 6] rfl)
      · replace hf := it_f hf h_9
        refine lv_iload hx hb dX3_loudestColumn_57 (lv_at hl 0 rfl) ?_
        refine lv_istore (lv' := [(4, .int r_8), (6, .int r_8), (0, .ref (gz g + 163)), (1, .int x1), (2, .int x2), (3, .int x3), (5, .int x5)]) hx hb dX3_loudestColumn_59 hl (by decide) rfl (fun ls hl => ?_)
        refine lv_iload hx hb dX3_loudestColumn_61 (lv_at hl 6 rfl) ?_
        refine lv_istore_n (lv' := [(3, .int x5), (4, .int r_8), (6, .int r_8), (0, .ref (gz g + 163)), (1, .int x1), (2, .int x2), (5, .int x5)]) hx hb dX3_loudestColumn_63 rfl hl (by decide) rfl (fun ls hl => ?_)
        exact b_X3_loudestColumn_64 X ih x5 r_8 x5 M_7 hf hP hS (lv_sub hl [3, 4, 5, 0, 1, 6] rfl)
def f_X3_loudestColumn (x1 : Int32) (x2 : Int32) (M : Mem) : Option (Int32 × Mem) :=
  f_X3_loudestColumn_8 x1 x2 FU (0 : Int32) (-1 : Int32) (0 : Int32) M
set_option maxRecDepth 20000 in
theorem c_X3_loudestColumn (l : Launch) (g : GC) {x1 : Int32} {x2 : Int32}  {M : Mem} {out : Int32 × Mem} (hf : f_X3_loudestColumn x1 x2 M = some out) : cI l g yX3_loudestColumn cX3_loudestColumn 7 (some .int) (rM 4 97) [.ref (gz g + 163), .int x1, .int x2] M out := by
  refine g_met (by decide) (Nat.le_of_ble_eq_true rfl) ?_
  intro p e s m below meth c X hP hS ls hl
  have X : Bx p s m _ meth c RX3 cX3_loudestColumn 7 (some .int) g := X
  have hl : lv_has ls 7 [(0, .ref (gz g + 163)), (1, .int x1), (2, .int x2)] := hl
  have hx := X.1
  have hb := X.2.1
  refine lv_iconst (v := (0 : Int32)) hx hb dX3_loudestColumn_0 (by decide) ?_
  refine lv_istore_n (lv' := [(3, .int (0 : Int32)), (0, .ref (gz g + 163)), (1, .int x1), (2, .int x2)]) hx hb dX3_loudestColumn_1 rfl hl (by decide) rfl (fun ls hl => ?_)
  refine lv_iconst (v := (-1 : Int32)) hx hb dX3_loudestColumn_2 (by decide) ?_
  refine lv_istore (lv' := [(4, .int (-1 : Int32)), (3, .int (0 : Int32)), (0, .ref (gz g + 163)), (1, .int x1), (2, .int x2)]) hx hb dX3_loudestColumn_3 hl (by decide) rfl (fun ls hl => ?_)
  refine lv_iconst (v := (0 : Int32)) hx hb dX3_loudestColumn_5 (by decide) ?_
  refine lv_istore (lv' := [(5, .int (0 : Int32)), (4, .int (-1 : Int32)), (3, .int (0 : Int32)), (0, .ref (gz g + 163)), (1, .int x1), (2, .int x2)]) hx hb dX3_loudestColumn_6 hl (by decide) rfl (fun ls hl => ?_)
  exact b_X3_loudestColumn_8 X  FU (0 : Int32) (-1 : Int32) (0 : Int32) M _ _ _ hf hP hS (lv_sub hl [3, 4, 5, 2, 1, 0] rfl)
def f_X3_leastSpring_58 (x1 : Int32) (k2 : Int32 → Mem → Option (Int32 × Mem)) (x2 : Int32) (M : Mem) : Option (Int32 × Mem) :=
  if (M 164 2) ≤ 0 then
    k2 (x2 + (1 : Int32)) M
  else
    some (x2, M)
set_option maxRecDepth 20000 in
theorem b_X3_leastSpring_58 {out : Int32 × Mem} (X : Bx p s m args meth c RX3 cX3_leastSpring 4 (some .int) g)   {x1 : Int32}   {k2 : Int32 → Mem → Option (Int32 × Mem)} (hk2 : ∀ (x2 : Int32) (M : Mem) (H : Heap) (locs : List Loc) (ls : Array Slot), k2 x2 M = some out → va_P g.1 vwCl (gW g M) H → va_S (gA g) s.heap H locs → lv_has ls 4 [(0, .ref (gz g + 163)), (1, .int x1), (2, .int x2)] → W p l e (rM 3 74) s m args below meth c H locs 0 0 (MQ below (qI g out) args s 0 0 (gA g)) (F0 m 2 ls [])) (x2 : Int32) (M : Mem) {H : Heap} {locs : List Loc} {ls : Array Slot} (hf : f_X3_leastSpring_58 x1 k2 x2 M = some out) (hP : va_P g.1 vwCl (gW g M) H) (hS : va_S (gA g) s.heap H locs) (hl : lv_has ls 4 [(0, .ref (gz g + 163)), (1, .int x1), (2, .int x2)]) : W p l e (rM 3 74) s m args below meth c H locs 0 0 (MQ below (qI g out) args s 0 0 (gA g)) (F0 m 58 ls []) := by
  have hx := X.1
  have hb := X.2.1
  refine lv_aload_n hx hb dX3_leastSpring_58 rfl (lv_at hl 0 rfl) ?_
  refine gf_3_1 X hP kc_163 q1_148 dX3_leastSpring_59 ?_
  refine gf_5_2 X hP kc_164 q1_40 dX3_leastSpring_62 ?_
  refine lv_if_le (tgt := 70) hx hb dX3_leastSpring_65 (by decide) (fun h_1 => ?_) (fun h_1 => ?_)
  · replace hf := it_t hf h_1
    refine lv_iinc (v := (x2 + (1 : Int32))) (lv' := [(2, .int (x2 + (1 : Int32))), (0, .ref (gz g + 163)), (1, .int x1)]) hx hb dX3_leastSpring_70 hl (k := 2) rfl rfl (by decide) rfl (fun ls hl => ?_)
    refine lv_goto (tgt := 2) hx hb dX3_leastSpring_73 (by decide) ?_
    exact hk2 (x2 + (1 : Int32)) M _ _ _ hf hP hS (lv_sub hl [1, 2, 0] rfl)
  · replace hf := it_f hf h_1
    refine lv_iload_n hx hb dX3_leastSpring_68 rfl (lv_at hl 2 rfl) ?_
    exact g_iret X hP hS (sm_i hf) dX3_leastSpring_69
def f_X3_leastSpring_29 (x1 : Int32) (k2 : Int32 → Mem → Option (Int32 × Mem)) : Nat → Int32 → Int32 → Mem → Option (Int32 × Mem)
  | 0, _, _, _ => none
  | n + 1, x2, x3, M =>
    if x1 ≤ x3 then
      f_X3_leastSpring_58 x1 k2 x2 M
    else
      if (M 164 2) ≤ 0 then
        f_X3_leastSpring_58 x1 k2 x2 M
      else
        cb (f_X5_turn 164 M) fun r_5 M_4 =>
        (f_X3_leastSpring_29 x1 k2 n) x2 (x3 + (1 : Int32)) M_4
set_option maxRecDepth 20000 in
theorem b_X3_leastSpring_29 {out : Int32 × Mem} (X : Bx p s m args meth c RX3 cX3_leastSpring 4 (some .int) g)   {x1 : Int32}   {k2 : Int32 → Mem → Option (Int32 × Mem)} (hk2 : ∀ (x2 : Int32) (M : Mem) (H : Heap) (locs : List Loc) (ls : Array Slot), k2 x2 M = some out → va_P g.1 vwCl (gW g M) H → va_S (gA g) s.heap H locs → lv_has ls 4 [(0, .ref (gz g + 163)), (1, .int x1), (2, .int x2)] → W p l e (rM 3 74) s m args below meth c H locs 0 0 (MQ below (qI g out) args s 0 0 (gA g)) (F0 m 2 ls [])) : ∀ (n : Nat) (x2 : Int32) (x3 : Int32) (M : Mem) (H : Heap) (locs : List Loc) (ls : Array Slot), f_X3_leastSpring_29 x1 k2 n x2 x3 M = some out → va_P g.1 vwCl (gW g M) H → va_S (gA g) s.heap H locs → lv_has ls 4 [(0, .ref (gz g + 163)), (1, .int x1), (2, .int x2), (3, .int x3)] → W p l e (rM 3 74) s m args below meth c H locs 0 0 (MQ below (qI g out) args s 0 0 (gA g)) (F0 m 29 ls []) := by
  have hx := X.1
  have hb := X.2.1
  intro n
  induction n with
  | zero => intro _ _ _ _ _ _ hf; cases hf
  | succ n ih =>
    intro x2 x3 M H locs ls hf hP hS hl
    rw [f_X3_leastSpring_29] at hf
    refine lv_iload_n hx hb dX3_leastSpring_29 rfl (lv_at hl 3 rfl) ?_
    refine lv_iload_n hx hb dX3_leastSpring_30 rfl (lv_at hl 1 rfl) ?_
    refine lv_icmp_ge (tgt := 58) hx hb dX3_leastSpring_31 (by decide) (fun h_1 => ?_) (fun h_1 => ?_)
    · replace hf := it_t hf h_1
      exact b_X3_leastSpring_58 X hk2 x2 M hf hP hS (lv_sub hl [0, 1, 2] rfl)
    · replace hf := it_f hf h_1
      refine lv_aload_n hx hb dX3_leastSpring_34 rfl (lv_at hl 0 rfl) ?_
      refine gf_3_1 X hP kc_163 q1_148 dX3_leastSpring_35 ?_
      refine gf_5_2 X hP kc_164 q1_40 dX3_leastSpring_38 ?_
      refine lv_if_le (tgt := 58) hx hb dX3_leastSpring_41 (by decide) (fun h_2 => ?_) (fun h_2 => ?_)
      · replace hf := it_t hf h_2
        exact b_X3_leastSpring_58 X hk2 x2 M hf hP hS (lv_sub hl [0, 1, 2] rfl)
      · replace hf := it_f hf h_2
        refine lv_aload_n hx hb dX3_leastSpring_44 rfl (lv_at hl 0 rfl) ?_
        refine gf_3_1 X hP kc_163 q1_148 dX3_leastSpring_45 ?_
        obtain ⟨r_5, M_4, hc_3, hf⟩ := cb_s hf
        refine g_goi (g_run X (c_X5_turn l g kc_164 hc_3) s_X5_turn (oB_5 kc_164) q3_22 ⟨Nat.le_of_ble_eq_true rfl, Nat.le_of_ble_eq_true rfl⟩ hP hS rfl hl.1 rfl (Nat.le_of_ble_eq_true rfl) ⟨Nat.le_refl _, Nat.le_refl _⟩ dX3_leastSpring_48) hS (fun H locs hP hS => ?_)
        refine lv_pop hx hb dX3_leastSpring_51 rfl ?_
        refine lv_iinc (v := (x3 + (1 : Int32))) (lv' := [(3, .int (x3 + (1 : Int32))), (0, .ref (gz g + 163)), (1, .int x1), (2, .int x2)]) hx hb dX3_leastSpring_52 hl (k := 3) rfl rfl (by decide) rfl (fun ls hl => ?_)
        refine lv_goto (tgt := 29) hx hb dX3_leastSpring_55 (by decide) ?_
        exact ih x2 (x3 + (1 : Int32)) M_4 _ _ _ hf hP hS (lv_sub hl [1, 2, 3, 0] rfl)
def f_X3_leastSpring_2 (x1 : Int32)  : Nat → Int32 → Mem → Option (Int32 × Mem)
  | 0, _, _ => none
  | n + 1, x2, M =>
    if (99 : Int32) < x2 then
      some ((-1000000 : Int32), M)
    else
      cv (f_X5_takeFrom 164 3 M) fun M_3 =>
      lt (up2 M_3 164 2 x2) fun M_4 =>
      f_X3_leastSpring_29 x1 (f_X3_leastSpring_2 x1 n) FU x2 (0 : Int32) M_4
set_option maxRecDepth 20000 in
theorem b_X3_leastSpring_2 {out : Int32 × Mem} (X : Bx p s m args meth c RX3 cX3_leastSpring 4 (some .int) g)   {x1 : Int32}     : ∀ (n : Nat) (x2 : Int32) (M : Mem) (H : Heap) (locs : List Loc) (ls : Array Slot), f_X3_leastSpring_2 x1 n x2 M = some out → va_P g.1 vwCl (gW g M) H → va_S (gA g) s.heap H locs → lv_has ls 4 [(0, .ref (gz g + 163)), (1, .int x1), (2, .int x2)] → W p l e (rM 3 74) s m args below meth c H locs 0 0 (MQ below (qI g out) args s 0 0 (gA g)) (F0 m 2 ls []) := by
  have hx := X.1
  have hb := X.2.1
  intro n
  induction n with
  | zero => intro _ _ _ _ _ hf; cases hf
  | succ n ih =>
    intro x2 M H locs ls hf hP hS hl
    rw [f_X3_leastSpring_2] at hf
    refine lv_iload_n hx hb dX3_leastSpring_2 rfl (lv_at hl 2 rfl) ?_
    refine lv_bipush (v := (99 : Int32)) hx hb dX3_leastSpring_3 (by decide) ?_
    refine lv_icmp_gt (tgt := 76) hx hb dX3_leastSpring_5 (by decide) (fun h_1 => ?_) (fun h_1 => ?_)
    · replace hf := it_t hf h_1
      refine lv_ldc hx hb X.2.2.2.1 (X.2.2.2.2.1 _ q3_23) dX3_leastSpring_76 ?_
      exact g_iret X hP hS (sm_i hf) dX3_leastSpring_78
    · replace hf := it_f hf h_1
      refine lv_aload_n hx hb dX3_leastSpring_8 rfl (lv_at hl 0 rfl) ?_
      refine gf_3_1 X hP kc_163 q1_148 dX3_leastSpring_9 ?_
      refine lv_aload_n hx hb dX3_leastSpring_12 rfl (lv_at hl 0 rfl) ?_
      refine gf_3_0 X hP kc_163 q1_147 dX3_leastSpring_13 ?_
      obtain ⟨M_3, hc_2, hf⟩ := cv_s hf
      refine g_gov (g_run X (c_X5_takeFrom l g kc_164 kc_3 hc_2) s_X5_takeFrom (oB_5 kc_164) q2_237 ⟨Nat.le_of_ble_eq_true rfl, Nat.le_of_ble_eq_true rfl⟩ hP hS rfl hl.1 rfl (Nat.le_of_ble_eq_true rfl) ⟨Nat.le_refl _, Nat.le_refl _⟩ dX3_leastSpring_16) hS (fun H locs hP hS => ?_)
      refine lv_aload_n hx hb dX3_leastSpring_19 rfl (lv_at hl 0 rfl) ?_
      refine gf_3_1 X hP kc_163 q1_148 dX3_leastSpring_20 ?_
      refine lv_iload_n hx hb dX3_leastSpring_23 rfl (lv_at hl 2 rfl) ?_
      refine gp_5_2 X hP hS kc_164 q1_40 dX3_leastSpring_24 (fun H locs M_4 eM_4 hP hS => ?_)
      replace hf := lt_go hf eM_4
      refine lv_iconst (v := (0 : Int32)) hx hb dX3_leastSpring_27 (by decide) ?_
      refine lv_istore_n (lv' := [(3, .int (0 : Int32)), (0, .ref (gz g + 163)), (1, .int x1), (2, .int x2)]) hx hb dX3_leastSpring_28 rfl hl (by decide) rfl (fun ls hl => ?_)
      exact b_X3_leastSpring_29 X ih FU x2 (0 : Int32) M_4 _ _ _ hf hP hS (lv_sub hl [1, 2, 3, 0] rfl)
def f_X3_leastSpring (x1 : Int32) (M : Mem) : Option (Int32 × Mem) :=
  f_X3_leastSpring_2 x1 FU (0 : Int32) M
set_option maxRecDepth 20000 in
theorem c_X3_leastSpring (l : Launch) (g : GC) {x1 : Int32}  {M : Mem} {out : Int32 × Mem} (hf : f_X3_leastSpring x1 M = some out) : cI l g yX3_leastSpring cX3_leastSpring 4 (some .int) (rM 3 74) [.ref (gz g + 163), .int x1] M out := by
  refine g_met (by decide) (Nat.le_of_ble_eq_true rfl) ?_
  intro p e s m below meth c X hP hS ls hl
  have X : Bx p s m _ meth c RX3 cX3_leastSpring 4 (some .int) g := X
  have hl : lv_has ls 4 [(0, .ref (gz g + 163)), (1, .int x1)] := hl
  have hx := X.1
  have hb := X.2.1
  refine lv_iconst (v := (0 : Int32)) hx hb dX3_leastSpring_0 (by decide) ?_
  refine lv_istore_n (lv' := [(2, .int (0 : Int32)), (0, .ref (gz g + 163)), (1, .int x1)]) hx hb dX3_leastSpring_1 rfl hl (by decide) rfl (fun ls hl => ?_)
  exact b_X3_leastSpring_2 X  FU (0 : Int32) M _ _ _ hf hP hS (lv_sub hl [1, 2, 0] rfl)
def f_X3_standsFrom_75 (o2 : Nat) (x3 : Int32) (x4 : Int32) (k19 : Int32 → Int32 → Int32 → Mem → Option (Int32 × Mem)) (x5 : Int32) (x7 : Int32) (t0 : Int32) (M : Mem) : Option (Int32 × Mem) :=
  k19 x5 t0 (x7 + (1 : Int32)) M
set_option maxRecDepth 20000 in
theorem b_X3_standsFrom_75 {out : Int32 × Mem} (X : Bx p s m args meth c RX3 cX3_standsFrom 8 (some .boolean) g)   {o2 : Nat} {x3 : Int32} {x4 : Int32}  (h2 : kd o2 = 2) {k19 : Int32 → Int32 → Int32 → Mem → Option (Int32 × Mem)} (hk19 : ∀ (x5 : Int32) (x6 : Int32) (x7 : Int32) (M : Mem) (H : Heap) (locs : List Loc) (ls : Array Slot), k19 x5 x6 x7 M = some out → va_P g.1 vwCl (gW g M) H → va_S (gA g) s.heap H locs → lv_has ls 8 [(0, .ref (gz g + 163)), (2, .ref (gz g + o2)), (3, .int x3), (4, .int x4), (5, .int x5), (6, .int x6), (7, .int x7)] → W p l e (rM 0 0) s m args below meth c H locs 0 0 (MQ below (qI g out) args s 0 0 (gA g)) (F0 m 19 ls [])) (x5 : Int32) (x7 : Int32) (t0 : Int32) (M : Mem) {H : Heap} {locs : List Loc} {ls : Array Slot} (hf : f_X3_standsFrom_75 o2 x3 x4 k19 x5 x7 t0 M = some out) (hP : va_P g.1 vwCl (gW g M) H) (hS : va_S (gA g) s.heap H locs) (hl : lv_has ls 8 [(0, .ref (gz g + 163)), (2, .ref (gz g + o2)), (3, .int x3), (4, .int x4), (5, .int x5), (7, .int x7)]) : W p l e (rM 0 0) s m args below meth c H locs 0 0 (MQ below (qI g out) args s 0 0 (gA g)) (F0 m 75 ls [.int t0]) := by
  have hx := X.1
  have hb := X.2.1
  refine lv_istore (lv' := [(6, .int t0), (0, .ref (gz g + 163)), (2, .ref (gz g + o2)), (3, .int x3), (4, .int x4), (5, .int x5), (7, .int x7)]) hx hb dX3_standsFrom_75 hl (by decide) rfl (fun ls hl => ?_)
  refine lv_iinc (v := (x7 + (1 : Int32))) (lv' := [(7, .int (x7 + (1 : Int32))), (6, .int t0), (0, .ref (gz g + 163)), (2, .ref (gz g + o2)), (3, .int x3), (4, .int x4), (5, .int x5)]) hx hb dX3_standsFrom_77 hl (k := 6) rfl rfl (by decide) rfl (fun ls hl => ?_)
  refine lv_goto (tgt := 19) hx hb dX3_standsFrom_80 (by decide) ?_
  exact hk19 x5 t0 (x7 + (1 : Int32)) M _ _ _ hf hP hS (lv_sub hl [2, 3, 4, 5, 6, 1, 0] rfl)
def f_X3_standsFrom_19 (o2 : Nat) (x3 : Int32) (x4 : Int32)  : Nat → Int32 → Int32 → Int32 → Mem → Option (Int32 × Mem)
  | 0, _, _, _, _ => none
  | n + 1, x5, x6, x7, M =>
    if (x3 + x4) ≤ x7 then
      some ((1 : Int32), M)
    else
      ck x6 12 <|
      ck x7 40 <|
      if ((M (3 + 1) x6.toNatClampNeg) &&& x5) = (M (o2 + 1) x7.toNatClampNeg) then
        if (M 3 0) ≤ (x6 + (1 : Int32)) then
          f_X3_standsFrom_75 o2 x3 x4 (f_X3_standsFrom_19 o2 x3 x4 n) x5 x7 (0 : Int32) M
        else
          f_X3_standsFrom_75 o2 x3 x4 (f_X3_standsFrom_19 o2 x3 x4 n) x5 x7 (x6 + (1 : Int32)) M
      else
        some ((0 : Int32), M)
set_option maxRecDepth 20000 in
theorem b_X3_standsFrom_19 {out : Int32 × Mem} (X : Bx p s m args meth c RX3 cX3_standsFrom 8 (some .boolean) g)   {o2 : Nat} {x3 : Int32} {x4 : Int32}  (h2 : kd o2 = 2)   : ∀ (n : Nat) (x5 : Int32) (x6 : Int32) (x7 : Int32) (M : Mem) (H : Heap) (locs : List Loc) (ls : Array Slot), f_X3_standsFrom_19 o2 x3 x4 n x5 x6 x7 M = some out → va_P g.1 vwCl (gW g M) H → va_S (gA g) s.heap H locs → lv_has ls 8 [(0, .ref (gz g + 163)), (2, .ref (gz g + o2)), (3, .int x3), (4, .int x4), (5, .int x5), (6, .int x6), (7, .int x7)] → W p l e (rM 0 0) s m args below meth c H locs 0 0 (MQ below (qI g out) args s 0 0 (gA g)) (F0 m 19 ls []) := by
  have hx := X.1
  have hb := X.2.1
  intro n
  induction n with
  | zero => intro _ _ _ _ _ _ _ hf; cases hf
  | succ n ih =>
    intro x5 x6 x7 M H locs ls hf hP hS hl
    rw [f_X3_standsFrom_19] at hf
    refine lv_iload hx hb dX3_standsFrom_19 (lv_at hl 6 rfl) ?_
    refine lv_iload_n hx hb dX3_standsFrom_21 rfl (lv_at hl 2 rfl) ?_
    refine lv_iload hx hb dX3_standsFrom_22 (lv_at hl 3 rfl) ?_
    refine lv_iadd hx hb dX3_standsFrom_24 ?_
    refine lv_icmp_ge (tgt := 83) hx hb dX3_standsFrom_25 (by decide) (fun h_1 => ?_) (fun h_1 => ?_)
    · replace hf := it_t hf h_1
      refine lv_iconst (v := (1 : Int32)) hx hb dX3_standsFrom_83 (by decide) ?_
      exact g_zret X hP hS rfl (sm_i hf) dX3_standsFrom_84
    · replace hf := it_f hf h_1
      refine lv_aload_n hx hb dX3_standsFrom_28 rfl (lv_at hl 0 rfl) ?_
      refine gf_3_0 X hP kc_163 q1_147 dX3_standsFrom_29 ?_
      refine gf_5_6 X hP kc_3 q1_52 dX3_standsFrom_32 ?_
      refine lv_iload hx hb dX3_standsFrom_35 (lv_at hl 5 rfl) ?_
      obtain ⟨hi_2, hf⟩ := ck_s hf
      refine ga_ld X hP (iA_9 (kdW1 kc_3)) hi_2 dX3_standsFrom_37 ?_
      refine lv_iload hx hb dX3_standsFrom_38 (lv_at hl 4 rfl) ?_
      refine lv_iand hx hb dX3_standsFrom_40 ?_
      refine lv_aload_n hx hb dX3_standsFrom_41 rfl (lv_at hl 1 rfl) ?_
      refine gf_2_0 X hP h2 q1_182 dX3_standsFrom_42 ?_
      refine lv_iload hx hb dX3_standsFrom_45 (lv_at hl 6 rfl) ?_
      obtain ⟨hi_3, hf⟩ := ck_s hf
      refine ga_ld X hP (iA_10 (kdR1 h2)) hi_3 dX3_standsFrom_47 ?_
      refine lv_icmp_eq (tgt := 53) hx hb dX3_standsFrom_48 (by decide) (fun h_4 => ?_) (fun h_4 => ?_)
      · replace hf := it_t hf h_4
        refine lv_iload hx hb dX3_standsFrom_53 (lv_at hl 5 rfl) ?_
        refine lv_iconst (v := (1 : Int32)) hx hb dX3_standsFrom_55 (by decide) ?_
        refine lv_iadd hx hb dX3_standsFrom_56 ?_
        refine lv_aload_n hx hb dX3_standsFrom_57 rfl (lv_at hl 0 rfl) ?_
        refine gf_3_0 X hP kc_163 q1_147 dX3_standsFrom_58 ?_
        refine gf_5_0 X hP kc_3 q1_32 dX3_standsFrom_61 ?_
        refine lv_icmp_ge (tgt := 74) hx hb dX3_standsFrom_64 (by decide) (fun h_5 => ?_) (fun h_5 => ?_)
        · replace hf := it_t hf h_5
          refine lv_iconst (v := (0 : Int32)) hx hb dX3_standsFrom_74 (by decide) ?_
          exact b_X3_standsFrom_75 X h2 ih x5 x7 (0 : Int32) M hf hP hS (lv_sub hl [0, 1, 2, 3, 4, 6] rfl)
        · replace hf := it_f hf h_5
          refine lv_iload hx hb dX3_standsFrom_67 (lv_at hl 5 rfl) ?_
          refine lv_iconst (v := (1 : Int32)) hx hb dX3_standsFrom_69 (by decide) ?_
          refine lv_iadd hx hb dX3_standsFrom_70 ?_
          refine lv_goto (tgt := 75) hx hb dX3_standsFrom_71 (by decide) ?_
          exact b_X3_standsFrom_75 X h2 ih x5 x7 (x6 + (1 : Int32)) M hf hP hS (lv_sub hl [0, 1, 2, 3, 4, 6] rfl)
      · replace hf := it_f hf h_4
        refine lv_iconst (v := (0 : Int32)) hx hb dX3_standsFrom_51 (by decide) ?_
        exact g_zret X hP hS rfl (sm_i hf) dX3_standsFrom_52
def f_X3_standsFrom (x1 : Int32) (o2 : Nat) (x3 : Int32) (x4 : Int32) (M : Mem) : Option (Int32 × Mem) :=
  lt (((1 : Int32) <<< ((M 3 1) &&& 31)) - (1 : Int32)) fun x5_1 =>
  f_X3_standsFrom_19 o2 x3 x4 FU x5_1 x1 x3 M
set_option maxRecDepth 20000 in
theorem c_X3_standsFrom (l : Launch) (g : GC) {x1 : Int32} {o2 : Nat} {x3 : Int32} {x4 : Int32} (h2 : kd o2 = 2) {M : Mem} {out : Int32 × Mem} (hf : f_X3_standsFrom x1 o2 x3 x4 M = some out) : cI l g yX3_standsFrom cX3_standsFrom 8 (some .boolean) (rM 0 0) [.ref (gz g + 163), .int x1, .ref (gz g + o2), .int x3, .int x4] M out := by
  refine g_met (by decide) (Nat.le_of_ble_eq_true rfl) ?_
  intro p e s m below meth c X hP hS ls hl
  have X : Bx p s m _ meth c RX3 cX3_standsFrom 8 (some .boolean) g := X
  have hl : lv_has ls 8 [(0, .ref (gz g + 163)), (1, .int x1), (2, .ref (gz g + o2)), (3, .int x3), (4, .int x4)] := hl
  have hx := X.1
  have hb := X.2.1
  refine lv_iconst (v := (1 : Int32)) hx hb dX3_standsFrom_0 (by decide) ?_
  refine lv_aload_n hx hb dX3_standsFrom_1 rfl (lv_at hl 0 rfl) ?_
  refine gf_3_0 X hP kc_163 q1_147 dX3_standsFrom_2 ?_
  refine gf_5_1 X hP kc_3 q1_36 dX3_standsFrom_5 ?_
  refine lv_ishl hx hb dX3_standsFrom_8 ?_
  refine lv_iconst (v := (1 : Int32)) hx hb dX3_standsFrom_9 (by decide) ?_
  refine lv_isub hx hb dX3_standsFrom_10 ?_
  refine lv_topi (fun x5_1 ex5_1 => ?_)
  replace hf := lt_go hf ex5_1
  refine lv_istore (lv' := [(5, .int x5_1), (0, .ref (gz g + 163)), (1, .int x1), (2, .ref (gz g + o2)), (3, .int x3), (4, .int x4)]) hx hb dX3_standsFrom_11 hl (by decide) rfl (fun ls hl => ?_)
  refine lv_iload_n hx hb dX3_standsFrom_13 rfl (lv_at hl 2 rfl) ?_
  refine lv_istore (lv' := [(6, .int x1), (5, .int x5_1), (0, .ref (gz g + 163)), (1, .int x1), (2, .ref (gz g + o2)), (3, .int x3), (4, .int x4)]) hx hb dX3_standsFrom_14 hl (by decide) rfl (fun ls hl => ?_)
  refine lv_iload_n hx hb dX3_standsFrom_16 rfl (lv_at hl 5 rfl) ?_
  refine lv_istore (lv' := [(7, .int x3), (6, .int x1), (5, .int x5_1), (0, .ref (gz g + 163)), (1, .int x1), (2, .ref (gz g + o2)), (3, .int x3), (4, .int x4)]) hx hb dX3_standsFrom_17 hl (by decide) rfl (fun ls hl => ?_)
  exact b_X3_standsFrom_19 X h2 FU x5_1 x1 x3 M _ _ _ hf hP hS (lv_sub hl [3, 5, 6, 7, 2, 1, 0] rfl)
def f_X3_columnsOfTune_39 (o1 : Nat) (x2 : Int32) (x3 : Int32) (k6 : Int32 → Int32 → Mem → Option (Int32 × Mem)) (x4 : Int32) (x5 : Int32) (M : Mem) : Option (Int32 × Mem) :=
  k6 x4 (x5 + (1 : Int32)) M
set_option maxRecDepth 20000 in
theorem b_X3_columnsOfTune_39 {out : Int32 × Mem} (X : Bx p s m args meth c RX3 cX3_columnsOfTune 6 (some .int) g)   {o1 : Nat} {x2 : Int32} {x3 : Int32}  (h1 : kd o1 = 2) {k6 : Int32 → Int32 → Mem → Option (Int32 × Mem)} (hk6 : ∀ (x4 : Int32) (x5 : Int32) (M : Mem) (H : Heap) (locs : List Loc) (ls : Array Slot), k6 x4 x5 M = some out → va_P g.1 vwCl (gW g M) H → va_S (gA g) s.heap H locs → lv_has ls 6 [(0, .ref (gz g + 163)), (1, .ref (gz g + o1)), (2, .int x2), (3, .int x3), (4, .int x4), (5, .int x5)] → W p l e (rM 1 27) s m args below meth c H locs 0 0 (MQ below (qI g out) args s 0 0 (gA g)) (F0 m 6 ls [])) (x4 : Int32) (x5 : Int32) (M : Mem) {H : Heap} {locs : List Loc} {ls : Array Slot} (hf : f_X3_columnsOfTune_39 o1 x2 x3 k6 x4 x5 M = some out) (hP : va_P g.1 vwCl (gW g M) H) (hS : va_S (gA g) s.heap H locs) (hl : lv_has ls 6 [(0, .ref (gz g + 163)), (1, .ref (gz g + o1)), (2, .int x2), (3, .int x3), (4, .int x4), (5, .int x5)]) : W p l e (rM 1 27) s m args below meth c H locs 0 0 (MQ below (qI g out) args s 0 0 (gA g)) (F0 m 39 ls []) := by
  have hx := X.1
  have hb := X.2.1
  refine lv_iinc (v := (x5 + (1 : Int32))) (lv' := [(5, .int (x5 + (1 : Int32))), (0, .ref (gz g + 163)), (1, .ref (gz g + o1)), (2, .int x2), (3, .int x3), (4, .int x4)]) hx hb dX3_columnsOfTune_39 hl (k := 5) rfl rfl (by decide) rfl (fun ls hl => ?_)
  refine lv_goto (tgt := 6) hx hb dX3_columnsOfTune_42 (by decide) ?_
  exact hk6 x4 (x5 + (1 : Int32)) M _ _ _ hf hP hS (lv_sub hl [1, 2, 3, 4, 5, 0] rfl)
def f_X3_columnsOfTune_6 (o1 : Nat) (x2 : Int32) (x3 : Int32)  : Nat → Int32 → Int32 → Mem → Option (Int32 × Mem)
  | 0, _, _, _ => none
  | n + 1, x4, x5, M =>
    if (M 3 0) ≤ x5 then
      some (x4, M)
    else
      cb (f_X3_standsFrom x5 o1 x2 x3 M) fun r_4 M_3 =>
      if r_4 = 0 then
        f_X3_columnsOfTune_39 o1 x2 x3 (f_X3_columnsOfTune_6 o1 x2 x3 n) x4 x5 M_3
      else
        lt (x4 ||| ((1 : Int32) <<< (x5 &&& 31))) fun x4_6 =>
        f_X3_columnsOfTune_39 o1 x2 x3 (f_X3_columnsOfTune_6 o1 x2 x3 n) x4_6 x5 M_3
set_option maxRecDepth 20000 in
theorem b_X3_columnsOfTune_6 {out : Int32 × Mem} (X : Bx p s m args meth c RX3 cX3_columnsOfTune 6 (some .int) g)   {o1 : Nat} {x2 : Int32} {x3 : Int32}  (h1 : kd o1 = 2)   : ∀ (n : Nat) (x4 : Int32) (x5 : Int32) (M : Mem) (H : Heap) (locs : List Loc) (ls : Array Slot), f_X3_columnsOfTune_6 o1 x2 x3 n x4 x5 M = some out → va_P g.1 vwCl (gW g M) H → va_S (gA g) s.heap H locs → lv_has ls 6 [(0, .ref (gz g + 163)), (1, .ref (gz g + o1)), (2, .int x2), (3, .int x3), (4, .int x4), (5, .int x5)] → W p l e (rM 1 27) s m args below meth c H locs 0 0 (MQ below (qI g out) args s 0 0 (gA g)) (F0 m 6 ls []) := by
  have hx := X.1
  have hb := X.2.1
  intro n
  induction n with
  | zero => intro _ _ _ _ _ _ hf; cases hf
  | succ n ih =>
    intro x4 x5 M H locs ls hf hP hS hl
    rw [f_X3_columnsOfTune_6] at hf
    refine lv_iload hx hb dX3_columnsOfTune_6 (lv_at hl 5 rfl) ?_
    refine lv_aload_n hx hb dX3_columnsOfTune_8 rfl (lv_at hl 0 rfl) ?_
    refine gf_3_0 X hP kc_163 q1_147 dX3_columnsOfTune_9 ?_
    refine gf_5_0 X hP kc_3 q1_32 dX3_columnsOfTune_12 ?_
    refine lv_icmp_ge (tgt := 45) hx hb dX3_columnsOfTune_15 (by decide) (fun h_1 => ?_) (fun h_1 => ?_)
    · replace hf := it_t hf h_1
      refine lv_iload hx hb dX3_columnsOfTune_45 (lv_at hl 4 rfl) ?_
      exact g_iret X hP hS (sm_i hf) dX3_columnsOfTune_47
    · replace hf := it_f hf h_1
      refine lv_aload_n hx hb dX3_columnsOfTune_18 rfl (lv_at hl 0 rfl) ?_
      refine lv_iload hx hb dX3_columnsOfTune_19 (lv_at hl 5 rfl) ?_
      refine lv_aload_n hx hb dX3_columnsOfTune_21 rfl (lv_at hl 1 rfl) ?_
      refine lv_iload_n hx hb dX3_columnsOfTune_22 rfl (lv_at hl 2 rfl) ?_
      refine lv_iload_n hx hb dX3_columnsOfTune_23 rfl (lv_at hl 3 rfl) ?_
      obtain ⟨r_4, M_3, hc_2, hf⟩ := cb_s hf
      refine g_goi (g_run X (c_X3_standsFrom l g h1 hc_2) s_X3_standsFrom (oB_3 kc_163) q3_70 ⟨Nat.le_of_ble_eq_true rfl, Nat.le_of_ble_eq_true rfl⟩ hP hS rfl hl.1 rfl (Nat.le_of_ble_eq_true rfl) ⟨Nat.le_refl _, Nat.le_refl _⟩ dX3_columnsOfTune_24) hS (fun H locs hP hS => ?_)
      refine lv_if_eq (tgt := 39) hx hb dX3_columnsOfTune_27 (by decide) (fun h_5 => ?_) (fun h_5 => ?_)
      · replace hf := it_t hf h_5
        exact b_X3_columnsOfTune_39 X h1 ih x4 x5 M_3 hf hP hS hl
      · replace hf := it_f hf h_5
        refine lv_iload hx hb dX3_columnsOfTune_30 (lv_at hl 4 rfl) ?_
        refine lv_iconst (v := (1 : Int32)) hx hb dX3_columnsOfTune_32 (by decide) ?_
        refine lv_iload hx hb dX3_columnsOfTune_33 (lv_at hl 5 rfl) ?_
        refine lv_ishl hx hb dX3_columnsOfTune_35 ?_
        refine lv_ior hx hb dX3_columnsOfTune_36 ?_
        refine lv_topi (fun x4_6 ex4_6 => ?_)
        replace hf := lt_go hf ex4_6
        refine lv_istore (lv' := [(4, .int x4_6), (0, .ref (gz g + 163)), (1, .ref (gz g + o1)), (2, .int x2), (3, .int x3), (5, .int x5)]) hx hb dX3_columnsOfTune_37 hl (by decide) rfl (fun ls hl => ?_)
        exact b_X3_columnsOfTune_39 X h1 ih x4_6 x5 M_3 hf hP hS (lv_sub hl [1, 2, 3, 4, 0, 5] rfl)
def f_X3_columnsOfTune (o1 : Nat) (x2 : Int32) (x3 : Int32) (M : Mem) : Option (Int32 × Mem) :=
  f_X3_columnsOfTune_6 o1 x2 x3 FU (0 : Int32) (0 : Int32) M
set_option maxRecDepth 20000 in
theorem c_X3_columnsOfTune (l : Launch) (g : GC) {o1 : Nat} {x2 : Int32} {x3 : Int32} (h1 : kd o1 = 2) {M : Mem} {out : Int32 × Mem} (hf : f_X3_columnsOfTune o1 x2 x3 M = some out) : cI l g yX3_columnsOfTune cX3_columnsOfTune 6 (some .int) (rM 1 27) [.ref (gz g + 163), .ref (gz g + o1), .int x2, .int x3] M out := by
  refine g_met (by decide) (Nat.le_of_ble_eq_true rfl) ?_
  intro p e s m below meth c X hP hS ls hl
  have X : Bx p s m _ meth c RX3 cX3_columnsOfTune 6 (some .int) g := X
  have hl : lv_has ls 6 [(0, .ref (gz g + 163)), (1, .ref (gz g + o1)), (2, .int x2), (3, .int x3)] := hl
  have hx := X.1
  have hb := X.2.1
  refine lv_iconst (v := (0 : Int32)) hx hb dX3_columnsOfTune_0 (by decide) ?_
  refine lv_istore (lv' := [(4, .int (0 : Int32)), (0, .ref (gz g + 163)), (1, .ref (gz g + o1)), (2, .int x2), (3, .int x3)]) hx hb dX3_columnsOfTune_1 hl (by decide) rfl (fun ls hl => ?_)
  refine lv_iconst (v := (0 : Int32)) hx hb dX3_columnsOfTune_3 (by decide) ?_
  refine lv_istore (lv' := [(5, .int (0 : Int32)), (4, .int (0 : Int32)), (0, .ref (gz g + 163)), (1, .ref (gz g + o1)), (2, .int x2), (3, .int x3)]) hx hb dX3_columnsOfTune_4 hl (by decide) rfl (fun ls hl => ?_)
  exact b_X3_columnsOfTune_6 X h1 FU (0 : Int32) (0 : Int32) M _ _ _ hf hP hS (lv_sub hl [2, 3, 4, 5, 1, 0] rfl)
def f_X3_loudOf_36 (x1 : Int32) (k4 : Int32 → Int32 → Mem → Option (Int32 × Mem)) (x2 : Int32) (x3 : Int32) (M : Mem) : Option (Int32 × Mem) :=
  k4 x2 (x3 + (1 : Int32)) M
set_option maxRecDepth 20000 in
theorem b_X3_loudOf_36 {out : Int32 × Mem} (X : Bx p s m args meth c RX3 cX3_loudOf 4 (some .int) g)   {x1 : Int32}   {k4 : Int32 → Int32 → Mem → Option (Int32 × Mem)} (hk4 : ∀ (x2 : Int32) (x3 : Int32) (M : Mem) (H : Heap) (locs : List Loc) (ls : Array Slot), k4 x2 x3 M = some out → va_P g.1 vwCl (gW g M) H → va_S (gA g) s.heap H locs → lv_has ls 4 [(0, .ref (gz g + 163)), (1, .int x1), (2, .int x2), (3, .int x3)] → W p l e (rM 0 0) s m args below meth c H locs 0 0 (MQ below (qI g out) args s 0 0 (gA g)) (F0 m 4 ls [])) (x2 : Int32) (x3 : Int32) (M : Mem) {H : Heap} {locs : List Loc} {ls : Array Slot} (hf : f_X3_loudOf_36 x1 k4 x2 x3 M = some out) (hP : va_P g.1 vwCl (gW g M) H) (hS : va_S (gA g) s.heap H locs) (hl : lv_has ls 4 [(0, .ref (gz g + 163)), (1, .int x1), (2, .int x2), (3, .int x3)]) : W p l e (rM 0 0) s m args below meth c H locs 0 0 (MQ below (qI g out) args s 0 0 (gA g)) (F0 m 36 ls []) := by
  have hx := X.1
  have hb := X.2.1
  refine lv_iinc (v := (x3 + (1 : Int32))) (lv' := [(3, .int (x3 + (1 : Int32))), (0, .ref (gz g + 163)), (1, .int x1), (2, .int x2)]) hx hb dX3_loudOf_36 hl (k := 3) rfl rfl (by decide) rfl (fun ls hl => ?_)
  refine lv_goto (tgt := 4) hx hb dX3_loudOf_39 (by decide) ?_
  exact hk4 x2 (x3 + (1 : Int32)) M _ _ _ hf hP hS (lv_sub hl [1, 2, 3, 0] rfl)
def f_X3_loudOf_4 (x1 : Int32)  : Nat → Int32 → Int32 → Mem → Option (Int32 × Mem)
  | 0, _, _, _ => none
  | n + 1, x2, x3, M =>
    if (M 3 1) ≤ x3 then
      some (x2, M)
    else
      if ((x1 >>> (x3 &&& 31)) &&& (1 : Int32)) = (1 : Int32) then
        ck x3 6 <|
        lt (x2 + (M (3 + 4) x3.toNatClampNeg)) fun x2_4 =>
        f_X3_loudOf_36 x1 (f_X3_loudOf_4 x1 n) x2_4 x3 M
      else
        f_X3_loudOf_36 x1 (f_X3_loudOf_4 x1 n) x2 x3 M
set_option maxRecDepth 20000 in
theorem b_X3_loudOf_4 {out : Int32 × Mem} (X : Bx p s m args meth c RX3 cX3_loudOf 4 (some .int) g)   {x1 : Int32}     : ∀ (n : Nat) (x2 : Int32) (x3 : Int32) (M : Mem) (H : Heap) (locs : List Loc) (ls : Array Slot), f_X3_loudOf_4 x1 n x2 x3 M = some out → va_P g.1 vwCl (gW g M) H → va_S (gA g) s.heap H locs → lv_has ls 4 [(0, .ref (gz g + 163)), (1, .int x1), (2, .int x2), (3, .int x3)] → W p l e (rM 0 0) s m args below meth c H locs 0 0 (MQ below (qI g out) args s 0 0 (gA g)) (F0 m 4 ls []) := by
  have hx := X.1
  have hb := X.2.1
  intro n
  induction n with
  | zero => intro _ _ _ _ _ _ hf; cases hf
  | succ n ih =>
    intro x2 x3 M H locs ls hf hP hS hl
    rw [f_X3_loudOf_4] at hf
    refine lv_iload_n hx hb dX3_loudOf_4 rfl (lv_at hl 3 rfl) ?_
    refine lv_aload_n hx hb dX3_loudOf_5 rfl (lv_at hl 0 rfl) ?_
    refine gf_3_0 X hP kc_163 q1_147 dX3_loudOf_6 ?_
    refine gf_5_1 X hP kc_3 q1_36 dX3_loudOf_9 ?_
    refine lv_icmp_ge (tgt := 42) hx hb dX3_loudOf_12 (by decide) (fun h_1 => ?_) (fun h_1 => ?_)
    · replace hf := it_t hf h_1
      refine lv_iload_n hx hb dX3_loudOf_42 rfl (lv_at hl 2 rfl) ?_
      exact g_iret X hP hS (sm_i hf) dX3_loudOf_43
    · replace hf := it_f hf h_1
      refine lv_iload_n hx hb dX3_loudOf_15 rfl (lv_at hl 1 rfl) ?_
      refine lv_iload_n hx hb dX3_loudOf_16 rfl (lv_at hl 3 rfl) ?_
      refine lv_ishr hx hb dX3_loudOf_17 ?_
      refine lv_iconst (v := (1 : Int32)) hx hb dX3_loudOf_18 (by decide) ?_
      refine lv_iand hx hb dX3_loudOf_19 ?_
      refine lv_iconst (v := (1 : Int32)) hx hb dX3_loudOf_20 (by decide) ?_
      refine lv_icmp_ne (tgt := 36) hx hb dX3_loudOf_21 (by decide) (fun h_2 => ?_) (fun h_2 => ?_)
      · replace hf := it_f hf h_2
        exact b_X3_loudOf_36 X ih x2 x3 M hf hP hS hl
      · replace hf := it_t hf h_2
        refine lv_iload_n hx hb dX3_loudOf_24 rfl (lv_at hl 2 rfl) ?_
        refine lv_aload_n hx hb dX3_loudOf_25 rfl (lv_at hl 0 rfl) ?_
        refine gf_3_0 X hP kc_163 q1_147 dX3_loudOf_26 ?_
        refine gf_5_9 X hP kc_3 q1_65 dX3_loudOf_29 ?_
        refine lv_iload_n hx hb dX3_loudOf_32 rfl (lv_at hl 3 rfl) ?_
        obtain ⟨hi_3, hf⟩ := ck_s hf
        refine ga_ld X hP (iA_8 (kdW4 kc_3)) hi_3 dX3_loudOf_33 ?_
        refine lv_iadd hx hb dX3_loudOf_34 ?_
        refine lv_topi (fun x2_4 ex2_4 => ?_)
        replace hf := lt_go hf ex2_4
        refine lv_istore_n (lv' := [(2, .int x2_4), (0, .ref (gz g + 163)), (1, .int x1), (3, .int x3)]) hx hb dX3_loudOf_35 rfl hl (by decide) rfl (fun ls hl => ?_)
        exact b_X3_loudOf_36 X ih x2_4 x3 M hf hP hS (lv_sub hl [1, 2, 0, 3] rfl)
def f_X3_loudOf (x1 : Int32) (M : Mem) : Option (Int32 × Mem) :=
  f_X3_loudOf_4 x1 FU (0 : Int32) (0 : Int32) M
set_option maxRecDepth 20000 in
theorem c_X3_loudOf (l : Launch) (g : GC) {x1 : Int32}  {M : Mem} {out : Int32 × Mem} (hf : f_X3_loudOf x1 M = some out) : cI l g yX3_loudOf cX3_loudOf 4 (some .int) (rM 0 0) [.ref (gz g + 163), .int x1] M out := by
  refine g_met (by decide) (Nat.le_of_ble_eq_true rfl) ?_
  intro p e s m below meth c X hP hS ls hl
  have X : Bx p s m _ meth c RX3 cX3_loudOf 4 (some .int) g := X
  have hl : lv_has ls 4 [(0, .ref (gz g + 163)), (1, .int x1)] := hl
  have hx := X.1
  have hb := X.2.1
  refine lv_iconst (v := (0 : Int32)) hx hb dX3_loudOf_0 (by decide) ?_
  refine lv_istore_n (lv' := [(2, .int (0 : Int32)), (0, .ref (gz g + 163)), (1, .int x1)]) hx hb dX3_loudOf_1 rfl hl (by decide) rfl (fun ls hl => ?_)
  refine lv_iconst (v := (0 : Int32)) hx hb dX3_loudOf_2 (by decide) ?_
  refine lv_istore_n (lv' := [(3, .int (0 : Int32)), (2, .int (0 : Int32)), (0, .ref (gz g + 163)), (1, .int x1)]) hx hb dX3_loudOf_3 rfl hl (by decide) rfl (fun ls hl => ?_)
  exact b_X3_loudOf_4 X  FU (0 : Int32) (0 : Int32) M _ _ _ hf hP hS (lv_sub hl [2, 3, 1, 0] rfl)
def f_X3_setsThatRing_70 (x1 : Int32) (x2 : Int32) (k20 : Int32 → Int32 → Int32 → Int32 → Int32 → Mem → Option (Int32 × Mem)) (x3 : Int32) (x4 : Int32) (x5 : Int32) (x6 : Int32) (x7 : Int32) (M : Mem) : Option (Int32 × Mem) :=
  k20 x3 x4 x5 x6 (x7 + (1 : Int32)) M
set_option maxRecDepth 20000 in
theorem b_X3_setsThatRing_70 {out : Int32 × Mem} (X : Bx p s m args meth c RX3 cX3_setsThatRing 8 (some .int) g)   {x1 : Int32} {x2 : Int32}   {k20 : Int32 → Int32 → Int32 → Int32 → Int32 → Mem → Option (Int32 × Mem)} (hk20 : ∀ (x3 : Int32) (x4 : Int32) (x5 : Int32) (x6 : Int32) (x7 : Int32) (M : Mem) (H : Heap) (locs : List Loc) (ls : Array Slot), k20 x3 x4 x5 x6 x7 M = some out → va_P g.1 vwCl (gW g M) H → va_S (gA g) s.heap H locs → lv_has ls 8 [(0, .ref (gz g + 163)), (1, .int x1), (2, .int x2), (3, .int x3), (4, .int x4), (5, .int x5), (6, .int x6), (7, .int x7)] → W p l e (rM 1 23) s m args below meth c H locs 0 0 (MQ below (qI g out) args s 0 0 (gA g)) (F0 m 20 ls [])) (x3 : Int32) (x4 : Int32) (x5 : Int32) (x6 : Int32) (x7 : Int32) (M : Mem) {H : Heap} {locs : List Loc} {ls : Array Slot} (hf : f_X3_setsThatRing_70 x1 x2 k20 x3 x4 x5 x6 x7 M = some out) (hP : va_P g.1 vwCl (gW g M) H) (hS : va_S (gA g) s.heap H locs) (hl : lv_has ls 8 [(0, .ref (gz g + 163)), (1, .int x1), (2, .int x2), (3, .int x3), (4, .int x4), (5, .int x5), (6, .int x6), (7, .int x7)]) : W p l e (rM 1 23) s m args below meth c H locs 0 0 (MQ below (qI g out) args s 0 0 (gA g)) (F0 m 70 ls []) := by
  have hx := X.1
  have hb := X.2.1
  refine lv_iinc (v := (x7 + (1 : Int32))) (lv' := [(7, .int (x7 + (1 : Int32))), (0, .ref (gz g + 163)), (1, .int x1), (2, .int x2), (3, .int x3), (4, .int x4), (5, .int x5), (6, .int x6)]) hx hb dX3_setsThatRing_70 hl (k := 7) rfl rfl (by decide) rfl (fun ls hl => ?_)
  refine lv_goto (tgt := 20) hx hb dX3_setsThatRing_73 (by decide) ?_
  exact hk20 x3 x4 x5 x6 (x7 + (1 : Int32)) M _ _ _ hf hP hS (lv_sub hl [1, 2, 3, 4, 5, 6, 7, 0] rfl)
def f_X3_setsThatRing_20 (x1 : Int32) (x2 : Int32)  : Nat → Int32 → Int32 → Int32 → Int32 → Int32 → Mem → Option (Int32 × Mem)
  | 0, _, _, _, _, _, _ => none
  | n + 1, x3, x4, x5, x6, x7, M =>
    if ((1 : Int32) <<< ((M 3 1) &&& 31)) ≤ x7 then
      lt x2 fun v_2 =>
      if v_2 = (0 : Int32) then
        some (x4, M)
      else
        if v_2 = (1 : Int32) then
          if x4 = 0 then
            some ((0 : Int32), M)
          else
            some (x5, M)
        else
          some (x6, M)
    else
      if (x7 &&& (x3 ^^^ (-1 : Int32))) = 0 then
        cb (f_X3_loudOf x7 M) fun r_9 M_8 =>
        if r_9 = x1 then
          lt (x5 &&& x7) fun x5_11 =>
          lt (x6 ||| x7) fun x6_12 =>
          f_X3_setsThatRing_70 x1 x2 (f_X3_setsThatRing_20 x1 x2 n) x3 (x4 + (1 : Int32)) x5_11 x6_12 x7 M_8
        else
          f_X3_setsThatRing_70 x1 x2 (f_X3_setsThatRing_20 x1 x2 n) x3 x4 x5 x6 x7 M_8
      else
        f_X3_setsThatRing_70 x1 x2 (f_X3_setsThatRing_20 x1 x2 n) x3 x4 x5 x6 x7 M
set_option maxRecDepth 20000 in
theorem b_X3_setsThatRing_20 {out : Int32 × Mem} (X : Bx p s m args meth c RX3 cX3_setsThatRing 8 (some .int) g)   {x1 : Int32} {x2 : Int32}     : ∀ (n : Nat) (x3 : Int32) (x4 : Int32) (x5 : Int32) (x6 : Int32) (x7 : Int32) (M : Mem) (H : Heap) (locs : List Loc) (ls : Array Slot), f_X3_setsThatRing_20 x1 x2 n x3 x4 x5 x6 x7 M = some out → va_P g.1 vwCl (gW g M) H → va_S (gA g) s.heap H locs → lv_has ls 8 [(0, .ref (gz g + 163)), (1, .int x1), (2, .int x2), (3, .int x3), (4, .int x4), (5, .int x5), (6, .int x6), (7, .int x7)] → W p l e (rM 1 23) s m args below meth c H locs 0 0 (MQ below (qI g out) args s 0 0 (gA g)) (F0 m 20 ls []) := by
  have hx := X.1
  have hb := X.2.1
  intro n
  induction n with
  | zero => intro _ _ _ _ _ _ _ _ _ hf; cases hf
  | succ n ih =>
    intro x3 x4 x5 x6 x7 M H locs ls hf hP hS hl
    rw [f_X3_setsThatRing_20] at hf
    refine lv_iload hx hb dX3_setsThatRing_20 (lv_at hl 7 rfl) ?_
    refine lv_iconst (v := (1 : Int32)) hx hb dX3_setsThatRing_22 (by decide) ?_
    refine lv_aload_n hx hb dX3_setsThatRing_23 rfl (lv_at hl 0 rfl) ?_
    refine gf_3_0 X hP kc_163 q1_147 dX3_setsThatRing_24 ?_
    refine gf_5_1 X hP kc_3 q1_36 dX3_setsThatRing_27 ?_
    refine lv_ishl hx hb dX3_setsThatRing_30 ?_
    refine lv_icmp_ge (tgt := 76) hx hb dX3_setsThatRing_31 (by decide) (fun h_1 => ?_) (fun h_1 => ?_)
    · replace hf := it_t hf h_1
      refine lv_iload_n hx hb dX3_setsThatRing_76 rfl (lv_at hl 2 rfl) ?_
      refine lv_topi (fun v_2 ev_2 => ?_)
      replace hf := lt_go hf ev_2
      by_cases h_3 : v_2 = (0 : Int32)
      · replace hf := it_t hf h_3
        refine lv_lookup (off := 27) (tgt := 104) hx hb dX3_setsThatRing_77 (by decide) (by rw [h_3]; rfl) (by decide) ?_
        refine lv_iload hx hb dX3_setsThatRing_104 (lv_at hl 4 rfl) ?_
        exact g_iret X hP hS (sm_i hf) dX3_setsThatRing_106
      · replace hf := it_f hf h_3
        by_cases h_4 : v_2 = (1 : Int32)
        · replace hf := it_t hf h_4
          refine lv_lookup (off := 30) (tgt := 107) hx hb dX3_setsThatRing_77 (by decide) (by rw [h_4]; rfl) (by decide) ?_
          refine lv_iload hx hb dX3_setsThatRing_107 (lv_at hl 4 rfl) ?_
          refine lv_if_ne (tgt := 116) hx hb dX3_setsThatRing_109 (by decide) (fun h_5 => ?_) (fun h_5 => ?_)
          · replace hf := it_f hf h_5
            refine lv_iload hx hb dX3_setsThatRing_116 (lv_at hl 5 rfl) ?_
            exact g_iret X hP hS (sm_i hf) dX3_setsThatRing_118
          · replace hf := it_t hf h_5
            refine lv_iconst (v := (0 : Int32)) hx hb dX3_setsThatRing_112 (by decide) ?_
            refine lv_goto (tgt := 118) hx hb dX3_setsThatRing_113 (by decide) ?_
            exact g_iret X hP hS (sm_i hf) dX3_setsThatRing_118
        · replace hf := it_f hf h_4
          refine lv_lookup (off := 42) (tgt := 119) hx hb dX3_setsThatRing_77 (by decide) ((lv_osw h_3 rfl).trans ((lv_osw h_4 rfl).trans rfl)) (by decide) ?_
          refine lv_iload hx hb dX3_setsThatRing_119 (lv_at hl 6 rfl) ?_
          exact g_iret X hP hS (sm_i hf) dX3_setsThatRing_121
    · replace hf := it_f hf h_1
      refine lv_iload hx hb dX3_setsThatRing_34 (lv_at hl 7 rfl) ?_
      refine lv_iload_n hx hb dX3_setsThatRing_36 rfl (lv_at hl 3 rfl) ?_
      refine lv_iconst (v := (-1 : Int32)) hx hb dX3_setsThatRing_37 (by decide) ?_
      refine lv_ixor hx hb dX3_setsThatRing_38 ?_
      refine lv_iand hx hb dX3_setsThatRing_39 ?_
      refine lv_if_ne (tgt := 70) hx hb dX3_setsThatRing_40 (by decide) (fun h_6 => ?_) (fun h_6 => ?_)
      · replace hf := it_f hf h_6
        exact b_X3_setsThatRing_70 X ih x3 x4 x5 x6 x7 M hf hP hS hl
      · replace hf := it_t hf h_6
        refine lv_aload_n hx hb dX3_setsThatRing_43 rfl (lv_at hl 0 rfl) ?_
        refine lv_iload hx hb dX3_setsThatRing_44 (lv_at hl 7 rfl) ?_
        obtain ⟨r_9, M_8, hc_7, hf⟩ := cb_s hf
        refine g_goi (g_run X (c_X3_loudOf l g  hc_7) s_X3_loudOf (oB_3 kc_163) q3_82 ⟨Nat.le_of_ble_eq_true rfl, Nat.le_of_ble_eq_true rfl⟩ hP hS rfl hl.1 rfl (Nat.le_of_ble_eq_true rfl) ⟨Nat.le_refl _, Nat.le_refl _⟩ dX3_setsThatRing_46) hS (fun H locs hP hS => ?_)
        refine lv_iload_n hx hb dX3_setsThatRing_49 rfl (lv_at hl 1 rfl) ?_
        refine lv_icmp_ne (tgt := 70) hx hb dX3_setsThatRing_50 (by decide) (fun h_10 => ?_) (fun h_10 => ?_)
        · replace hf := it_f hf h_10
          exact b_X3_setsThatRing_70 X ih x3 x4 x5 x6 x7 M_8 hf hP hS hl
        · replace hf := it_t hf h_10
          refine lv_iinc (v := (x4 + (1 : Int32))) (lv' := [(4, .int (x4 + (1 : Int32))), (0, .ref (gz g + 163)), (1, .int x1), (2, .int x2), (3, .int x3), (5, .int x5), (6, .int x6), (7, .int x7)]) hx hb dX3_setsThatRing_53 hl (k := 4) rfl rfl (by decide) rfl (fun ls hl => ?_)
          refine lv_iload hx hb dX3_setsThatRing_56 (lv_at hl 5 rfl) ?_
          refine lv_iload hx hb dX3_setsThatRing_58 (lv_at hl 7 rfl) ?_
          refine lv_iand hx hb dX3_setsThatRing_60 ?_
          refine lv_topi (fun x5_11 ex5_11 => ?_)
          replace hf := lt_go hf ex5_11
          refine lv_istore (lv' := [(5, .int x5_11), (4, .int (x4 + (1 : Int32))), (0, .ref (gz g + 163)), (1, .int x1), (2, .int x2), (3, .int x3), (6, .int x6), (7, .int x7)]) hx hb dX3_setsThatRing_61 hl (by decide) rfl (fun ls hl => ?_)
          refine lv_iload hx hb dX3_setsThatRing_63 (lv_at hl 6 rfl) ?_
          refine lv_iload hx hb dX3_setsThatRing_65 (lv_at hl 7 rfl) ?_
          refine lv_ior hx hb dX3_setsThatRing_67 ?_
          refine lv_topi (fun x6_12 ex6_12 => ?_)
          replace hf := lt_go hf ex6_12
          refine lv_istore (lv' := [(6, .int x6_12), (5, .int x5_11), (4, .int (x4 + (1 : Int32))), (0, .ref (gz g + 163)), (1, .int x1), (2, .int x2), (3, .int x3), (7, .int x7)]) hx hb dX3_setsThatRing_68 hl (by decide) rfl (fun ls hl => ?_)
          exact b_X3_setsThatRing_70 X ih x3 (x4 + (1 : Int32)) x5_11 x6_12 x7 M_8 hf hP hS (lv_sub hl [3, 4, 5, 6, 2, 1, 0, 7] rfl)
def f_X3_setsThatRing (x1 : Int32) (x2 : Int32) (M : Mem) : Option (Int32 × Mem) :=
  cb (f_X5_ringing 3 M) fun r_3 M_2 =>
  f_X3_setsThatRing_20 x1 x2 FU r_3 (0 : Int32) r_3 (0 : Int32) (0 : Int32) M_2
set_option maxRecDepth 20000 in
theorem c_X3_setsThatRing (l : Launch) (g : GC) {x1 : Int32} {x2 : Int32}  {M : Mem} {out : Int32 × Mem} (hf : f_X3_setsThatRing x1 x2 M = some out) : cI l g yX3_setsThatRing cX3_setsThatRing 8 (some .int) (rM 1 23) [.ref (gz g + 163), .int x1, .int x2] M out := by
  refine g_met (by decide) (Nat.le_of_ble_eq_true rfl) ?_
  intro p e s m below meth c X hP hS ls hl
  have X : Bx p s m _ meth c RX3 cX3_setsThatRing 8 (some .int) g := X
  have hl : lv_has ls 8 [(0, .ref (gz g + 163)), (1, .int x1), (2, .int x2)] := hl
  have hx := X.1
  have hb := X.2.1
  refine lv_aload_n hx hb dX3_setsThatRing_0 rfl (lv_at hl 0 rfl) ?_
  refine gf_3_0 X hP kc_163 q1_147 dX3_setsThatRing_1 ?_
  obtain ⟨r_3, M_2, hc_1, hf⟩ := cb_s hf
  refine g_goi (g_run X (c_X5_ringing l g kc_3 hc_1) s_X5_ringing (oB_5 kc_3) q3_13 ⟨Nat.le_of_ble_eq_true rfl, Nat.le_of_ble_eq_true rfl⟩ hP hS rfl hl.1 rfl (Nat.le_of_ble_eq_true rfl) ⟨Nat.le_refl _, Nat.le_refl _⟩ dX3_setsThatRing_4) hS (fun H locs hP hS => ?_)
  refine lv_istore_n (lv' := [(3, .int r_3), (0, .ref (gz g + 163)), (1, .int x1), (2, .int x2)]) hx hb dX3_setsThatRing_7 rfl hl (by decide) rfl (fun ls hl => ?_)
  refine lv_iconst (v := (0 : Int32)) hx hb dX3_setsThatRing_8 (by decide) ?_
  refine lv_istore (lv' := [(4, .int (0 : Int32)), (3, .int r_3), (0, .ref (gz g + 163)), (1, .int x1), (2, .int x2)]) hx hb dX3_setsThatRing_9 hl (by decide) rfl (fun ls hl => ?_)
  refine lv_iload_n hx hb dX3_setsThatRing_11 rfl (lv_at hl 1 rfl) ?_
  refine lv_istore (lv' := [(5, .int r_3), (4, .int (0 : Int32)), (3, .int r_3), (0, .ref (gz g + 163)), (1, .int x1), (2, .int x2)]) hx hb dX3_setsThatRing_12 hl (by decide) rfl (fun ls hl => ?_)
  refine lv_iconst (v := (0 : Int32)) hx hb dX3_setsThatRing_14 (by decide) ?_
  refine lv_istore (lv' := [(6, .int (0 : Int32)), (5, .int r_3), (4, .int (0 : Int32)), (3, .int r_3), (0, .ref (gz g + 163)), (1, .int x1), (2, .int x2)]) hx hb dX3_setsThatRing_15 hl (by decide) rfl (fun ls hl => ?_)
  refine lv_iconst (v := (0 : Int32)) hx hb dX3_setsThatRing_17 (by decide) ?_
  refine lv_istore (lv' := [(7, .int (0 : Int32)), (6, .int (0 : Int32)), (5, .int r_3), (4, .int (0 : Int32)), (3, .int r_3), (0, .ref (gz g + 163)), (1, .int x1), (2, .int x2)]) hx hb dX3_setsThatRing_18 hl (by decide) rfl (fun ls hl => ?_)
  exact b_X3_setsThatRing_20 X  FU r_3 (0 : Int32) r_3 (0 : Int32) (0 : Int32) M_2 _ _ _ hf hP hS (lv_sub hl [5, 6, 7, 4, 3, 2, 1, 0] rfl)
def f_X3_wear (x1 : Int32) (M : Mem) : Option (Int32 × Mem) :=
  cb (f_X5_isBroken 3 x1 M) fun r_3 M_2 =>
  if r_3 = 0 then
    ck x1 6 <|
    some ((M_2 (3 + 5) x1.toNatClampNeg), M_2)
  else
    some ((0 : Int32), M_2)
set_option maxRecDepth 20000 in
theorem c_X3_wear (l : Launch) (g : GC) {x1 : Int32}  {M : Mem} {out : Int32 × Mem} (hf : f_X3_wear x1 M = some out) : cI l g yX3_wear cX3_wear 2 (some .int) (rM 1 21) [.ref (gz g + 163), .int x1] M out := by
  refine g_met (by decide) (Nat.le_of_ble_eq_true rfl) ?_
  intro p e s m below meth c X hP hS ls hl
  have X : Bx p s m _ meth c RX3 cX3_wear 2 (some .int) g := X
  have hl : lv_has ls 2 [(0, .ref (gz g + 163)), (1, .int x1)] := hl
  have hx := X.1
  have hb := X.2.1
  refine lv_aload_n hx hb dX3_wear_0 rfl (lv_at hl 0 rfl) ?_
  refine gf_3_0 X hP kc_163 q1_147 dX3_wear_1 ?_
  refine lv_iload_n hx hb dX3_wear_4 rfl (lv_at hl 1 rfl) ?_
  obtain ⟨r_3, M_2, hc_1, hf⟩ := cb_s hf
  refine g_goi (g_run X (c_X5_isBroken l g kc_3 hc_1) s_X5_isBroken (oB_5 kc_3) q3_3 ⟨Nat.le_of_ble_eq_true rfl, Nat.le_of_ble_eq_true rfl⟩ hP hS rfl hl.1 rfl (Nat.le_of_ble_eq_true rfl) ⟨Nat.le_refl _, Nat.le_refl _⟩ dX3_wear_5) hS (fun H locs hP hS => ?_)
  refine lv_if_eq (tgt := 15) hx hb dX3_wear_8 (by decide) (fun h_4 => ?_) (fun h_4 => ?_)
  · replace hf := it_t hf h_4
    refine lv_aload_n hx hb dX3_wear_15 rfl (lv_at hl 0 rfl) ?_
    refine gf_3_0 X hP kc_163 q1_147 dX3_wear_16 ?_
    refine gf_5_10 X hP kc_3 q1_69 dX3_wear_19 ?_
    refine lv_iload_n hx hb dX3_wear_22 rfl (lv_at hl 1 rfl) ?_
    obtain ⟨hi_5, hf⟩ := ck_s hf
    refine ga_ld X hP (iA_8 (kdW5 kc_3)) hi_5 dX3_wear_23 ?_
    exact g_iret X hP hS (sm_i hf) dX3_wear_24
  · replace hf := it_f hf h_4
    refine lv_iconst (v := (0 : Int32)) hx hb dX3_wear_11 (by decide) ?_
    refine lv_goto (tgt := 24) hx hb dX3_wear_12 (by decide) ?_
    exact g_iret X hP hS (sm_i hf) dX3_wear_24
def f_X3_oilFor_127   (t0 : Int32) (t1 : Int32) (M : Mem) : Option (Int32 × Mem) :=
  some ((t0 + t1), M)
set_option maxRecDepth 20000 in
theorem b_X3_oilFor_127 {out : Int32 × Mem} (X : Bx p s m args meth c RX3 cX3_oilFor 7 (some .int) g)        (t0 : Int32) (t1 : Int32) (M : Mem) {H : Heap} {locs : List Loc} {ls : Array Slot} (hf : f_X3_oilFor_127 t0 t1 M = some out) (hP : va_P g.1 vwCl (gW g M) H) (hS : va_S (gA g) s.heap H locs) (hl : lv_has ls 7 []) : W p l e (rM 2 42) s m args below meth c H locs 0 0 (MQ below (qI g out) args s 0 0 (gA g)) (F0 m 127 ls [.int t1, .int t0]) := by
  have hx := X.1
  have hb := X.2.1
  refine lv_iadd hx hb dX3_oilFor_127 ?_
  exact g_iret X hP hS (sm_i hf) dX3_oilFor_128
def f_X3_oilFor_100 (x1 : Int32) (x2 : Int32) (k55 : Int32 → Int32 → Int32 → Int32 → Mem → Option (Int32 × Mem)) (x3 : Int32) (x4 : Int32) (x5 : Int32) (x6 : Int32) (M : Mem) : Option (Int32 × Mem) :=
  k55 x3 x4 x5 (x6 + (1 : Int32)) M
set_option maxRecDepth 20000 in
theorem b_X3_oilFor_100 {out : Int32 × Mem} (X : Bx p s m args meth c RX3 cX3_oilFor 7 (some .int) g)   {x1 : Int32} {x2 : Int32}   {k55 : Int32 → Int32 → Int32 → Int32 → Mem → Option (Int32 × Mem)} (hk55 : ∀ (x3 : Int32) (x4 : Int32) (x5 : Int32) (x6 : Int32) (M : Mem) (H : Heap) (locs : List Loc) (ls : Array Slot), k55 x3 x4 x5 x6 M = some out → va_P g.1 vwCl (gW g M) H → va_S (gA g) s.heap H locs → lv_has ls 7 [(0, .ref (gz g + 163)), (1, .int x1), (2, .int x2), (3, .int x3), (4, .int x4), (5, .int x5), (6, .int x6)] → W p l e (rM 2 42) s m args below meth c H locs 0 0 (MQ below (qI g out) args s 0 0 (gA g)) (F0 m 55 ls [])) (x3 : Int32) (x4 : Int32) (x5 : Int32) (x6 : Int32) (M : Mem) {H : Heap} {locs : List Loc} {ls : Array Slot} (hf : f_X3_oilFor_100 x1 x2 k55 x3 x4 x5 x6 M = some out) (hP : va_P g.1 vwCl (gW g M) H) (hS : va_S (gA g) s.heap H locs) (hl : lv_has ls 7 [(0, .ref (gz g + 163)), (1, .int x1), (2, .int x2), (3, .int x3), (4, .int x4), (5, .int x5), (6, .int x6)]) : W p l e (rM 2 42) s m args below meth c H locs 0 0 (MQ below (qI g out) args s 0 0 (gA g)) (F0 m 100 ls []) := by
  have hx := X.1
  have hb := X.2.1
  refine lv_iinc (v := (x6 + (1 : Int32))) (lv' := [(6, .int (x6 + (1 : Int32))), (0, .ref (gz g + 163)), (1, .int x1), (2, .int x2), (3, .int x3), (4, .int x4), (5, .int x5)]) hx hb dX3_oilFor_100 hl (k := 6) rfl rfl (by decide) rfl (fun ls hl => ?_)
  refine lv_goto (tgt := 55) hx hb dX3_oilFor_103 (by decide) ?_
  exact hk55 x3 x4 x5 (x6 + (1 : Int32)) M _ _ _ hf hP hS (lv_sub hl [1, 2, 3, 4, 5, 6, 0] rfl)
def f_X3_oilFor_55 (x1 : Int32) (x2 : Int32)  : Nat → Int32 → Int32 → Int32 → Int32 → Mem → Option (Int32 × Mem)
  | 0, _, _, _, _, _ => none
  | n + 1, x3, x4, x5, x6, M =>
    if (M 3 1) ≤ x6 then
      cb (f_X3_wear x1 M) fun r_4 M_3 =>
      cz x3 <|
      if x4 ≤ x5 then
        f_X3_oilFor_127 ((x2 * r_4) / x3) (0 : Int32) M_3
      else
        f_X3_oilFor_127 ((x2 * r_4) / x3) (1 : Int32) M_3
    else
      cb (f_X3_wear x6 M) fun r_9 M_8 =>
      cz x3 <|
      lt (x4 - ((x2 * r_9) / x3)) fun x4_11 =>
      if x1 ≤ x6 then
        f_X3_oilFor_100 x1 x2 (f_X3_oilFor_55 x1 x2 n) x3 x4_11 x5 x6 M_8
      else
        cb (f_X3_wear x6 M_8) fun r_15 M_14 =>
        if r_15 ≤ 0 then
          f_X3_oilFor_100 x1 x2 (f_X3_oilFor_55 x1 x2 n) x3 x4_11 x5 x6 M_14
        else
          f_X3_oilFor_100 x1 x2 (f_X3_oilFor_55 x1 x2 n) x3 x4_11 (x5 + (1 : Int32)) x6 M_14
set_option maxRecDepth 20000 in
theorem b_X3_oilFor_55 {out : Int32 × Mem} (X : Bx p s m args meth c RX3 cX3_oilFor 7 (some .int) g)   {x1 : Int32} {x2 : Int32}     : ∀ (n : Nat) (x3 : Int32) (x4 : Int32) (x5 : Int32) (x6 : Int32) (M : Mem) (H : Heap) (locs : List Loc) (ls : Array Slot), f_X3_oilFor_55 x1 x2 n x3 x4 x5 x6 M = some out → va_P g.1 vwCl (gW g M) H → va_S (gA g) s.heap H locs → lv_has ls 7 [(0, .ref (gz g + 163)), (1, .int x1), (2, .int x2), (3, .int x3), (4, .int x4), (5, .int x5), (6, .int x6)] → W p l e (rM 2 42) s m args below meth c H locs 0 0 (MQ below (qI g out) args s 0 0 (gA g)) (F0 m 55 ls []) := by
  have hx := X.1
  have hb := X.2.1
  intro n
  induction n with
  | zero => intro _ _ _ _ _ _ _ _ hf; cases hf
  | succ n ih =>
    intro x3 x4 x5 x6 M H locs ls hf hP hS hl
    rw [f_X3_oilFor_55] at hf
    refine lv_iload hx hb dX3_oilFor_55 (lv_at hl 6 rfl) ?_
    refine lv_aload_n hx hb dX3_oilFor_57 rfl (lv_at hl 0 rfl) ?_
    refine gf_3_0 X hP kc_163 q1_147 dX3_oilFor_58 ?_
    refine gf_5_1 X hP kc_3 q1_36 dX3_oilFor_61 ?_
    refine lv_icmp_ge (tgt := 106) hx hb dX3_oilFor_64 (by decide) (fun h_1 => ?_) (fun h_1 => ?_)
    · replace hf := it_t hf h_1
      refine lv_iload_n hx hb dX3_oilFor_106 rfl (lv_at hl 2 rfl) ?_
      refine lv_aload_n hx hb dX3_oilFor_107 rfl (lv_at hl 0 rfl) ?_
      refine lv_iload_n hx hb dX3_oilFor_108 rfl (lv_at hl 1 rfl) ?_
      obtain ⟨r_4, M_3, hc_2, hf⟩ := cb_s hf
      refine g_goi (g_run X (c_X3_wear l g  hc_2) s_X3_wear (oB_3 kc_163) q3_94 ⟨Nat.le_of_ble_eq_true rfl, Nat.le_of_ble_eq_true rfl⟩ hP hS rfl hl.1 rfl (Nat.le_of_ble_eq_true rfl) ⟨Nat.le_refl _, Nat.le_refl _⟩ dX3_oilFor_109) hS (fun H locs hP hS => ?_)
      refine lv_imul hx hb dX3_oilFor_112 ?_
      refine lv_iload_n hx hb dX3_oilFor_113 rfl (lv_at hl 3 rfl) ?_
      obtain ⟨hz_5, hf⟩ := cz_s hf
      refine lv_idiv hx hb dX3_oilFor_114 hz_5 ?_
      refine lv_iload hx hb dX3_oilFor_115 (lv_at hl 5 rfl) ?_
      refine lv_iload hx hb dX3_oilFor_117 (lv_at hl 4 rfl) ?_
      refine lv_icmp_ge (tgt := 126) hx hb dX3_oilFor_119 (by decide) (fun h_6 => ?_) (fun h_6 => ?_)
      · replace hf := it_t hf h_6
        refine lv_iconst (v := (0 : Int32)) hx hb dX3_oilFor_126 (by decide) ?_
        exact b_X3_oilFor_127 X  ((x2 * r_4) / x3) (0 : Int32) M_3 hf hP hS (lv_sub hl [] rfl)
      · replace hf := it_f hf h_6
        refine lv_iconst (v := (1 : Int32)) hx hb dX3_oilFor_122 (by decide) ?_
        refine lv_goto (tgt := 127) hx hb dX3_oilFor_123 (by decide) ?_
        exact b_X3_oilFor_127 X  ((x2 * r_4) / x3) (1 : Int32) M_3 hf hP hS (lv_sub hl [] rfl)
    · replace hf := it_f hf h_1
      refine lv_iload hx hb dX3_oilFor_67 (lv_at hl 4 rfl) ?_
      refine lv_iload_n hx hb dX3_oilFor_69 rfl (lv_at hl 2 rfl) ?_
      refine lv_aload_n hx hb dX3_oilFor_70 rfl (lv_at hl 0 rfl) ?_
      refine lv_iload hx hb dX3_oilFor_71 (lv_at hl 6 rfl) ?_
      obtain ⟨r_9, M_8, hc_7, hf⟩ := cb_s hf
      refine g_goi (g_run X (c_X3_wear l g  hc_7) s_X3_wear (oB_3 kc_163) q3_94 ⟨Nat.le_of_ble_eq_true rfl, Nat.le_of_ble_eq_true rfl⟩ hP hS rfl hl.1 rfl (Nat.le_of_ble_eq_true rfl) ⟨Nat.le_refl _, Nat.le_refl _⟩ dX3_oilFor_73) hS (fun H locs hP hS => ?_)
      refine lv_imul hx hb dX3_oilFor_76 ?_
      refine lv_iload_n hx hb dX3_oilFor_77 rfl (lv_at hl 3 rfl) ?_
      obtain ⟨hz_10, hf⟩ := cz_s hf
      refine lv_idiv hx hb dX3_oilFor_78 hz_10 ?_
      refine lv_isub hx hb dX3_oilFor_79 ?_
      refine lv_topi (fun x4_11 ex4_11 => ?_)
      replace hf := lt_go hf ex4_11
      refine lv_istore (lv' := [(4, .int x4_11), (0, .ref (gz g + 163)), (1, .int x1), (2, .int x2), (3, .int x3), (5, .int x5), (6, .int x6)]) hx hb dX3_oilFor_80 hl (by decide) rfl (fun ls hl => ?_)
      refine lv_iload hx hb dX3_oilFor_82 (lv_at hl 6 rfl) ?_
      refine lv_iload_n hx hb dX3_oilFor_84 rfl (lv_at hl 2 rfl) ?_
      refine lv_icmp_ge (tgt := 100) hx hb dX3_oilFor_85 (by decide) (fun h_12 => ?_) (fun h_12 => ?_)
      · replace hf := it_t hf h_12
        exact b_X3_oilFor_100 X ih x3 x4_11 x5 x6 M_8 hf hP hS (lv_sub hl [1, 2, 3, 4, 0, 5, 6] rfl)
      · replace hf := it_f hf h_12
        refine lv_aload_n hx hb dX3_oilFor_88 rfl (lv_at hl 1 rfl) ?_
        refine lv_iload hx hb dX3_oilFor_89 (lv_at hl 6 rfl) ?_
        obtain ⟨r_15, M_14, hc_13, hf⟩ := cb_s hf
        refine g_goi (g_run X (c_X3_wear l g  hc_13) s_X3_wear (oB_3 kc_163) q3_94 ⟨Nat.le_of_ble_eq_true rfl, Nat.le_of_ble_eq_true rfl⟩ hP hS rfl hl.1 rfl (Nat.le_of_ble_eq_true rfl) ⟨Nat.le_refl _, Nat.le_refl _⟩ dX3_oilFor_91) hS (fun H locs hP hS => ?_)
        refine lv_if_le (tgt := 100) hx hb dX3_oilFor_94 (by decide) (fun h_16 => ?_) (fun h_16 => ?_)
        · replace hf := it_t hf h_16
          exact b_X3_oilFor_100 X ih x3 x4_11 x5 x6 M_14 hf hP hS (lv_sub hl [1, 2, 3, 4, 0, 5, 6] rfl)
        · replace hf := it_f hf h_16
          refine lv_iinc (v := (x5 + (1 : Int32))) (lv' := [(5, .int (x5 + (1 : Int32))), (4, .int x4_11), (0, .ref (gz g + 163)), (1, .int x1), (2, .int x2), (3, .int x3), (6, .int x6)]) hx hb dX3_oilFor_97 hl (k := 5) rfl rfl (by decide) rfl (fun ls hl => ?_)
          exact b_X3_oilFor_100 X ih x3 x4_11 (x5 + (1 : Int32)) x6 M_14 hf hP hS (lv_sub hl [2, 3, 4, 5, 1, 0, 6] rfl)
def f_X3_oilFor_5 (x1 : Int32) (x2 : Int32)  : Nat → Int32 → Int32 → Mem → Option (Int32 × Mem)
  | 0, _, _, _ => none
  | n + 1, x3, x4, M =>
    if (M 3 1) ≤ x4 then
      if x3 = 0 then
        some ((0 : Int32), M)
      else
        cb (f_X3_wear x1 M) fun r_5 M_4 =>
        if r_5 = 0 then
          some ((0 : Int32), M_4)
        else
          f_X3_oilFor_55 x1 x2 FU x3 x2 (0 : Int32) (0 : Int32) M_4
    else
      cb (f_X3_wear x4 M) fun r_9 M_8 =>
      lt (x3 + r_9) fun x3_10 =>
      (f_X3_oilFor_5 x1 x2 n) x3_10 (x4 + (1 : Int32)) M_8
set_option maxRecDepth 20000 in
theorem b_X3_oilFor_5 {out : Int32 × Mem} (X : Bx p s m args meth c RX3 cX3_oilFor 7 (some .int) g)   {x1 : Int32} {x2 : Int32}     : ∀ (n : Nat) (x3 : Int32) (x4 : Int32) (M : Mem) (H : Heap) (locs : List Loc) (ls : Array Slot), f_X3_oilFor_5 x1 x2 n x3 x4 M = some out → va_P g.1 vwCl (gW g M) H → va_S (gA g) s.heap H locs → lv_has ls 7 [(0, .ref (gz g + 163)), (1, .int x1), (2, .int x2), (3, .int x3), (4, .int x4)] → W p l e (rM 2 42) s m args below meth c H locs 0 0 (MQ below (qI g out) args s 0 0 (gA g)) (F0 m 5 ls []) := by
  have hx := X.1
  have hb := X.2.1
  intro n
  induction n with
  | zero => intro _ _ _ _ _ _ hf; cases hf
  | succ n ih =>
    intro x3 x4 M H locs ls hf hP hS hl
    rw [f_X3_oilFor_5] at hf
    refine lv_iload hx hb dX3_oilFor_5 (lv_at hl 4 rfl) ?_
    refine lv_aload_n hx hb dX3_oilFor_7 rfl (lv_at hl 0 rfl) ?_
    refine gf_3_0 X hP kc_163 q1_147 dX3_oilFor_8 ?_
    refine gf_5_1 X hP kc_3 q1_36 dX3_oilFor_11 ?_
    refine lv_icmp_ge (tgt := 32) hx hb dX3_oilFor_14 (by decide) (fun h_1 => ?_) (fun h_1 => ?_)
    · replace hf := it_t hf h_1
      refine lv_iload_n hx hb dX3_oilFor_32 rfl (lv_at hl 3 rfl) ?_
      refine lv_if_eq (tgt := 44) hx hb dX3_oilFor_33 (by decide) (fun h_2 => ?_) (fun h_2 => ?_)
      · replace hf := it_t hf h_2
        refine lv_iconst (v := (0 : Int32)) hx hb dX3_oilFor_44 (by decide) ?_
        exact g_iret X hP hS (sm_i hf) dX3_oilFor_45
      · replace hf := it_f hf h_2
        refine lv_aload_n hx hb dX3_oilFor_36 rfl (lv_at hl 0 rfl) ?_
        refine lv_iload_n hx hb dX3_oilFor_37 rfl (lv_at hl 1 rfl) ?_
        obtain ⟨r_5, M_4, hc_3, hf⟩ := cb_s hf
        refine g_goi (g_run X (c_X3_wear l g  hc_3) s_X3_wear (oB_3 kc_163) q3_94 ⟨Nat.le_of_ble_eq_true rfl, Nat.le_of_ble_eq_true rfl⟩ hP hS rfl hl.1 rfl (Nat.le_of_ble_eq_true rfl) ⟨Nat.le_refl _, Nat.le_refl _⟩ dX3_oilFor_38) hS (fun H locs hP hS => ?_)
        refine lv_if_ne (tgt := 46) hx hb dX3_oilFor_41 (by decide) (fun h_6 => ?_) (fun h_6 => ?_)
        · replace hf := it_f hf h_6
          refine lv_iload_n hx hb dX3_oilFor_46 rfl (lv_at hl 2 rfl) ?_
          refine lv_istore (lv' := [(4, .int x2), (0, .ref (gz g + 163)), (1, .int x1), (2, .int x2), (3, .int x3)]) hx hb dX3_oilFor_47 hl (by decide) rfl (fun ls hl => ?_)
          refine lv_iconst (v := (0 : Int32)) hx hb dX3_oilFor_49 (by decide) ?_
          refine lv_istore (lv' := [(5, .int (0 : Int32)), (4, .int x2), (0, .ref (gz g + 163)), (1, .int x1), (2, .int x2), (3, .int x3)]) hx hb dX3_oilFor_50 hl (by decide) rfl (fun ls hl => ?_)
          refine lv_iconst (v := (0 : Int32)) hx hb dX3_oilFor_52 (by decide) ?_
          refine lv_istore (lv' := [(6, .int (0 : Int32)), (5, .int (0 : Int32)), (4, .int x2), (0, .ref (gz g + 163)), (1, .int x1), (2, .int x2), (3, .int x3)]) hx hb dX3_oilFor_53 hl (by decide) rfl (fun ls hl => ?_)
          exact b_X3_oilFor_55 X  FU x3 x2 (0 : Int32) (0 : Int32) M_4 _ _ _ hf hP hS (lv_sub hl [3, 4, 5, 6, 2, 1, 0] rfl)
        · replace hf := it_t hf h_6
          refine lv_iconst (v := (0 : Int32)) hx hb dX3_oilFor_44 (by decide) ?_
          exact g_iret X hP hS (sm_i hf) dX3_oilFor_45
    · replace hf := it_f hf h_1
      refine lv_iload_n hx hb dX3_oilFor_17 rfl (lv_at hl 3 rfl) ?_
      refine lv_aload_n hx hb dX3_oilFor_18 rfl (lv_at hl 0 rfl) ?_
      refine lv_iload hx hb dX3_oilFor_19 (lv_at hl 4 rfl) ?_
      obtain ⟨r_9, M_8, hc_7, hf⟩ := cb_s hf
      refine g_goi (g_run X (c_X3_wear l g  hc_7) s_X3_wear (oB_3 kc_163) q3_94 ⟨Nat.le_of_ble_eq_true rfl, Nat.le_of_ble_eq_true rfl⟩ hP hS rfl hl.1 rfl (Nat.le_of_ble_eq_true rfl) ⟨Nat.le_refl _, Nat.le_refl _⟩ dX3_oilFor_21) hS (fun H locs hP hS => ?_)
      refine lv_iadd hx hb dX3_oilFor_24 ?_
      refine lv_topi (fun x3_10 ex3_10 => ?_)
      replace hf := lt_go hf ex3_10
      refine lv_istore_n (lv' := [(3, .int x3_10), (0, .ref (gz g + 163)), (1, .int x1), (2, .int x2), (4, .int x4)]) hx hb dX3_oilFor_25 rfl hl (by decide) rfl (fun ls hl => ?_)
      refine lv_iinc (v := (x4 + (1 : Int32))) (lv' := [(4, .int (x4 + (1 : Int32))), (3, .int x3_10), (0, .ref (gz g + 163)), (1, .int x1), (2, .int x2)]) hx hb dX3_oilFor_26 hl (k := 4) rfl rfl (by decide) rfl (fun ls hl => ?_)
      refine lv_goto (tgt := 5) hx hb dX3_oilFor_29 (by decide) ?_
      exact ih x3_10 (x4 + (1 : Int32)) M_8 _ _ _ hf hP hS (lv_sub hl [2, 3, 4, 1, 0] rfl)
def f_X3_oilFor (x1 : Int32) (x2 : Int32) (M : Mem) : Option (Int32 × Mem) :=
  f_X3_oilFor_5 x1 x2 FU (0 : Int32) (0 : Int32) M
set_option maxRecDepth 20000 in
theorem c_X3_oilFor (l : Launch) (g : GC) {x1 : Int32} {x2 : Int32}  {M : Mem} {out : Int32 × Mem} (hf : f_X3_oilFor x1 x2 M = some out) : cI l g yX3_oilFor cX3_oilFor 7 (some .int) (rM 2 42) [.ref (gz g + 163), .int x1, .int x2] M out := by
  refine g_met (by decide) (Nat.le_of_ble_eq_true rfl) ?_
  intro p e s m below meth c X hP hS ls hl
  have X : Bx p s m _ meth c RX3 cX3_oilFor 7 (some .int) g := X
  have hl : lv_has ls 7 [(0, .ref (gz g + 163)), (1, .int x1), (2, .int x2)] := hl
  have hx := X.1
  have hb := X.2.1
  refine lv_iconst (v := (0 : Int32)) hx hb dX3_oilFor_0 (by decide) ?_
  refine lv_istore_n (lv' := [(3, .int (0 : Int32)), (0, .ref (gz g + 163)), (1, .int x1), (2, .int x2)]) hx hb dX3_oilFor_1 rfl hl (by decide) rfl (fun ls hl => ?_)
  refine lv_iconst (v := (0 : Int32)) hx hb dX3_oilFor_2 (by decide) ?_
  refine lv_istore (lv' := [(4, .int (0 : Int32)), (3, .int (0 : Int32)), (0, .ref (gz g + 163)), (1, .int x1), (2, .int x2)]) hx hb dX3_oilFor_3 hl (by decide) rfl (fun ls hl => ?_)
  exact b_X3_oilFor_5 X  FU (0 : Int32) (0 : Int32) M _ _ _ hf hP hS (lv_sub hl [2, 3, 4, 1, 0] rfl)
def f_X3_loudBehindTurns_38 (x1 : Int32)   (M : Mem) : Option (Int32 × Mem) :=
  cv (f_X5_turnTimes 164 x1 M) fun M_2 =>
  cb (f_X5_loud 164 M_2) fun r_5 M_4 =>
  some (r_5, M_4)
set_option maxRecDepth 20000 in
theorem b_X3_loudBehindTurns_38 {out : Int32 × Mem} (X : Bx p s m args meth c RX3 cX3_loudBehindTurns 4 (some .int) g)   {x1 : Int32}      (M : Mem) {H : Heap} {locs : List Loc} {ls : Array Slot} (hf : f_X3_loudBehindTurns_38 x1 M = some out) (hP : va_P g.1 vwCl (gW g M) H) (hS : va_S (gA g) s.heap H locs) (hl : lv_has ls 4 [(0, .ref (gz g + 163)), (1, .int x1)]) : W p l e (rM 4 96) s m args below meth c H locs 0 0 (MQ below (qI g out) args s 0 0 (gA g)) (F0 m 38 ls []) := by
  have hx := X.1
  have hb := X.2.1
  refine lv_aload_n hx hb dX3_loudBehindTurns_38 rfl (lv_at hl 0 rfl) ?_
  refine gf_3_1 X hP kc_163 q1_148 dX3_loudBehindTurns_39 ?_
  refine lv_iload_n hx hb dX3_loudBehindTurns_42 rfl (lv_at hl 1 rfl) ?_
  obtain ⟨M_2, hc_1, hf⟩ := cv_s hf
  refine g_gov (g_run X (c_X5_turnTimes l g kc_164 hc_1) s_X5_turnTimes (oB_5 kc_164) q2_238 ⟨Nat.le_of_ble_eq_true rfl, Nat.le_of_ble_eq_true rfl⟩ hP hS rfl hl.1 rfl (Nat.le_of_ble_eq_true rfl) ⟨Nat.le_refl _, Nat.le_refl _⟩ dX3_loudBehindTurns_43) hS (fun H locs hP hS => ?_)
  refine lv_aload_n hx hb dX3_loudBehindTurns_46 rfl (lv_at hl 0 rfl) ?_
  refine gf_3_1 X hP kc_163 q1_148 dX3_loudBehindTurns_47 ?_
  obtain ⟨r_5, M_4, hc_3, hf⟩ := cb_s hf
  refine g_goi (g_run X (c_X5_loud l g kc_164 hc_3) s_X5_loud (oB_5 kc_164) q3_12 ⟨Nat.le_of_ble_eq_true rfl, Nat.le_of_ble_eq_true rfl⟩ hP hS rfl hl.1 rfl (Nat.le_of_ble_eq_true rfl) ⟨Nat.le_refl _, Nat.le_refl _⟩ dX3_loudBehindTurns_50) hS (fun H locs hP hS => ?_)
  exact g_iret X hP hS (sm_i hf) dX3_loudBehindTurns_53
def f_X3_loudBehindTurns (x1 : Int32) (x2 : Int32) (x3 : Int32) (M : Mem) : Option (Int32 × Mem) :=
  cv (f_X5_takeFrom 164 3 M) fun M_2 =>
  cv (f_X5_windBy 164 x2 M_2) fun M_4 =>
  if x3 = 0 then
    f_X3_loudBehindTurns_38 x1 M_4
  else
    cb (f_X5_columnBehind 164 M_4) fun r_8 M_7 =>
    cv (f_X5_togglePin 164 r_8 (0 : Int32) M_7) fun M_10 =>
    f_X3_loudBehindTurns_38 x1 M_10
set_option maxRecDepth 20000 in
theorem c_X3_loudBehindTurns (l : Launch) (g : GC) {x1 : Int32} {x2 : Int32} {x3 : Int32}  {M : Mem} {out : Int32 × Mem} (hf : f_X3_loudBehindTurns x1 x2 x3 M = some out) : cI l g yX3_loudBehindTurns cX3_loudBehindTurns 4 (some .int) (rM 4 96) [.ref (gz g + 163), .int x1, .int x2, .int x3] M out := by
  refine g_met (by decide) (Nat.le_of_ble_eq_true rfl) ?_
  intro p e s m below meth c X hP hS ls hl
  have X : Bx p s m _ meth c RX3 cX3_loudBehindTurns 4 (some .int) g := X
  have hl : lv_has ls 4 [(0, .ref (gz g + 163)), (1, .int x1), (2, .int x2), (3, .int x3)] := hl
  have hx := X.1
  have hb := X.2.1
  refine lv_aload_n hx hb dX3_loudBehindTurns_0 rfl (lv_at hl 0 rfl) ?_
  refine gf_3_1 X hP kc_163 q1_148 dX3_loudBehindTurns_1 ?_
  refine lv_aload_n hx hb dX3_loudBehindTurns_4 rfl (lv_at hl 0 rfl) ?_
  refine gf_3_0 X hP kc_163 q1_147 dX3_loudBehindTurns_5 ?_
  obtain ⟨M_2, hc_1, hf⟩ := cv_s hf
  refine g_gov (g_run X (c_X5_takeFrom l g kc_164 kc_3 hc_1) s_X5_takeFrom (oB_5 kc_164) q2_237 ⟨Nat.le_of_ble_eq_true rfl, Nat.le_of_ble_eq_true rfl⟩ hP hS rfl hl.1 rfl (Nat.le_of_ble_eq_true rfl) ⟨Nat.le_refl _, Nat.le_refl _⟩ dX3_loudBehindTurns_8) hS (fun H locs hP hS => ?_)
  refine lv_aload_n hx hb dX3_loudBehindTurns_11 rfl (lv_at hl 0 rfl) ?_
  refine gf_3_1 X hP kc_163 q1_148 dX3_loudBehindTurns_12 ?_
  refine lv_iload_n hx hb dX3_loudBehindTurns_15 rfl (lv_at hl 2 rfl) ?_
  obtain ⟨M_4, hc_3, hf⟩ := cv_s hf
  refine g_gov (g_run X (c_X5_windBy l g kc_164 hc_3) s_X5_windBy (oB_5 kc_164) q3_114 ⟨Nat.le_of_ble_eq_true rfl, Nat.le_of_ble_eq_true rfl⟩ hP hS rfl hl.1 rfl (Nat.le_of_ble_eq_true rfl) ⟨Nat.le_refl _, Nat.le_refl _⟩ dX3_loudBehindTurns_16) hS (fun H locs hP hS => ?_)
  refine lv_iload_n hx hb dX3_loudBehindTurns_19 rfl (lv_at hl 3 rfl) ?_
  refine lv_if_eq (tgt := 38) hx hb dX3_loudBehindTurns_20 (by decide) (fun h_5 => ?_) (fun h_5 => ?_)
  · replace hf := it_t hf h_5
    exact b_X3_loudBehindTurns_38 X   M_4 hf hP hS (lv_sub hl [0, 1] rfl)
  · replace hf := it_f hf h_5
    refine lv_aload_n hx hb dX3_loudBehindTurns_23 rfl (lv_at hl 0 rfl) ?_
    refine gf_3_1 X hP kc_163 q1_148 dX3_loudBehindTurns_24 ?_
    refine lv_aload_n hx hb dX3_loudBehindTurns_27 rfl (lv_at hl 0 rfl) ?_
    refine gf_3_1 X hP kc_163 q1_148 dX3_loudBehindTurns_28 ?_
    obtain ⟨r_8, M_7, hc_6, hf⟩ := cb_s hf
    refine g_goi (g_run X (c_X5_columnBehind l g kc_164 hc_6) s_X5_columnBehind (oB_5 kc_164) q3_115 ⟨Nat.le_of_ble_eq_true rfl, Nat.le_of_ble_eq_true rfl⟩ hP hS rfl hl.1 rfl (Nat.le_of_ble_eq_true rfl) ⟨Nat.le_refl _, Nat.le_refl _⟩ dX3_loudBehindTurns_31) hS (fun H locs hP hS => ?_)
    refine lv_iconst (v := (0 : Int32)) hx hb dX3_loudBehindTurns_34 (by decide) ?_
    obtain ⟨M_10, hc_9, hf⟩ := cv_s hf
    refine g_gov (g_run X (c_X5_togglePin l g kc_164 hc_9) s_X5_togglePin (oB_5 kc_164) q3_40 ⟨Nat.le_of_ble_eq_true rfl, Nat.le_of_ble_eq_true rfl⟩ hP hS rfl hl.1 rfl (Nat.le_of_ble_eq_true rfl) ⟨Nat.le_refl _, Nat.le_refl _⟩ dX3_loudBehindTurns_35) hS (fun H locs hP hS => ?_)
    exact b_X3_loudBehindTurns_38 X   M_10 hf hP hS (lv_sub hl [0, 1] rfl)
def f_X3_outcome_56 (fr_outcome : Int32 → Int32 → Int32 → Int32 → Int32 → Mem → Option (Int32 × Mem))   (t0 : Int32) (t2 : Int32) (t3 : Int32) (t4 : Int32) (t5 : Int32) (t6 : Int32) (M : Mem) : Option (Int32 × Mem) :=
  cb (fr_outcome t2 t3 t4 t5 t6 M) fun r_3 M_2 =>
  some ((if t0 < r_3 then r_3 else t0), M_2)
set_option maxRecDepth 20000 in
theorem b_X3_outcome_56 {out : Int32 × Mem} (X : Bx p s m args meth c RX3 cX3_outcome 7 (some .int) g) {d : Nat} {fr_outcome : Int32 → Int32 → Int32 → Int32 → Int32 → Mem → Option (Int32 × Mem)}  (hfr_outcome : ∀ (x1 : Int32) (x2 : Int32) (x3 : Int32) (x4 : Int32) (x5 : Int32)  (M : Mem) (out : Int32 × Mem), fr_outcome x1 x2 x3 x4 x5 M = some out → cI l g yX3_outcome cX3_outcome 7 (some .int) (rM (d + 5) (d * 26 + 119)) [.ref (gz g + 163), .int x1, .int x2, .int x3, .int x4, .int x5] M out)      (t0 : Int32) (t2 : Int32) (t3 : Int32) (t4 : Int32) (t5 : Int32) (t6 : Int32) (M : Mem) {H : Heap} {locs : List Loc} {ls : Array Slot} (hf : f_X3_outcome_56 fr_outcome t0 t2 t3 t4 t5 t6 M = some out) (hP : va_P g.1 vwCl (gW g M) H) (hS : va_S (gA g) s.heap H locs) (hl : lv_has ls 7 []) : W p l e (rM (d + 1 + 5) ((d + 1) * 26 + 119)) s m args below meth c H locs 0 0 (MQ below (qI g out) args s 0 0 (gA g)) (F0 m 56 ls [.int t6, .int t5, .int t4, .int t3, .int t2, .ref (gz g + 163), .int t0]) := by
  have hx := X.1
  have hb := X.2.1
  obtain ⟨r_3, M_2, hc_1, hf⟩ := cb_s hf
  refine g_goi (g_run X (hfr_outcome t2 t3 t4 t5 t6 M _ hc_1) s_X3_outcome (oB_3 kc_163) q3_106 ⟨show d + 5 + 1 ≤ d + 1 + 5 by omega, show 8 + (7 + 11) + (d * 26 + 119) ≤ (d + 1) * 26 + 119 by omega⟩ hP hS rfl hl.1 rfl (Nat.le_of_ble_eq_true rfl) ⟨Nat.le_refl _, Nat.le_refl _⟩ dX3_outcome_56) hS (fun H locs hP hS => ?_)
  refine va_mmax hx hb (by rw [X.2.2.1, hl.1]) X.2.2.2.1 (X.2.2.2.2.1 _ q3_116) (X.2.2.2.2.1 _ q2_146) (X.2.2.2.2.1 _ q1_11) (X.2.2.2.2.1 _ q2_147) (show 1 ≤ d + 1 + 5 by omega) (show _ ≤ (d + 1) * 26 + 119 from Nat.le_trans (Nat.le_of_ble_eq_true (m := 30) rfl) (by omega)) (Nat.le_refl _) (Nat.le_refl _) dX3_outcome_59 ?_
  exact g_iret X hP hS (sm_i hf) dX3_outcome_62
def e_X3_outcome (fr_outcome : Int32 → Int32 → Int32 → Int32 → Int32 → Mem → Option (Int32 × Mem)) (x1 : Int32) (x2 : Int32) (x3 : Int32) (x4 : Int32) (x5 : Int32) (M : Mem) : Option (Int32 × Mem) :=
  if x1 < x2 then
    cb (fr_outcome (x1 + (1 : Int32)) x2 x3 x4 x5 M) fun r_4 M_3 =>
    if (x1 - x1 / (2 : Int32) * (2 : Int32)) = 0 then
      if x5 = 0 then
        f_X3_outcome_56 fr_outcome r_4 (x1 + (1 : Int32)) x2 x3 x4 (1 : Int32) M_3
      else
        f_X3_outcome_56 fr_outcome r_4 (x1 + (1 : Int32)) x2 x3 x4 (0 : Int32) M_3
    else
      cb (fr_outcome (x1 + (1 : Int32)) x2 x3 (x4 + (2 : Int32)) x5 M_3) fun r_8 M_7 =>
      some ((if r_8 < r_4 then r_8 else r_4), M_7)
  else
    cb (f_X3_loudBehindTurns x3 x4 x5 M) fun r_12 M_11 =>
    some (r_12, M_11)
set_option maxRecDepth 20000 in
theorem e_X3_outcome_ok (l : Launch) (g : GC) {d : Nat} {fr_outcome : Int32 → Int32 → Int32 → Int32 → Int32 → Mem → Option (Int32 × Mem)}  (hfr_outcome : ∀ (x1 : Int32) (x2 : Int32) (x3 : Int32) (x4 : Int32) (x5 : Int32)  (M : Mem) (out : Int32 × Mem), fr_outcome x1 x2 x3 x4 x5 M = some out → cI l g yX3_outcome cX3_outcome 7 (some .int) (rM (d + 5) (d * 26 + 119)) [.ref (gz g + 163), .int x1, .int x2, .int x3, .int x4, .int x5] M out) {x1 : Int32} {x2 : Int32} {x3 : Int32} {x4 : Int32} {x5 : Int32}  {M : Mem} {out : Int32 × Mem} (hf : e_X3_outcome fr_outcome x1 x2 x3 x4 x5 M = some out) : cI l g yX3_outcome cX3_outcome 7 (some .int) (rM ((d + 1) + 5) ((d + 1) * 26 + 119)) [.ref (gz g + 163), .int x1, .int x2, .int x3, .int x4, .int x5] M out := by
  refine g_met (by decide) (Nat.le_of_ble_eq_true rfl) ?_
  intro p e s m below meth c X hP hS ls hl
  have X : Bx p s m _ meth c RX3 cX3_outcome 7 (some .int) g := X
  have hl : lv_has ls 7 [(0, .ref (gz g + 163)), (1, .int x1), (2, .int x2), (3, .int x3), (4, .int x4), (5, .int x5)] := hl
  show W p l e (rM (d + 1 + 5) ((d + 1) * 26 + 119)) s m _ below meth c _ [] 0 0 _ _
  have hx := X.1
  have hb := X.2.1
  refine lv_iload_n hx hb dX3_outcome_0 rfl (lv_at hl 1 rfl) ?_
  refine lv_iload_n hx hb dX3_outcome_1 rfl (lv_at hl 2 rfl) ?_
  refine lv_icmp_lt (tgt := 15) hx hb dX3_outcome_2 (by decide) (fun h_1 => ?_) (fun h_1 => ?_)
  · replace hf := it_t hf h_1
    refine lv_aload_n hx hb dX3_outcome_15 rfl (lv_at hl 0 rfl) ?_
    refine lv_iload_n hx hb dX3_outcome_16 rfl (lv_at hl 1 rfl) ?_
    refine lv_iconst (v := (1 : Int32)) hx hb dX3_outcome_17 (by decide) ?_
    refine lv_iadd hx hb dX3_outcome_18 ?_
    refine lv_iload_n hx hb dX3_outcome_19 rfl (lv_at hl 2 rfl) ?_
    refine lv_iload_n hx hb dX3_outcome_20 rfl (lv_at hl 3 rfl) ?_
    refine lv_iload hx hb dX3_outcome_21 (lv_at hl 4 rfl) ?_
    refine lv_iload hx hb dX3_outcome_23 (lv_at hl 5 rfl) ?_
    obtain ⟨r_4, M_3, hc_2, hf⟩ := cb_s hf
    refine g_goi (g_run X (hfr_outcome (x1 + (1 : Int32)) x2 x3 x4 x5 M _ hc_2) s_X3_outcome (oB_3 kc_163) q3_106 ⟨show d + 5 + 1 ≤ d + 1 + 5 by omega, show 8 + (7 + 11) + (d * 26 + 119) ≤ (d + 1) * 26 + 119 by omega⟩ hP hS rfl hl.1 rfl (Nat.le_of_ble_eq_true rfl) ⟨Nat.le_refl _, Nat.le_refl _⟩ dX3_outcome_25) hS (fun H locs hP hS => ?_)
    refine lv_istore (lv' := [(6, .int r_4), (0, .ref (gz g + 163)), (1, .int x1), (2, .int x2), (3, .int x3), (4, .int x4), (5, .int x5)]) hx hb dX3_outcome_28 hl (by decide) rfl (fun ls hl => ?_)
    refine lv_iload_n hx hb dX3_outcome_30 rfl (lv_at hl 2 rfl) ?_
    refine lv_iconst (v := (2 : Int32)) hx hb dX3_outcome_31 (by decide) ?_
    refine lv_irem hx hb dX3_outcome_32 (by decide) ?_
    refine lv_if_ne (tgt := 63) hx hb dX3_outcome_33 (by decide) (fun h_5 => ?_) (fun h_5 => ?_)
    · replace hf := it_f hf h_5
      refine lv_iload hx hb dX3_outcome_63 (lv_at hl 0 rfl) ?_
      refine lv_aload_n hx hb dX3_outcome_65 rfl (lv_at hl 1 rfl) ?_
      refine lv_iload_n hx hb dX3_outcome_66 rfl (lv_at hl 2 rfl) ?_
      refine lv_iconst (v := (1 : Int32)) hx hb dX3_outcome_67 (by decide) ?_
      refine lv_iadd hx hb dX3_outcome_68 ?_
      refine lv_iload_n hx hb dX3_outcome_69 rfl (lv_at hl 3 rfl) ?_
      refine lv_iload_n hx hb dX3_outcome_70 rfl (lv_at hl 4 rfl) ?_
      refine lv_iload hx hb dX3_outcome_71 (lv_at hl 5 rfl) ?_
      refine lv_iconst (v := (2 : Int32)) hx hb dX3_outcome_73 (by decide) ?_
      refine lv_iadd hx hb dX3_outcome_74 ?_
      refine lv_iload hx hb dX3_outcome_75 (lv_at hl 6 rfl) ?_
      obtain ⟨r_8, M_7, hc_6, hf⟩ := cb_s hf
      refine g_goi (g_run X (hfr_outcome (x1 + (1 : Int32)) x2 x3 (x4 + (2 : Int32)) x5 M_3 _ hc_6) s_X3_outcome (oB_3 kc_163) q3_106 ⟨show d + 5 + 1 ≤ d + 1 + 5 by omega, show 8 + (7 + 11) + (d * 26 + 119) ≤ (d + 1) * 26 + 119 by omega⟩ hP hS rfl hl.1 rfl (Nat.le_of_ble_eq_true rfl) ⟨Nat.le_refl _, Nat.le_refl _⟩ dX3_outcome_77) hS (fun H locs hP hS => ?_)
      refine va_mmin hx hb (by rw [X.2.2.1, hl.1]) X.2.2.2.1 (X.2.2.2.2.1 _ q3_117) (X.2.2.2.2.1 _ q2_136) (X.2.2.2.2.1 _ q1_11) (X.2.2.2.2.1 _ q2_137) (show 1 ≤ d + 1 + 5 by omega) (show _ ≤ (d + 1) * 26 + 119 from Nat.le_trans (Nat.le_of_ble_eq_true (m := 30) rfl) (by omega)) (Nat.le_refl _) (Nat.le_refl _) dX3_outcome_80 ?_
      exact g_iret X hP hS (sm_i hf) dX3_outcome_83
    · replace hf := it_t hf h_5
      refine lv_iload hx hb dX3_outcome_36 (lv_at hl 0 rfl) ?_
      refine lv_aload_n hx hb dX3_outcome_38 rfl (lv_at hl 1 rfl) ?_
      refine lv_iload_n hx hb dX3_outcome_39 rfl (lv_at hl 2 rfl) ?_
      refine lv_iconst (v := (1 : Int32)) hx hb dX3_outcome_40 (by decide) ?_
      refine lv_iadd hx hb dX3_outcome_41 ?_
      refine lv_iload_n hx hb dX3_outcome_42 rfl (lv_at hl 3 rfl) ?_
      refine lv_iload_n hx hb dX3_outcome_43 rfl (lv_at hl 4 rfl) ?_
      refine lv_iload hx hb dX3_outcome_44 (lv_at hl 5 rfl) ?_
      refine lv_iload hx hb dX3_outcome_46 (lv_at hl 6 rfl) ?_
      refine lv_if_ne (tgt := 55) hx hb dX3_outcome_48 (by decide) (fun h_9 => ?_) (fun h_9 => ?_)
      · replace hf := it_f hf h_9
        refine lv_iconst (v := (0 : Int32)) hx hb dX3_outcome_55 (by decide) ?_
        exact b_X3_outcome_56 X hfr_outcome r_4 (x1 + (1 : Int32)) x2 x3 x4 (0 : Int32) M_3 hf hP hS (lv_sub hl [] rfl)
      · replace hf := it_t hf h_9
        refine lv_iconst (v := (1 : Int32)) hx hb dX3_outcome_51 (by decide) ?_
        refine lv_goto (tgt := 56) hx hb dX3_outcome_52 (by decide) ?_
        exact b_X3_outcome_56 X hfr_outcome r_4 (x1 + (1 : Int32)) x2 x3 x4 (1 : Int32) M_3 hf hP hS (lv_sub hl [] rfl)
  · replace hf := it_f hf h_1
    refine lv_aload_n hx hb dX3_outcome_5 rfl (lv_at hl 0 rfl) ?_
    refine lv_iload_n hx hb dX3_outcome_6 rfl (lv_at hl 3 rfl) ?_
    refine lv_iload hx hb dX3_outcome_7 (lv_at hl 4 rfl) ?_
    refine lv_iload hx hb dX3_outcome_9 (lv_at hl 5 rfl) ?_
    obtain ⟨r_12, M_11, hc_10, hf⟩ := cb_s hf
    refine g_goi (g_run X (c_X3_loudBehindTurns l g  hc_10) s_X3_loudBehindTurns (oB_3 kc_163) q3_110 ⟨show 4 + 1 ≤ d + 1 + 5 by omega, show 8 + (4 + 11) + 96 ≤ (d + 1) * 26 + 119 by omega⟩ hP hS rfl hl.1 rfl (Nat.le_of_ble_eq_true rfl) ⟨Nat.le_refl _, Nat.le_refl _⟩ dX3_outcome_11) hS (fun H locs hP hS => ?_)
    exact g_iret X hP hS (sm_i hf) dX3_outcome_14
def f_X3_outcome : Nat → Int32 → Int32 → Int32 → Int32 → Int32 → Mem → Option (Int32 × Mem)
  | 0, _, _, _, _, _, _ => none
  | d + 1, x1, x2, x3, x4, x5, M => e_X3_outcome (f_X3_outcome d) x1 x2 x3 x4 x5 M
theorem c_X3_outcome_all (l : Launch) (g : GC) : ∀ (d : Nat) (x1 : Int32) (x2 : Int32) (x3 : Int32) (x4 : Int32) (x5 : Int32)  (M : Mem) (out : Int32 × Mem), f_X3_outcome d x1 x2 x3 x4 x5 M = some out → cI l g yX3_outcome cX3_outcome 7 (some .int) (rM (d + 5) (d * 26 + 119)) [.ref (gz g + 163), .int x1, .int x2, .int x3, .int x4, .int x5] M out := by
  intro d
  induction d with
  | zero => intro _ _ _ _ _ _ _ hf; cases hf
  | succ d ih =>
    intro x1 x2 x3 x4 x5 M out hf
    rw [f_X3_outcome] at hf
    exact e_X3_outcome_ok l g (fun x1 x2 x3 x4 x5 M out h => ih x1 x2 x3 x4 x5 M out h)  hf
theorem c_X3_outcome (l : Launch) (g : GC) (d : Nat) {x1 : Int32} {x2 : Int32} {x3 : Int32} {x4 : Int32} {x5 : Int32}  {M : Mem} {out : Int32 × Mem} (hf : f_X3_outcome d x1 x2 x3 x4 x5 M = some out) : cI l g yX3_outcome cX3_outcome 7 (some .int) (rM (d + 5) (d * 26 + 119)) [.ref (gz g + 163), .int x1, .int x2, .int x3, .int x4, .int x5] M out := c_X3_outcome_all l g d x1 x2 x3 x4 x5 M out hf
def f_X3_outcomeOfTurns (x1 : Int32) (x2 : Int32) (M : Mem) : Option (Int32 × Mem) :=
  cb (f_X3_outcome 24 (0 : Int32) x1 x2 (0 : Int32) (0 : Int32) M) fun r_3 M_2 =>
  some (r_3, M_2)
set_option maxRecDepth 20000 in
theorem c_X3_outcomeOfTurns (l : Launch) (g : GC) {x1 : Int32} {x2 : Int32}  {M : Mem} {out : Int32 × Mem} (hf : f_X3_outcomeOfTurns x1 x2 M = some out) : cI l g yX3_outcomeOfTurns cX3_outcomeOfTurns 3 (some .int) (rM 30 769) [.ref (gz g + 163), .int x1, .int x2] M out := by
  refine g_met (by decide) (Nat.le_of_ble_eq_true rfl) ?_
  intro p e s m below meth c X hP hS ls hl
  have X : Bx p s m _ meth c RX3 cX3_outcomeOfTurns 3 (some .int) g := X
  have hl : lv_has ls 3 [(0, .ref (gz g + 163)), (1, .int x1), (2, .int x2)] := hl
  have hx := X.1
  have hb := X.2.1
  refine lv_aload_n hx hb dX3_outcomeOfTurns_0 rfl (lv_at hl 0 rfl) ?_
  refine lv_iconst (v := (0 : Int32)) hx hb dX3_outcomeOfTurns_1 (by decide) ?_
  refine lv_iload_n hx hb dX3_outcomeOfTurns_2 rfl (lv_at hl 1 rfl) ?_
  refine lv_iload_n hx hb dX3_outcomeOfTurns_3 rfl (lv_at hl 2 rfl) ?_
  refine lv_iconst (v := (0 : Int32)) hx hb dX3_outcomeOfTurns_4 (by decide) ?_
  refine lv_iconst (v := (0 : Int32)) hx hb dX3_outcomeOfTurns_5 (by decide) ?_
  obtain ⟨r_3, M_2, hc_1, hf⟩ := cb_s hf
  refine g_goi (g_run X (c_X3_outcome l g 24  hc_1) s_X3_outcome (oB_3 kc_163) q3_106 ⟨Nat.le_of_ble_eq_true rfl, Nat.le_of_ble_eq_true rfl⟩ hP hS rfl hl.1 rfl (Nat.le_of_ble_eq_true rfl) ⟨Nat.le_refl _, Nat.le_refl _⟩ dX3_outcomeOfTurns_6) hS (fun H locs hP hS => ?_)
  exact g_iret X hP hS (sm_i hf) dX3_outcomeOfTurns_9
def f_X3_trialIsHeardAs_3 (o1 : Nat) (x2 : Int32) (x3 : Int32)  : Nat → Int32 → Mem → Option (Int32 × Mem)
  | 0, _, _ => none
  | n + 1, x4, M =>
    if (x2 + x3) ≤ x4 then
      some ((1 : Int32), M)
    else
      cb (f_X5_turn 164 M) fun r_4 M_3 =>
      cb (f_X5_loud 164 M_3) fun r_7 M_6 =>
      ck x4 40 <|
      if r_7 = (M_6 (o1 + 1) x4.toNatClampNeg) then
        (f_X3_trialIsHeardAs_3 o1 x2 x3 n) (x4 + (1 : Int32)) M_6
      else
        some ((0 : Int32), M_6)
set_option maxRecDepth 20000 in
theorem b_X3_trialIsHeardAs_3 {out : Int32 × Mem} (X : Bx p s m args meth c RX3 cX3_trialIsHeardAs 5 (some .boolean) g)   {o1 : Nat} {x2 : Int32} {x3 : Int32}  (h1 : kd o1 = 2)   : ∀ (n : Nat) (x4 : Int32) (M : Mem) (H : Heap) (locs : List Loc) (ls : Array Slot), f_X3_trialIsHeardAs_3 o1 x2 x3 n x4 M = some out → va_P g.1 vwCl (gW g M) H → va_S (gA g) s.heap H locs → lv_has ls 5 [(0, .ref (gz g + 163)), (1, .ref (gz g + o1)), (2, .int x2), (3, .int x3), (4, .int x4)] → W p l e (rM 3 74) s m args below meth c H locs 0 0 (MQ below (qI g out) args s 0 0 (gA g)) (F0 m 3 ls []) := by
  have hx := X.1
  have hb := X.2.1
  intro n
  induction n with
  | zero => intro _ _ _ _ _ hf; cases hf
  | succ n ih =>
    intro x4 M H locs ls hf hP hS hl
    rw [f_X3_trialIsHeardAs_3] at hf
    refine lv_iload hx hb dX3_trialIsHeardAs_3 (lv_at hl 4 rfl) ?_
    refine lv_iload_n hx hb dX3_trialIsHeardAs_5 rfl (lv_at hl 2 rfl) ?_
    refine lv_iload_n hx hb dX3_trialIsHeardAs_6 rfl (lv_at hl 3 rfl) ?_
    refine lv_iadd hx hb dX3_trialIsHeardAs_7 ?_
    refine lv_icmp_ge (tgt := 44) hx hb dX3_trialIsHeardAs_8 (by decide) (fun h_1 => ?_) (fun h_1 => ?_)
    · replace hf := it_t hf h_1
      refine lv_iconst (v := (1 : Int32)) hx hb dX3_trialIsHeardAs_44 (by decide) ?_
      exact g_zret X hP hS rfl (sm_i hf) dX3_trialIsHeardAs_45
    · replace hf := it_f hf h_1
      refine lv_aload_n hx hb dX3_trialIsHeardAs_11 rfl (lv_at hl 0 rfl) ?_
      refine gf_3_1 X hP kc_163 q1_148 dX3_trialIsHeardAs_12 ?_
      obtain ⟨r_4, M_3, hc_2, hf⟩ := cb_s hf
      refine g_goi (g_run X (c_X5_turn l g kc_164 hc_2) s_X5_turn (oB_5 kc_164) q3_22 ⟨Nat.le_of_ble_eq_true rfl, Nat.le_of_ble_eq_true rfl⟩ hP hS rfl hl.1 rfl (Nat.le_of_ble_eq_true rfl) ⟨Nat.le_refl _, Nat.le_refl _⟩ dX3_trialIsHeardAs_15) hS (fun H locs hP hS => ?_)
      refine lv_pop hx hb dX3_trialIsHeardAs_18 rfl ?_
      refine lv_aload_n hx hb dX3_trialIsHeardAs_19 rfl (lv_at hl 0 rfl) ?_
      refine gf_3_1 X hP kc_163 q1_148 dX3_trialIsHeardAs_20 ?_
      obtain ⟨r_7, M_6, hc_5, hf⟩ := cb_s hf
      refine g_goi (g_run X (c_X5_loud l g kc_164 hc_5) s_X5_loud (oB_5 kc_164) q3_12 ⟨Nat.le_of_ble_eq_true rfl, Nat.le_of_ble_eq_true rfl⟩ hP hS rfl hl.1 rfl (Nat.le_of_ble_eq_true rfl) ⟨Nat.le_refl _, Nat.le_refl _⟩ dX3_trialIsHeardAs_23) hS (fun H locs hP hS => ?_)
      refine lv_aload_n hx hb dX3_trialIsHeardAs_26 rfl (lv_at hl 1 rfl) ?_
      refine gf_2_0 X hP h1 q1_182 dX3_trialIsHeardAs_27 ?_
      refine lv_iload hx hb dX3_trialIsHeardAs_30 (lv_at hl 4 rfl) ?_
      obtain ⟨hi_8, hf⟩ := ck_s hf
      refine ga_ld X hP (iA_10 (kdR1 h1)) hi_8 dX3_trialIsHeardAs_32 ?_
      refine lv_icmp_eq (tgt := 38) hx hb dX3_trialIsHeardAs_33 (by decide) (fun h_9 => ?_) (fun h_9 => ?_)
      · replace hf := it_t hf h_9
        refine lv_iinc (v := (x4 + (1 : Int32))) (lv' := [(4, .int (x4 + (1 : Int32))), (0, .ref (gz g + 163)), (1, .ref (gz g + o1)), (2, .int x2), (3, .int x3)]) hx hb dX3_trialIsHeardAs_38 hl (k := 4) rfl rfl (by decide) rfl (fun ls hl => ?_)
        refine lv_goto (tgt := 3) hx hb dX3_trialIsHeardAs_41 (by decide) ?_
        exact ih (x4 + (1 : Int32)) M_6 _ _ _ hf hP hS (lv_sub hl [1, 2, 3, 4, 0] rfl)
      · replace hf := it_f hf h_9
        refine lv_iconst (v := (0 : Int32)) hx hb dX3_trialIsHeardAs_36 (by decide) ?_
        exact g_zret X hP hS rfl (sm_i hf) dX3_trialIsHeardAs_37
def f_X3_trialIsHeardAs (o1 : Nat) (x2 : Int32) (x3 : Int32) (M : Mem) : Option (Int32 × Mem) :=
  f_X3_trialIsHeardAs_3 o1 x2 x3 FU x2 M
set_option maxRecDepth 20000 in
theorem c_X3_trialIsHeardAs (l : Launch) (g : GC) {o1 : Nat} {x2 : Int32} {x3 : Int32} (h1 : kd o1 = 2) {M : Mem} {out : Int32 × Mem} (hf : f_X3_trialIsHeardAs o1 x2 x3 M = some out) : cI l g yX3_trialIsHeardAs cX3_trialIsHeardAs 5 (some .boolean) (rM 3 74) [.ref (gz g + 163), .ref (gz g + o1), .int x2, .int x3] M out := by
  refine g_met (by decide) (Nat.le_of_ble_eq_true rfl) ?_
  intro p e s m below meth c X hP hS ls hl
  have X : Bx p s m _ meth c RX3 cX3_trialIsHeardAs 5 (some .boolean) g := X
  have hl : lv_has ls 5 [(0, .ref (gz g + 163)), (1, .ref (gz g + o1)), (2, .int x2), (3, .int x3)] := hl
  have hx := X.1
  have hb := X.2.1
  refine lv_iload_n hx hb dX3_trialIsHeardAs_0 rfl (lv_at hl 2 rfl) ?_
  refine lv_istore (lv' := [(4, .int x2), (0, .ref (gz g + 163)), (1, .ref (gz g + o1)), (2, .int x2), (3, .int x3)]) hx hb dX3_trialIsHeardAs_1 hl (by decide) rfl (fun ls hl => ?_)
  exact b_X3_trialIsHeardAs_3 X h1 FU x2 M _ _ _ hf hP hS (lv_sub hl [1, 2, 3, 4, 0] rfl)
def f_X3_kindsThatFit_54 (x1 : Int32) (o2 : Nat) (x3 : Int32) (x4 : Int32) (k6 : Int32 → Int32 → Mem → Option (Int32 × Mem)) (x5 : Int32) (x6 : Int32) (M : Mem) : Option (Int32 × Mem) :=
  k6 x5 (x6 + (1 : Int32)) M
set_option maxRecDepth 20000 in
theorem b_X3_kindsThatFit_54 {out : Int32 × Mem} (X : Bx p s m args meth c RX3 cX3_kindsThatFit 7 (some .int) g)   {x1 : Int32} {o2 : Nat} {x3 : Int32} {x4 : Int32}  (h2 : kd o2 = 2) {k6 : Int32 → Int32 → Mem → Option (Int32 × Mem)} (hk6 : ∀ (x5 : Int32) (x6 : Int32) (M : Mem) (H : Heap) (locs : List Loc) (ls : Array Slot), k6 x5 x6 M = some out → va_P g.1 vwCl (gW g M) H → va_S (gA g) s.heap H locs → lv_has ls 7 [(0, .ref (gz g + 163)), (1, .int x1), (2, .ref (gz g + o2)), (3, .int x3), (4, .int x4), (5, .int x5), (6, .int x6)] → W p l e (rM 4 98) s m args below meth c H locs 0 0 (MQ below (qI g out) args s 0 0 (gA g)) (F0 m 6 ls [])) (x5 : Int32) (x6 : Int32) (M : Mem) {H : Heap} {locs : List Loc} {ls : Array Slot} (hf : f_X3_kindsThatFit_54 x1 o2 x3 x4 k6 x5 x6 M = some out) (hP : va_P g.1 vwCl (gW g M) H) (hS : va_S (gA g) s.heap H locs) (hl : lv_has ls 7 [(0, .ref (gz g + 163)), (1, .int x1), (2, .ref (gz g + o2)), (3, .int x3), (4, .int x4), (5, .int x5), (6, .int x6)]) : W p l e (rM 4 98) s m args below meth c H locs 0 0 (MQ below (qI g out) args s 0 0 (gA g)) (F0 m 54 ls []) := by
  have hx := X.1
  have hb := X.2.1
  refine lv_iinc (v := (x6 + (1 : Int32))) (lv' := [(6, .int (x6 + (1 : Int32))), (0, .ref (gz g + 163)), (1, .int x1), (2, .ref (gz g + o2)), (3, .int x3), (4, .int x4), (5, .int x5)]) hx hb dX3_kindsThatFit_54 hl (k := 6) rfl rfl (by decide) rfl (fun ls hl => ?_)
  refine lv_goto (tgt := 6) hx hb dX3_kindsThatFit_57 (by decide) ?_
  exact hk6 x5 (x6 + (1 : Int32)) M _ _ _ hf hP hS (lv_sub hl [1, 2, 3, 4, 5, 6, 0] rfl)
def f_X3_kindsThatFit_6 (x1 : Int32) (o2 : Nat) (x3 : Int32) (x4 : Int32)  : Nat → Int32 → Int32 → Mem → Option (Int32 × Mem)
  | 0, _, _, _ => none
  | n + 1, x5, x6, M =>
    if (5 : Int32) < x6 then
      some (x5, M)
    else
      cv (f_X5_takeFrom 164 3 M) fun M_3 =>
      ck x1 6 <|
      lt (up2 M_3 (164 + 2) x1.toNatClampNeg x6) fun M_4 =>
      cb (f_X3_trialIsHeardAs o2 x3 x4 M_4) fun r_8 M_7 =>
      if r_8 = 0 then
        f_X3_kindsThatFit_54 x1 o2 x3 x4 (f_X3_kindsThatFit_6 x1 o2 x3 x4 n) x5 x6 M_7
      else
        lt (x5 ||| ((1 : Int32) <<< (x6 &&& 31))) fun x5_10 =>
        f_X3_kindsThatFit_54 x1 o2 x3 x4 (f_X3_kindsThatFit_6 x1 o2 x3 x4 n) x5_10 x6 M_7
set_option maxRecDepth 20000 in
theorem b_X3_kindsThatFit_6 {out : Int32 × Mem} (X : Bx p s m args meth c RX3 cX3_kindsThatFit 7 (some .int) g)   {x1 : Int32} {o2 : Nat} {x3 : Int32} {x4 : Int32}  (h2 : kd o2 = 2)   : ∀ (n : Nat) (x5 : Int32) (x6 : Int32) (M : Mem) (H : Heap) (locs : List Loc) (ls : Array Slot), f_X3_kindsThatFit_6 x1 o2 x3 x4 n x5 x6 M = some out → va_P g.1 vwCl (gW g M) H → va_S (gA g) s.heap H locs → lv_has ls 7 [(0, .ref (gz g + 163)), (1, .int x1), (2, .ref (gz g + o2)), (3, .int x3), (4, .int x4), (5, .int x5), (6, .int x6)] → W p l e (rM 4 98) s m args below meth c H locs 0 0 (MQ below (qI g out) args s 0 0 (gA g)) (F0 m 6 ls []) := by
  have hx := X.1
  have hb := X.2.1
  intro n
  induction n with
  | zero => intro _ _ _ _ _ _ hf; cases hf
  | succ n ih =>
    intro x5 x6 M H locs ls hf hP hS hl
    rw [f_X3_kindsThatFit_6] at hf
    refine lv_iload hx hb dX3_kindsThatFit_6 (lv_at hl 6 rfl) ?_
    refine lv_iconst (v := (5 : Int32)) hx hb dX3_kindsThatFit_8 (by decide) ?_
    refine lv_icmp_gt (tgt := 60) hx hb dX3_kindsThatFit_9 (by decide) (fun h_1 => ?_) (fun h_1 => ?_)
    · replace hf := it_t hf h_1
      refine lv_iload hx hb dX3_kindsThatFit_60 (lv_at hl 5 rfl) ?_
      exact g_iret X hP hS (sm_i hf) dX3_kindsThatFit_62
    · replace hf := it_f hf h_1
      refine lv_aload_n hx hb dX3_kindsThatFit_12 rfl (lv_at hl 0 rfl) ?_
      refine gf_3_1 X hP kc_163 q1_148 dX3_kindsThatFit_13 ?_
      refine lv_aload_n hx hb dX3_kindsThatFit_16 rfl (lv_at hl 0 rfl) ?_
      refine gf_3_0 X hP kc_163 q1_147 dX3_kindsThatFit_17 ?_
      obtain ⟨M_3, hc_2, hf⟩ := cv_s hf
      refine g_gov (g_run X (c_X5_takeFrom l g kc_164 kc_3 hc_2) s_X5_takeFrom (oB_5 kc_164) q2_237 ⟨Nat.le_of_ble_eq_true rfl, Nat.le_of_ble_eq_true rfl⟩ hP hS rfl hl.1 rfl (Nat.le_of_ble_eq_true rfl) ⟨Nat.le_refl _, Nat.le_refl _⟩ dX3_kindsThatFit_20) hS (fun H locs hP hS => ?_)
      refine lv_aload_n hx hb dX3_kindsThatFit_23 rfl (lv_at hl 0 rfl) ?_
      refine gf_3_1 X hP kc_163 q1_148 dX3_kindsThatFit_24 ?_
      refine gf_5_7 X hP kc_164 q1_57 dX3_kindsThatFit_27 ?_
      refine lv_iload_n hx hb dX3_kindsThatFit_30 rfl (lv_at hl 1 rfl) ?_
      refine lv_iload hx hb dX3_kindsThatFit_31 (lv_at hl 6 rfl) ?_
      obtain ⟨hi_5, hf⟩ := ck_s hf
      refine ga_st X hP hS (iA_8 (kdW2 kc_164)) hi_5 dX3_kindsThatFit_33 (fun H locs M_4 eM_4 hP hS => ?_)
      replace hf := lt_go hf eM_4
      refine lv_aload_n hx hb dX3_kindsThatFit_34 rfl (lv_at hl 0 rfl) ?_
      refine lv_aload_n hx hb dX3_kindsThatFit_35 rfl (lv_at hl 2 rfl) ?_
      refine lv_iload_n hx hb dX3_kindsThatFit_36 rfl (lv_at hl 3 rfl) ?_
      refine lv_iload hx hb dX3_kindsThatFit_37 (lv_at hl 4 rfl) ?_
      obtain ⟨r_8, M_7, hc_6, hf⟩ := cb_s hf
      refine g_goi (g_run X (c_X3_trialIsHeardAs l g h2 hc_6) s_X3_trialIsHeardAs (oB_3 kc_163) q3_130 ⟨Nat.le_of_ble_eq_true rfl, Nat.le_of_ble_eq_true rfl⟩ hP hS rfl hl.1 rfl (Nat.le_of_ble_eq_true rfl) ⟨Nat.le_refl _, Nat.le_refl _⟩ dX3_kindsThatFit_39) hS (fun H locs hP hS => ?_)
      refine lv_if_eq (tgt := 54) hx hb dX3_kindsThatFit_42 (by decide) (fun h_9 => ?_) (fun h_9 => ?_)
      · replace hf := it_t hf h_9
        exact b_X3_kindsThatFit_54 X h2 ih x5 x6 M_7 hf hP hS hl
      · replace hf := it_f hf h_9
        refine lv_iload hx hb dX3_kindsThatFit_45 (lv_at hl 5 rfl) ?_
        refine lv_iconst (v := (1 : Int32)) hx hb dX3_kindsThatFit_47 (by decide) ?_
        refine lv_iload hx hb dX3_kindsThatFit_48 (lv_at hl 6 rfl) ?_
        refine lv_ishl hx hb dX3_kindsThatFit_50 ?_
        refine lv_ior hx hb dX3_kindsThatFit_51 ?_
        refine lv_topi (fun x5_10 ex5_10 => ?_)
        replace hf := lt_go hf ex5_10
        refine lv_istore (lv' := [(5, .int x5_10), (0, .ref (gz g + 163)), (1, .int x1), (2, .ref (gz g + o2)), (3, .int x3), (4, .int x4), (6, .int x6)]) hx hb dX3_kindsThatFit_52 hl (by decide) rfl (fun ls hl => ?_)
        exact b_X3_kindsThatFit_54 X h2 ih x5_10 x6 M_7 hf hP hS (lv_sub hl [1, 2, 3, 4, 5, 0, 6] rfl)
def f_X3_kindsThatFit (x1 : Int32) (o2 : Nat) (x3 : Int32) (x4 : Int32) (M : Mem) : Option (Int32 × Mem) :=
  f_X3_kindsThatFit_6 x1 o2 x3 x4 FU (0 : Int32) (1 : Int32) M
set_option maxRecDepth 20000 in
theorem c_X3_kindsThatFit (l : Launch) (g : GC) {x1 : Int32} {o2 : Nat} {x3 : Int32} {x4 : Int32} (h2 : kd o2 = 2) {M : Mem} {out : Int32 × Mem} (hf : f_X3_kindsThatFit x1 o2 x3 x4 M = some out) : cI l g yX3_kindsThatFit cX3_kindsThatFit 7 (some .int) (rM 4 98) [.ref (gz g + 163), .int x1, .ref (gz g + o2), .int x3, .int x4] M out := by
  refine g_met (by decide) (Nat.le_of_ble_eq_true rfl) ?_
  intro p e s m below meth c X hP hS ls hl
  have X : Bx p s m _ meth c RX3 cX3_kindsThatFit 7 (some .int) g := X
  have hl : lv_has ls 7 [(0, .ref (gz g + 163)), (1, .int x1), (2, .ref (gz g + o2)), (3, .int x3), (4, .int x4)] := hl
  have hx := X.1
  have hb := X.2.1
  refine lv_iconst (v := (0 : Int32)) hx hb dX3_kindsThatFit_0 (by decide) ?_
  refine lv_istore (lv' := [(5, .int (0 : Int32)), (0, .ref (gz g + 163)), (1, .int x1), (2, .ref (gz g + o2)), (3, .int x3), (4, .int x4)]) hx hb dX3_kindsThatFit_1 hl (by decide) rfl (fun ls hl => ?_)
  refine lv_iconst (v := (1 : Int32)) hx hb dX3_kindsThatFit_3 (by decide) ?_
  refine lv_istore (lv' := [(6, .int (1 : Int32)), (5, .int (0 : Int32)), (0, .ref (gz g + 163)), (1, .int x1), (2, .ref (gz g + o2)), (3, .int x3), (4, .int x4)]) hx hb dX3_kindsThatFit_4 hl (by decide) rfl (fun ls hl => ?_)
  exact b_X3_kindsThatFit_6 X h2 FU (0 : Int32) (1 : Int32) M _ _ _ hf hP hS (lv_sub hl [2, 3, 4, 5, 6, 1, 0] rfl)
def f_X3_tuningsThatFit_55 (x1 : Int32) (o2 : Nat) (x3 : Int32) (x4 : Int32) (k6 : Int32 → Int32 → Mem → Option (Int32 × Mem)) (x5 : Int32) (x6 : Int32) (M : Mem) : Option (Int32 × Mem) :=
  k6 x5 (x6 + (1 : Int32)) M
set_option maxRecDepth 20000 in
theorem b_X3_tuningsThatFit_55 {out : Int32 × Mem} (X : Bx p s m args meth c RX3 cX3_tuningsThatFit 7 (some .int) g)   {x1 : Int32} {o2 : Nat} {x3 : Int32} {x4 : Int32}  (h2 : kd o2 = 2) {k6 : Int32 → Int32 → Mem → Option (Int32 × Mem)} (hk6 : ∀ (x5 : Int32) (x6 : Int32) (M : Mem) (H : Heap) (locs : List Loc) (ls : Array Slot), k6 x5 x6 M = some out → va_P g.1 vwCl (gW g M) H → va_S (gA g) s.heap H locs → lv_has ls 7 [(0, .ref (gz g + 163)), (1, .int x1), (2, .ref (gz g + o2)), (3, .int x3), (4, .int x4), (5, .int x5), (6, .int x6)] → W p l e (rM 4 98) s m args below meth c H locs 0 0 (MQ below (qI g out) args s 0 0 (gA g)) (F0 m 6 ls [])) (x5 : Int32) (x6 : Int32) (M : Mem) {H : Heap} {locs : List Loc} {ls : Array Slot} (hf : f_X3_tuningsThatFit_55 x1 o2 x3 x4 k6 x5 x6 M = some out) (hP : va_P g.1 vwCl (gW g M) H) (hS : va_S (gA g) s.heap H locs) (hl : lv_has ls 7 [(0, .ref (gz g + 163)), (1, .int x1), (2, .ref (gz g + o2)), (3, .int x3), (4, .int x4), (5, .int x5), (6, .int x6)]) : W p l e (rM 4 98) s m args below meth c H locs 0 0 (MQ below (qI g out) args s 0 0 (gA g)) (F0 m 55 ls []) := by
  have hx := X.1
  have hb := X.2.1
  refine lv_iinc (v := (x6 + (1 : Int32))) (lv' := [(6, .int (x6 + (1 : Int32))), (0, .ref (gz g + 163)), (1, .int x1), (2, .ref (gz g + o2)), (3, .int x3), (4, .int x4), (5, .int x5)]) hx hb dX3_tuningsThatFit_55 hl (k := 6) rfl rfl (by decide) rfl (fun ls hl => ?_)
  refine lv_goto (tgt := 6) hx hb dX3_tuningsThatFit_58 (by decide) ?_
  exact hk6 x5 (x6 + (1 : Int32)) M _ _ _ hf hP hS (lv_sub hl [1, 2, 3, 4, 5, 6, 0] rfl)
def f_X3_tuningsThatFit_6 (x1 : Int32) (o2 : Nat) (x3 : Int32) (x4 : Int32)  : Nat → Int32 → Int32 → Mem → Option (Int32 × Mem)
  | 0, _, _, _ => none
  | n + 1, x5, x6, M =>
    if (9 : Int32) < x6 then
      some (x5, M)
    else
      cv (f_X5_takeFrom 164 3 M) fun M_3 =>
      ck x1 6 <|
      lt (up2 M_3 (164 + 3) x1.toNatClampNeg x6) fun M_4 =>
      cb (f_X3_trialIsHeardAs o2 x3 x4 M_4) fun r_8 M_7 =>
      if r_8 = 0 then
        f_X3_tuningsThatFit_55 x1 o2 x3 x4 (f_X3_tuningsThatFit_6 x1 o2 x3 x4 n) x5 x6 M_7
      else
        lt (x5 ||| ((1 : Int32) <<< (x6 &&& 31))) fun x5_10 =>
        f_X3_tuningsThatFit_55 x1 o2 x3 x4 (f_X3_tuningsThatFit_6 x1 o2 x3 x4 n) x5_10 x6 M_7
set_option maxRecDepth 20000 in
theorem b_X3_tuningsThatFit_6 {out : Int32 × Mem} (X : Bx p s m args meth c RX3 cX3_tuningsThatFit 7 (some .int) g)   {x1 : Int32} {o2 : Nat} {x3 : Int32} {x4 : Int32}  (h2 : kd o2 = 2)   : ∀ (n : Nat) (x5 : Int32) (x6 : Int32) (M : Mem) (H : Heap) (locs : List Loc) (ls : Array Slot), f_X3_tuningsThatFit_6 x1 o2 x3 x4 n x5 x6 M = some out → va_P g.1 vwCl (gW g M) H → va_S (gA g) s.heap H locs → lv_has ls 7 [(0, .ref (gz g + 163)), (1, .int x1), (2, .ref (gz g + o2)), (3, .int x3), (4, .int x4), (5, .int x5), (6, .int x6)] → W p l e (rM 4 98) s m args below meth c H locs 0 0 (MQ below (qI g out) args s 0 0 (gA g)) (F0 m 6 ls []) := by
  have hx := X.1
  have hb := X.2.1
  intro n
  induction n with
  | zero => intro _ _ _ _ _ _ hf; cases hf
  | succ n ih =>
    intro x5 x6 M H locs ls hf hP hS hl
    rw [f_X3_tuningsThatFit_6] at hf
    refine lv_iload hx hb dX3_tuningsThatFit_6 (lv_at hl 6 rfl) ?_
    refine lv_bipush (v := (9 : Int32)) hx hb dX3_tuningsThatFit_8 (by decide) ?_
    refine lv_icmp_gt (tgt := 61) hx hb dX3_tuningsThatFit_10 (by decide) (fun h_1 => ?_) (fun h_1 => ?_)
    · replace hf := it_t hf h_1
      refine lv_iload hx hb dX3_tuningsThatFit_61 (lv_at hl 5 rfl) ?_
      exact g_iret X hP hS (sm_i hf) dX3_tuningsThatFit_63
    · replace hf := it_f hf h_1
      refine lv_aload_n hx hb dX3_tuningsThatFit_13 rfl (lv_at hl 0 rfl) ?_
      refine gf_3_1 X hP kc_163 q1_148 dX3_tuningsThatFit_14 ?_
      refine lv_aload_n hx hb dX3_tuningsThatFit_17 rfl (lv_at hl 0 rfl) ?_
      refine gf_3_0 X hP kc_163 q1_147 dX3_tuningsThatFit_18 ?_
      obtain ⟨M_3, hc_2, hf⟩ := cv_s hf
      refine g_gov (g_run X (c_X5_takeFrom l g kc_164 kc_3 hc_2) s_X5_takeFrom (oB_5 kc_164) q2_237 ⟨Nat.le_of_ble_eq_true rfl, Nat.le_of_ble_eq_true rfl⟩ hP hS rfl hl.1 rfl (Nat.le_of_ble_eq_true rfl) ⟨Nat.le_refl _, Nat.le_refl _⟩ dX3_tuningsThatFit_21) hS (fun H locs hP hS => ?_)
      refine lv_aload_n hx hb dX3_tuningsThatFit_24 rfl (lv_at hl 0 rfl) ?_
      refine gf_3_1 X hP kc_163 q1_148 dX3_tuningsThatFit_25 ?_
      refine gf_5_8 X hP kc_164 q1_63 dX3_tuningsThatFit_28 ?_
      refine lv_iload_n hx hb dX3_tuningsThatFit_31 rfl (lv_at hl 1 rfl) ?_
      refine lv_iload hx hb dX3_tuningsThatFit_32 (lv_at hl 6 rfl) ?_
      obtain ⟨hi_5, hf⟩ := ck_s hf
      refine ga_st X hP hS (iA_8 (kdW3 kc_164)) hi_5 dX3_tuningsThatFit_34 (fun H locs M_4 eM_4 hP hS => ?_)
      replace hf := lt_go hf eM_4
      refine lv_aload_n hx hb dX3_tuningsThatFit_35 rfl (lv_at hl 0 rfl) ?_
      refine lv_aload_n hx hb dX3_tuningsThatFit_36 rfl (lv_at hl 2 rfl) ?_
      refine lv_iload_n hx hb dX3_tuningsThatFit_37 rfl (lv_at hl 3 rfl) ?_
      refine lv_iload hx hb dX3_tuningsThatFit_38 (lv_at hl 4 rfl) ?_
      obtain ⟨r_8, M_7, hc_6, hf⟩ := cb_s hf
      refine g_goi (g_run X (c_X3_trialIsHeardAs l g h2 hc_6) s_X3_trialIsHeardAs (oB_3 kc_163) q3_130 ⟨Nat.le_of_ble_eq_true rfl, Nat.le_of_ble_eq_true rfl⟩ hP hS rfl hl.1 rfl (Nat.le_of_ble_eq_true rfl) ⟨Nat.le_refl _, Nat.le_refl _⟩ dX3_tuningsThatFit_40) hS (fun H locs hP hS => ?_)
      refine lv_if_eq (tgt := 55) hx hb dX3_tuningsThatFit_43 (by decide) (fun h_9 => ?_) (fun h_9 => ?_)
      · replace hf := it_t hf h_9
        exact b_X3_tuningsThatFit_55 X h2 ih x5 x6 M_7 hf hP hS hl
      · replace hf := it_f hf h_9
        refine lv_iload hx hb dX3_tuningsThatFit_46 (lv_at hl 5 rfl) ?_
        refine lv_iconst (v := (1 : Int32)) hx hb dX3_tuningsThatFit_48 (by decide) ?_
        refine lv_iload hx hb dX3_tuningsThatFit_49 (lv_at hl 6 rfl) ?_
        refine lv_ishl hx hb dX3_tuningsThatFit_51 ?_
        refine lv_ior hx hb dX3_tuningsThatFit_52 ?_
        refine lv_topi (fun x5_10 ex5_10 => ?_)
        replace hf := lt_go hf ex5_10
        refine lv_istore (lv' := [(5, .int x5_10), (0, .ref (gz g + 163)), (1, .int x1), (2, .ref (gz g + o2)), (3, .int x3), (4, .int x4), (6, .int x6)]) hx hb dX3_tuningsThatFit_53 hl (by decide) rfl (fun ls hl => ?_)
        exact b_X3_tuningsThatFit_55 X h2 ih x5_10 x6 M_7 hf hP hS (lv_sub hl [1, 2, 3, 4, 5, 0, 6] rfl)
def f_X3_tuningsThatFit (x1 : Int32) (o2 : Nat) (x3 : Int32) (x4 : Int32) (M : Mem) : Option (Int32 × Mem) :=
  f_X3_tuningsThatFit_6 x1 o2 x3 x4 FU (0 : Int32) (1 : Int32) M
set_option maxRecDepth 20000 in
theorem c_X3_tuningsThatFit (l : Launch) (g : GC) {x1 : Int32} {o2 : Nat} {x3 : Int32} {x4 : Int32} (h2 : kd o2 = 2) {M : Mem} {out : Int32 × Mem} (hf : f_X3_tuningsThatFit x1 o2 x3 x4 M = some out) : cI l g yX3_tuningsThatFit cX3_tuningsThatFit 7 (some .int) (rM 4 98) [.ref (gz g + 163), .int x1, .ref (gz g + o2), .int x3, .int x4] M out := by
  refine g_met (by decide) (Nat.le_of_ble_eq_true rfl) ?_
  intro p e s m below meth c X hP hS ls hl
  have X : Bx p s m _ meth c RX3 cX3_tuningsThatFit 7 (some .int) g := X
  have hl : lv_has ls 7 [(0, .ref (gz g + 163)), (1, .int x1), (2, .ref (gz g + o2)), (3, .int x3), (4, .int x4)] := hl
  have hx := X.1
  have hb := X.2.1
  refine lv_iconst (v := (0 : Int32)) hx hb dX3_tuningsThatFit_0 (by decide) ?_
  refine lv_istore (lv' := [(5, .int (0 : Int32)), (0, .ref (gz g + 163)), (1, .int x1), (2, .ref (gz g + o2)), (3, .int x3), (4, .int x4)]) hx hb dX3_tuningsThatFit_1 hl (by decide) rfl (fun ls hl => ?_)
  refine lv_iconst (v := (1 : Int32)) hx hb dX3_tuningsThatFit_3 (by decide) ?_
  refine lv_istore (lv' := [(6, .int (1 : Int32)), (5, .int (0 : Int32)), (0, .ref (gz g + 163)), (1, .int x1), (2, .ref (gz g + o2)), (3, .int x3), (4, .int x4)]) hx hb dX3_tuningsThatFit_4 hl (by decide) rfl (fun ls hl => ?_)
  exact b_X3_tuningsThatFit_6 X h2 FU (0 : Int32) (1 : Int32) M _ _ _ hf hP hS (lv_sub hl [2, 3, 4, 5, 6, 1, 0] rfl)
def f_X3_columnsThatFit_57 (o1 : Nat) (x2 : Int32) (x3 : Int32) (k6 : Int32 → Int32 → Mem → Option (Int32 × Mem)) (x4 : Int32) (x5 : Int32) (M : Mem) : Option (Int32 × Mem) :=
  k6 x4 (x5 + (1 : Int32)) M
set_option maxRecDepth 20000 in
theorem b_X3_columnsThatFit_57 {out : Int32 × Mem} (X : Bx p s m args meth c RX3 cX3_columnsThatFit 6 (some .int) g)   {o1 : Nat} {x2 : Int32} {x3 : Int32}  (h1 : kd o1 = 2) {k6 : Int32 → Int32 → Mem → Option (Int32 × Mem)} (hk6 : ∀ (x4 : Int32) (x5 : Int32) (M : Mem) (H : Heap) (locs : List Loc) (ls : Array Slot), k6 x4 x5 M = some out → va_P g.1 vwCl (gW g M) H → va_S (gA g) s.heap H locs → lv_has ls 6 [(0, .ref (gz g + 163)), (1, .ref (gz g + o1)), (2, .int x2), (3, .int x3), (4, .int x4), (5, .int x5)] → W p l e (rM 4 98) s m args below meth c H locs 0 0 (MQ below (qI g out) args s 0 0 (gA g)) (F0 m 6 ls [])) (x4 : Int32) (x5 : Int32) (M : Mem) {H : Heap} {locs : List Loc} {ls : Array Slot} (hf : f_X3_columnsThatFit_57 o1 x2 x3 k6 x4 x5 M = some out) (hP : va_P g.1 vwCl (gW g M) H) (hS : va_S (gA g) s.heap H locs) (hl : lv_has ls 6 [(0, .ref (gz g + 163)), (1, .ref (gz g + o1)), (2, .int x2), (3, .int x3), (4, .int x4), (5, .int x5)]) : W p l e (rM 4 98) s m args below meth c H locs 0 0 (MQ below (qI g out) args s 0 0 (gA g)) (F0 m 57 ls []) := by
  have hx := X.1
  have hb := X.2.1
  refine lv_iinc (v := (x5 + (1 : Int32))) (lv' := [(5, .int (x5 + (1 : Int32))), (0, .ref (gz g + 163)), (1, .ref (gz g + o1)), (2, .int x2), (3, .int x3), (4, .int x4)]) hx hb dX3_columnsThatFit_57 hl (k := 5) rfl rfl (by decide) rfl (fun ls hl => ?_)
  refine lv_goto (tgt := 6) hx hb dX3_columnsThatFit_60 (by decide) ?_
  exact hk6 x4 (x5 + (1 : Int32)) M _ _ _ hf hP hS (lv_sub hl [1, 2, 3, 4, 5, 0] rfl)
def f_X3_columnsThatFit_6 (o1 : Nat) (x2 : Int32) (x3 : Int32)  : Nat → Int32 → Int32 → Mem → Option (Int32 × Mem)
  | 0, _, _, _ => none
  | n + 1, x4, x5, M =>
    if (M 3 0) ≤ x5 then
      some (x4, M)
    else
      cv (f_X5_takeFrom 164 3 M) fun M_3 =>
      lt (up2 M_3 164 3 x5) fun M_4 =>
      cb (f_X3_trialIsHeardAs o1 x2 x3 M_4) fun r_7 M_6 =>
      if r_7 = 0 then
        f_X3_columnsThatFit_57 o1 x2 x3 (f_X3_columnsThatFit_6 o1 x2 x3 n) x4 x5 M_6
      else
        lt (x4 ||| ((1 : Int32) <<< (x5 &&& 31))) fun x4_9 =>
        f_X3_columnsThatFit_57 o1 x2 x3 (f_X3_columnsThatFit_6 o1 x2 x3 n) x4_9 x5 M_6
set_option maxRecDepth 20000 in
theorem b_X3_columnsThatFit_6 {out : Int32 × Mem} (X : Bx p s m args meth c RX3 cX3_columnsThatFit 6 (some .int) g)   {o1 : Nat} {x2 : Int32} {x3 : Int32}  (h1 : kd o1 = 2)   : ∀ (n : Nat) (x4 : Int32) (x5 : Int32) (M : Mem) (H : Heap) (locs : List Loc) (ls : Array Slot), f_X3_columnsThatFit_6 o1 x2 x3 n x4 x5 M = some out → va_P g.1 vwCl (gW g M) H → va_S (gA g) s.heap H locs → lv_has ls 6 [(0, .ref (gz g + 163)), (1, .ref (gz g + o1)), (2, .int x2), (3, .int x3), (4, .int x4), (5, .int x5)] → W p l e (rM 4 98) s m args below meth c H locs 0 0 (MQ below (qI g out) args s 0 0 (gA g)) (F0 m 6 ls []) := by
  have hx := X.1
  have hb := X.2.1
  intro n
  induction n with
  | zero => intro _ _ _ _ _ _ hf; cases hf
  | succ n ih =>
    intro x4 x5 M H locs ls hf hP hS hl
    rw [f_X3_columnsThatFit_6] at hf
    refine lv_iload hx hb dX3_columnsThatFit_6 (lv_at hl 5 rfl) ?_
    refine lv_aload_n hx hb dX3_columnsThatFit_8 rfl (lv_at hl 0 rfl) ?_
    refine gf_3_0 X hP kc_163 q1_147 dX3_columnsThatFit_9 ?_
    refine gf_5_0 X hP kc_3 q1_32 dX3_columnsThatFit_12 ?_
    refine lv_icmp_ge (tgt := 63) hx hb dX3_columnsThatFit_15 (by decide) (fun h_1 => ?_) (fun h_1 => ?_)
    · replace hf := it_t hf h_1
      refine lv_iload hx hb dX3_columnsThatFit_63 (lv_at hl 4 rfl) ?_
      exact g_iret X hP hS (sm_i hf) dX3_columnsThatFit_65
    · replace hf := it_f hf h_1
      refine lv_aload_n hx hb dX3_columnsThatFit_18 rfl (lv_at hl 0 rfl) ?_
      refine gf_3_1 X hP kc_163 q1_148 dX3_columnsThatFit_19 ?_
      refine lv_aload_n hx hb dX3_columnsThatFit_22 rfl (lv_at hl 0 rfl) ?_
      refine gf_3_0 X hP kc_163 q1_147 dX3_columnsThatFit_23 ?_
      obtain ⟨M_3, hc_2, hf⟩ := cv_s hf
      refine g_gov (g_run X (c_X5_takeFrom l g kc_164 kc_3 hc_2) s_X5_takeFrom (oB_5 kc_164) q2_237 ⟨Nat.le_of_ble_eq_true rfl, Nat.le_of_ble_eq_true rfl⟩ hP hS rfl hl.1 rfl (Nat.le_of_ble_eq_true rfl) ⟨Nat.le_refl _, Nat.le_refl _⟩ dX3_columnsThatFit_26) hS (fun H locs hP hS => ?_)
      refine lv_aload_n hx hb dX3_columnsThatFit_29 rfl (lv_at hl 0 rfl) ?_
      refine gf_3_1 X hP kc_163 q1_148 dX3_columnsThatFit_30 ?_
      refine lv_iload hx hb dX3_columnsThatFit_33 (lv_at hl 5 rfl) ?_
      refine gp_5_3 X hP hS kc_164 q1_43 dX3_columnsThatFit_35 (fun H locs M_4 eM_4 hP hS => ?_)
      replace hf := lt_go hf eM_4
      refine lv_aload_n hx hb dX3_columnsThatFit_38 rfl (lv_at hl 0 rfl) ?_
      refine lv_aload_n hx hb dX3_columnsThatFit_39 rfl (lv_at hl 1 rfl) ?_
      refine lv_iload_n hx hb dX3_columnsThatFit_40 rfl (lv_at hl 2 rfl) ?_
      refine lv_iload_n hx hb dX3_columnsThatFit_41 rfl (lv_at hl 3 rfl) ?_
      obtain ⟨r_7, M_6, hc_5, hf⟩ := cb_s hf
      refine g_goi (g_run X (c_X3_trialIsHeardAs l g h1 hc_5) s_X3_trialIsHeardAs (oB_3 kc_163) q3_130 ⟨Nat.le_of_ble_eq_true rfl, Nat.le_of_ble_eq_true rfl⟩ hP hS rfl hl.1 rfl (Nat.le_of_ble_eq_true rfl) ⟨Nat.le_refl _, Nat.le_refl _⟩ dX3_columnsThatFit_42) hS (fun H locs hP hS => ?_)
      refine lv_if_eq (tgt := 57) hx hb dX3_columnsThatFit_45 (by decide) (fun h_8 => ?_) (fun h_8 => ?_)
      · replace hf := it_t hf h_8
        exact b_X3_columnsThatFit_57 X h1 ih x4 x5 M_6 hf hP hS hl
      · replace hf := it_f hf h_8
        refine lv_iload hx hb dX3_columnsThatFit_48 (lv_at hl 4 rfl) ?_
        refine lv_iconst (v := (1 : Int32)) hx hb dX3_columnsThatFit_50 (by decide) ?_
        refine lv_iload hx hb dX3_columnsThatFit_51 (lv_at hl 5 rfl) ?_
        refine lv_ishl hx hb dX3_columnsThatFit_53 ?_
        refine lv_ior hx hb dX3_columnsThatFit_54 ?_
        refine lv_topi (fun x4_9 ex4_9 => ?_)
        replace hf := lt_go hf ex4_9
        refine lv_istore (lv' := [(4, .int x4_9), (0, .ref (gz g + 163)), (1, .ref (gz g + o1)), (2, .int x2), (3, .int x3), (5, .int x5)]) hx hb dX3_columnsThatFit_55 hl (by decide) rfl (fun ls hl => ?_)
        exact b_X3_columnsThatFit_57 X h1 ih x4_9 x5 M_6 hf hP hS (lv_sub hl [1, 2, 3, 4, 0, 5] rfl)
def f_X3_columnsThatFit (o1 : Nat) (x2 : Int32) (x3 : Int32) (M : Mem) : Option (Int32 × Mem) :=
  f_X3_columnsThatFit_6 o1 x2 x3 FU (0 : Int32) (0 : Int32) M
set_option maxRecDepth 20000 in
theorem c_X3_columnsThatFit (l : Launch) (g : GC) {o1 : Nat} {x2 : Int32} {x3 : Int32} (h1 : kd o1 = 2) {M : Mem} {out : Int32 × Mem} (hf : f_X3_columnsThatFit o1 x2 x3 M = some out) : cI l g yX3_columnsThatFit cX3_columnsThatFit 6 (some .int) (rM 4 98) [.ref (gz g + 163), .ref (gz g + o1), .int x2, .int x3] M out := by
  refine g_met (by decide) (Nat.le_of_ble_eq_true rfl) ?_
  intro p e s m below meth c X hP hS ls hl
  have X : Bx p s m _ meth c RX3 cX3_columnsThatFit 6 (some .int) g := X
  have hl : lv_has ls 6 [(0, .ref (gz g + 163)), (1, .ref (gz g + o1)), (2, .int x2), (3, .int x3)] := hl
  have hx := X.1
  have hb := X.2.1
  refine lv_iconst (v := (0 : Int32)) hx hb dX3_columnsThatFit_0 (by decide) ?_
  refine lv_istore (lv' := [(4, .int (0 : Int32)), (0, .ref (gz g + 163)), (1, .ref (gz g + o1)), (2, .int x2), (3, .int x3)]) hx hb dX3_columnsThatFit_1 hl (by decide) rfl (fun ls hl => ?_)
  refine lv_iconst (v := (0 : Int32)) hx hb dX3_columnsThatFit_3 (by decide) ?_
  refine lv_istore (lv' := [(5, .int (0 : Int32)), (4, .int (0 : Int32)), (0, .ref (gz g + 163)), (1, .ref (gz g + o1)), (2, .int x2), (3, .int x3)]) hx hb dX3_columnsThatFit_4 hl (by decide) rfl (fun ls hl => ?_)
  exact b_X3_columnsThatFit_6 X h1 FU (0 : Int32) (0 : Int32) M _ _ _ hf hP hS (lv_sub hl [2, 3, 4, 5, 1, 0] rfl)
def f_X3_springsThatFit_65 (x1 : Int32) (o2 : Nat) (x3 : Int32) (x4 : Int32) (k10 : Int32 → Int32 → Int32 → Mem → Option (Int32 × Mem)) (x5 : Int32) (x6 : Int32) (x7 : Int32) (M : Mem) : Option (Int32 × Mem) :=
  k10 x5 x6 (x7 + (1 : Int32)) M
set_option maxRecDepth 20000 in
theorem b_X3_springsThatFit_65 {out : Int32 × Mem} (X : Bx p s m args meth c RX3 cX3_springsThatFit 8 (some .int) g)   {x1 : Int32} {o2 : Nat} {x3 : Int32} {x4 : Int32}  (h2 : kd o2 = 2) {k10 : Int32 → Int32 → Int32 → Mem → Option (Int32 × Mem)} (hk10 : ∀ (x5 : Int32) (x6 : Int32) (x7 : Int32) (M : Mem) (H : Heap) (locs : List Loc) (ls : Array Slot), k10 x5 x6 x7 M = some out → va_P g.1 vwCl (gW g M) H → va_S (gA g) s.heap H locs → lv_has ls 8 [(0, .ref (gz g + 163)), (1, .int x1), (2, .ref (gz g + o2)), (3, .int x3), (4, .int x4), (5, .int x5), (6, .int x6), (7, .int x7)] → W p l e (rM 4 98) s m args below meth c H locs 0 0 (MQ below (qI g out) args s 0 0 (gA g)) (F0 m 10 ls [])) (x5 : Int32) (x6 : Int32) (x7 : Int32) (M : Mem) {H : Heap} {locs : List Loc} {ls : Array Slot} (hf : f_X3_springsThatFit_65 x1 o2 x3 x4 k10 x5 x6 x7 M = some out) (hP : va_P g.1 vwCl (gW g M) H) (hS : va_S (gA g) s.heap H locs) (hl : lv_has ls 8 [(0, .ref (gz g + 163)), (1, .int x1), (2, .ref (gz g + o2)), (3, .int x3), (4, .int x4), (5, .int x5), (6, .int x6), (7, .int x7)]) : W p l e (rM 4 98) s m args below meth c H locs 0 0 (MQ below (qI g out) args s 0 0 (gA g)) (F0 m 65 ls []) := by
  have hx := X.1
  have hb := X.2.1
  refine lv_iinc (v := (x7 + (1 : Int32))) (lv' := [(7, .int (x7 + (1 : Int32))), (0, .ref (gz g + 163)), (1, .int x1), (2, .ref (gz g + o2)), (3, .int x3), (4, .int x4), (5, .int x5), (6, .int x6)]) hx hb dX3_springsThatFit_65 hl (k := 7) rfl rfl (by decide) rfl (fun ls hl => ?_)
  refine lv_goto (tgt := 10) hx hb dX3_springsThatFit_68 (by decide) ?_
  exact hk10 x5 x6 (x7 + (1 : Int32)) M _ _ _ hf hP hS (lv_sub hl [1, 2, 3, 4, 5, 6, 7, 0] rfl)
def f_X3_springsThatFit_60 (x1 : Int32) (o2 : Nat) (x3 : Int32) (x4 : Int32) (k10 : Int32 → Int32 → Int32 → Mem → Option (Int32 × Mem)) (x5 : Int32) (x7 : Int32) (t0 : Int32) (M : Mem) : Option (Int32 × Mem) :=
  f_X3_springsThatFit_65 x1 o2 x3 x4 k10 (x5 + (1 : Int32)) t0 x7 M
set_option maxRecDepth 20000 in
theorem b_X3_springsThatFit_60 {out : Int32 × Mem} (X : Bx p s m args meth c RX3 cX3_springsThatFit 8 (some .int) g)   {x1 : Int32} {o2 : Nat} {x3 : Int32} {x4 : Int32}  (h2 : kd o2 = 2) {k10 : Int32 → Int32 → Int32 → Mem → Option (Int32 × Mem)} (hk10 : ∀ (x5 : Int32) (x6 : Int32) (x7 : Int32) (M : Mem) (H : Heap) (locs : List Loc) (ls : Array Slot), k10 x5 x6 x7 M = some out → va_P g.1 vwCl (gW g M) H → va_S (gA g) s.heap H locs → lv_has ls 8 [(0, .ref (gz g + 163)), (1, .int x1), (2, .ref (gz g + o2)), (3, .int x3), (4, .int x4), (5, .int x5), (6, .int x6), (7, .int x7)] → W p l e (rM 4 98) s m args below meth c H locs 0 0 (MQ below (qI g out) args s 0 0 (gA g)) (F0 m 10 ls [])) (x5 : Int32) (x7 : Int32) (t0 : Int32) (M : Mem) {H : Heap} {locs : List Loc} {ls : Array Slot} (hf : f_X3_springsThatFit_60 x1 o2 x3 x4 k10 x5 x7 t0 M = some out) (hP : va_P g.1 vwCl (gW g M) H) (hS : va_S (gA g) s.heap H locs) (hl : lv_has ls 8 [(0, .ref (gz g + 163)), (1, .int x1), (2, .ref (gz g + o2)), (3, .int x3), (4, .int x4), (5, .int x5), (7, .int x7)]) : W p l e (rM 4 98) s m args below meth c H locs 0 0 (MQ below (qI g out) args s 0 0 (gA g)) (F0 m 60 ls [.int t0]) := by
  have hx := X.1
  have hb := X.2.1
  refine lv_istore (lv' := [(6, .int t0), (0, .ref (gz g + 163)), (1, .int x1), (2, .ref (gz g + o2)), (3, .int x3), (4, .int x4), (5, .int x5), (7, .int x7)]) hx hb dX3_springsThatFit_60 hl (by decide) rfl (fun ls hl => ?_)
  refine lv_iinc (v := (x5 + (1 : Int32))) (lv' := [(5, .int (x5 + (1 : Int32))), (6, .int t0), (0, .ref (gz g + 163)), (1, .int x1), (2, .ref (gz g + o2)), (3, .int x3), (4, .int x4), (7, .int x7)]) hx hb dX3_springsThatFit_62 hl (k := 6) rfl rfl (by decide) rfl (fun ls hl => ?_)
  exact b_X3_springsThatFit_65 X h2 hk10 (x5 + (1 : Int32)) t0 x7 M hf hP hS (lv_sub hl [2, 3, 4, 5, 6, 0, 1, 7] rfl)
def f_X3_springsThatFit_10 (x1 : Int32) (o2 : Nat) (x3 : Int32) (x4 : Int32)  : Nat → Int32 → Int32 → Int32 → Mem → Option (Int32 × Mem)
  | 0, _, _, _, _ => none
  | n + 1, x5, x6, x7, M =>
    if (99 : Int32) < x7 then
      if x1 = (3 : Int32) then
        some (x5, M)
      else
        some (x6, M)
    else
      cv (f_X5_takeFrom 164 3 M) fun M_4 =>
      lt (up2 M_4 164 2 x7) fun M_5 =>
      cb (f_X3_trialIsHeardAs o2 x3 x4 M_5) fun r_8 M_7 =>
      if r_8 = 0 then
        f_X3_springsThatFit_65 x1 o2 x3 x4 (f_X3_springsThatFit_10 x1 o2 x3 x4 n) x5 x6 x7 M_7
      else
        if x5 = 0 then
          f_X3_springsThatFit_60 x1 o2 x3 x4 (f_X3_springsThatFit_10 x1 o2 x3 x4 n) x5 x7 x7 M_7
        else
          f_X3_springsThatFit_60 x1 o2 x3 x4 (f_X3_springsThatFit_10 x1 o2 x3 x4 n) x5 x7 x6 M_7
set_option maxRecDepth 20000 in
theorem b_X3_springsThatFit_10 {out : Int32 × Mem} (X : Bx p s m args meth c RX3 cX3_springsThatFit 8 (some .int) g)   {x1 : Int32} {o2 : Nat} {x3 : Int32} {x4 : Int32}  (h2 : kd o2 = 2)   : ∀ (n : Nat) (x5 : Int32) (x6 : Int32) (x7 : Int32) (M : Mem) (H : Heap) (locs : List Loc) (ls : Array Slot), f_X3_springsThatFit_10 x1 o2 x3 x4 n x5 x6 x7 M = some out → va_P g.1 vwCl (gW g M) H → va_S (gA g) s.heap H locs → lv_has ls 8 [(0, .ref (gz g + 163)), (1, .int x1), (2, .ref (gz g + o2)), (3, .int x3), (4, .int x4), (5, .int x5), (6, .int x6), (7, .int x7)] → W p l e (rM 4 98) s m args below meth c H locs 0 0 (MQ below (qI g out) args s 0 0 (gA g)) (F0 m 10 ls []) := by
  have hx := X.1
  have hb := X.2.1
  intro n
  induction n with
  | zero => intro _ _ _ _ _ _ _ hf; cases hf
  | succ n ih =>
    intro x5 x6 x7 M H locs ls hf hP hS hl
    rw [f_X3_springsThatFit_10] at hf
    refine lv_iload hx hb dX3_springsThatFit_10 (lv_at hl 7 rfl) ?_
    refine lv_bipush (v := (99 : Int32)) hx hb dX3_springsThatFit_12 (by decide) ?_
    refine lv_icmp_gt (tgt := 71) hx hb dX3_springsThatFit_14 (by decide) (fun h_1 => ?_) (fun h_1 => ?_)
    · replace hf := it_t hf h_1
      refine lv_iload_n hx hb dX3_springsThatFit_71 rfl (lv_at hl 1 rfl) ?_
      refine lv_iconst (v := (3 : Int32)) hx hb dX3_springsThatFit_72 (by decide) ?_
      refine lv_icmp_ne (tgt := 81) hx hb dX3_springsThatFit_73 (by decide) (fun h_2 => ?_) (fun h_2 => ?_)
      · replace hf := it_f hf h_2
        refine lv_iload hx hb dX3_springsThatFit_81 (lv_at hl 6 rfl) ?_
        exact g_iret X hP hS (sm_i hf) dX3_springsThatFit_83
      · replace hf := it_t hf h_2
        refine lv_iload hx hb dX3_springsThatFit_76 (lv_at hl 5 rfl) ?_
        refine lv_goto (tgt := 83) hx hb dX3_springsThatFit_78 (by decide) ?_
        exact g_iret X hP hS (sm_i hf) dX3_springsThatFit_83
    · replace hf := it_f hf h_1
      refine lv_aload_n hx hb dX3_springsThatFit_17 rfl (lv_at hl 0 rfl) ?_
      refine gf_3_1 X hP kc_163 q1_148 dX3_springsThatFit_18 ?_
      refine lv_aload_n hx hb dX3_springsThatFit_21 rfl (lv_at hl 0 rfl) ?_
      refine gf_3_0 X hP kc_163 q1_147 dX3_springsThatFit_22 ?_
      obtain ⟨M_4, hc_3, hf⟩ := cv_s hf
      refine g_gov (g_run X (c_X5_takeFrom l g kc_164 kc_3 hc_3) s_X5_takeFrom (oB_5 kc_164) q2_237 ⟨Nat.le_of_ble_eq_true rfl, Nat.le_of_ble_eq_true rfl⟩ hP hS rfl hl.1 rfl (Nat.le_of_ble_eq_true rfl) ⟨Nat.le_refl _, Nat.le_refl _⟩ dX3_springsThatFit_25) hS (fun H locs hP hS => ?_)
      refine lv_aload_n hx hb dX3_springsThatFit_28 rfl (lv_at hl 0 rfl) ?_
      refine gf_3_1 X hP kc_163 q1_148 dX3_springsThatFit_29 ?_
      refine lv_iload hx hb dX3_springsThatFit_32 (lv_at hl 7 rfl) ?_
      refine gp_5_2 X hP hS kc_164 q1_40 dX3_springsThatFit_34 (fun H locs M_5 eM_5 hP hS => ?_)
      replace hf := lt_go hf eM_5
      refine lv_aload_n hx hb dX3_springsThatFit_37 rfl (lv_at hl 0 rfl) ?_
      refine lv_aload_n hx hb dX3_springsThatFit_38 rfl (lv_at hl 2 rfl) ?_
      refine lv_iload_n hx hb dX3_springsThatFit_39 rfl (lv_at hl 3 rfl) ?_
      refine lv_iload hx hb dX3_springsThatFit_40 (lv_at hl 4 rfl) ?_
      obtain ⟨r_8, M_7, hc_6, hf⟩ := cb_s hf
      refine g_goi (g_run X (c_X3_trialIsHeardAs l g h2 hc_6) s_X3_trialIsHeardAs (oB_3 kc_163) q3_130 ⟨Nat.le_of_ble_eq_true rfl, Nat.le_of_ble_eq_true rfl⟩ hP hS rfl hl.1 rfl (Nat.le_of_ble_eq_true rfl) ⟨Nat.le_refl _, Nat.le_refl _⟩ dX3_springsThatFit_42) hS (fun H locs hP hS => ?_)
      refine lv_if_eq (tgt := 65) hx hb dX3_springsThatFit_45 (by decide) (fun h_9 => ?_) (fun h_9 => ?_)
      · replace hf := it_t hf h_9
        exact b_X3_springsThatFit_65 X h2 ih x5 x6 x7 M_7 hf hP hS hl
      · replace hf := it_f hf h_9
        refine lv_iload hx hb dX3_springsThatFit_48 (lv_at hl 5 rfl) ?_
        refine lv_if_ne (tgt := 58) hx hb dX3_springsThatFit_50 (by decide) (fun h_10 => ?_) (fun h_10 => ?_)
        · replace hf := it_f hf h_10
          refine lv_iload hx hb dX3_springsThatFit_58 (lv_at hl 6 rfl) ?_
          exact b_X3_springsThatFit_60 X h2 ih x5 x7 x6 M_7 hf hP hS (lv_sub hl [0, 1, 2, 3, 4, 5, 7] rfl)
        · replace hf := it_t hf h_10
          refine lv_iload hx hb dX3_springsThatFit_53 (lv_at hl 7 rfl) ?_
          refine lv_goto (tgt := 60) hx hb dX3_springsThatFit_55 (by decide) ?_
          exact b_X3_springsThatFit_60 X h2 ih x5 x7 x7 M_7 hf hP hS (lv_sub hl [0, 1, 2, 3, 4, 5, 7] rfl)
def f_X3_springsThatFit (x1 : Int32) (o2 : Nat) (x3 : Int32) (x4 : Int32) (M : Mem) : Option (Int32 × Mem) :=
  f_X3_springsThatFit_10 x1 o2 x3 x4 FU (0 : Int32) (-1000000 : Int32) (0 : Int32) M
set_option maxRecDepth 20000 in
theorem c_X3_springsThatFit (l : Launch) (g : GC) {x1 : Int32} {o2 : Nat} {x3 : Int32} {x4 : Int32} (h2 : kd o2 = 2) {M : Mem} {out : Int32 × Mem} (hf : f_X3_springsThatFit x1 o2 x3 x4 M = some out) : cI l g yX3_springsThatFit cX3_springsThatFit 8 (some .int) (rM 4 98) [.ref (gz g + 163), .int x1, .ref (gz g + o2), .int x3, .int x4] M out := by
  refine g_met (by decide) (Nat.le_of_ble_eq_true rfl) ?_
  intro p e s m below meth c X hP hS ls hl
  have X : Bx p s m _ meth c RX3 cX3_springsThatFit 8 (some .int) g := X
  have hl : lv_has ls 8 [(0, .ref (gz g + 163)), (1, .int x1), (2, .ref (gz g + o2)), (3, .int x3), (4, .int x4)] := hl
  have hx := X.1
  have hb := X.2.1
  refine lv_iconst (v := (0 : Int32)) hx hb dX3_springsThatFit_0 (by decide) ?_
  refine lv_istore (lv' := [(5, .int (0 : Int32)), (0, .ref (gz g + 163)), (1, .int x1), (2, .ref (gz g + o2)), (3, .int x3), (4, .int x4)]) hx hb dX3_springsThatFit_1 hl (by decide) rfl (fun ls hl => ?_)
  refine lv_ldc hx hb X.2.2.2.1 (X.2.2.2.2.1 _ q3_23) dX3_springsThatFit_3 ?_
  refine lv_istore (lv' := [(6, .int (-1000000 : Int32)), (5, .int (0 : Int32)), (0, .ref (gz g + 163)), (1, .int x1), (2, .ref (gz g + o2)), (3, .int x3), (4, .int x4)]) hx hb dX3_springsThatFit_5 hl (by decide) rfl (fun ls hl => ?_)
  refine lv_iconst (v := (0 : Int32)) hx hb dX3_springsThatFit_7 (by decide) ?_
  refine lv_istore (lv' := [(7, .int (0 : Int32)), (6, .int (-1000000 : Int32)), (5, .int (0 : Int32)), (0, .ref (gz g + 163)), (1, .int x1), (2, .ref (gz g + o2)), (3, .int x3), (4, .int x4)]) hx hb dX3_springsThatFit_8 hl (by decide) rfl (fun ls hl => ?_)
  exact b_X3_springsThatFit_10 X h2 FU (0 : Int32) (-1000000 : Int32) (0 : Int32) M _ _ _ hf hP hS (lv_sub hl [3, 4, 5, 6, 7, 2, 1, 0] rfl)
def f_X3_whatFits (x1 : Int32) (x2 : Int32) (o3 : Nat) (x4 : Int32) (x5 : Int32) (M : Mem) : Option (Int32 × Mem) :=
  lt x2 fun v_1 =>
  if v_1 = (0 : Int32) then
    cb (f_X3_kindsThatFit x1 o3 x4 x5 M) fun r_5 M_4 =>
    some (r_5, M_4)
  else
    if v_1 = (1 : Int32) then
      cb (f_X3_tuningsThatFit x1 o3 x4 x5 M) fun r_9 M_8 =>
      some (r_9, M_8)
    else
      if v_1 = (2 : Int32) then
        cb (f_X3_columnsThatFit o3 x4 x5 M) fun r_13 M_12 =>
        some (r_13, M_12)
      else
        cb (f_X3_springsThatFit x2 o3 x4 x5 M) fun r_16 M_15 =>
        some (r_16, M_15)
set_option maxRecDepth 20000 in
theorem c_X3_whatFits (l : Launch) (g : GC) {x1 : Int32} {x2 : Int32} {o3 : Nat} {x4 : Int32} {x5 : Int32} (h3 : kd o3 = 2) {M : Mem} {out : Int32 × Mem} (hf : f_X3_whatFits x1 x2 o3 x4 x5 M = some out) : cI l g yX3_whatFits cX3_whatFits 6 (some .int) (rM 5 125) [.ref (gz g + 163), .int x1, .int x2, .ref (gz g + o3), .int x4, .int x5] M out := by
  refine g_met (by decide) (Nat.le_of_ble_eq_true rfl) ?_
  intro p e s m below meth c X hP hS ls hl
  have X : Bx p s m _ meth c RX3 cX3_whatFits 6 (some .int) g := X
  have hl : lv_has ls 6 [(0, .ref (gz g + 163)), (1, .int x1), (2, .int x2), (3, .ref (gz g + o3)), (4, .int x4), (5, .int x5)] := hl
  have hx := X.1
  have hb := X.2.1
  refine lv_iload_n hx hb dX3_whatFits_0 rfl (lv_at hl 2 rfl) ?_
  refine lv_topi (fun v_1 ev_1 => ?_)
  replace hf := lt_go hf ev_1
  by_cases h_2 : v_1 = (0 : Int32)
  · replace hf := it_t hf h_2
    refine lv_tableIn (off := 27) (tgt := 28) hx hb dX3_whatFits_1 (by rw [h_2]; decide) (by rw [h_2]; decide) (by rw [h_2]; rfl) (by decide) ?_
    refine lv_aload_n hx hb dX3_whatFits_28 rfl (lv_at hl 0 rfl) ?_
    refine lv_iload_n hx hb dX3_whatFits_29 rfl (lv_at hl 1 rfl) ?_
    refine lv_aload_n hx hb dX3_whatFits_30 rfl (lv_at hl 3 rfl) ?_
    refine lv_iload hx hb dX3_whatFits_31 (lv_at hl 4 rfl) ?_
    refine lv_iload hx hb dX3_whatFits_33 (lv_at hl 5 rfl) ?_
    obtain ⟨r_5, M_4, hc_3, hf⟩ := cb_s hf
    refine g_goi (g_run X (c_X3_kindsThatFit l g h3 hc_3) s_X3_kindsThatFit (oB_3 kc_163) q3_126 ⟨Nat.le_of_ble_eq_true rfl, Nat.le_of_ble_eq_true rfl⟩ hP hS rfl hl.1 rfl (Nat.le_of_ble_eq_true rfl) ⟨Nat.le_refl _, Nat.le_refl _⟩ dX3_whatFits_35) hS (fun H locs hP hS => ?_)
    exact g_iret X hP hS (sm_i hf) dX3_whatFits_38
  · replace hf := it_f hf h_2
    by_cases h_6 : v_1 = (1 : Int32)
    · replace hf := it_t hf h_6
      refine lv_tableIn (off := 38) (tgt := 39) hx hb dX3_whatFits_1 (by rw [h_6]; decide) (by rw [h_6]; decide) (by rw [h_6]; rfl) (by decide) ?_
      refine lv_aload_n hx hb dX3_whatFits_39 rfl (lv_at hl 0 rfl) ?_
      refine lv_iload_n hx hb dX3_whatFits_40 rfl (lv_at hl 1 rfl) ?_
      refine lv_aload_n hx hb dX3_whatFits_41 rfl (lv_at hl 3 rfl) ?_
      refine lv_iload hx hb dX3_whatFits_42 (lv_at hl 4 rfl) ?_
      refine lv_iload hx hb dX3_whatFits_44 (lv_at hl 5 rfl) ?_
      obtain ⟨r_9, M_8, hc_7, hf⟩ := cb_s hf
      refine g_goi (g_run X (c_X3_tuningsThatFit l g h3 hc_7) s_X3_tuningsThatFit (oB_3 kc_163) q3_134 ⟨Nat.le_of_ble_eq_true rfl, Nat.le_of_ble_eq_true rfl⟩ hP hS rfl hl.1 rfl (Nat.le_of_ble_eq_true rfl) ⟨Nat.le_refl _, Nat.le_refl _⟩ dX3_whatFits_46) hS (fun H locs hP hS => ?_)
      exact g_iret X hP hS (sm_i hf) dX3_whatFits_49
    · replace hf := it_f hf h_6
      by_cases h_10 : v_1 = (2 : Int32)
      · replace hf := it_t hf h_10
        refine lv_tableIn (off := 49) (tgt := 50) hx hb dX3_whatFits_1 (by rw [h_10]; decide) (by rw [h_10]; decide) (by rw [h_10]; rfl) (by decide) ?_
        refine lv_aload_n hx hb dX3_whatFits_50 rfl (lv_at hl 0 rfl) ?_
        refine lv_aload_n hx hb dX3_whatFits_51 rfl (lv_at hl 3 rfl) ?_
        refine lv_iload hx hb dX3_whatFits_52 (lv_at hl 4 rfl) ?_
        refine lv_iload hx hb dX3_whatFits_54 (lv_at hl 5 rfl) ?_
        obtain ⟨r_13, M_12, hc_11, hf⟩ := cb_s hf
        refine g_goi (g_run X (c_X3_columnsThatFit l g h3 hc_11) s_X3_columnsThatFit (oB_3 kc_163) q3_138 ⟨Nat.le_of_ble_eq_true rfl, Nat.le_of_ble_eq_true rfl⟩ hP hS rfl hl.1 rfl (Nat.le_of_ble_eq_true rfl) ⟨Nat.le_refl _, Nat.le_refl _⟩ dX3_whatFits_56) hS (fun H locs hP hS => ?_)
        exact g_iret X hP hS (sm_i hf) dX3_whatFits_59
      · replace hf := it_f hf h_10
        refine lv_tableOut (tgt := 60) hx hb dX3_whatFits_1 (by have n0 := lv_neT (a := 0) h_2 rfl; have n1 := lv_neT (a := 1) h_6 rfl; have n2 := lv_neT (a := 2) h_10 rfl; omega) (by decide) ?_
        refine lv_aload_n hx hb dX3_whatFits_60 rfl (lv_at hl 0 rfl) ?_
        refine lv_iload_n hx hb dX3_whatFits_61 rfl (lv_at hl 2 rfl) ?_
        refine lv_aload_n hx hb dX3_whatFits_62 rfl (lv_at hl 3 rfl) ?_
        refine lv_iload hx hb dX3_whatFits_63 (lv_at hl 4 rfl) ?_
        refine lv_iload hx hb dX3_whatFits_65 (lv_at hl 5 rfl) ?_
        obtain ⟨r_16, M_15, hc_14, hf⟩ := cb_s hf
        refine g_goi (g_run X (c_X3_springsThatFit l g h3 hc_14) s_X3_springsThatFit (oB_3 kc_163) q3_142 ⟨Nat.le_of_ble_eq_true rfl, Nat.le_of_ble_eq_true rfl⟩ hP hS rfl hl.1 rfl (Nat.le_of_ble_eq_true rfl) ⟨Nat.le_refl _, Nat.le_refl _⟩ dX3_whatFits_67) hS (fun H locs hP hS => ?_)
        exact g_iret X hP hS (sm_i hf) dX3_whatFits_70
def f_X3_tenToThe_4 (x0 : Int32)  : Nat → Int64 → Int32 → Mem → Option (Int64 × Mem)
  | 0, _, _, _ => none
  | n + 1, y1, x3, M =>
    if x0 ≤ x3 then
      some (y1, M)
    else
      lt (y1 * (10 : Int64)) fun y1_2 =>
      (f_X3_tenToThe_4 x0 n) y1_2 (x3 + (1 : Int32)) M
set_option maxRecDepth 20000 in
theorem b_X3_tenToThe_4 {out : Int64 × Mem} (X : Bx p s m args meth c RX3 cX3_tenToThe 4 (some .long) g)   {x0 : Int32}     : ∀ (n : Nat) (y1 : Int64) (x3 : Int32) (M : Mem) (H : Heap) (locs : List Loc) (ls : Array Slot), f_X3_tenToThe_4 x0 n y1 x3 M = some out → va_P g.1 vwCl (gW g M) H → va_S (gA g) s.heap H locs → lv_has ls 4 [(0, .int x0), (1, .long y1), (3, .int x3)] → W p l e (rM 0 0) s m args below meth c H locs 0 0 (MQ below (qL g out) args s 0 0 (gA g)) (F0 m 4 ls []) := by
  have hx := X.1
  have hb := X.2.1
  intro n
  induction n with
  | zero => intro _ _ _ _ _ _ hf; cases hf
  | succ n ih =>
    intro y1 x3 M H locs ls hf hP hS hl
    rw [f_X3_tenToThe_4] at hf
    refine lv_iload_n hx hb dX3_tenToThe_4 rfl (lv_at hl 2 rfl) ?_
    refine lv_iload_n hx hb dX3_tenToThe_5 rfl (lv_at hl 0 rfl) ?_
    refine lv_icmp_ge (tgt := 21) hx hb dX3_tenToThe_6 (by decide) (fun h_1 => ?_) (fun h_1 => ?_)
    · replace hf := it_t hf h_1
      refine lv_lload_n hx hb dX3_tenToThe_21 rfl (lv_at hl 1 rfl) ?_
      exact g_lret X hP hS (sm_i hf) dX3_tenToThe_22
    · replace hf := it_f hf h_1
      refine lv_lload_n hx hb dX3_tenToThe_9 rfl (lv_at hl 1 rfl) ?_
      refine lv_ldc2 hx hb X.2.2.2.1 (X.2.2.2.2.1 _ q3_173) dX3_tenToThe_10 ?_
      refine lv_lmul hx hb dX3_tenToThe_13 ?_
      refine lv_topl (fun y1_2 ey1_2 => ?_)
      replace hf := lt_go hf ey1_2
      refine lv_lstore_n (lv' := [(1, .long y1_2), (0, .int x0), (3, .int x3)]) hx hb dX3_tenToThe_14 rfl hl (by decide) rfl (fun ls hl => ?_)
      refine lv_iinc (v := (x3 + (1 : Int32))) (lv' := [(3, .int (x3 + (1 : Int32))), (1, .long y1_2), (0, .int x0)]) hx hb dX3_tenToThe_15 hl (k := 2) rfl rfl (by decide) rfl (fun ls hl => ?_)
      refine lv_goto (tgt := 4) hx hb dX3_tenToThe_18 (by decide) ?_
      exact ih y1_2 (x3 + (1 : Int32)) M _ _ _ hf hP hS (lv_sub hl [2, 1, 0] rfl)
def f_X3_tenToThe (x0 : Int32) (M : Mem) : Option (Int64 × Mem) :=
  f_X3_tenToThe_4 x0 FU (1 : Int64) (0 : Int32) M
set_option maxRecDepth 20000 in
theorem c_X3_tenToThe (l : Launch) (g : GC) {x0 : Int32}  {M : Mem} {out : Int64 × Mem} (hf : f_X3_tenToThe x0 M = some out) : cL l g yX3_tenToThe cX3_tenToThe 4 (some .long) (rM 0 0) [.int x0] M out := by
  refine g_met (by decide) (Nat.le_of_ble_eq_true rfl) ?_
  intro p e s m below meth c X hP hS ls hl
  have X : Bx p s m _ meth c RX3 cX3_tenToThe 4 (some .long) g := X
  have hl : lv_has ls 4 [(0, .int x0)] := hl
  have hx := X.1
  have hb := X.2.1
  refine lv_lconst (v := (1 : Int64)) hx hb dX3_tenToThe_0 (by decide) ?_
  refine lv_lstore_n (lv' := [(1, .long (1 : Int64)), (0, .int x0)]) hx hb dX3_tenToThe_1 rfl hl (by decide) rfl (fun ls hl => ?_)
  refine lv_iconst (v := (0 : Int32)) hx hb dX3_tenToThe_2 (by decide) ?_
  refine lv_istore_n (lv' := [(3, .int (0 : Int32)), (1, .long (1 : Int64)), (0, .int x0)]) hx hb dX3_tenToThe_3 rfl hl (by decide) rfl (fun ls hl => ?_)
  exact b_X3_tenToThe_4 X  FU (1 : Int64) (0 : Int32) M _ _ _ hf hP hS (lv_sub hl [2, 1, 0] rfl)
def f_X3_weightOfRinging_187 (fr_weightOfRinging : Int32 → Int32 → Int32 → Int32 → Int32 → Mem → Option (Int64 × Mem))   (y11 : Int64) (M : Mem) : Option (Int64 × Mem) :=
  some (y11, M)
set_option maxRecDepth 20000 in
theorem b_X3_weightOfRinging_187 {out : Int64 × Mem} (X : Bx p s m args meth c RX3 cX3_weightOfRinging 13 (some .long) g) {d : Nat} {fr_weightOfRinging : Int32 → Int32 → Int32 → Int32 → Int32 → Mem → Option (Int64 × Mem)}  (hfr_weightOfRinging : ∀ (x1 : Int32) (x2 : Int32) (x3 : Int32) (x4 : Int32) (x5 : Int32)  (M : Mem) (out : Int64 × Mem), fr_weightOfRinging x1 x2 x3 x4 x5 M = some out → cL l g yX3_weightOfRinging cX3_weightOfRinging 13 (some .long) (rM (d + 3) (d * 32 + 74)) [.ref (gz g + 163), .int x1, .int x2, .int x3, .int x4, .int x5] M out)      (y11 : Int64) (M : Mem) {H : Heap} {locs : List Loc} {ls : Array Slot} (hf : f_X3_weightOfRinging_187 fr_weightOfRinging y11 M = some out) (hP : va_P g.1 vwCl (gW g M) H) (hS : va_S (gA g) s.heap H locs) (hl : lv_has ls 13 [(11, .long y11)]) : W p l e (rM (d + 1 + 3) ((d + 1) * 32 + 74)) s m args below meth c H locs 0 0 (MQ below (qL g out) args s 0 0 (gA g)) (F0 m 187 ls []) := by
  have hx := X.1
  have hb := X.2.1
  refine lv_lload hx hb dX3_weightOfRinging_187 (lv_at hl 0 rfl) ?_
  exact g_lret X hP hS (sm_i hf) dX3_weightOfRinging_189
def f_X3_weightOfRinging_142 (fr_weightOfRinging : Int32 → Int32 → Int32 → Int32 → Int32 → Mem → Option (Int64 × Mem)) (x1 : Int32) (x4 : Int32) (x5 : Int32) (o6 : Nat) (o10 : Nat)  (x7 : Int32) (x8 : Int32) (x9 : Int32) (y11 : Int64) (M : Mem) : Option (Int64 × Mem) :=
  if x5 ≤ 0 then
    f_X3_weightOfRinging_187 fr_weightOfRinging y11 M
  else
    cv (f_X5_takeFrom o10 o6 M) fun M_3 =>
    cv (f_X5_togglePin o10 x8 x4 M_3) fun M_5 =>
    cb (fr_weightOfRinging (x1 + (1 : Int32)) x7 x9 x4 x5 M_5) fun r_8 M_7 =>
    lt (y11 + ((x5).toInt64 * r_8)) fun y11_9 =>
    f_X3_weightOfRinging_187 fr_weightOfRinging y11_9 M_7
set_option maxRecDepth 20000 in
theorem b_X3_weightOfRinging_142 {out : Int64 × Mem} (X : Bx p s m args meth c RX3 cX3_weightOfRinging 13 (some .long) g) {d : Nat} {fr_weightOfRinging : Int32 → Int32 → Int32 → Int32 → Int32 → Mem → Option (Int64 × Mem)}  (hfr_weightOfRinging : ∀ (x1 : Int32) (x2 : Int32) (x3 : Int32) (x4 : Int32) (x5 : Int32)  (M : Mem) (out : Int64 × Mem), fr_weightOfRinging x1 x2 x3 x4 x5 M = some out → cL l g yX3_weightOfRinging cX3_weightOfRinging 13 (some .long) (rM (d + 3) (d * 32 + 74)) [.ref (gz g + 163), .int x1, .int x2, .int x3, .int x4, .int x5] M out) {x1 : Int32} {x4 : Int32} {x5 : Int32} {o6 : Nat} {o10 : Nat}  (h6 : kd o6 = 5) (h10 : kd o10 = 5)   (x7 : Int32) (x8 : Int32) (x9 : Int32) (y11 : Int64) (M : Mem) {H : Heap} {locs : List Loc} {ls : Array Slot} (hf : f_X3_weightOfRinging_142 fr_weightOfRinging x1 x4 x5 o6 o10 x7 x8 x9 y11 M = some out) (hP : va_P g.1 vwCl (gW g M) H) (hS : va_S (gA g) s.heap H locs) (hl : lv_has ls 13 [(0, .ref (gz g + 163)), (1, .int x1), (4, .int x4), (5, .int x5), (6, .ref (gz g + o6)), (7, .int x7), (8, .int x8), (9, .int x9), (10, .ref (gz g + o10)), (11, .long y11)]) : W p l e (rM (d + 1 + 3) ((d + 1) * 32 + 74)) s m args below meth c H locs 0 0 (MQ below (qL g out) args s 0 0 (gA g)) (F0 m 142 ls []) := by
  have hx := X.1
  have hb := X.2.1
  refine lv_iload hx hb dX3_weightOfRinging_142 (lv_at hl 3 rfl) ?_
  refine lv_if_le (tgt := 187) hx hb dX3_weightOfRinging_144 (by decide) (fun h_1 => ?_) (fun h_1 => ?_)
  · replace hf := it_t hf h_1
    exact b_X3_weightOfRinging_187 X hfr_weightOfRinging y11 M hf hP hS (lv_sub hl [9] rfl)
  · replace hf := it_f hf h_1
    refine lv_aload hx hb dX3_weightOfRinging_147 (lv_at hl 8 rfl) ?_
    refine lv_aload hx hb dX3_weightOfRinging_149 (lv_at hl 4 rfl) ?_
    obtain ⟨M_3, hc_2, hf⟩ := cv_s hf
    refine g_gov (g_run X (c_X5_takeFrom l g h10 h6 hc_2) s_X5_takeFrom (oB_5 h10) q2_237 ⟨show 1 + 1 ≤ d + 1 + 3 by omega, show 8 + (2 + 11) + 40 ≤ (d + 1) * 32 + 74 by omega⟩ hP hS rfl hl.1 rfl (Nat.le_of_ble_eq_true rfl) ⟨Nat.le_refl _, Nat.le_refl _⟩ dX3_weightOfRinging_151) hS (fun H locs hP hS => ?_)
    refine lv_aload hx hb dX3_weightOfRinging_154 (lv_at hl 8 rfl) ?_
    refine lv_iload hx hb dX3_weightOfRinging_156 (lv_at hl 6 rfl) ?_
    refine lv_iload hx hb dX3_weightOfRinging_158 (lv_at hl 2 rfl) ?_
    obtain ⟨M_5, hc_4, hf⟩ := cv_s hf
    refine g_gov (g_run X (c_X5_togglePin l g h10 hc_4) s_X5_togglePin (oB_5 h10) q3_40 ⟨show 0 + 1 ≤ d + 1 + 3 by omega, show 8 + (3 + 11) + 0 ≤ (d + 1) * 32 + 74 by omega⟩ hP hS rfl hl.1 rfl (Nat.le_of_ble_eq_true rfl) ⟨Nat.le_refl _, Nat.le_refl _⟩ dX3_weightOfRinging_160) hS (fun H locs hP hS => ?_)
    refine lv_lload hx hb dX3_weightOfRinging_163 (lv_at hl 9 rfl) ?_
    refine lv_iload hx hb dX3_weightOfRinging_165 (lv_at hl 3 rfl) ?_
    refine lv_i2l hx hb dX3_weightOfRinging_167 rfl ?_
    refine lv_aload_n hx hb dX3_weightOfRinging_168 rfl (lv_at hl 0 rfl) ?_
    refine lv_iload_n hx hb dX3_weightOfRinging_169 rfl (lv_at hl 1 rfl) ?_
    refine lv_iconst (v := (1 : Int32)) hx hb dX3_weightOfRinging_170 (by decide) ?_
    refine lv_iadd hx hb dX3_weightOfRinging_171 ?_
    refine lv_iload hx hb dX3_weightOfRinging_172 (lv_at hl 5 rfl) ?_
    refine lv_iload hx hb dX3_weightOfRinging_174 (lv_at hl 7 rfl) ?_
    refine lv_iload hx hb dX3_weightOfRinging_176 (lv_at hl 2 rfl) ?_
    refine lv_iload hx hb dX3_weightOfRinging_178 (lv_at hl 3 rfl) ?_
    obtain ⟨r_8, M_7, hc_6, hf⟩ := cb_s hf
    refine g_gol (g_run X (hfr_weightOfRinging (x1 + (1 : Int32)) x7 x9 x4 x5 M_5 _ hc_6) s_X3_weightOfRinging (oB_3 kc_163) q3_156 ⟨show d + 3 + 1 ≤ d + 1 + 3 by omega, show 8 + (13 + 11) + (d * 32 + 74) ≤ (d + 1) * 32 + 74 by omega⟩ hP hS rfl hl.1 rfl (Nat.le_of_ble_eq_true rfl) ⟨Nat.le_refl _, Nat.le_refl _⟩ dX3_weightOfRinging_180) hS (fun H locs hP hS => ?_)
    refine lv_lmul hx hb dX3_weightOfRinging_183 ?_
    refine lv_ladd hx hb dX3_weightOfRinging_184 ?_
    refine lv_topl (fun y11_9 ey11_9 => ?_)
    replace hf := lt_go hf ey11_9
    refine lv_lstore (lv' := [(11, .long y11_9), (0, .ref (gz g + 163)), (1, .int x1), (4, .int x4), (5, .int x5), (6, .ref (gz g + o6)), (7, .int x7), (8, .int x8), (9, .int x9), (10, .ref (gz g + o10))]) hx hb dX3_weightOfRinging_185 hl (by decide) rfl (fun ls hl => ?_)
    exact b_X3_weightOfRinging_187 X hfr_weightOfRinging y11_9 M_7 hf hP hS (lv_sub hl [0] rfl)
def f_X3_weightOfRinging_48 (fr_weightOfRinging : Int32 → Int32 → Int32 → Int32 → Int32 → Mem → Option (Int64 × Mem)) (x3 : Int32) (x4 : Int32) (o6 : Nat)   (M : Mem) : Option (Int64 × Mem) :=
  ck x4 6 <|
  if (M (o6 + 4) x4.toNatClampNeg) ≤ 0 then
    some ((0 : Int64), M)
  else
    cb (f_J6_bitCount_0f7a4 x3 M) fun r_5 M_4 =>
    cb (f_X3_tenToThe r_5 M_4) fun r_8 M_7 =>
    some (r_8, M_7)
set_option maxRecDepth 20000 in
theorem b_X3_weightOfRinging_48 {out : Int64 × Mem} (X : Bx p s m args meth c RX3 cX3_weightOfRinging 13 (some .long) g) {d : Nat} {fr_weightOfRinging : Int32 → Int32 → Int32 → Int32 → Int32 → Mem → Option (Int64 × Mem)}  (hfr_weightOfRinging : ∀ (x1 : Int32) (x2 : Int32) (x3 : Int32) (x4 : Int32) (x5 : Int32)  (M : Mem) (out : Int64 × Mem), fr_weightOfRinging x1 x2 x3 x4 x5 M = some out → cL l g yX3_weightOfRinging cX3_weightOfRinging 13 (some .long) (rM (d + 3) (d * 32 + 74)) [.ref (gz g + 163), .int x1, .int x2, .int x3, .int x4, .int x5] M out) {x3 : Int32} {x4 : Int32} {o6 : Nat}  (h6 : kd o6 = 5)    (M : Mem) {H : Heap} {locs : List Loc} {ls : Array Slot} (hf : f_X3_weightOfRinging_48 fr_weightOfRinging x3 x4 o6 M = some out) (hP : va_P g.1 vwCl (gW g M) H) (hS : va_S (gA g) s.heap H locs) (hl : lv_has ls 13 [(3, .int x3), (4, .int x4), (6, .ref (gz g + o6))]) : W p l e (rM (d + 1 + 3) ((d + 1) * 32 + 74)) s m args below meth c H locs 0 0 (MQ below (qL g out) args s 0 0 (gA g)) (F0 m 48 ls []) := by
  have hx := X.1
  have hb := X.2.1
  refine lv_aload hx hb dX3_weightOfRinging_48 (lv_at hl 2 rfl) ?_
  refine gf_5_9 X hP h6 q1_65 dX3_weightOfRinging_50 ?_
  refine lv_iload hx hb dX3_weightOfRinging_53 (lv_at hl 1 rfl) ?_
  obtain ⟨hi_1, hf⟩ := ck_s hf
  refine ga_ld X hP (iA_8 (kdW4 h6)) hi_1 dX3_weightOfRinging_55 ?_
  refine lv_if_le (tgt := 69) hx hb dX3_weightOfRinging_56 (by decide) (fun h_2 => ?_) (fun h_2 => ?_)
  · replace hf := it_t hf h_2
    refine lv_lconst (v := (0 : Int64)) hx hb dX3_weightOfRinging_69 (by decide) ?_
    exact g_lret X hP hS (sm_i hf) dX3_weightOfRinging_70
  · replace hf := it_f hf h_2
    refine lv_iload_n hx hb dX3_weightOfRinging_59 rfl (lv_at hl 0 rfl) ?_
    obtain ⟨r_5, M_4, hc_3, hf⟩ := cb_s hf
    refine g_goi (g_runS X (c_J6_bitCount_0f7a4 l g  hc_3) s_J6_bitCount_0f7a4 q3_164 ⟨show 0 + 1 ≤ d + 1 + 3 by omega, show 8 + (1 + 11) + 0 ≤ (d + 1) * 32 + 74 by omega⟩ hP hS rfl hl.1 rfl (Nat.le_of_ble_eq_true rfl) ⟨Nat.le_refl _, Nat.le_refl _⟩ dX3_weightOfRinging_60) hS (fun H locs hP hS => ?_)
    obtain ⟨r_8, M_7, hc_6, hf⟩ := cb_s hf
    refine g_gol (g_runS X (c_X3_tenToThe l g  hc_6) s_X3_tenToThe q3_170 ⟨show 0 + 1 ≤ d + 1 + 3 by omega, show 8 + (4 + 11) + 0 ≤ (d + 1) * 32 + 74 by omega⟩ hP hS rfl hl.1 rfl (Nat.le_of_ble_eq_true rfl) ⟨Nat.le_refl _, Nat.le_refl _⟩ dX3_weightOfRinging_63) hS (fun H locs hP hS => ?_)
    refine lv_goto (tgt := 70) hx hb dX3_weightOfRinging_66 (by decide) ?_
    exact g_lret X hP hS (sm_i hf) dX3_weightOfRinging_70
def f_X3_weightOfRinging_37 (fr_weightOfRinging : Int32 → Int32 → Int32 → Int32 → Int32 → Mem → Option (Int64 × Mem)) (x1 : Int32) (x3 : Int32) (x4 : Int32) (x5 : Int32) (o6 : Nat)  (x7 : Int32) (M : Mem) : Option (Int64 × Mem) :=
  if x7 = 0 then
    f_X3_weightOfRinging_48 fr_weightOfRinging x3 x4 o6 M
  else
    if x1 < (12 : Int32) then
      cb (f_X5_columnBehind o6 M) fun r_5 M_4 =>
      lt (x3 &&& (((1 : Int32) <<< (r_5 &&& 31)) ^^^ (-1 : Int32))) fun x9_6 =>
      ck (x1 + (1 : Int32)) 13 <|
      if (10 : Int32) ≤ x5 then
        f_X3_weightOfRinging_142 fr_weightOfRinging x1 x4 x5 o6 (171 + 6 * ((x1 + (1 : Int32))).toNatClampNeg) x7 r_5 x9_6 (0 : Int64) M_4
      else
        cv (f_X5_takeFrom (171 + 6 * ((x1 + (1 : Int32))).toNatClampNeg) o6 M_4) fun M_10 =>
        cb (fr_weightOfRinging (x1 + (1 : Int32)) x7 x9_6 x4 x5 M_10) fun r_13 M_12 =>
        lt ((0 : Int64) + ((((10 : Int32) - x5)).toInt64 * r_13)) fun y11_14 =>
        f_X3_weightOfRinging_142 fr_weightOfRinging x1 x4 x5 o6 (171 + 6 * ((x1 + (1 : Int32))).toNatClampNeg) x7 r_5 x9_6 y11_14 M_12
    else
      f_X3_weightOfRinging_48 fr_weightOfRinging x3 x4 o6 M
set_option maxRecDepth 20000 in
theorem b_X3_weightOfRinging_37 {out : Int64 × Mem} (X : Bx p s m args meth c RX3 cX3_weightOfRinging 13 (some .long) g) {d : Nat} {fr_weightOfRinging : Int32 → Int32 → Int32 → Int32 → Int32 → Mem → Option (Int64 × Mem)}  (hfr_weightOfRinging : ∀ (x1 : Int32) (x2 : Int32) (x3 : Int32) (x4 : Int32) (x5 : Int32)  (M : Mem) (out : Int64 × Mem), fr_weightOfRinging x1 x2 x3 x4 x5 M = some out → cL l g yX3_weightOfRinging cX3_weightOfRinging 13 (some .long) (rM (d + 3) (d * 32 + 74)) [.ref (gz g + 163), .int x1, .int x2, .int x3, .int x4, .int x5] M out) {x1 : Int32} {x3 : Int32} {x4 : Int32} {x5 : Int32} {o6 : Nat}  (h6 : kd o6 = 5)   (x7 : Int32) (M : Mem) {H : Heap} {locs : List Loc} {ls : Array Slot} (hf : f_X3_weightOfRinging_37 fr_weightOfRinging x1 x3 x4 x5 o6 x7 M = some out) (hP : va_P g.1 vwCl (gW g M) H) (hS : va_S (gA g) s.heap H locs) (hl : lv_has ls 13 [(0, .ref (gz g + 163)), (1, .int x1), (3, .int x3), (4, .int x4), (5, .int x5), (6, .ref (gz g + o6)), (7, .int x7)]) : W p l e (rM (d + 1 + 3) ((d + 1) * 32 + 74)) s m args below meth c H locs 0 0 (MQ below (qL g out) args s 0 0 (gA g)) (F0 m 37 ls []) := by
  have hx := X.1
  have hb := X.2.1
  refine lv_iload hx hb dX3_weightOfRinging_37 (lv_at hl 6 rfl) ?_
  refine lv_if_eq (tgt := 48) hx hb dX3_weightOfRinging_39 (by decide) (fun h_1 => ?_) (fun h_1 => ?_)
  · replace hf := it_t hf h_1
    exact b_X3_weightOfRinging_48 X hfr_weightOfRinging h6  M hf hP hS (lv_sub hl [2, 3, 5] rfl)
  · replace hf := it_f hf h_1
    refine lv_iload_n hx hb dX3_weightOfRinging_42 rfl (lv_at hl 1 rfl) ?_
    refine lv_bipush (v := (12 : Int32)) hx hb dX3_weightOfRinging_43 (by decide) ?_
    refine lv_icmp_lt (tgt := 71) hx hb dX3_weightOfRinging_45 (by decide) (fun h_2 => ?_) (fun h_2 => ?_)
    · replace hf := it_t hf h_2
      refine lv_aload hx hb dX3_weightOfRinging_71 (lv_at hl 5 rfl) ?_
      obtain ⟨r_5, M_4, hc_3, hf⟩ := cb_s hf
      refine g_goi (g_run X (c_X5_columnBehind l g h6 hc_3) s_X5_columnBehind (oB_5 h6) q3_115 ⟨show 0 + 1 ≤ d + 1 + 3 by omega, show 8 + (1 + 11) + 0 ≤ (d + 1) * 32 + 74 by omega⟩ hP hS rfl hl.1 rfl (Nat.le_of_ble_eq_true rfl) ⟨Nat.le_refl _, Nat.le_refl _⟩ dX3_weightOfRinging_73) hS (fun H locs hP hS => ?_)
      refine lv_istore (lv' := [(8, .int r_5), (0, .ref (gz g + 163)), (1, .int x1), (3, .int x3), (4, .int x4), (5, .int x5), (6, .ref (gz g + o6)), (7, .int x7)]) hx hb dX3_weightOfRinging_76 hl (by decide) rfl (fun ls hl => ?_)
      refine lv_iload_n hx hb dX3_weightOfRinging_78 rfl (lv_at hl 3 rfl) ?_
      refine lv_iconst (v := (1 : Int32)) hx hb dX3_weightOfRinging_79 (by decide) ?_
      refine lv_iload hx hb dX3_weightOfRinging_80 (lv_at hl 0 rfl) ?_
      refine lv_ishl hx hb dX3_weightOfRinging_82 ?_
      refine lv_iconst (v := (-1 : Int32)) hx hb dX3_weightOfRinging_83 (by decide) ?_
      refine lv_ixor hx hb dX3_weightOfRinging_84 ?_
      refine lv_iand hx hb dX3_weightOfRinging_85 ?_
      refine lv_topi (fun x9_6 ex9_6 => ?_)
      replace hf := lt_go hf ex9_6
      refine lv_istore (lv' := [(9, .int x9_6), (8, .int r_5), (0, .ref (gz g + 163)), (1, .int x1), (3, .int x3), (4, .int x4), (5, .int x5), (6, .ref (gz g + o6)), (7, .int x7)]) hx hb dX3_weightOfRinging_86 hl (by decide) rfl (fun ls hl => ?_)
      refine lv_aload_n hx hb dX3_weightOfRinging_88 rfl (lv_at hl 2 rfl) ?_
      refine gf_3_2 X hP kc_163 q1_149 dX3_weightOfRinging_89 ?_
      refine lv_iload_n hx hb dX3_weightOfRinging_92 rfl (lv_at hl 3 rfl) ?_
      refine lv_iconst (v := (1 : Int32)) hx hb dX3_weightOfRinging_93 (by decide) ?_
      refine lv_iadd hx hb dX3_weightOfRinging_94 ?_
      obtain ⟨hi_7, hf⟩ := ck_s hf
      refine gr_cases X hP kc_170 hi_7 dX3_weightOfRinging_95 ?_
      refine lv_astore (lv' := [(10, .ref (gz g + (171 + 6 * ((x1 + (1 : Int32))).toNatClampNeg))), (9, .int x9_6), (8, .int r_5), (0, .ref (gz g + 163)), (1, .int x1), (3, .int x3), (4, .int x4), (5, .int x5), (6, .ref (gz g + o6)), (7, .int x7)]) hx hb dX3_weightOfRinging_96 hl (by decide) rfl (fun ls hl => ?_)
      refine lv_lconst (v := (0 : Int64)) hx hb dX3_weightOfRinging_98 (by decide) ?_
      refine lv_lstore (lv' := [(11, .long (0 : Int64)), (10, .ref (gz g + (171 + 6 * ((x1 + (1 : Int32))).toNatClampNeg))), (9, .int x9_6), (8, .int r_5), (0, .ref (gz g + 163)), (1, .int x1), (3, .int x3), (4, .int x4), (5, .int x5), (6, .ref (gz g + o6)), (7, .int x7)]) hx hb dX3_weightOfRinging_99 hl (by decide) rfl (fun ls hl => ?_)
      refine lv_iload hx hb dX3_weightOfRinging_101 (lv_at hl 8 rfl) ?_
      refine lv_bipush (v := (10 : Int32)) hx hb dX3_weightOfRinging_103 (by decide) ?_
      refine lv_icmp_ge (tgt := 142) hx hb dX3_weightOfRinging_105 (by decide) (fun h_8 => ?_) (fun h_8 => ?_)
      · replace hf := it_t hf h_8
        exact b_X3_weightOfRinging_142 X hfr_weightOfRinging h6 (kd_cases hi_7) x7 r_5 x9_6 (0 : Int64) M_4 hf hP hS (lv_sub hl [4, 5, 7, 8, 9, 10, 3, 2, 1, 0] rfl)
      · replace hf := it_f hf h_8
        refine lv_aload hx hb dX3_weightOfRinging_108 (lv_at hl 1 rfl) ?_
        refine lv_aload hx hb dX3_weightOfRinging_110 (lv_at hl 9 rfl) ?_
        obtain ⟨M_10, hc_9, hf⟩ := cv_s hf
        refine g_gov (g_run X (c_X5_takeFrom l g (kd_cases hi_7) h6 hc_9) s_X5_takeFrom (oB_5 (kd_cases hi_7)) q2_237 ⟨show 1 + 1 ≤ d + 1 + 3 by omega, show 8 + (2 + 11) + 40 ≤ (d + 1) * 32 + 74 by omega⟩ hP hS rfl hl.1 rfl (Nat.le_of_ble_eq_true rfl) ⟨Nat.le_refl _, Nat.le_refl _⟩ dX3_weightOfRinging_112) hS (fun H locs hP hS => ?_)
        refine lv_lload hx hb dX3_weightOfRinging_115 (lv_at hl 0 rfl) ?_
        refine lv_bipush (v := (10 : Int32)) hx hb dX3_weightOfRinging_117 (by decide) ?_
        refine lv_iload hx hb dX3_weightOfRinging_119 (lv_at hl 8 rfl) ?_
        refine lv_isub hx hb dX3_weightOfRinging_121 ?_
        refine lv_i2l hx hb dX3_weightOfRinging_122 rfl ?_
        refine lv_aload_n hx hb dX3_weightOfRinging_123 rfl (lv_at hl 4 rfl) ?_
        refine lv_iload_n hx hb dX3_weightOfRinging_124 rfl (lv_at hl 5 rfl) ?_
        refine lv_iconst (v := (1 : Int32)) hx hb dX3_weightOfRinging_125 (by decide) ?_
        refine lv_iadd hx hb dX3_weightOfRinging_126 ?_
        refine lv_iload hx hb dX3_weightOfRinging_127 (lv_at hl 10 rfl) ?_
        refine lv_iload hx hb dX3_weightOfRinging_129 (lv_at hl 2 rfl) ?_
        refine lv_iload hx hb dX3_weightOfRinging_131 (lv_at hl 7 rfl) ?_
        refine lv_iload hx hb dX3_weightOfRinging_133 (lv_at hl 8 rfl) ?_
        obtain ⟨r_13, M_12, hc_11, hf⟩ := cb_s hf
        refine g_gol (g_run X (hfr_weightOfRinging (x1 + (1 : Int32)) x7 x9_6 x4 x5 M_10 _ hc_11) s_X3_weightOfRinging (oB_3 kc_163) q3_156 ⟨show d + 3 + 1 ≤ d + 1 + 3 by omega, show 8 + (13 + 11) + (d * 32 + 74) ≤ (d + 1) * 32 + 74 by omega⟩ hP hS rfl hl.1 rfl (Nat.le_of_ble_eq_true rfl) ⟨Nat.le_refl _, Nat.le_refl _⟩ dX3_weightOfRinging_135) hS (fun H locs hP hS => ?_)
        refine lv_lmul hx hb dX3_weightOfRinging_138 ?_
        refine lv_ladd hx hb dX3_weightOfRinging_139 ?_
        refine lv_topl (fun y11_14 ey11_14 => ?_)
        replace hf := lt_go hf ey11_14
        refine lv_lstore (lv' := [(11, .long y11_14), (10, .ref (gz g + (171 + 6 * ((x1 + (1 : Int32))).toNatClampNeg))), (9, .int x9_6), (8, .int r_5), (0, .ref (gz g + 163)), (1, .int x1), (3, .int x3), (4, .int x4), (5, .int x5), (6, .ref (gz g + o6)), (7, .int x7)]) hx hb dX3_weightOfRinging_140 hl (by decide) rfl (fun ls hl => ?_)
        exact b_X3_weightOfRinging_142 X hfr_weightOfRinging h6 (kd_cases hi_7) x7 r_5 x9_6 y11_14 M_12 hf hP hS (lv_sub hl [4, 5, 7, 8, 9, 10, 3, 2, 1, 0] rfl)
    · replace hf := it_f hf h_2
      exact b_X3_weightOfRinging_48 X hfr_weightOfRinging h6  M hf hP hS (lv_sub hl [2, 3, 5] rfl)
def f_X3_weightOfRinging_11 (fr_weightOfRinging : Int32 → Int32 → Int32 → Int32 → Int32 → Mem → Option (Int64 × Mem)) (x1 : Int32) (x3 : Int32) (x4 : Int32) (x5 : Int32) (o6 : Nat)  : Nat → Int32 → Mem → Option (Int64 × Mem)
  | 0, _, _ => none
  | n + 1, x7, M =>
    if x7 ≤ 0 then
      f_X3_weightOfRinging_37 fr_weightOfRinging x1 x3 x4 x5 o6 x7 M
    else
      cb (f_X5_comesTo o6 x3 M) fun r_4 M_3 =>
      if r_4 = 0 then
        cb (f_X5_turn o6 M_3) fun r_8 M_7 =>
        (f_X3_weightOfRinging_11 fr_weightOfRinging x1 x3 x4 x5 o6 n) (x7 + (-1 : Int32)) M_7
      else
        f_X3_weightOfRinging_37 fr_weightOfRinging x1 x3 x4 x5 o6 x7 M_3
set_option maxRecDepth 20000 in
theorem b_X3_weightOfRinging_11 {out : Int64 × Mem} (X : Bx p s m args meth c RX3 cX3_weightOfRinging 13 (some .long) g) {d : Nat} {fr_weightOfRinging : Int32 → Int32 → Int32 → Int32 → Int32 → Mem → Option (Int64 × Mem)}  (hfr_weightOfRinging : ∀ (x1 : Int32) (x2 : Int32) (x3 : Int32) (x4 : Int32) (x5 : Int32)  (M : Mem) (out : Int64 × Mem), fr_weightOfRinging x1 x2 x3 x4 x5 M = some out → cL l g yX3_weightOfRinging cX3_weightOfRinging 13 (some .long) (rM (d + 3) (d * 32 + 74)) [.ref (gz g + 163), .int x1, .int x2, .int x3, .int x4, .int x5] M out) {x1 : Int32} {x3 : Int32} {x4 : Int32} {x5 : Int32} {o6 : Nat}  (h6 : kd o6 = 5)   : ∀ (n : Nat) (x7 : Int32) (M : Mem) (H : Heap) (locs : List Loc) (ls : Array Slot), f_X3_weightOfRinging_11 fr_weightOfRinging x1 x3 x4 x5 o6 n x7 M = some out → va_P g.1 vwCl (gW g M) H → va_S (gA g) s.heap H locs → lv_has ls 13 [(0, .ref (gz g + 163)), (1, .int x1), (3, .int x3), (4, .int x4), (5, .int x5), (6, .ref (gz g + o6)), (7, .int x7)] → W p l e (rM (d + 1 + 3) ((d + 1) * 32 + 74)) s m args below meth c H locs 0 0 (MQ below (qL g out) args s 0 0 (gA g)) (F0 m 11 ls []) := by
  have hx := X.1
  have hb := X.2.1
  intro n
  induction n with
  | zero => intro _ _ _ _ _ hf; cases hf
  | succ n ih =>
    intro x7 M H locs ls hf hP hS hl
    rw [f_X3_weightOfRinging_11] at hf
    refine lv_iload hx hb dX3_weightOfRinging_11 (lv_at hl 6 rfl) ?_
    refine lv_if_le (tgt := 37) hx hb dX3_weightOfRinging_13 (by decide) (fun h_1 => ?_) (fun h_1 => ?_)
    · replace hf := it_t hf h_1
      exact b_X3_weightOfRinging_37 X hfr_weightOfRinging h6 x7 M hf hP hS hl
    · replace hf := it_f hf h_1
      refine lv_aload hx hb dX3_weightOfRinging_16 (lv_at hl 5 rfl) ?_
      refine lv_iload_n hx hb dX3_weightOfRinging_18 rfl (lv_at hl 2 rfl) ?_
      obtain ⟨r_4, M_3, hc_2, hf⟩ := cb_s hf
      refine g_goi (g_run X (c_X5_comesTo l g h6 hc_2) s_X5_comesTo (oB_5 h6) q3_160 ⟨show 1 + 1 ≤ d + 1 + 3 by omega, show 8 + (2 + 11) + 20 ≤ (d + 1) * 32 + 74 by omega⟩ hP hS rfl hl.1 rfl (Nat.le_of_ble_eq_true rfl) ⟨Nat.le_refl _, Nat.le_refl _⟩ dX3_weightOfRinging_19) hS (fun H locs hP hS => ?_)
      refine lv_if_ne (tgt := 37) hx hb dX3_weightOfRinging_22 (by decide) (fun h_5 => ?_) (fun h_5 => ?_)
      · replace hf := it_f hf h_5
        exact b_X3_weightOfRinging_37 X hfr_weightOfRinging h6 x7 M_3 hf hP hS hl
      · replace hf := it_t hf h_5
        refine lv_aload hx hb dX3_weightOfRinging_25 (lv_at hl 5 rfl) ?_
        obtain ⟨r_8, M_7, hc_6, hf⟩ := cb_s hf
        refine g_goi (g_run X (c_X5_turn l g h6 hc_6) s_X5_turn (oB_5 h6) q3_22 ⟨show 2 + 1 ≤ d + 1 + 3 by omega, show 8 + (4 + 11) + 51 ≤ (d + 1) * 32 + 74 by omega⟩ hP hS rfl hl.1 rfl (Nat.le_of_ble_eq_true rfl) ⟨Nat.le_refl _, Nat.le_refl _⟩ dX3_weightOfRinging_27) hS (fun H locs hP hS => ?_)
        refine lv_pop hx hb dX3_weightOfRinging_30 rfl ?_
        refine lv_iinc (v := (x7 + (-1 : Int32))) (lv' := [(7, .int (x7 + (-1 : Int32))), (0, .ref (gz g + 163)), (1, .int x1), (3, .int x3), (4, .int x4), (5, .int x5), (6, .ref (gz g + o6))]) hx hb dX3_weightOfRinging_31 hl (k := 6) rfl rfl (by decide) rfl (fun ls hl => ?_)
        refine lv_goto (tgt := 11) hx hb dX3_weightOfRinging_34 (by decide) ?_
        exact ih (x7 + (-1 : Int32)) M_7 _ _ _ hf hP hS (lv_sub hl [1, 2, 3, 4, 5, 6, 0] rfl)
def e_X3_weightOfRinging (fr_weightOfRinging : Int32 → Int32 → Int32 → Int32 → Int32 → Mem → Option (Int64 × Mem)) (x1 : Int32) (x2 : Int32) (x3 : Int32) (x4 : Int32) (x5 : Int32) (M : Mem) : Option (Int64 × Mem) :=
  ck x1 13 <|
  f_X3_weightOfRinging_11 fr_weightOfRinging x1 x3 x4 x5 (171 + 6 * x1.toNatClampNeg) FU x2 M
set_option maxRecDepth 20000 in
theorem e_X3_weightOfRinging_ok (l : Launch) (g : GC) {d : Nat} {fr_weightOfRinging : Int32 → Int32 → Int32 → Int32 → Int32 → Mem → Option (Int64 × Mem)}  (hfr_weightOfRinging : ∀ (x1 : Int32) (x2 : Int32) (x3 : Int32) (x4 : Int32) (x5 : Int32)  (M : Mem) (out : Int64 × Mem), fr_weightOfRinging x1 x2 x3 x4 x5 M = some out → cL l g yX3_weightOfRinging cX3_weightOfRinging 13 (some .long) (rM (d + 3) (d * 32 + 74)) [.ref (gz g + 163), .int x1, .int x2, .int x3, .int x4, .int x5] M out) {x1 : Int32} {x2 : Int32} {x3 : Int32} {x4 : Int32} {x5 : Int32}  {M : Mem} {out : Int64 × Mem} (hf : e_X3_weightOfRinging fr_weightOfRinging x1 x2 x3 x4 x5 M = some out) : cL l g yX3_weightOfRinging cX3_weightOfRinging 13 (some .long) (rM ((d + 1) + 3) ((d + 1) * 32 + 74)) [.ref (gz g + 163), .int x1, .int x2, .int x3, .int x4, .int x5] M out := by
  refine g_met (by decide) (Nat.le_of_ble_eq_true rfl) ?_
  intro p e s m below meth c X hP hS ls hl
  have X : Bx p s m _ meth c RX3 cX3_weightOfRinging 13 (some .long) g := X
  have hl : lv_has ls 13 [(0, .ref (gz g + 163)), (1, .int x1), (2, .int x2), (3, .int x3), (4, .int x4), (5, .int x5)] := hl
  show W p l e (rM (d + 1 + 3) ((d + 1) * 32 + 74)) s m _ below meth c _ [] 0 0 _ _
  have hx := X.1
  have hb := X.2.1
  refine lv_aload_n hx hb dX3_weightOfRinging_0 rfl (lv_at hl 0 rfl) ?_
  refine gf_3_2 X hP kc_163 q1_149 dX3_weightOfRinging_1 ?_
  refine lv_iload_n hx hb dX3_weightOfRinging_4 rfl (lv_at hl 1 rfl) ?_
  obtain ⟨hi_1, hf⟩ := ck_s hf
  refine gr_cases X hP kc_170 hi_1 dX3_weightOfRinging_5 ?_
  refine lv_astore (lv' := [(6, .ref (gz g + (171 + 6 * x1.toNatClampNeg))), (0, .ref (gz g + 163)), (1, .int x1), (2, .int x2), (3, .int x3), (4, .int x4), (5, .int x5)]) hx hb dX3_weightOfRinging_6 hl (by decide) rfl (fun ls hl => ?_)
  refine lv_iload_n hx hb dX3_weightOfRinging_8 rfl (lv_at hl 3 rfl) ?_
  refine lv_istore (lv' := [(7, .int x2), (6, .ref (gz g + (171 + 6 * x1.toNatClampNeg))), (0, .ref (gz g + 163)), (1, .int x1), (2, .int x2), (3, .int x3), (4, .int x4), (5, .int x5)]) hx hb dX3_weightOfRinging_9 hl (by decide) rfl (fun ls hl => ?_)
  exact b_X3_weightOfRinging_11 X hfr_weightOfRinging (kd_cases hi_1) FU x2 M _ _ _ hf hP hS (lv_sub hl [2, 3, 5, 6, 7, 1, 0] rfl)
def f_X3_weightOfRinging : Nat → Int32 → Int32 → Int32 → Int32 → Int32 → Mem → Option (Int64 × Mem)
  | 0, _, _, _, _, _, _ => none
  | d + 1, x1, x2, x3, x4, x5, M => e_X3_weightOfRinging (f_X3_weightOfRinging d) x1 x2 x3 x4 x5 M
theorem c_X3_weightOfRinging_all (l : Launch) (g : GC) : ∀ (d : Nat) (x1 : Int32) (x2 : Int32) (x3 : Int32) (x4 : Int32) (x5 : Int32)  (M : Mem) (out : Int64 × Mem), f_X3_weightOfRinging d x1 x2 x3 x4 x5 M = some out → cL l g yX3_weightOfRinging cX3_weightOfRinging 13 (some .long) (rM (d + 3) (d * 32 + 74)) [.ref (gz g + 163), .int x1, .int x2, .int x3, .int x4, .int x5] M out := by
  intro d
  induction d with
  | zero => intro _ _ _ _ _ _ _ hf; cases hf
  | succ d ih =>
    intro x1 x2 x3 x4 x5 M out hf
    rw [f_X3_weightOfRinging] at hf
    exact e_X3_weightOfRinging_ok l g (fun x1 x2 x3 x4 x5 M out h => ih x1 x2 x3 x4 x5 M out h)  hf
theorem c_X3_weightOfRinging (l : Launch) (g : GC) (d : Nat) {x1 : Int32} {x2 : Int32} {x3 : Int32} {x4 : Int32} {x5 : Int32}  {M : Mem} {out : Int64 × Mem} (hf : f_X3_weightOfRinging d x1 x2 x3 x4 x5 M = some out) : cL l g yX3_weightOfRinging cX3_weightOfRinging 13 (some .long) (rM (d + 3) (d * 32 + 74)) [.ref (gz g + 163), .int x1, .int x2, .int x3, .int x4, .int x5] M out := c_X3_weightOfRinging_all l g d x1 x2 x3 x4 x5 M out hf
def f_X3_commonDivisor_45   (y4 : Int64) (M : Mem) : Option (Int64 × Mem) :=
  some (y4, M)
set_option maxRecDepth 20000 in
theorem b_X3_commonDivisor_45 {out : Int64 × Mem} (X : Bx p s m args meth c RX3 cX3_commonDivisor 11 (some .long) g)        (y4 : Int64) (M : Mem) {H : Heap} {locs : List Loc} {ls : Array Slot} (hf : f_X3_commonDivisor_45 y4 M = some out) (hP : va_P g.1 vwCl (gW g M) H) (hS : va_S (gA g) s.heap H locs) (hl : lv_has ls 11 [(4, .long y4)]) : W p l e (rM 0 0) s m args below meth c H locs 0 0 (MQ below (qL g out) args s 0 0 (gA g)) (F0 m 45 ls []) := by
  have hx := X.1
  have hb := X.2.1
  refine lv_lload hx hb dX3_commonDivisor_45 (lv_at hl 0 rfl) ?_
  exact g_lret X hP hS (sm_i hf) dX3_commonDivisor_47
def f_X3_commonDivisor_9   : Nat → Int64 → Int64 → Int32 → Mem → Option (Int64 × Mem)
  | 0, _, _, _, _ => none
  | n + 1, y4, y6, x8, M =>
    if (1000 : Int32) ≤ x8 then
      f_X3_commonDivisor_45 y4 M
    else
      if (lg_cmp y6 (0 : Int64)) = 0 then
        f_X3_commonDivisor_45 y4 M
      else
        czl y6 <|
        lt (y4 - y4 / y6 * y6) fun y9_4 =>
        (f_X3_commonDivisor_9 n) y6 y9_4 (x8 + (1 : Int32)) M
set_option maxRecDepth 20000 in
theorem b_X3_commonDivisor_9 {out : Int64 × Mem} (X : Bx p s m args meth c RX3 cX3_commonDivisor 11 (some .long) g)        : ∀ (n : Nat) (y4 : Int64) (y6 : Int64) (x8 : Int32) (M : Mem) (H : Heap) (locs : List Loc) (ls : Array Slot), f_X3_commonDivisor_9 n y4 y6 x8 M = some out → va_P g.1 vwCl (gW g M) H → va_S (gA g) s.heap H locs → lv_has ls 11 [(4, .long y4), (6, .long y6), (8, .int x8)] → W p l e (rM 0 0) s m args below meth c H locs 0 0 (MQ below (qL g out) args s 0 0 (gA g)) (F0 m 9 ls []) := by
  have hx := X.1
  have hb := X.2.1
  intro n
  induction n with
  | zero => intro _ _ _ _ _ _ _ hf; cases hf
  | succ n ih =>
    intro y4 y6 x8 M H locs ls hf hP hS hl
    rw [f_X3_commonDivisor_9] at hf
    refine lv_iload hx hb dX3_commonDivisor_9 (lv_at hl 2 rfl) ?_
    refine lv_sipush (v := (1000 : Int32)) hx hb dX3_commonDivisor_11 (by decide) ?_
    refine lv_icmp_ge (tgt := 45) hx hb dX3_commonDivisor_14 (by decide) (fun h_1 => ?_) (fun h_1 => ?_)
    · replace hf := it_t hf h_1
      exact b_X3_commonDivisor_45 X  y4 M hf hP hS (lv_sub hl [0] rfl)
    · replace hf := it_f hf h_1
      refine lv_lload hx hb dX3_commonDivisor_17 (lv_at hl 1 rfl) ?_
      refine lv_lconst (v := (0 : Int64)) hx hb dX3_commonDivisor_19 (by decide) ?_
      refine W.lcmp hx hb dX3_commonDivisor_20 ?_
      refine lv_if_eq (tgt := 45) hx hb dX3_commonDivisor_21 (by decide) (fun h_2 => ?_) (fun h_2 => ?_)
      · replace hf := it_t hf h_2
        exact b_X3_commonDivisor_45 X  y4 M hf hP hS (lv_sub hl [0] rfl)
      · replace hf := it_f hf h_2
        refine lv_lload hx hb dX3_commonDivisor_24 (lv_at hl 0 rfl) ?_
        refine lv_lload hx hb dX3_commonDivisor_26 (lv_at hl 1 rfl) ?_
        obtain ⟨hz_3, hf⟩ := czl_s hf
        refine lv_lrem hx hb dX3_commonDivisor_28 hz_3 ?_
        refine lv_topl (fun y9_4 ey9_4 => ?_)
        replace hf := lt_go hf ey9_4
        refine lv_lstore (lv' := [(9, .long y9_4), (4, .long y4), (6, .long y6), (8, .int x8)]) hx hb dX3_commonDivisor_29 hl (by decide) rfl (fun ls hl => ?_)
        refine lv_lload hx hb dX3_commonDivisor_31 (lv_at hl 2 rfl) ?_
        refine lv_lstore (lv' := [(4, .long y6), (9, .long y9_4), (6, .long y6), (8, .int x8)]) hx hb dX3_commonDivisor_33 hl (by decide) rfl (fun ls hl => ?_)
        refine lv_lload hx hb dX3_commonDivisor_35 (lv_at hl 1 rfl) ?_
        refine lv_lstore (lv' := [(6, .long y9_4), (4, .long y6), (9, .long y9_4), (8, .int x8)]) hx hb dX3_commonDivisor_37 hl (by decide) rfl (fun ls hl => ?_)
        refine lv_iinc (v := (x8 + (1 : Int32))) (lv' := [(8, .int (x8 + (1 : Int32))), (6, .long y9_4), (4, .long y6), (9, .long y9_4)]) hx hb dX3_commonDivisor_39 hl (k := 3) rfl rfl (by decide) rfl (fun ls hl => ?_)
        refine lv_goto (tgt := 9) hx hb dX3_commonDivisor_42 (by decide) ?_
        exact ih y6 y9_4 (x8 + (1 : Int32)) M _ _ _ hf hP hS (lv_sub hl [2, 1, 0] rfl)
def f_X3_commonDivisor (y0 : Int64) (y2 : Int64) (M : Mem) : Option (Int64 × Mem) :=
  f_X3_commonDivisor_9 FU y0 y2 (0 : Int32) M
set_option maxRecDepth 20000 in
theorem c_X3_commonDivisor (l : Launch) (g : GC) {y0 : Int64} {y2 : Int64}  {M : Mem} {out : Int64 × Mem} (hf : f_X3_commonDivisor y0 y2 M = some out) : cL l g yX3_commonDivisor cX3_commonDivisor 11 (some .long) (rM 0 0) [.long y0, .long y2] M out := by
  refine g_met (by decide) (Nat.le_of_ble_eq_true rfl) ?_
  intro p e s m below meth c X hP hS ls hl
  have X : Bx p s m _ meth c RX3 cX3_commonDivisor 11 (some .long) g := X
  have hl : lv_has ls 11 [(0, .long y0), (2, .long y2)] := hl
  have hx := X.1
  have hb := X.2.1
  refine lv_lload_n hx hb dX3_commonDivisor_0 rfl (lv_at hl 0 rfl) ?_
  refine lv_lstore (lv' := [(4, .long y0), (0, .long y0), (2, .long y2)]) hx hb dX3_commonDivisor_1 hl (by decide) rfl (fun ls hl => ?_)
  refine lv_lload_n hx hb dX3_commonDivisor_3 rfl (lv_at hl 2 rfl) ?_
  refine lv_lstore (lv' := [(6, .long y2), (4, .long y0), (0, .long y0), (2, .long y2)]) hx hb dX3_commonDivisor_4 hl (by decide) rfl (fun ls hl => ?_)
  refine lv_iconst (v := (0 : Int32)) hx hb dX3_commonDivisor_6 (by decide) ?_
  refine lv_istore (lv' := [(8, .int (0 : Int32)), (6, .long y2), (4, .long y0), (0, .long y0), (2, .long y2)]) hx hb dX3_commonDivisor_7 hl (by decide) rfl (fun ls hl => ?_)
  exact b_X3_commonDivisor_9 X  FU y0 y2 (0 : Int32) M _ _ _ hf hP hS (lv_sub hl [2, 1, 0] rfl)
def f_X3_chanceOfRinging (x1 : Int32) (x2 : Int32) (x3 : Int32) (x4 : Int32) (M : Mem) : Option (Int64 × Mem) :=
  cb (f_X5_columnsOf 3 x1 M) fun r_3 M_2 =>
  ck (0 : Int32) 13 <|
  cv (f_X5_takeFrom (171 + 6 * ((0 : Int32)).toNatClampNeg) 3 M_2) fun M_6 =>
  cb (f_X3_weightOfRinging 24 (0 : Int32) x2 r_3 x1 x3 M_6) fun r_9 M_8 =>
  cb (f_J6_bitCount_0f7a4 r_3 M_8) fun r_12 M_11 =>
  cb (f_X3_tenToThe r_12 M_11) fun r_15 M_14 =>
  cb (f_X3_commonDivisor r_9 r_15 M_14) fun r_18 M_17 =>
  if (lg_cmp r_18 (0 : Int64)) = 0 then
    some ((0 : Int64), M_17)
  else
    if x4 = 0 then
      czl r_18 <|
      some ((r_9 / r_18), M_17)
    else
      czl r_18 <|
      some ((r_15 / r_18), M_17)
set_option maxRecDepth 20000 in
theorem c_X3_chanceOfRinging (l : Launch) (g : GC) {x1 : Int32} {x2 : Int32} {x3 : Int32} {x4 : Int32}  {M : Mem} {out : Int64 × Mem} (hf : f_X3_chanceOfRinging x1 x2 x3 x4 M = some out) : cL l g yX3_chanceOfRinging cX3_chanceOfRinging 12 (some .long) (rM 28 874) [.ref (gz g + 163), .int x1, .int x2, .int x3, .int x4] M out := by
  refine g_met (by decide) (Nat.le_of_ble_eq_true rfl) ?_
  intro p e s m below meth c X hP hS ls hl
  have X : Bx p s m _ meth c RX3 cX3_chanceOfRinging 12 (some .long) g := X
  have hl : lv_has ls 12 [(0, .ref (gz g + 163)), (1, .int x1), (2, .int x2), (3, .int x3), (4, .int x4)] := hl
  have hx := X.1
  have hb := X.2.1
  refine lv_aload_n hx hb dX3_chanceOfRinging_0 rfl (lv_at hl 0 rfl) ?_
  refine gf_3_0 X hP kc_163 q1_147 dX3_chanceOfRinging_1 ?_
  refine lv_iload_n hx hb dX3_chanceOfRinging_4 rfl (lv_at hl 1 rfl) ?_
  obtain ⟨r_3, M_2, hc_1, hf⟩ := cb_s hf
  refine g_goi (g_run X (c_X5_columnsOf l g kc_3 hc_1) s_X5_columnsOf (oB_5 kc_3) q3_155 ⟨Nat.le_of_ble_eq_true rfl, Nat.le_of_ble_eq_true rfl⟩ hP hS rfl hl.1 rfl (Nat.le_of_ble_eq_true rfl) ⟨Nat.le_refl _, Nat.le_refl _⟩ dX3_chanceOfRinging_5) hS (fun H locs hP hS => ?_)
  refine lv_istore (lv' := [(5, .int r_3), (0, .ref (gz g + 163)), (1, .int x1), (2, .int x2), (3, .int x3), (4, .int x4)]) hx hb dX3_chanceOfRinging_8 hl (by decide) rfl (fun ls hl => ?_)
  refine lv_aload_n hx hb dX3_chanceOfRinging_10 rfl (lv_at hl 1 rfl) ?_
  refine gf_3_2 X hP kc_163 q1_149 dX3_chanceOfRinging_11 ?_
  refine lv_iconst (v := (0 : Int32)) hx hb dX3_chanceOfRinging_14 (by decide) ?_
  obtain ⟨hi_4, hf⟩ := ck_s hf
  refine gr_cases X hP kc_170 hi_4 dX3_chanceOfRinging_15 ?_
  refine lv_aload_n hx hb dX3_chanceOfRinging_16 rfl (lv_at hl 1 rfl) ?_
  refine gf_3_0 X hP kc_163 q1_147 dX3_chanceOfRinging_17 ?_
  obtain ⟨M_6, hc_5, hf⟩ := cv_s hf
  refine g_gov (g_run X (c_X5_takeFrom l g (kd_cases hi_4) kc_3 hc_5) s_X5_takeFrom (oB_5 (kd_cases hi_4)) q2_237 ⟨Nat.le_of_ble_eq_true rfl, Nat.le_of_ble_eq_true rfl⟩ hP hS rfl hl.1 rfl (Nat.le_of_ble_eq_true rfl) ⟨Nat.le_refl _, Nat.le_refl _⟩ dX3_chanceOfRinging_20) hS (fun H locs hP hS => ?_)
  refine lv_aload_n hx hb dX3_chanceOfRinging_23 rfl (lv_at hl 1 rfl) ?_
  refine lv_iconst (v := (0 : Int32)) hx hb dX3_chanceOfRinging_24 (by decide) ?_
  refine lv_iload_n hx hb dX3_chanceOfRinging_25 rfl (lv_at hl 3 rfl) ?_
  refine lv_iload hx hb dX3_chanceOfRinging_26 (lv_at hl 0 rfl) ?_
  refine lv_iload_n hx hb dX3_chanceOfRinging_28 rfl (lv_at hl 2 rfl) ?_
  refine lv_iload_n hx hb dX3_chanceOfRinging_29 rfl (lv_at hl 4 rfl) ?_
  obtain ⟨r_9, M_8, hc_7, hf⟩ := cb_s hf
  refine g_gol (g_run X (c_X3_weightOfRinging l g 24  hc_7) s_X3_weightOfRinging (oB_3 kc_163) q3_156 ⟨Nat.le_of_ble_eq_true rfl, Nat.le_of_ble_eq_true rfl⟩ hP hS rfl hl.1 rfl (Nat.le_of_ble_eq_true rfl) ⟨Nat.le_refl _, Nat.le_refl _⟩ dX3_chanceOfRinging_30) hS (fun H locs hP hS => ?_)
  refine lv_lstore (lv' := [(6, .long r_9), (5, .int r_3), (0, .ref (gz g + 163)), (1, .int x1), (2, .int x2), (3, .int x3), (4, .int x4)]) hx hb dX3_chanceOfRinging_33 hl (by decide) rfl (fun ls hl => ?_)
  refine lv_iload hx hb dX3_chanceOfRinging_35 (lv_at hl 1 rfl) ?_
  obtain ⟨r_12, M_11, hc_10, hf⟩ := cb_s hf
  refine g_goi (g_runS X (c_J6_bitCount_0f7a4 l g  hc_10) s_J6_bitCount_0f7a4 q3_164 ⟨Nat.le_of_ble_eq_true rfl, Nat.le_of_ble_eq_true rfl⟩ hP hS rfl hl.1 rfl (Nat.le_of_ble_eq_true rfl) ⟨Nat.le_refl _, Nat.le_refl _⟩ dX3_chanceOfRinging_37) hS (fun H locs hP hS => ?_)
  obtain ⟨r_15, M_14, hc_13, hf⟩ := cb_s hf
  refine g_gol (g_runS X (c_X3_tenToThe l g  hc_13) s_X3_tenToThe q3_170 ⟨Nat.le_of_ble_eq_true rfl, Nat.le_of_ble_eq_true rfl⟩ hP hS rfl hl.1 rfl (Nat.le_of_ble_eq_true rfl) ⟨Nat.le_refl _, Nat.le_refl _⟩ dX3_chanceOfRinging_40) hS (fun H locs hP hS => ?_)
  refine lv_lstore (lv' := [(8, .long r_15), (6, .long r_9), (5, .int r_3), (0, .ref (gz g + 163)), (1, .int x1), (2, .int x2), (3, .int x3), (4, .int x4)]) hx hb dX3_chanceOfRinging_43 hl (by decide) rfl (fun ls hl => ?_)
  refine lv_lload hx hb dX3_chanceOfRinging_45 (lv_at hl 1 rfl) ?_
  refine lv_lload hx hb dX3_chanceOfRinging_47 (lv_at hl 0 rfl) ?_
  obtain ⟨r_18, M_17, hc_16, hf⟩ := cb_s hf
  refine g_gol (g_runS X (c_X3_commonDivisor l g  hc_16) s_X3_commonDivisor q3_174 ⟨Nat.le_of_ble_eq_true rfl, Nat.le_of_ble_eq_true rfl⟩ hP hS rfl hl.1 rfl (Nat.le_of_ble_eq_true rfl) ⟨Nat.le_refl _, Nat.le_refl _⟩ dX3_chanceOfRinging_49) hS (fun H locs hP hS => ?_)
  refine lv_lstore (lv' := [(10, .long r_18), (8, .long r_15), (6, .long r_9), (5, .int r_3), (0, .ref (gz g + 163)), (1, .int x1), (2, .int x2), (3, .int x3), (4, .int x4)]) hx hb dX3_chanceOfRinging_52 hl (by decide) rfl (fun ls hl => ?_)
  refine lv_lload hx hb dX3_chanceOfRinging_54 (lv_at hl 0 rfl) ?_
  refine lv_lconst (v := (0 : Int64)) hx hb dX3_chanceOfRinging_56 (by decide) ?_
  refine W.lcmp hx hb dX3_chanceOfRinging_57 ?_
  refine lv_if_ne (tgt := 63) hx hb dX3_chanceOfRinging_58 (by decide) (fun h_19 => ?_) (fun h_19 => ?_)
  · replace hf := it_f hf h_19
    refine lv_iload hx hb dX3_chanceOfRinging_63 (lv_at hl 8 rfl) ?_
    refine lv_if_ne (tgt := 76) hx hb dX3_chanceOfRinging_65 (by decide) (fun h_20 => ?_) (fun h_20 => ?_)
    · replace hf := it_f hf h_20
      refine lv_lload hx hb dX3_chanceOfRinging_76 (lv_at hl 1 rfl) ?_
      refine lv_lload hx hb dX3_chanceOfRinging_78 (lv_at hl 0 rfl) ?_
      obtain ⟨hz_21, hf⟩ := czl_s hf
      refine lv_ldiv hx hb dX3_chanceOfRinging_80 hz_21 ?_
      exact g_lret X hP hS (sm_i hf) dX3_chanceOfRinging_81
    · replace hf := it_t hf h_20
      refine lv_lload hx hb dX3_chanceOfRinging_68 (lv_at hl 2 rfl) ?_
      refine lv_lload hx hb dX3_chanceOfRinging_70 (lv_at hl 0 rfl) ?_
      obtain ⟨hz_22, hf⟩ := czl_s hf
      refine lv_ldiv hx hb dX3_chanceOfRinging_72 hz_22 ?_
      refine lv_goto (tgt := 81) hx hb dX3_chanceOfRinging_73 (by decide) ?_
      exact g_lret X hP hS (sm_i hf) dX3_chanceOfRinging_81
  · replace hf := it_t hf h_19
    refine lv_lconst (v := (0 : Int64)) hx hb dX3_chanceOfRinging_61 (by decide) ?_
    exact g_lret X hP hS (sm_i hf) dX3_chanceOfRinging_62
def f_X3_draw_51 (x1 : Int32)   (M : Mem) : Option Mem :=
  cz (M 164 1) <|
  lt (x1 - x1 / (M 164 1) * (M 164 1)) fun x2_2 =>
  cb (f_X5_isBroken 164 x2_2 M) fun r_5 M_4 =>
  if r_5 = 0 then
    some M_4
  else
    cv (f_X5_makeWhole 164 x2_2 M_4) fun M_8 =>
    some M_8
set_option maxRecDepth 20000 in
theorem b_X3_draw_51 {out : Mem} (X : Bx p s m args meth c RX3 cX3_draw 3 none g)   {x1 : Int32}      (M : Mem) {H : Heap} {locs : List Loc} {ls : Array Slot} (hf : f_X3_draw_51 x1 M = some out) (hP : va_P g.1 vwCl (gW g M) H) (hS : va_S (gA g) s.heap H locs) (hl : lv_has ls 3 [(0, .ref (gz g + 163)), (1, .int x1)]) : W p l e (rM 1 21) s m args below meth c H locs 0 0 (MQ below (qV g out) args s 0 0 (gA g)) (F0 m 51 ls []) := by
  have hx := X.1
  have hb := X.2.1
  refine lv_iload_n hx hb dX3_draw_51 rfl (lv_at hl 1 rfl) ?_
  refine lv_aload_n hx hb dX3_draw_52 rfl (lv_at hl 0 rfl) ?_
  refine gf_3_1 X hP kc_163 q1_148 dX3_draw_53 ?_
  refine gf_5_1 X hP kc_164 q1_36 dX3_draw_56 ?_
  obtain ⟨hz_1, hf⟩ := cz_s hf
  refine lv_irem hx hb dX3_draw_59 hz_1 ?_
  refine lv_topi (fun x2_2 ex2_2 => ?_)
  replace hf := lt_go hf ex2_2
  refine lv_istore_n (lv' := [(2, .int x2_2), (0, .ref (gz g + 163)), (1, .int x1)]) hx hb dX3_draw_60 rfl hl (by decide) rfl (fun ls hl => ?_)
  refine lv_aload_n hx hb dX3_draw_61 rfl (lv_at hl 1 rfl) ?_
  refine gf_3_1 X hP kc_163 q1_148 dX3_draw_62 ?_
  refine lv_iload_n hx hb dX3_draw_65 rfl (lv_at hl 0 rfl) ?_
  obtain ⟨r_5, M_4, hc_3, hf⟩ := cb_s hf
  refine g_goi (g_run X (c_X5_isBroken l g kc_164 hc_3) s_X5_isBroken (oB_5 kc_164) q3_3 ⟨Nat.le_of_ble_eq_true rfl, Nat.le_of_ble_eq_true rfl⟩ hP hS rfl hl.1 rfl (Nat.le_of_ble_eq_true rfl) ⟨Nat.le_refl _, Nat.le_refl _⟩ dX3_draw_66) hS (fun H locs hP hS => ?_)
  refine lv_if_eq (tgt := 80) hx hb dX3_draw_69 (by decide) (fun h_6 => ?_) (fun h_6 => ?_)
  · replace hf := it_t hf h_6
    exact g_vret X hP hS (sm_i hf) dX3_draw_80
  · replace hf := it_f hf h_6
    refine lv_aload_n hx hb dX3_draw_72 rfl (lv_at hl 1 rfl) ?_
    refine gf_3_1 X hP kc_163 q1_148 dX3_draw_73 ?_
    refine lv_iload_n hx hb dX3_draw_76 rfl (lv_at hl 0 rfl) ?_
    obtain ⟨M_8, hc_7, hf⟩ := cv_s hf
    refine g_gov (g_run X (c_X5_makeWhole l g kc_164 hc_7) s_X5_makeWhole (oB_5 kc_164) q3_192 ⟨Nat.le_of_ble_eq_true rfl, Nat.le_of_ble_eq_true rfl⟩ hP hS rfl hl.1 rfl (Nat.le_of_ble_eq_true rfl) ⟨Nat.le_refl _, Nat.le_refl _⟩ dX3_draw_77) hS (fun H locs hP hS => ?_)
    exact g_vret X hP hS (sm_i hf) dX3_draw_80
def f_X3_draw (x1 : Int32) (M : Mem) : Option Mem :=
  if (M 164 2) = 0 then
    lt (up2 M 164 2 (x1 - x1 / (30 : Int32) * (30 : Int32))) fun M_6 =>
    f_X3_draw_51 x1 M_6
  else
    if (x1 - x1 / (3 : Int32) * (3 : Int32)) = 0 then
      cz (M 164 0) <|
      ck (x1 - x1 / (M 164 0) * (M 164 0)) 12 <|
      lt (up2 M (164 + 1) ((x1 - x1 / (M 164 0) * (M 164 0))).toNatClampNeg (x1 - x1 / (64 : Int32) * (64 : Int32))) fun M_4 =>
      f_X3_draw_51 x1 M_4
    else
      f_X3_draw_51 x1 M
set_option maxRecDepth 20000 in
theorem c_X3_draw (l : Launch) (g : GC) {x1 : Int32}  {M : Mem} {out : Mem} (hf : f_X3_draw x1 M = some out) : cV l g yX3_draw cX3_draw 3 (rM 1 21) [.ref (gz g + 163), .int x1] M out := by
  refine g_met (by decide) (Nat.le_of_ble_eq_true rfl) ?_
  intro p e s m below meth c X hP hS ls hl
  have X : Bx p s m _ meth c RX3 cX3_draw 3 none g := X
  have hl : lv_has ls 3 [(0, .ref (gz g + 163)), (1, .int x1)] := hl
  have hx := X.1
  have hb := X.2.1
  refine lv_aload_n hx hb dX3_draw_0 rfl (lv_at hl 0 rfl) ?_
  refine gf_3_1 X hP kc_163 q1_148 dX3_draw_1 ?_
  refine gf_5_2 X hP kc_164 q1_40 dX3_draw_4 ?_
  refine lv_if_ne (tgt := 24) hx hb dX3_draw_7 (by decide) (fun h_1 => ?_) (fun h_1 => ?_)
  · replace hf := it_f hf h_1
    refine lv_iload_n hx hb dX3_draw_24 rfl (lv_at hl 1 rfl) ?_
    refine lv_iconst (v := (3 : Int32)) hx hb dX3_draw_25 (by decide) ?_
    refine lv_irem hx hb dX3_draw_26 (by decide) ?_
    refine lv_if_ne (tgt := 51) hx hb dX3_draw_27 (by decide) (fun h_2 => ?_) (fun h_2 => ?_)
    · replace hf := it_f hf h_2
      exact b_X3_draw_51 X   M hf hP hS hl
    · replace hf := it_t hf h_2
      refine lv_aload_n hx hb dX3_draw_30 rfl (lv_at hl 0 rfl) ?_
      refine gf_3_1 X hP kc_163 q1_148 dX3_draw_31 ?_
      refine gf_5_6 X hP kc_164 q1_52 dX3_draw_34 ?_
      refine lv_iload_n hx hb dX3_draw_37 rfl (lv_at hl 1 rfl) ?_
      refine lv_aload_n hx hb dX3_draw_38 rfl (lv_at hl 0 rfl) ?_
      refine gf_3_1 X hP kc_163 q1_148 dX3_draw_39 ?_
      refine gf_5_0 X hP kc_164 q1_32 dX3_draw_42 ?_
      obtain ⟨hz_3, hf⟩ := cz_s hf
      refine lv_irem hx hb dX3_draw_45 hz_3 ?_
      refine lv_iload_n hx hb dX3_draw_46 rfl (lv_at hl 1 rfl) ?_
      refine lv_bipush (v := (64 : Int32)) hx hb dX3_draw_47 (by decide) ?_
      refine lv_irem hx hb dX3_draw_49 (by decide) ?_
      obtain ⟨hi_5, hf⟩ := ck_s hf
      refine ga_st X hP hS (iA_9 (kdW1 kc_164)) hi_5 dX3_draw_50 (fun H locs M_4 eM_4 hP hS => ?_)
      replace hf := lt_go hf eM_4
      exact b_X3_draw_51 X   M_4 hf hP hS hl
  · replace hf := it_t hf h_1
    refine lv_aload_n hx hb dX3_draw_10 rfl (lv_at hl 0 rfl) ?_
    refine gf_3_1 X hP kc_163 q1_148 dX3_draw_11 ?_
    refine lv_iload_n hx hb dX3_draw_14 rfl (lv_at hl 1 rfl) ?_
    refine lv_bipush (v := (30 : Int32)) hx hb dX3_draw_15 (by decide) ?_
    refine lv_irem hx hb dX3_draw_17 (by decide) ?_
    refine gp_5_2 X hP hS kc_164 q1_40 dX3_draw_18 (fun H locs M_6 eM_6 hP hS => ?_)
    replace hf := lt_go hf eM_6
    refine lv_goto (tgt := 51) hx hb dX3_draw_21 (by decide) ?_
    exact b_X3_draw_51 X   M_6 hf hP hS hl
def f_X3_days_46 (x1 : Int32) (x3 : Int32)  : Nat → Int64 → Int32 → Int32 → Int32 → Mem → Option (Int32 × Mem)
  | 0, _, _, _, _, _ => none
  | n + 1, y4, x6, x7, x8, M =>
    if x1 ≤ x8 then
      if x3 = 0 then
        some (x6, M)
      else
        some (x7, M)
    else
      lt ((y4 * (16807 : Int64)) - (y4 * (16807 : Int64)) / (2147483647 : Int64) * (2147483647 : Int64)) fun y4_3 =>
      cv (f_X3_draw ((y4_3).toInt32) M) fun M_5 =>
      cb (f_X5_turn 164 M_5) fun r_8 M_7 =>
      lt (x6 + r_8) fun x6_9 =>
      cb (f_X5_loud 164 M_7) fun r_12 M_11 =>
      lt (x7 + r_12) fun x7_13 =>
      (f_X3_days_46 x1 x3 n) y4_3 x6_9 x7_13 (x8 + (1 : Int32)) M_11
set_option maxRecDepth 20000 in
theorem b_X3_days_46 {out : Int32 × Mem} (X : Bx p s m args meth c RX3 cX3_days 9 (some .int) g)   {x1 : Int32} {x3 : Int32}     : ∀ (n : Nat) (y4 : Int64) (x6 : Int32) (x7 : Int32) (x8 : Int32) (M : Mem) (H : Heap) (locs : List Loc) (ls : Array Slot), f_X3_days_46 x1 x3 n y4 x6 x7 x8 M = some out → va_P g.1 vwCl (gW g M) H → va_S (gA g) s.heap H locs → lv_has ls 9 [(0, .ref (gz g + 163)), (1, .int x1), (3, .int x3), (4, .long y4), (6, .int x6), (7, .int x7), (8, .int x8)] → W p l e (rM 3 74) s m args below meth c H locs 0 0 (MQ below (qI g out) args s 0 0 (gA g)) (F0 m 46 ls []) := by
  have hx := X.1
  have hb := X.2.1
  intro n
  induction n with
  | zero => intro _ _ _ _ _ _ _ _ hf; cases hf
  | succ n ih =>
    intro y4 x6 x7 x8 M H locs ls hf hP hS hl
    rw [f_X3_days_46] at hf
    refine lv_iload hx hb dX3_days_46 (lv_at hl 6 rfl) ?_
    refine lv_iload_n hx hb dX3_days_48 rfl (lv_at hl 1 rfl) ?_
    refine lv_icmp_ge (tgt := 101) hx hb dX3_days_49 (by decide) (fun h_1 => ?_) (fun h_1 => ?_)
    · replace hf := it_t hf h_1
      refine lv_iload_n hx hb dX3_days_101 rfl (lv_at hl 2 rfl) ?_
      refine lv_if_ne (tgt := 110) hx hb dX3_days_102 (by decide) (fun h_2 => ?_) (fun h_2 => ?_)
      · replace hf := it_f hf h_2
        refine lv_iload hx hb dX3_days_110 (lv_at hl 5 rfl) ?_
        exact g_iret X hP hS (sm_i hf) dX3_days_112
      · replace hf := it_t hf h_2
        refine lv_iload hx hb dX3_days_105 (lv_at hl 4 rfl) ?_
        refine lv_goto (tgt := 112) hx hb dX3_days_107 (by decide) ?_
        exact g_iret X hP hS (sm_i hf) dX3_days_112
    · replace hf := it_f hf h_1
      refine lv_lload hx hb dX3_days_52 (lv_at hl 3 rfl) ?_
      refine lv_ldc2 hx hb X.2.2.2.1 (X.2.2.2.2.1 _ q3_186) dX3_days_54 ?_
      refine lv_lmul hx hb dX3_days_57 ?_
      refine lv_ldc2 hx hb X.2.2.2.1 (X.2.2.2.2.1 _ q3_187) dX3_days_58 ?_
      refine lv_lrem hx hb dX3_days_61 (by decide) ?_
      refine lv_topl (fun y4_3 ey4_3 => ?_)
      replace hf := lt_go hf ey4_3
      refine lv_lstore (lv' := [(4, .long y4_3), (0, .ref (gz g + 163)), (1, .int x1), (3, .int x3), (6, .int x6), (7, .int x7), (8, .int x8)]) hx hb dX3_days_62 hl (by decide) rfl (fun ls hl => ?_)
      refine lv_aload_n hx hb dX3_days_64 rfl (lv_at hl 1 rfl) ?_
      refine lv_lload hx hb dX3_days_65 (lv_at hl 0 rfl) ?_
      refine lv_l2i hx hb dX3_days_67 rfl ?_
      obtain ⟨M_5, hc_4, hf⟩ := cv_s hf
      refine g_gov (g_run X (c_X3_draw l g  hc_4) s_X3_draw (oB_3 kc_163) q3_188 ⟨Nat.le_of_ble_eq_true rfl, Nat.le_of_ble_eq_true rfl⟩ hP hS rfl hl.1 rfl (Nat.le_of_ble_eq_true rfl) ⟨Nat.le_refl _, Nat.le_refl _⟩ dX3_days_68) hS (fun H locs hP hS => ?_)
      refine lv_iload hx hb dX3_days_71 (lv_at hl 4 rfl) ?_
      refine lv_aload_n hx hb dX3_days_73 rfl (lv_at hl 1 rfl) ?_
      refine gf_3_1 X hP kc_163 q1_148 dX3_days_74 ?_
      obtain ⟨r_8, M_7, hc_6, hf⟩ := cb_s hf
      refine g_goi (g_run X (c_X5_turn l g kc_164 hc_6) s_X5_turn (oB_5 kc_164) q3_22 ⟨Nat.le_of_ble_eq_true rfl, Nat.le_of_ble_eq_true rfl⟩ hP hS rfl hl.1 rfl (Nat.le_of_ble_eq_true rfl) ⟨Nat.le_refl _, Nat.le_refl _⟩ dX3_days_77) hS (fun H locs hP hS => ?_)
      refine lv_iadd hx hb dX3_days_80 ?_
      refine lv_topi (fun x6_9 ex6_9 => ?_)
      replace hf := lt_go hf ex6_9
      refine lv_istore (lv' := [(6, .int x6_9), (4, .long y4_3), (0, .ref (gz g + 163)), (1, .int x1), (3, .int x3), (7, .int x7), (8, .int x8)]) hx hb dX3_days_81 hl (by decide) rfl (fun ls hl => ?_)
      refine lv_iload hx hb dX3_days_83 (lv_at hl 5 rfl) ?_
      refine lv_aload_n hx hb dX3_days_85 rfl (lv_at hl 2 rfl) ?_
      refine gf_3_1 X hP kc_163 q1_148 dX3_days_86 ?_
      obtain ⟨r_12, M_11, hc_10, hf⟩ := cb_s hf
      refine g_goi (g_run X (c_X5_loud l g kc_164 hc_10) s_X5_loud (oB_5 kc_164) q3_12 ⟨Nat.le_of_ble_eq_true rfl, Nat.le_of_ble_eq_true rfl⟩ hP hS rfl hl.1 rfl (Nat.le_of_ble_eq_true rfl) ⟨Nat.le_refl _, Nat.le_refl _⟩ dX3_days_89) hS (fun H locs hP hS => ?_)
      refine lv_iadd hx hb dX3_days_92 ?_
      refine lv_topi (fun x7_13 ex7_13 => ?_)
      replace hf := lt_go hf ex7_13
      refine lv_istore (lv' := [(7, .int x7_13), (6, .int x6_9), (4, .long y4_3), (0, .ref (gz g + 163)), (1, .int x1), (3, .int x3), (8, .int x8)]) hx hb dX3_days_93 hl (by decide) rfl (fun ls hl => ?_)
      refine lv_iinc (v := (x8 + (1 : Int32))) (lv' := [(8, .int (x8 + (1 : Int32))), (7, .int x7_13), (6, .int x6_9), (4, .long y4_3), (0, .ref (gz g + 163)), (1, .int x1), (3, .int x3)]) hx hb dX3_days_95 hl (k := 6) rfl rfl (by decide) rfl (fun ls hl => ?_)
      refine lv_goto (tgt := 46) hx hb dX3_days_98 (by decide) ?_
      exact ih y4_3 x6_9 x7_13 (x8 + (1 : Int32)) M_11 _ _ _ hf hP hS (lv_sub hl [4, 5, 6, 3, 2, 1, 0] rfl)
def f_X3_days (x1 : Int32) (x2 : Int32) (x3 : Int32) (M : Mem) : Option (Int32 × Mem) :=
  if (M 3 0) = 0 then
    some ((0 : Int32), M)
  else
    if (M 3 1) = 0 then
      some ((0 : Int32), M)
    else
      cv (f_X5_takeFrom 164 3 M) fun M_4 =>
      lt ((x2).toInt64) fun y4_5 =>
      f_X3_days_46 x1 x3 FU y4_5 (0 : Int32) (0 : Int32) (0 : Int32) M_4
set_option maxRecDepth 20000 in
theorem c_X3_days (l : Launch) (g : GC) {x1 : Int32} {x2 : Int32} {x3 : Int32}  {M : Mem} {out : Int32 × Mem} (hf : f_X3_days x1 x2 x3 M = some out) : cI l g yX3_days cX3_days 9 (some .int) (rM 3 74) [.ref (gz g + 163), .int x1, .int x2, .int x3] M out := by
  refine g_met (by decide) (Nat.le_of_ble_eq_true rfl) ?_
  intro p e s m below meth c X hP hS ls hl
  have X : Bx p s m _ meth c RX3 cX3_days 9 (some .int) g := X
  have hl : lv_has ls 9 [(0, .ref (gz g + 163)), (1, .int x1), (2, .int x2), (3, .int x3)] := hl
  have hx := X.1
  have hb := X.2.1
  refine lv_aload_n hx hb dX3_days_0 rfl (lv_at hl 0 rfl) ?_
  refine gf_3_0 X hP kc_163 q1_147 dX3_days_1 ?_
  refine gf_5_0 X hP kc_3 q1_32 dX3_days_4 ?_
  refine lv_if_eq (tgt := 20) hx hb dX3_days_7 (by decide) (fun h_1 => ?_) (fun h_1 => ?_)
  · replace hf := it_t hf h_1
    refine lv_iconst (v := (0 : Int32)) hx hb dX3_days_20 (by decide) ?_
    exact g_iret X hP hS (sm_i hf) dX3_days_21
  · replace hf := it_f hf h_1
    refine lv_aload_n hx hb dX3_days_10 rfl (lv_at hl 0 rfl) ?_
    refine gf_3_0 X hP kc_163 q1_147 dX3_days_11 ?_
    refine gf_5_1 X hP kc_3 q1_36 dX3_days_14 ?_
    refine lv_if_ne (tgt := 22) hx hb dX3_days_17 (by decide) (fun h_2 => ?_) (fun h_2 => ?_)
    · replace hf := it_f hf h_2
      refine lv_aload_n hx hb dX3_days_22 rfl (lv_at hl 0 rfl) ?_
      refine gf_3_1 X hP kc_163 q1_148 dX3_days_23 ?_
      refine lv_aload_n hx hb dX3_days_26 rfl (lv_at hl 0 rfl) ?_
      refine gf_3_0 X hP kc_163 q1_147 dX3_days_27 ?_
      obtain ⟨M_4, hc_3, hf⟩ := cv_s hf
      refine g_gov (g_run X (c_X5_takeFrom l g kc_164 kc_3 hc_3) s_X5_takeFrom (oB_5 kc_164) q2_237 ⟨Nat.le_of_ble_eq_true rfl, Nat.le_of_ble_eq_true rfl⟩ hP hS rfl hl.1 rfl (Nat.le_of_ble_eq_true rfl) ⟨Nat.le_refl _, Nat.le_refl _⟩ dX3_days_30) hS (fun H locs hP hS => ?_)
      refine lv_iload_n hx hb dX3_days_33 rfl (lv_at hl 2 rfl) ?_
      refine lv_i2l hx hb dX3_days_34 rfl ?_
      refine lv_topl (fun y4_5 ey4_5 => ?_)
      replace hf := lt_go hf ey4_5
      refine lv_lstore (lv' := [(4, .long y4_5), (0, .ref (gz g + 163)), (1, .int x1), (2, .int x2), (3, .int x3)]) hx hb dX3_days_35 hl (by decide) rfl (fun ls hl => ?_)
      refine lv_iconst (v := (0 : Int32)) hx hb dX3_days_37 (by decide) ?_
      refine lv_istore (lv' := [(6, .int (0 : Int32)), (4, .long y4_5), (0, .ref (gz g + 163)), (1, .int x1), (2, .int x2), (3, .int x3)]) hx hb dX3_days_38 hl (by decide) rfl (fun ls hl => ?_)
      refine lv_iconst (v := (0 : Int32)) hx hb dX3_days_40 (by decide) ?_
      refine lv_istore (lv' := [(7, .int (0 : Int32)), (6, .int (0 : Int32)), (4, .long y4_5), (0, .ref (gz g + 163)), (1, .int x1), (2, .int x2), (3, .int x3)]) hx hb dX3_days_41 hl (by decide) rfl (fun ls hl => ?_)
      refine lv_iconst (v := (0 : Int32)) hx hb dX3_days_43 (by decide) ?_
      refine lv_istore (lv' := [(8, .int (0 : Int32)), (7, .int (0 : Int32)), (6, .int (0 : Int32)), (4, .long y4_5), (0, .ref (gz g + 163)), (1, .int x1), (2, .int x2), (3, .int x3)]) hx hb dX3_days_44 hl (by decide) rfl (fun ls hl => ?_)
      exact b_X3_days_46 X  FU y4_5 (0 : Int32) (0 : Int32) (0 : Int32) M_4 _ _ _ hf hP hS (lv_sub hl [4, 5, 7, 3, 2, 1, 0] rfl)
    · replace hf := it_t hf h_2
      refine lv_iconst (v := (0 : Int32)) hx hb dX3_days_20 (by decide) ?_
      exact g_iret X hP hS (sm_i hf) dX3_days_21
