variable {p : Program} {l : Launch} {e : Env} {s : State} {m : MethodId} {args : Array Value} {below : List Frame} {meth : Method} {c : Code} {g : GC}
def f_X6_within (x0 : Int32) (x1 : Int32) (x2 : Int32) (M : Mem) : Option (Int32 × Mem) :=
  if x0 < x1 then
    some ((0 : Int32), M)
  else
    if x2 < x0 then
      some ((0 : Int32), M)
    else
      some ((1 : Int32), M)
set_option maxRecDepth 20000 in
theorem c_X6_within (l : Launch) (g : GC) {x0 : Int32} {x1 : Int32} {x2 : Int32}  {M : Mem} {out : Int32 × Mem} (hf : f_X6_within x0 x1 x2 M = some out) : cI l g yX6_within cX6_within 3 (some .boolean) (rM 0 0) [.int x0, .int x1, .int x2] M out := by
  refine g_met (by decide) (Nat.le_of_ble_eq_true rfl) ?_
  intro p e s m below meth c X hP hS ls hl
  have X : Bx p s m _ meth c RX6 cX6_within 3 (some .boolean) g := X
  have hl : lv_has ls 3 [(0, .int x0), (1, .int x1), (2, .int x2)] := hl
  have hx := X.1
  have hb := X.2.1
  refine lv_iload_n hx hb dX6_within_0 rfl (lv_at hl 0 rfl) ?_
  refine lv_iload_n hx hb dX6_within_1 rfl (lv_at hl 1 rfl) ?_
  refine lv_icmp_lt (tgt := 14) hx hb dX6_within_2 (by decide) (fun h_1 => ?_) (fun h_1 => ?_)
  · replace hf := it_t hf h_1
    refine lv_iconst (v := (0 : Int32)) hx hb dX6_within_14 (by decide) ?_
    exact g_zret X hP hS rfl (sm_i hf) dX6_within_15
  · replace hf := it_f hf h_1
    refine lv_iload_n hx hb dX6_within_5 rfl (lv_at hl 0 rfl) ?_
    refine lv_iload_n hx hb dX6_within_6 rfl (lv_at hl 2 rfl) ?_
    refine lv_icmp_gt (tgt := 14) hx hb dX6_within_7 (by decide) (fun h_2 => ?_) (fun h_2 => ?_)
    · replace hf := it_t hf h_2
      refine lv_iconst (v := (0 : Int32)) hx hb dX6_within_14 (by decide) ?_
      exact g_zret X hP hS rfl (sm_i hf) dX6_within_15
    · replace hf := it_f hf h_2
      refine lv_iconst (v := (1 : Int32)) hx hb dX6_within_10 (by decide) ?_
      refine lv_goto (tgt := 15) hx hb dX6_within_11 (by decide) ?_
      exact g_zret X hP hS rfl (sm_i hf) dX6_within_15
def f_X6_isRow (x0 : Int32) (M : Mem) : Option (Int32 × Mem) :=
  cb (f_X6_within x0 (0 : Int32) (7 : Int32) M) fun r_3 M_2 =>
  cbz r_3 <| some (r_3, M_2)
set_option maxRecDepth 20000 in
theorem c_X6_isRow (l : Launch) (g : GC) {x0 : Int32}  {M : Mem} {out : Int32 × Mem} (hf : f_X6_isRow x0 M = some out) : cI l g yX6_isRow cX6_isRow 1 (some .boolean) (rM 1 22) [.int x0] M out := by
  refine g_met (by decide) (Nat.le_of_ble_eq_true rfl) ?_
  intro p e s m below meth c X hP hS ls hl
  have X : Bx p s m _ meth c RX6 cX6_isRow 1 (some .boolean) g := X
  have hl : lv_has ls 1 [(0, .int x0)] := hl
  have hx := X.1
  have hb := X.2.1
  refine lv_iload_n hx hb dX6_isRow_0 rfl (lv_at hl 0 rfl) ?_
  refine lv_iconst (v := (0 : Int32)) hx hb dX6_isRow_1 (by decide) ?_
  refine lv_bipush (v := (7 : Int32)) hx hb dX6_isRow_2 (by decide) ?_
  obtain ⟨r_3, M_2, hc_1, hf⟩ := cb_s hf
  refine g_goi (g_runS X (c_X6_within l g  hc_1) s_X6_within q1_236 ⟨Nat.le_of_ble_eq_true rfl, Nat.le_of_ble_eq_true rfl⟩ hP hS rfl hl.1 rfl (Nat.le_of_ble_eq_true rfl) ⟨Nat.le_refl _, Nat.le_refl _⟩ dX6_isRow_4) hS (fun H locs hP hS => ?_)
  obtain ⟨hbz, hf⟩ := cbz_s hf
  exact g_zret X hP hS hbz (sm_i hf) dX6_isRow_7
def f_X6_found (x1 : Int32) (M : Mem) : Option (Int32 × Mem) :=
  lt (up2 M 0 8 x1) fun M_1 =>
  some (((-1000010 : Int32) - x1), M_1)
set_option maxRecDepth 20000 in
theorem c_X6_found (l : Launch) (g : GC) {x1 : Int32}  {M : Mem} {out : Int32 × Mem} (hf : f_X6_found x1 M = some out) : cI l g yX6_found cX6_found 2 (some .int) (rM 0 0) [.ref (gz g + 0), .int x1] M out := by
  refine g_met (by decide) (Nat.le_of_ble_eq_true rfl) ?_
  intro p e s m below meth c X hP hS ls hl
  have X : Bx p s m _ meth c RX6 cX6_found 2 (some .int) g := X
  have hl : lv_has ls 2 [(0, .ref (gz g + 0)), (1, .int x1)] := hl
  have hx := X.1
  have hb := X.2.1
  refine lv_aload_n hx hb dX6_found_0 rfl (lv_at hl 0 rfl) ?_
  refine lv_iload_n hx hb dX6_found_1 rfl (lv_at hl 1 rfl) ?_
  refine gp_6_8 X hP hS kc_0 q1_206 dX6_found_2 (fun H locs M_1 eM_1 hP hS => ?_)
  replace hf := lt_go hf eM_1
  refine lv_ldcw hx hb X.2.2.2.1 (X.2.2.2.2.1 _ q2_4) dX6_found_5 ?_
  refine lv_iload_n hx hb dX6_found_8 rfl (lv_at hl 1 rfl) ?_
  refine lv_isub hx hb dX6_found_9 ?_
  exact g_iret X hP hS (sm_i hf) dX6_found_10
def f_X6_unfound (x1 : Int32) (M : Mem) : Option (Int32 × Mem) :=
  lt (up2 M 0 8 (0 : Int32)) fun M_1 =>
  some (x1, M_1)
set_option maxRecDepth 20000 in
theorem c_X6_unfound (l : Launch) (g : GC) {x1 : Int32}  {M : Mem} {out : Int32 × Mem} (hf : f_X6_unfound x1 M = some out) : cI l g yX6_unfound cX6_unfound 2 (some .int) (rM 0 0) [.ref (gz g + 0), .int x1] M out := by
  refine g_met (by decide) (Nat.le_of_ble_eq_true rfl) ?_
  intro p e s m below meth c X hP hS ls hl
  have X : Bx p s m _ meth c RX6 cX6_unfound 2 (some .int) g := X
  have hl : lv_has ls 2 [(0, .ref (gz g + 0)), (1, .int x1)] := hl
  have hx := X.1
  have hb := X.2.1
  refine lv_aload_n hx hb dX6_unfound_0 rfl (lv_at hl 0 rfl) ?_
  refine lv_iconst (v := (0 : Int32)) hx hb dX6_unfound_1 (by decide) ?_
  refine gp_6_8 X hP hS kc_0 q1_206 dX6_unfound_2 (fun H locs M_1 eM_1 hP hS => ?_)
  replace hf := lt_go hf eM_1
  refine lv_iload_n hx hb dX6_unfound_5 rfl (lv_at hl 1 rfl) ?_
  exact g_iret X hP hS (sm_i hf) dX6_unfound_6
def f_X6_row (x1 : Int32) (x2 : Int32) (x3 : Int32) (M : Mem) : Option (Int32 × Mem) :=
  cb (f_X6_isRow x1 M) fun r_3 M_2 =>
  if r_3 = 0 then
    some ((-1000001 : Int32), M_2)
  else
    cb (f_X6_within x2 (0 : Int32) (2 : Int32) M_2) fun r_7 M_6 =>
    if r_7 = 0 then
      some ((-1000001 : Int32), M_6)
    else
      if x3 ≤ (40 : Int32) then
        if 0 ≤ x3 then
          ck x1 8 <|
          cv (f_X2_startOver (251 + 2 * x1.toNatClampNeg) x2 x3 M_6) fun M_13 =>
          cb (f_X6_unfound x3 M_13) fun r_16 M_15 =>
          some (r_16, M_15)
        else
          cb (f_X6_found (4 : Int32) M_6) fun r_19 M_18 =>
          some (r_19, M_18)
      else
        some ((-1000001 : Int32), M_6)
set_option maxRecDepth 20000 in
theorem c_X6_row (l : Launch) (g : GC) {x1 : Int32} {x2 : Int32} {x3 : Int32}  {M : Mem} {out : Int32 × Mem} (hf : f_X6_row x1 x2 x3 M = some out) : cI l g yX6_row cX6_row 4 (some .int) (rM 2 45) [.ref (gz g + 0), .int x1, .int x2, .int x3] M out := by
  refine g_met (by decide) (Nat.le_of_ble_eq_true rfl) ?_
  intro p e s m below meth c X hP hS ls hl
  have X : Bx p s m _ meth c RX6 cX6_row 4 (some .int) g := X
  have hl : lv_has ls 4 [(0, .ref (gz g + 0)), (1, .int x1), (2, .int x2), (3, .int x3)] := hl
  have hx := X.1
  have hb := X.2.1
  refine lv_iload_n hx hb dX6_row_0 rfl (lv_at hl 1 rfl) ?_
  obtain ⟨r_3, M_2, hc_1, hf⟩ := cb_s hf
  refine g_goi (g_runS X (c_X6_isRow l g  hc_1) s_X6_isRow q1_233 ⟨Nat.le_of_ble_eq_true rfl, Nat.le_of_ble_eq_true rfl⟩ hP hS rfl hl.1 rfl (Nat.le_of_ble_eq_true rfl) ⟨Nat.le_refl _, Nat.le_refl _⟩ dX6_row_1) hS (fun H locs hP hS => ?_)
  refine lv_if_eq (tgt := 22) hx hb dX6_row_4 (by decide) (fun h_4 => ?_) (fun h_4 => ?_)
  · replace hf := it_t hf h_4
    refine lv_ldc hx hb X.2.2.2.1 (X.2.2.2.2.1 _ q1_239) dX6_row_22 ?_
    exact g_iret X hP hS (sm_i hf) dX6_row_24
  · replace hf := it_f hf h_4
    refine lv_iload_n hx hb dX6_row_7 rfl (lv_at hl 2 rfl) ?_
    refine lv_iconst (v := (0 : Int32)) hx hb dX6_row_8 (by decide) ?_
    refine lv_iconst (v := (2 : Int32)) hx hb dX6_row_9 (by decide) ?_
    obtain ⟨r_7, M_6, hc_5, hf⟩ := cb_s hf
    refine g_goi (g_runS X (c_X6_within l g  hc_5) s_X6_within q1_236 ⟨Nat.le_of_ble_eq_true rfl, Nat.le_of_ble_eq_true rfl⟩ hP hS rfl hl.1 rfl (Nat.le_of_ble_eq_true rfl) ⟨Nat.le_refl _, Nat.le_refl _⟩ dX6_row_10) hS (fun H locs hP hS => ?_)
    refine lv_if_eq (tgt := 22) hx hb dX6_row_13 (by decide) (fun h_8 => ?_) (fun h_8 => ?_)
    · replace hf := it_t hf h_8
      refine lv_ldc hx hb X.2.2.2.1 (X.2.2.2.2.1 _ q1_239) dX6_row_22 ?_
      exact g_iret X hP hS (sm_i hf) dX6_row_24
    · replace hf := it_f hf h_8
      refine lv_iload_n hx hb dX6_row_16 rfl (lv_at hl 3 rfl) ?_
      refine lv_bipush (v := (40 : Int32)) hx hb dX6_row_17 (by decide) ?_
      refine lv_icmp_le (tgt := 25) hx hb dX6_row_19 (by decide) (fun h_9 => ?_) (fun h_9 => ?_)
      · replace hf := it_t hf h_9
        refine lv_iload_n hx hb dX6_row_25 rfl (lv_at hl 3 rfl) ?_
        refine lv_if_ge (tgt := 35) hx hb dX6_row_26 (by decide) (fun h_10 => ?_) (fun h_10 => ?_)
        · replace hf := it_t hf h_10
          refine lv_aload_n hx hb dX6_row_35 rfl (lv_at hl 0 rfl) ?_
          refine gf_6_0 X hP kc_0 q1_198 dX6_row_36 ?_
          refine lv_iload_n hx hb dX6_row_39 rfl (lv_at hl 1 rfl) ?_
          obtain ⟨hi_11, hf⟩ := ck_s hf
          refine gr_rows X hP kc_1 hi_11 dX6_row_40 ?_
          refine lv_iload_n hx hb dX6_row_41 rfl (lv_at hl 2 rfl) ?_
          refine lv_iload_n hx hb dX6_row_42 rfl (lv_at hl 3 rfl) ?_
          obtain ⟨M_13, hc_12, hf⟩ := cv_s hf
          refine g_gov (g_run X (c_X2_startOver l g (kd_rows hi_11) hc_12) s_X2_startOver (oB_2 (kd_rows hi_11)) q2_5 ⟨Nat.le_of_ble_eq_true rfl, Nat.le_of_ble_eq_true rfl⟩ hP hS rfl hl.1 rfl (Nat.le_of_ble_eq_true rfl) ⟨Nat.le_refl _, Nat.le_refl _⟩ dX6_row_43) hS (fun H locs hP hS => ?_)
          refine lv_aload_n hx hb dX6_row_46 rfl (lv_at hl 0 rfl) ?_
          refine lv_iload_n hx hb dX6_row_47 rfl (lv_at hl 3 rfl) ?_
          obtain ⟨r_16, M_15, hc_14, hf⟩ := cb_s hf
          refine g_goi (g_run X (c_X6_unfound l g  hc_14) s_X6_unfound (oB_6 kc_0) q2_12 ⟨Nat.le_of_ble_eq_true rfl, Nat.le_of_ble_eq_true rfl⟩ hP hS rfl hl.1 rfl (Nat.le_of_ble_eq_true rfl) ⟨Nat.le_refl _, Nat.le_refl _⟩ dX6_row_48) hS (fun H locs hP hS => ?_)
          exact g_iret X hP hS (sm_i hf) dX6_row_51
        · replace hf := it_f hf h_10
          refine lv_aload_n hx hb dX6_row_29 rfl (lv_at hl 0 rfl) ?_
          refine lv_iconst (v := (4 : Int32)) hx hb dX6_row_30 (by decide) ?_
          obtain ⟨r_19, M_18, hc_17, hf⟩ := cb_s hf
          refine g_goi (g_run X (c_X6_found l g  hc_17) s_X6_found (oB_6 kc_0) q2_0 ⟨Nat.le_of_ble_eq_true rfl, Nat.le_of_ble_eq_true rfl⟩ hP hS rfl hl.1 rfl (Nat.le_of_ble_eq_true rfl) ⟨Nat.le_refl _, Nat.le_refl _⟩ dX6_row_31) hS (fun H locs hP hS => ?_)
          exact g_iret X hP hS (sm_i hf) dX6_row_34
      · replace hf := it_f hf h_9
        refine lv_ldc hx hb X.2.2.2.1 (X.2.2.2.2.1 _ q1_239) dX6_row_22 ?_
        exact g_iret X hP hS (sm_i hf) dX6_row_24
def f_X6_findingOf (o0 : Nat) (x1 : Int32) (x2 : Int32) (M : Mem) : Option (Int32 × Mem) :=
  if (M o0 1) = 0 then
    some ((1 : Int32), M)
  else
    cb (f_X2_holds o0 x1 x2 M) fun r_4 M_3 =>
    if r_4 = 0 then
      some ((2 : Int32), M_3)
    else
      some ((0 : Int32), M_3)
set_option maxRecDepth 20000 in
theorem c_X6_findingOf (l : Launch) (g : GC) {o0 : Nat} {x1 : Int32} {x2 : Int32} (h0 : kd o0 = 2) {M : Mem} {out : Int32 × Mem} (hf : f_X6_findingOf o0 x1 x2 M = some out) : cI l g yX6_findingOf cX6_findingOf 3 (some .int) (rM 1 22) [.ref (gz g + o0), .int x1, .int x2] M out := by
  refine g_met (by decide) (Nat.le_of_ble_eq_true rfl) ?_
  intro p e s m below meth c X hP hS ls hl
  have X : Bx p s m _ meth c RX6 cX6_findingOf 3 (some .int) g := X
  have hl : lv_has ls 3 [(0, .ref (gz g + o0)), (1, .int x1), (2, .int x2)] := hl
  have hx := X.1
  have hb := X.2.1
  refine lv_aload_n hx hb dX6_findingOf_0 rfl (lv_at hl 0 rfl) ?_
  refine gf_2_1 X hP h0 q1_184 dX6_findingOf_1 ?_
  refine lv_if_ne (tgt := 9) hx hb dX6_findingOf_4 (by decide) (fun h_1 => ?_) (fun h_1 => ?_)
  · replace hf := it_f hf h_1
    refine lv_aload_n hx hb dX6_findingOf_9 rfl (lv_at hl 0 rfl) ?_
    refine lv_iload_n hx hb dX6_findingOf_10 rfl (lv_at hl 1 rfl) ?_
    refine lv_iload_n hx hb dX6_findingOf_11 rfl (lv_at hl 2 rfl) ?_
    obtain ⟨r_4, M_3, hc_2, hf⟩ := cb_s hf
    refine g_goi (g_run X (c_X2_holds l g h0 hc_2) s_X2_holds (oB_2 h0) q2_23 ⟨Nat.le_of_ble_eq_true rfl, Nat.le_of_ble_eq_true rfl⟩ hP hS rfl hl.1 rfl (Nat.le_of_ble_eq_true rfl) ⟨Nat.le_refl _, Nat.le_refl _⟩ dX6_findingOf_12) hS (fun H locs hP hS => ?_)
    refine lv_if_eq (tgt := 22) hx hb dX6_findingOf_15 (by decide) (fun h_5 => ?_) (fun h_5 => ?_)
    · replace hf := it_t hf h_5
      refine lv_iconst (v := (2 : Int32)) hx hb dX6_findingOf_22 (by decide) ?_
      exact g_iret X hP hS (sm_i hf) dX6_findingOf_23
    · replace hf := it_f hf h_5
      refine lv_iconst (v := (0 : Int32)) hx hb dX6_findingOf_18 (by decide) ?_
      refine lv_goto (tgt := 23) hx hb dX6_findingOf_19 (by decide) ?_
      exact g_iret X hP hS (sm_i hf) dX6_findingOf_23
  · replace hf := it_t hf h_1
    refine lv_iconst (v := (1 : Int32)) hx hb dX6_findingOf_7 (by decide) ?_
    exact g_iret X hP hS (sm_i hf) dX6_findingOf_8
def f_X6_set (x1 : Int32) (x2 : Int32) (x3 : Int32) (M : Mem) : Option (Int32 × Mem) :=
  cb (f_X6_isRow x1 M) fun r_3 M_2 =>
  if r_3 = 0 then
    some ((-1000001 : Int32), M_2)
  else
    ck x1 8 <|
    cb (f_X6_findingOf (251 + 2 * x1.toNatClampNeg) x2 (1 : Int32) M_2) fun r_8 M_7 =>
    if r_8 = 0 then
      ck x1 8 <|
      cb (f_X2_put (251 + 2 * x1.toNatClampNeg) x2 x3 M_7) fun r_13 M_12 =>
      cb (f_X6_unfound r_13 M_12) fun r_16 M_15 =>
      some (r_16, M_15)
    else
      cb (f_X6_found r_8 M_7) fun r_19 M_18 =>
      some (r_19, M_18)
set_option maxRecDepth 20000 in
theorem c_X6_set (l : Launch) (g : GC) {x1 : Int32} {x2 : Int32} {x3 : Int32}  {M : Mem} {out : Int32 × Mem} (hf : f_X6_set x1 x2 x3 M = some out) : cI l g yX6_set cX6_set 5 (some .int) (rM 2 44) [.ref (gz g + 0), .int x1, .int x2, .int x3] M out := by
  refine g_met (by decide) (Nat.le_of_ble_eq_true rfl) ?_
  intro p e s m below meth c X hP hS ls hl
  have X : Bx p s m _ meth c RX6 cX6_set 5 (some .int) g := X
  have hl : lv_has ls 5 [(0, .ref (gz g + 0)), (1, .int x1), (2, .int x2), (3, .int x3)] := hl
  have hx := X.1
  have hb := X.2.1
  refine lv_iload_n hx hb dX6_set_0 rfl (lv_at hl 1 rfl) ?_
  obtain ⟨r_3, M_2, hc_1, hf⟩ := cb_s hf
  refine g_goi (g_runS X (c_X6_isRow l g  hc_1) s_X6_isRow q1_233 ⟨Nat.le_of_ble_eq_true rfl, Nat.le_of_ble_eq_true rfl⟩ hP hS rfl hl.1 rfl (Nat.le_of_ble_eq_true rfl) ⟨Nat.le_refl _, Nat.le_refl _⟩ dX6_set_1) hS (fun H locs hP hS => ?_)
  refine lv_if_ne (tgt := 10) hx hb dX6_set_4 (by decide) (fun h_4 => ?_) (fun h_4 => ?_)
  · replace hf := it_f hf h_4
    refine lv_aload_n hx hb dX6_set_10 rfl (lv_at hl 0 rfl) ?_
    refine gf_6_0 X hP kc_0 q1_198 dX6_set_11 ?_
    refine lv_iload_n hx hb dX6_set_14 rfl (lv_at hl 1 rfl) ?_
    obtain ⟨hi_5, hf⟩ := ck_s hf
    refine gr_rows X hP kc_1 hi_5 dX6_set_15 ?_
    refine lv_iload_n hx hb dX6_set_16 rfl (lv_at hl 2 rfl) ?_
    refine lv_iconst (v := (1 : Int32)) hx hb dX6_set_17 (by decide) ?_
    obtain ⟨r_8, M_7, hc_6, hf⟩ := cb_s hf
    refine g_goi (g_runS X (c_X6_findingOf l g (kd_rows hi_5) hc_6) s_X6_findingOf q2_20 ⟨Nat.le_of_ble_eq_true rfl, Nat.le_of_ble_eq_true rfl⟩ hP hS rfl hl.1 rfl (Nat.le_of_ble_eq_true rfl) ⟨Nat.le_refl _, Nat.le_refl _⟩ dX6_set_18) hS (fun H locs hP hS => ?_)
    refine lv_istore (lv' := [(4, .int r_8), (0, .ref (gz g + 0)), (1, .int x1), (2, .int x2), (3, .int x3)]) hx hb dX6_set_21 hl (by decide) rfl (fun ls hl => ?_)
    refine lv_iload hx hb dX6_set_23 (lv_at hl 0 rfl) ?_
    refine lv_if_eq (tgt := 35) hx hb dX6_set_25 (by decide) (fun h_9 => ?_) (fun h_9 => ?_)
    · replace hf := it_t hf h_9
      refine lv_aload_n hx hb dX6_set_35 rfl (lv_at hl 1 rfl) ?_
      refine lv_aload_n hx hb dX6_set_36 rfl (lv_at hl 1 rfl) ?_
      refine gf_6_0 X hP kc_0 q1_198 dX6_set_37 ?_
      refine lv_iload_n hx hb dX6_set_40 rfl (lv_at hl 2 rfl) ?_
      obtain ⟨hi_10, hf⟩ := ck_s hf
      refine gr_rows X hP kc_1 hi_10 dX6_set_41 ?_
      refine lv_iload_n hx hb dX6_set_42 rfl (lv_at hl 3 rfl) ?_
      refine lv_iload_n hx hb dX6_set_43 rfl (lv_at hl 4 rfl) ?_
      obtain ⟨r_13, M_12, hc_11, hf⟩ := cb_s hf
      refine g_goi (g_run X (c_X2_put l g (kd_rows hi_10) hc_11) s_X2_put (oB_2 (kd_rows hi_10)) q2_27 ⟨Nat.le_of_ble_eq_true rfl, Nat.le_of_ble_eq_true rfl⟩ hP hS rfl hl.1 rfl (Nat.le_of_ble_eq_true rfl) ⟨Nat.le_refl _, Nat.le_refl _⟩ dX6_set_44) hS (fun H locs hP hS => ?_)
      obtain ⟨r_16, M_15, hc_14, hf⟩ := cb_s hf
      refine g_goi (g_run X (c_X6_unfound l g  hc_14) s_X6_unfound (oB_6 kc_0) q2_12 ⟨Nat.le_of_ble_eq_true rfl, Nat.le_of_ble_eq_true rfl⟩ hP hS rfl hl.1 rfl (Nat.le_of_ble_eq_true rfl) ⟨Nat.le_refl _, Nat.le_refl _⟩ dX6_set_47) hS (fun H locs hP hS => ?_)
      exact g_iret X hP hS (sm_i hf) dX6_set_50
    · replace hf := it_f hf h_9
      refine lv_aload_n hx hb dX6_set_28 rfl (lv_at hl 1 rfl) ?_
      refine lv_iload hx hb dX6_set_29 (lv_at hl 0 rfl) ?_
      obtain ⟨r_19, M_18, hc_17, hf⟩ := cb_s hf
      refine g_goi (g_run X (c_X6_found l g  hc_17) s_X6_found (oB_6 kc_0) q2_0 ⟨Nat.le_of_ble_eq_true rfl, Nat.le_of_ble_eq_true rfl⟩ hP hS rfl hl.1 rfl (Nat.le_of_ble_eq_true rfl) ⟨Nat.le_refl _, Nat.le_refl _⟩ dX6_set_31) hS (fun H locs hP hS => ?_)
      exact g_iret X hP hS (sm_i hf) dX6_set_34
  · replace hf := it_t hf h_4
    refine lv_ldc hx hb X.2.2.2.1 (X.2.2.2.2.1 _ q1_239) dX6_set_7 ?_
    exact g_iret X hP hS (sm_i hf) dX6_set_9
def f_X6_copy_97    (M : Mem) : Option (Int32 × Mem) :=
  cb (f_X6_found (2 : Int32) M) fun r_3 M_2 =>
  some (r_3, M_2)
set_option maxRecDepth 20000 in
theorem b_X6_copy_97 {out : Int32 × Mem} (X : Bx p s m args meth c RX6 cX6_copy 8 (some .int) g)         (M : Mem) {H : Heap} {locs : List Loc} {ls : Array Slot} (hf : f_X6_copy_97 M = some out) (hP : va_P g.1 vwCl (gW g M) H) (hS : va_S (gA g) s.heap H locs) (hl : lv_has ls 8 [(0, .ref (gz g + 0))]) : W p l e (rM 2 42) s m args below meth c H locs 0 0 (MQ below (qI g out) args s 0 0 (gA g)) (F0 m 97 ls []) := by
  have hx := X.1
  have hb := X.2.1
  refine lv_aload_n hx hb dX6_copy_97 rfl (lv_at hl 0 rfl) ?_
  refine lv_iconst (v := (2 : Int32)) hx hb dX6_copy_98 (by decide) ?_
  obtain ⟨r_3, M_2, hc_1, hf⟩ := cb_s hf
  refine g_goi (g_run X (c_X6_found l g  hc_1) s_X6_found (oB_6 kc_0) q2_0 ⟨Nat.le_of_ble_eq_true rfl, Nat.le_of_ble_eq_true rfl⟩ hP hS rfl hl.1 rfl (Nat.le_of_ble_eq_true rfl) ⟨Nat.le_refl _, Nat.le_refl _⟩ dX6_copy_99) hS (fun H locs hP hS => ?_)
  exact g_iret X hP hS (sm_i hf) dX6_copy_102
def f_X6_copy_49    (M : Mem) : Option (Int32 × Mem) :=
  cb (f_X6_found (1 : Int32) M) fun r_3 M_2 =>
  some (r_3, M_2)
set_option maxRecDepth 20000 in
theorem b_X6_copy_49 {out : Int32 × Mem} (X : Bx p s m args meth c RX6 cX6_copy 8 (some .int) g)         (M : Mem) {H : Heap} {locs : List Loc} {ls : Array Slot} (hf : f_X6_copy_49 M = some out) (hP : va_P g.1 vwCl (gW g M) H) (hS : va_S (gA g) s.heap H locs) (hl : lv_has ls 8 [(0, .ref (gz g + 0))]) : W p l e (rM 2 42) s m args below meth c H locs 0 0 (MQ below (qI g out) args s 0 0 (gA g)) (F0 m 49 ls []) := by
  have hx := X.1
  have hb := X.2.1
  refine lv_aload_n hx hb dX6_copy_49 rfl (lv_at hl 0 rfl) ?_
  refine lv_iconst (v := (1 : Int32)) hx hb dX6_copy_50 (by decide) ?_
  obtain ⟨r_3, M_2, hc_1, hf⟩ := cb_s hf
  refine g_goi (g_run X (c_X6_found l g  hc_1) s_X6_found (oB_6 kc_0) q2_0 ⟨Nat.le_of_ble_eq_true rfl, Nat.le_of_ble_eq_true rfl⟩ hP hS rfl hl.1 rfl (Nat.le_of_ble_eq_true rfl) ⟨Nat.le_refl _, Nat.le_refl _⟩ dX6_copy_51) hS (fun H locs hP hS => ?_)
  exact g_iret X hP hS (sm_i hf) dX6_copy_54
def f_X6_copy (x1 : Int32) (x2 : Int32) (x3 : Int32) (x4 : Int32) (x5 : Int32) (M : Mem) : Option (Int32 × Mem) :=
  cb (f_X6_isRow x1 M) fun r_3 M_2 =>
  if r_3 = 0 then
    some ((-1000001 : Int32), M_2)
  else
    cb (f_X6_isRow x3 M_2) fun r_7 M_6 =>
    if r_7 = 0 then
      some ((-1000001 : Int32), M_6)
    else
      ck x1 8 <|
      ck x3 8 <|
      if (M_6 (251 + 2 * x1.toNatClampNeg) 1) = 0 then
        f_X6_copy_49 M_6
      else
        if (M_6 (251 + 2 * x3.toNatClampNeg) 1) = 0 then
          f_X6_copy_49 M_6
        else
          if (M_6 (251 + 2 * x1.toNatClampNeg) 2) = (M_6 (251 + 2 * x3.toNatClampNeg) 2) then
            cb (f_X2_holds (251 + 2 * x1.toNatClampNeg) x2 x5 M_6) fun r_16 M_15 =>
            if r_16 = 0 then
              f_X6_copy_97 M_15
            else
              cb (f_X2_holds (251 + 2 * x3.toNatClampNeg) x4 x5 M_15) fun r_20 M_19 =>
              if r_20 = 0 then
                f_X6_copy_97 M_19
              else
                ckc x2 x4 x5 40 40 <|
                lt (va_up M_19 ((251 + 2 * x3.toNatClampNeg) + 1) (va_cpy (M_19 ((251 + 2 * x1.toNatClampNeg) + 1)) (M_19 ((251 + 2 * x3.toNatClampNeg) + 1)) (x2).toNatClampNeg (x4).toNatClampNeg (x5).toNatClampNeg)) fun M_22 =>
                cb (f_X6_unfound x5 M_22) fun r_26 M_25 =>
                some (r_26, M_25)
          else
            cb (f_X6_found (5 : Int32) M_6) fun r_29 M_28 =>
            some (r_29, M_28)
set_option maxRecDepth 20000 in
theorem c_X6_copy (l : Launch) (g : GC) {x1 : Int32} {x2 : Int32} {x3 : Int32} {x4 : Int32} {x5 : Int32}  {M : Mem} {out : Int32 × Mem} (hf : f_X6_copy x1 x2 x3 x4 x5 M = some out) : cI l g yX6_copy cX6_copy 8 (some .int) (rM 2 42) [.ref (gz g + 0), .int x1, .int x2, .int x3, .int x4, .int x5] M out := by
  refine g_met (by decide) (Nat.le_of_ble_eq_true rfl) ?_
  intro p e s m below meth c X hP hS ls hl
  have X : Bx p s m _ meth c RX6 cX6_copy 8 (some .int) g := X
  have hl : lv_has ls 8 [(0, .ref (gz g + 0)), (1, .int x1), (2, .int x2), (3, .int x3), (4, .int x4), (5, .int x5)] := hl
  have hx := X.1
  have hb := X.2.1
  refine lv_iload_n hx hb dX6_copy_0 rfl (lv_at hl 1 rfl) ?_
  obtain ⟨r_3, M_2, hc_1, hf⟩ := cb_s hf
  refine g_goi (g_runS X (c_X6_isRow l g  hc_1) s_X6_isRow q1_233 ⟨Nat.le_of_ble_eq_true rfl, Nat.le_of_ble_eq_true rfl⟩ hP hS rfl hl.1 rfl (Nat.le_of_ble_eq_true rfl) ⟨Nat.le_refl _, Nat.le_refl _⟩ dX6_copy_1) hS (fun H locs hP hS => ?_)
  refine lv_if_eq (tgt := 14) hx hb dX6_copy_4 (by decide) (fun h_4 => ?_) (fun h_4 => ?_)
  · replace hf := it_t hf h_4
    refine lv_ldc hx hb X.2.2.2.1 (X.2.2.2.2.1 _ q1_239) dX6_copy_14 ?_
    exact g_iret X hP hS (sm_i hf) dX6_copy_16
  · replace hf := it_f hf h_4
    refine lv_iload_n hx hb dX6_copy_7 rfl (lv_at hl 3 rfl) ?_
    obtain ⟨r_7, M_6, hc_5, hf⟩ := cb_s hf
    refine g_goi (g_runS X (c_X6_isRow l g  hc_5) s_X6_isRow q1_233 ⟨Nat.le_of_ble_eq_true rfl, Nat.le_of_ble_eq_true rfl⟩ hP hS rfl hl.1 rfl (Nat.le_of_ble_eq_true rfl) ⟨Nat.le_refl _, Nat.le_refl _⟩ dX6_copy_8) hS (fun H locs hP hS => ?_)
    refine lv_if_ne (tgt := 17) hx hb dX6_copy_11 (by decide) (fun h_8 => ?_) (fun h_8 => ?_)
    · replace hf := it_f hf h_8
      refine lv_aload_n hx hb dX6_copy_17 rfl (lv_at hl 0 rfl) ?_
      refine gf_6_0 X hP kc_0 q1_198 dX6_copy_18 ?_
      refine lv_iload_n hx hb dX6_copy_21 rfl (lv_at hl 1 rfl) ?_
      obtain ⟨hi_9, hf⟩ := ck_s hf
      refine gr_rows X hP kc_1 hi_9 dX6_copy_22 ?_
      refine lv_astore (lv' := [(6, .ref (gz g + (251 + 2 * x1.toNatClampNeg))), (0, .ref (gz g + 0)), (1, .int x1), (2, .int x2), (3, .int x3), (4, .int x4), (5, .int x5)]) hx hb dX6_copy_23 hl (by decide) rfl (fun ls hl => ?_)
      refine lv_aload_n hx hb dX6_copy_25 rfl (lv_at hl 1 rfl) ?_
      refine gf_6_0 X hP kc_0 q1_198 dX6_copy_26 ?_
      refine lv_iload_n hx hb dX6_copy_29 rfl (lv_at hl 4 rfl) ?_
      obtain ⟨hi_10, hf⟩ := ck_s hf
      refine gr_rows X hP kc_1 hi_10 dX6_copy_30 ?_
      refine lv_astore (lv' := [(7, .ref (gz g + (251 + 2 * x3.toNatClampNeg))), (6, .ref (gz g + (251 + 2 * x1.toNatClampNeg))), (0, .ref (gz g + 0)), (1, .int x1), (2, .int x2), (3, .int x3), (4, .int x4), (5, .int x5)]) hx hb dX6_copy_31 hl (by decide) rfl (fun ls hl => ?_)
      refine lv_aload hx hb dX6_copy_33 (lv_at hl 1 rfl) ?_
      refine gf_2_1 X hP (kd_rows hi_9) q1_184 dX6_copy_35 ?_
      refine lv_if_eq (tgt := 49) hx hb dX6_copy_38 (by decide) (fun h_11 => ?_) (fun h_11 => ?_)
      · replace hf := it_t hf h_11
        exact b_X6_copy_49 X   M_6 hf hP hS (lv_sub hl [2] rfl)
      · replace hf := it_f hf h_11
        refine lv_aload hx hb dX6_copy_41 (lv_at hl 0 rfl) ?_
        refine gf_2_1 X hP (kd_rows hi_10) q1_184 dX6_copy_43 ?_
        refine lv_if_ne (tgt := 55) hx hb dX6_copy_46 (by decide) (fun h_12 => ?_) (fun h_12 => ?_)
        · replace hf := it_f hf h_12
          refine lv_aload hx hb dX6_copy_55 (lv_at hl 1 rfl) ?_
          refine gf_2_2 X hP (kd_rows hi_9) q1_186 dX6_copy_57 ?_
          refine lv_aload hx hb dX6_copy_60 (lv_at hl 0 rfl) ?_
          refine gf_2_2 X hP (kd_rows hi_10) q1_186 dX6_copy_62 ?_
          refine lv_icmp_eq (tgt := 74) hx hb dX6_copy_65 (by decide) (fun h_13 => ?_) (fun h_13 => ?_)
          · replace hf := it_t hf h_13
            refine lv_aload hx hb dX6_copy_74 (lv_at hl 1 rfl) ?_
            refine lv_iload_n hx hb dX6_copy_76 rfl (lv_at hl 4 rfl) ?_
            refine lv_iload hx hb dX6_copy_77 (lv_at hl 7 rfl) ?_
            obtain ⟨r_16, M_15, hc_14, hf⟩ := cb_s hf
            refine g_goi (g_run X (c_X2_holds l g (kd_rows hi_9) hc_14) s_X2_holds (oB_2 (kd_rows hi_9)) q2_23 ⟨Nat.le_of_ble_eq_true rfl, Nat.le_of_ble_eq_true rfl⟩ hP hS rfl hl.1 rfl (Nat.le_of_ble_eq_true rfl) ⟨Nat.le_refl _, Nat.le_refl _⟩ dX6_copy_79) hS (fun H locs hP hS => ?_)
            refine lv_if_eq (tgt := 97) hx hb dX6_copy_82 (by decide) (fun h_17 => ?_) (fun h_17 => ?_)
            · replace hf := it_t hf h_17
              exact b_X6_copy_97 X   M_15 hf hP hS (lv_sub hl [2] rfl)
            · replace hf := it_f hf h_17
              refine lv_aload hx hb dX6_copy_85 (lv_at hl 0 rfl) ?_
              refine lv_iload hx hb dX6_copy_87 (lv_at hl 6 rfl) ?_
              refine lv_iload hx hb dX6_copy_89 (lv_at hl 7 rfl) ?_
              obtain ⟨r_20, M_19, hc_18, hf⟩ := cb_s hf
              refine g_goi (g_run X (c_X2_holds l g (kd_rows hi_10) hc_18) s_X2_holds (oB_2 (kd_rows hi_10)) q2_23 ⟨Nat.le_of_ble_eq_true rfl, Nat.le_of_ble_eq_true rfl⟩ hP hS rfl hl.1 rfl (Nat.le_of_ble_eq_true rfl) ⟨Nat.le_refl _, Nat.le_refl _⟩ dX6_copy_91) hS (fun H locs hP hS => ?_)
              refine lv_if_ne (tgt := 103) hx hb dX6_copy_94 (by decide) (fun h_21 => ?_) (fun h_21 => ?_)
              · replace hf := it_f hf h_21
                refine lv_aload hx hb dX6_copy_103 (lv_at hl 1 rfl) ?_
                refine gf_2_0 X hP (kd_rows hi_9) q1_181 dX6_copy_105 ?_
                refine lv_iload_n hx hb dX6_copy_108 rfl (lv_at hl 4 rfl) ?_
                refine lv_aload hx hb dX6_copy_109 (lv_at hl 0 rfl) ?_
                refine gf_2_0 X hP (kd_rows hi_10) q1_181 dX6_copy_111 ?_
                refine lv_iload hx hb dX6_copy_114 (lv_at hl 6 rfl) ?_
                refine lv_iload hx hb dX6_copy_116 (lv_at hl 7 rfl) ?_
                obtain ⟨hc_23, hf⟩ := ckc_s hf
                refine g_copy X hP hS (iA_10 (kdR1 (kd_rows hi_9))) (iA_10 (kdR1 (kd_rows hi_10))) hc_23 hl.1 q2_39 ⟨Nat.le_of_ble_eq_true rfl, Nat.le_of_ble_eq_true rfl⟩ (Nat.le_of_ble_eq_true rfl) dX6_copy_118 (fun H locs M_22 eM_22 hP hS => ?_)
                replace hf := lt_go hf eM_22
                refine lv_aload_n hx hb dX6_copy_121 rfl (lv_at hl 2 rfl) ?_
                refine lv_iload hx hb dX6_copy_122 (lv_at hl 7 rfl) ?_
                obtain ⟨r_26, M_25, hc_24, hf⟩ := cb_s hf
                refine g_goi (g_run X (c_X6_unfound l g  hc_24) s_X6_unfound (oB_6 kc_0) q2_12 ⟨Nat.le_of_ble_eq_true rfl, Nat.le_of_ble_eq_true rfl⟩ hP hS rfl hl.1 rfl (Nat.le_of_ble_eq_true rfl) ⟨Nat.le_refl _, Nat.le_refl _⟩ dX6_copy_124) hS (fun H locs hP hS => ?_)
                exact g_iret X hP hS (sm_i hf) dX6_copy_127
              · replace hf := it_t hf h_21
                exact b_X6_copy_97 X   M_19 hf hP hS (lv_sub hl [2] rfl)
          · replace hf := it_f hf h_13
            refine lv_aload_n hx hb dX6_copy_68 rfl (lv_at hl 2 rfl) ?_
            refine lv_iconst (v := (5 : Int32)) hx hb dX6_copy_69 (by decide) ?_
            obtain ⟨r_29, M_28, hc_27, hf⟩ := cb_s hf
            refine g_goi (g_run X (c_X6_found l g  hc_27) s_X6_found (oB_6 kc_0) q2_0 ⟨Nat.le_of_ble_eq_true rfl, Nat.le_of_ble_eq_true rfl⟩ hP hS rfl hl.1 rfl (Nat.le_of_ble_eq_true rfl) ⟨Nat.le_refl _, Nat.le_refl _⟩ dX6_copy_70) hS (fun H locs hP hS => ?_)
            exact g_iret X hP hS (sm_i hf) dX6_copy_73
        · replace hf := it_t hf h_12
          exact b_X6_copy_49 X   M_6 hf hP hS (lv_sub hl [2] rfl)
    · replace hf := it_t hf h_8
      refine lv_ldc hx hb X.2.2.2.1 (X.2.2.2.2.1 _ q1_239) dX6_copy_14 ?_
      exact g_iret X hP hS (sm_i hf) dX6_copy_16
def f_X6_drop (x1 : Int32) (M : Mem) : Option (Int32 × Mem) :=
  cb (f_X6_isRow x1 M) fun r_3 M_2 =>
  if r_3 = 0 then
    some ((-1000001 : Int32), M_2)
  else
    ck x1 8 <|
    if (M_2 (251 + 2 * x1.toNatClampNeg) 1) = 0 then
      cb (f_X6_found (1 : Int32) M_2) fun r_15 M_14 =>
      some (r_15, M_14)
    else
      ck x1 8 <|
      lt (up2 M_2 (251 + 2 * x1.toNatClampNeg) 1 (0 : Int32)) fun M_8 =>
      ck x1 8 <|
      cb (f_X6_unfound (M_8 (251 + 2 * x1.toNatClampNeg) 3) M_8) fun r_12 M_11 =>
      some (r_12, M_11)
set_option maxRecDepth 20000 in
theorem c_X6_drop (l : Launch) (g : GC) {x1 : Int32}  {M : Mem} {out : Int32 × Mem} (hf : f_X6_drop x1 M = some out) : cI l g yX6_drop cX6_drop 2 (some .int) (rM 2 42) [.ref (gz g + 0), .int x1] M out := by
  refine g_met (by decide) (Nat.le_of_ble_eq_true rfl) ?_
  intro p e s m below meth c X hP hS ls hl
  have X : Bx p s m _ meth c RX6 cX6_drop 2 (some .int) g := X
  have hl : lv_has ls 2 [(0, .ref (gz g + 0)), (1, .int x1)] := hl
  have hx := X.1
  have hb := X.2.1
  refine lv_iload_n hx hb dX6_drop_0 rfl (lv_at hl 1 rfl) ?_
  obtain ⟨r_3, M_2, hc_1, hf⟩ := cb_s hf
  refine g_goi (g_runS X (c_X6_isRow l g  hc_1) s_X6_isRow q1_233 ⟨Nat.le_of_ble_eq_true rfl, Nat.le_of_ble_eq_true rfl⟩ hP hS rfl hl.1 rfl (Nat.le_of_ble_eq_true rfl) ⟨Nat.le_refl _, Nat.le_refl _⟩ dX6_drop_1) hS (fun H locs hP hS => ?_)
  refine lv_if_ne (tgt := 10) hx hb dX6_drop_4 (by decide) (fun h_4 => ?_) (fun h_4 => ?_)
  · replace hf := it_f hf h_4
    refine lv_aload_n hx hb dX6_drop_10 rfl (lv_at hl 0 rfl) ?_
    refine gf_6_0 X hP kc_0 q1_198 dX6_drop_11 ?_
    refine lv_iload_n hx hb dX6_drop_14 rfl (lv_at hl 1 rfl) ?_
    obtain ⟨hi_5, hf⟩ := ck_s hf
    refine gr_rows X hP kc_1 hi_5 dX6_drop_15 ?_
    refine gf_2_1 X hP (kd_rows hi_5) q1_184 dX6_drop_16 ?_
    refine lv_if_ne (tgt := 28) hx hb dX6_drop_19 (by decide) (fun h_6 => ?_) (fun h_6 => ?_)
    · replace hf := it_f hf h_6
      refine lv_aload_n hx hb dX6_drop_28 rfl (lv_at hl 0 rfl) ?_
      refine gf_6_0 X hP kc_0 q1_198 dX6_drop_29 ?_
      refine lv_iload_n hx hb dX6_drop_32 rfl (lv_at hl 1 rfl) ?_
      obtain ⟨hi_7, hf⟩ := ck_s hf
      refine gr_rows X hP kc_1 hi_7 dX6_drop_33 ?_
      refine lv_iconst (v := (0 : Int32)) hx hb dX6_drop_34 (by decide) ?_
      refine gp_2_1 X hP hS (kd_rows hi_7) rfl rfl q1_184 dX6_drop_35 (fun H locs M_8 eM_8 hP hS => ?_)
      replace hf := lt_go hf eM_8
      refine lv_aload_n hx hb dX6_drop_38 rfl (lv_at hl 0 rfl) ?_
      refine lv_aload_n hx hb dX6_drop_39 rfl (lv_at hl 0 rfl) ?_
      refine gf_6_0 X hP kc_0 q1_198 dX6_drop_40 ?_
      refine lv_iload_n hx hb dX6_drop_43 rfl (lv_at hl 1 rfl) ?_
      obtain ⟨hi_9, hf⟩ := ck_s hf
      refine gr_rows X hP kc_1 hi_9 dX6_drop_44 ?_
      refine gf_2_3 X hP (kd_rows hi_9) q1_188 dX6_drop_45 ?_
      obtain ⟨r_12, M_11, hc_10, hf⟩ := cb_s hf
      refine g_goi (g_run X (c_X6_unfound l g  hc_10) s_X6_unfound (oB_6 kc_0) q2_12 ⟨Nat.le_of_ble_eq_true rfl, Nat.le_of_ble_eq_true rfl⟩ hP hS rfl hl.1 rfl (Nat.le_of_ble_eq_true rfl) ⟨Nat.le_refl _, Nat.le_refl _⟩ dX6_drop_48) hS (fun H locs hP hS => ?_)
      exact g_iret X hP hS (sm_i hf) dX6_drop_51
    · replace hf := it_t hf h_6
      refine lv_aload_n hx hb dX6_drop_22 rfl (lv_at hl 0 rfl) ?_
      refine lv_iconst (v := (1 : Int32)) hx hb dX6_drop_23 (by decide) ?_
      obtain ⟨r_15, M_14, hc_13, hf⟩ := cb_s hf
      refine g_goi (g_run X (c_X6_found l g  hc_13) s_X6_found (oB_6 kc_0) q2_0 ⟨Nat.le_of_ble_eq_true rfl, Nat.le_of_ble_eq_true rfl⟩ hP hS rfl hl.1 rfl (Nat.le_of_ble_eq_true rfl) ⟨Nat.le_refl _, Nat.le_refl _⟩ dX6_drop_24) hS (fun H locs hP hS => ?_)
      exact g_iret X hP hS (sm_i hf) dX6_drop_27
  · replace hf := it_t hf h_4
    refine lv_ldc hx hb X.2.2.2.1 (X.2.2.2.2.1 _ q1_239) dX6_drop_7 ?_
    exact g_iret X hP hS (sm_i hf) dX6_drop_9
def f_X6_feed (x1 : Int32) (M : Mem) : Option (Int32 × Mem) :=
  cb (f_X6_within x1 (0 : Int32) (255 : Int32) M) fun r_3 M_2 =>
  if r_3 = 0 then
    some ((-1000001 : Int32), M_2)
  else
    if (M_2 15 1) < (100 : Int32) then
      cb (f_X4_add x1 M_2) fun r_8 M_7 =>
      some (r_8, M_7)
    else
      some ((-1000003 : Int32), M_2)
set_option maxRecDepth 20000 in
theorem c_X6_feed (l : Launch) (g : GC) {x1 : Int32}  {M : Mem} {out : Int32 × Mem} (hf : f_X6_feed x1 M = some out) : cI l g yX6_feed cX6_feed 2 (some .int) (rM 1 22) [.ref (gz g + 0), .int x1] M out := by
  refine g_met (by decide) (Nat.le_of_ble_eq_true rfl) ?_
  intro p e s m below meth c X hP hS ls hl
  have X : Bx p s m _ meth c RX6 cX6_feed 2 (some .int) g := X
  have hl : lv_has ls 2 [(0, .ref (gz g + 0)), (1, .int x1)] := hl
  have hx := X.1
  have hb := X.2.1
  refine lv_iload_n hx hb dX6_feed_0 rfl (lv_at hl 1 rfl) ?_
  refine lv_iconst (v := (0 : Int32)) hx hb dX6_feed_1 (by decide) ?_
  refine lv_sipush (v := (255 : Int32)) hx hb dX6_feed_2 (by decide) ?_
  obtain ⟨r_3, M_2, hc_1, hf⟩ := cb_s hf
  refine g_goi (g_runS X (c_X6_within l g  hc_1) s_X6_within q1_236 ⟨Nat.le_of_ble_eq_true rfl, Nat.le_of_ble_eq_true rfl⟩ hP hS rfl hl.1 rfl (Nat.le_of_ble_eq_true rfl) ⟨Nat.le_refl _, Nat.le_refl _⟩ dX6_feed_5) hS (fun H locs hP hS => ?_)
  refine lv_if_ne (tgt := 14) hx hb dX6_feed_8 (by decide) (fun h_4 => ?_) (fun h_4 => ?_)
  · replace hf := it_f hf h_4
    refine lv_aload_n hx hb dX6_feed_14 rfl (lv_at hl 0 rfl) ?_
    refine gf_6_4 X hP kc_0 q1_202 dX6_feed_15 ?_
    refine gf_4_1 X hP kc_15 q1_103 dX6_feed_18 ?_
    refine lv_bipush (v := (100 : Int32)) hx hb dX6_feed_21 (by decide) ?_
    refine lv_icmp_lt (tgt := 29) hx hb dX6_feed_23 (by decide) (fun h_5 => ?_) (fun h_5 => ?_)
    · replace hf := it_t hf h_5
      refine lv_aload_n hx hb dX6_feed_29 rfl (lv_at hl 0 rfl) ?_
      refine gf_6_4 X hP kc_0 q1_202 dX6_feed_30 ?_
      refine lv_iload_n hx hb dX6_feed_33 rfl (lv_at hl 1 rfl) ?_
      obtain ⟨r_8, M_7, hc_6, hf⟩ := cb_s hf
      refine g_goi (g_run X (c_X4_add l g  hc_6) s_X4_add (oB_4 kc_15) q2_51 ⟨Nat.le_of_ble_eq_true rfl, Nat.le_of_ble_eq_true rfl⟩ hP hS rfl hl.1 rfl (Nat.le_of_ble_eq_true rfl) ⟨Nat.le_refl _, Nat.le_refl _⟩ dX6_feed_34) hS (fun H locs hP hS => ?_)
      exact g_iret X hP hS (sm_i hf) dX6_feed_37
    · replace hf := it_f hf h_5
      refine lv_ldc hx hb X.2.2.2.1 (X.2.2.2.2.1 _ q2_50) dX6_feed_26 ?_
      exact g_iret X hP hS (sm_i hf) dX6_feed_28
  · replace hf := it_t hf h_4
    refine lv_ldc hx hb X.2.2.2.1 (X.2.2.2.2.1 _ q1_239) dX6_feed_11 ?_
    exact g_iret X hP hS (sm_i hf) dX6_feed_13
def f_X6_box  (M : Mem) : Option (Int32 × Mem) :=
  cb (f_X4_readInto 9 M) fun r_3 M_2 =>
  lt (up2 M_2 15 1 (0 : Int32)) fun M_4 =>
  if r_3 = 0 then
    lt (up2 M_4 0 9 (M_4 15 3)) fun M_10 =>
    some (((-1000100 : Int32) - (M_10 15 2)), M_10)
  else
    cv (f_X5_takeFrom 3 9 M_4) fun M_7 =>
    cv (f_X1_forget M_7) fun M_9 =>
    some ((M_9 3 1), M_9)
set_option maxRecDepth 20000 in
theorem c_X6_box (l : Launch) (g : GC)   {M : Mem} {out : Int32 × Mem} (hf : f_X6_box  M = some out) : cI l g yX6_box cX6_box 2 (some .int) (rM 4 90) [.ref (gz g + 0)] M out := by
  refine g_met (by decide) (Nat.le_of_ble_eq_true rfl) ?_
  intro p e s m below meth c X hP hS ls hl
  have X : Bx p s m _ meth c RX6 cX6_box 2 (some .int) g := X
  have hl : lv_has ls 2 [(0, .ref (gz g + 0))] := hl
  have hx := X.1
  have hb := X.2.1
  refine lv_aload_n hx hb dX6_box_0 rfl (lv_at hl 0 rfl) ?_
  refine gf_6_4 X hP kc_0 q1_202 dX6_box_1 ?_
  refine lv_aload_n hx hb dX6_box_4 rfl (lv_at hl 0 rfl) ?_
  refine gf_6_3 X hP kc_0 q1_201 dX6_box_5 ?_
  obtain ⟨r_3, M_2, hc_1, hf⟩ := cb_s hf
  refine g_goi (g_run X (c_X4_readInto l g kc_9 hc_1) s_X4_readInto (oB_4 kc_15) q2_59 ⟨Nat.le_of_ble_eq_true rfl, Nat.le_of_ble_eq_true rfl⟩ hP hS rfl hl.1 rfl (Nat.le_of_ble_eq_true rfl) ⟨Nat.le_refl _, Nat.le_refl _⟩ dX6_box_8) hS (fun H locs hP hS => ?_)
  refine lv_istore_n (lv' := [(1, .int r_3), (0, .ref (gz g + 0))]) hx hb dX6_box_11 rfl hl (by decide) rfl (fun ls hl => ?_)
  refine lv_aload_n hx hb dX6_box_12 rfl (lv_at hl 1 rfl) ?_
  refine gf_6_4 X hP kc_0 q1_202 dX6_box_13 ?_
  refine lv_iconst (v := (0 : Int32)) hx hb dX6_box_16 (by decide) ?_
  refine gp_4_1 X hP hS kc_15 q1_103 dX6_box_17 (fun H locs M_4 eM_4 hP hS => ?_)
  replace hf := lt_go hf eM_4
  refine lv_iload_n hx hb dX6_box_20 rfl (lv_at hl 0 rfl) ?_
  refine lv_if_ne (tgt := 46) hx hb dX6_box_21 (by decide) (fun h_5 => ?_) (fun h_5 => ?_)
  · replace hf := it_f hf h_5
    refine lv_aload_n hx hb dX6_box_46 rfl (lv_at hl 1 rfl) ?_
    refine gf_6_2 X hP kc_0 q1_200 dX6_box_47 ?_
    refine lv_aload_n hx hb dX6_box_50 rfl (lv_at hl 1 rfl) ?_
    refine gf_6_3 X hP kc_0 q1_201 dX6_box_51 ?_
    obtain ⟨M_7, hc_6, hf⟩ := cv_s hf
    refine g_gov (g_run X (c_X5_takeFrom l g kc_3 kc_9 hc_6) s_X5_takeFrom (oB_5 kc_3) q2_100 ⟨Nat.le_of_ble_eq_true rfl, Nat.le_of_ble_eq_true rfl⟩ hP hS rfl hl.1 rfl (Nat.le_of_ble_eq_true rfl) ⟨Nat.le_refl _, Nat.le_refl _⟩ dX6_box_54) hS (fun H locs hP hS => ?_)
    refine lv_aload_n hx hb dX6_box_57 rfl (lv_at hl 1 rfl) ?_
    refine gf_6_5 X hP kc_0 q1_203 dX6_box_58 ?_
    obtain ⟨M_9, hc_8, hf⟩ := cv_s hf
    refine g_gov (g_run X (c_X1_forget l g  hc_8) s_X1_forget (oB_1 kc_17) q2_105 ⟨Nat.le_of_ble_eq_true rfl, Nat.le_of_ble_eq_true rfl⟩ hP hS rfl hl.1 rfl (Nat.le_of_ble_eq_true rfl) ⟨Nat.le_refl _, Nat.le_refl _⟩ dX6_box_61) hS (fun H locs hP hS => ?_)
    refine lv_aload_n hx hb dX6_box_64 rfl (lv_at hl 1 rfl) ?_
    refine gf_6_2 X hP kc_0 q1_200 dX6_box_65 ?_
    refine gf_5_1 X hP kc_3 q1_37 dX6_box_68 ?_
    exact g_iret X hP hS (sm_i hf) dX6_box_71
  · replace hf := it_t hf h_5
    refine lv_aload_n hx hb dX6_box_24 rfl (lv_at hl 1 rfl) ?_
    refine lv_aload_n hx hb dX6_box_25 rfl (lv_at hl 1 rfl) ?_
    refine gf_6_4 X hP kc_0 q1_202 dX6_box_26 ?_
    refine gf_4_3 X hP kc_15 q1_107 dX6_box_29 ?_
    refine gp_6_9 X hP hS kc_0 q1_207 dX6_box_32 (fun H locs M_10 eM_10 hP hS => ?_)
    replace hf := lt_go hf eM_10
    refine lv_ldc hx hb X.2.2.2.1 (X.2.2.2.2.1 _ q2_99) dX6_box_35 ?_
    refine lv_aload_n hx hb dX6_box_37 rfl (lv_at hl 1 rfl) ?_
    refine gf_6_4 X hP kc_0 q1_202 dX6_box_38 ?_
    refine gf_4_2 X hP kc_15 q1_105 dX6_box_41 ?_
    refine lv_isub hx hb dX6_box_44 ?_
    exact g_iret X hP hS (sm_i hf) dX6_box_45
def f_X6_fault  (M : Mem) : Option (Int32 × Mem) :=
  some ((M 0 9), M)
set_option maxRecDepth 20000 in
theorem c_X6_fault (l : Launch) (g : GC)   {M : Mem} {out : Int32 × Mem} (hf : f_X6_fault  M = some out) : cI l g yX6_fault cX6_fault 1 (some .int) (rM 0 0) [.ref (gz g + 0)] M out := by
  refine g_met (by decide) (Nat.le_of_ble_eq_true rfl) ?_
  intro p e s m below meth c X hP hS ls hl
  have X : Bx p s m _ meth c RX6 cX6_fault 1 (some .int) g := X
  have hl : lv_has ls 1 [(0, .ref (gz g + 0))] := hl
  have hx := X.1
  have hb := X.2.1
  refine lv_aload_n hx hb dX6_fault_0 rfl (lv_at hl 0 rfl) ?_
  refine gf_6_9 X hP kc_0 q1_207 dX6_fault_1 ?_
  exact g_iret X hP hS (sm_i hf) dX6_fault_4
def f_X6_undo  (M : Mem) : Option (Int32 × Mem) :=
  if (M 17 2) = 0 then
    some ((-1000002 : Int32), M)
  else
    cv (f_X1_bringBack 3 M) fun M_3 =>
    some ((M_3 17 2), M_3)
set_option maxRecDepth 20000 in
theorem c_X6_undo (l : Launch) (g : GC)   {M : Mem} {out : Int32 × Mem} (hf : f_X6_undo  M = some out) : cI l g yX6_undo cX6_undo 1 (some .int) (rM 3 82) [.ref (gz g + 0)] M out := by
  refine g_met (by decide) (Nat.le_of_ble_eq_true rfl) ?_
  intro p e s m below meth c X hP hS ls hl
  have X : Bx p s m _ meth c RX6 cX6_undo 1 (some .int) g := X
  have hl : lv_has ls 1 [(0, .ref (gz g + 0))] := hl
  have hx := X.1
  have hb := X.2.1
  refine lv_aload_n hx hb dX6_undo_0 rfl (lv_at hl 0 rfl) ?_
  refine gf_6_5 X hP kc_0 q1_203 dX6_undo_1 ?_
  refine gf_1_2 X hP kc_17 q1_131 dX6_undo_4 ?_
  refine lv_if_ne (tgt := 13) hx hb dX6_undo_7 (by decide) (fun h_1 => ?_) (fun h_1 => ?_)
  · replace hf := it_f hf h_1
    refine lv_aload_n hx hb dX6_undo_13 rfl (lv_at hl 0 rfl) ?_
    refine gf_6_5 X hP kc_0 q1_203 dX6_undo_14 ?_
    refine lv_aload_n hx hb dX6_undo_17 rfl (lv_at hl 0 rfl) ?_
    refine gf_6_2 X hP kc_0 q1_200 dX6_undo_18 ?_
    obtain ⟨M_3, hc_2, hf⟩ := cv_s hf
    refine g_gov (g_run X (c_X1_bringBack l g kc_3 hc_2) s_X1_bringBack (oB_1 kc_17) q2_118 ⟨Nat.le_of_ble_eq_true rfl, Nat.le_of_ble_eq_true rfl⟩ hP hS rfl hl.1 rfl (Nat.le_of_ble_eq_true rfl) ⟨Nat.le_refl _, Nat.le_refl _⟩ dX6_undo_21) hS (fun H locs hP hS => ?_)
    refine lv_aload_n hx hb dX6_undo_24 rfl (lv_at hl 0 rfl) ?_
    refine gf_6_5 X hP kc_0 q1_203 dX6_undo_25 ?_
    refine gf_1_2 X hP kc_17 q1_131 dX6_undo_28 ?_
    exact g_iret X hP hS (sm_i hf) dX6_undo_31
  · replace hf := it_t hf h_1
    refine lv_ldc hx hb X.2.2.2.1 (X.2.2.2.2.1 _ q2_117) dX6_undo_10 ?_
    exact g_iret X hP hS (sm_i hf) dX6_undo_12
def f_X6_hasBox  (M : Mem) : Option (Int32 × Mem) :=
  if (M 3 1) ≤ 0 then
    some ((0 : Int32), M)
  else
    some ((1 : Int32), M)
set_option maxRecDepth 20000 in
theorem c_X6_hasBox (l : Launch) (g : GC)   {M : Mem} {out : Int32 × Mem} (hf : f_X6_hasBox  M = some out) : cI l g yX6_hasBox cX6_hasBox 1 (some .boolean) (rM 0 0) [.ref (gz g + 0)] M out := by
  refine g_met (by decide) (Nat.le_of_ble_eq_true rfl) ?_
  intro p e s m below meth c X hP hS ls hl
  have X : Bx p s m _ meth c RX6 cX6_hasBox 1 (some .boolean) g := X
  have hl : lv_has ls 1 [(0, .ref (gz g + 0))] := hl
  have hx := X.1
  have hb := X.2.1
  refine lv_aload_n hx hb dX6_hasBox_0 rfl (lv_at hl 0 rfl) ?_
  refine gf_6_2 X hP kc_0 q1_200 dX6_hasBox_1 ?_
  refine gf_5_1 X hP kc_3 q1_37 dX6_hasBox_4 ?_
  refine lv_if_le (tgt := 14) hx hb dX6_hasBox_7 (by decide) (fun h_1 => ?_) (fun h_1 => ?_)
  · replace hf := it_t hf h_1
    refine lv_iconst (v := (0 : Int32)) hx hb dX6_hasBox_14 (by decide) ?_
    exact g_zret X hP hS rfl (sm_i hf) dX6_hasBox_15
  · replace hf := it_f hf h_1
    refine lv_iconst (v := (1 : Int32)) hx hb dX6_hasBox_10 (by decide) ?_
    refine lv_goto (tgt := 15) hx hb dX6_hasBox_11 (by decide) ?_
    exact g_zret X hP hS rfl (sm_i hf) dX6_hasBox_15
def f_X6_ticks_43 (x1 : Int32)  : Nat → Int32 → Mem → Option (Int32 × Mem)
  | 0, _, _ => none
  | n + 1, x2, M =>
    if x1 ≤ x2 then
      cb (f_X5_loud 3 M) fun r_4 M_3 =>
      some (r_4, M_3)
    else
      cv (f_X1_keep 3 M) fun M_6 =>
      cb (f_X5_turn 3 M_6) fun r_9 M_8 =>
      (f_X6_ticks_43 x1 n) (x2 + (1 : Int32)) M_8
set_option maxRecDepth 20000 in
theorem b_X6_ticks_43 {out : Int32 × Mem} (X : Bx p s m args meth c RX6 cX6_ticks 3 (some .int) g)   {x1 : Int32}     : ∀ (n : Nat) (x2 : Int32) (M : Mem) (H : Heap) (locs : List Loc) (ls : Array Slot), f_X6_ticks_43 x1 n x2 M = some out → va_P g.1 vwCl (gW g M) H → va_S (gA g) s.heap H locs → lv_has ls 3 [(0, .ref (gz g + 0)), (1, .int x1), (2, .int x2)] → W p l e (rM 3 82) s m args below meth c H locs 0 0 (MQ below (qI g out) args s 0 0 (gA g)) (F0 m 43 ls []) := by
  have hx := X.1
  have hb := X.2.1
  intro n
  induction n with
  | zero => intro _ _ _ _ _ hf; cases hf
  | succ n ih =>
    intro x2 M H locs ls hf hP hS hl
    rw [f_X6_ticks_43] at hf
    refine lv_iload_n hx hb dX6_ticks_43 rfl (lv_at hl 2 rfl) ?_
    refine lv_iload_n hx hb dX6_ticks_44 rfl (lv_at hl 1 rfl) ?_
    refine lv_icmp_ge (tgt := 73) hx hb dX6_ticks_45 (by decide) (fun h_1 => ?_) (fun h_1 => ?_)
    · replace hf := it_t hf h_1
      refine lv_aload_n hx hb dX6_ticks_73 rfl (lv_at hl 0 rfl) ?_
      refine gf_6_2 X hP kc_0 q1_200 dX6_ticks_74 ?_
      obtain ⟨r_4, M_3, hc_2, hf⟩ := cb_s hf
      refine g_goi (g_run X (c_X5_loud l g kc_3 hc_2) s_X5_loud (oB_5 kc_3) q2_161 ⟨Nat.le_of_ble_eq_true rfl, Nat.le_of_ble_eq_true rfl⟩ hP hS rfl hl.1 rfl (Nat.le_of_ble_eq_true rfl) ⟨Nat.le_refl _, Nat.le_refl _⟩ dX6_ticks_77) hS (fun H locs hP hS => ?_)
      exact g_iret X hP hS (sm_i hf) dX6_ticks_80
    · replace hf := it_f hf h_1
      refine lv_aload_n hx hb dX6_ticks_48 rfl (lv_at hl 0 rfl) ?_
      refine gf_6_5 X hP kc_0 q1_203 dX6_ticks_49 ?_
      refine lv_aload_n hx hb dX6_ticks_52 rfl (lv_at hl 0 rfl) ?_
      refine gf_6_2 X hP kc_0 q1_200 dX6_ticks_53 ?_
      obtain ⟨M_6, hc_5, hf⟩ := cv_s hf
      refine g_gov (g_run X (c_X1_keep l g kc_3 hc_5) s_X1_keep (oB_1 kc_17) q2_131 ⟨Nat.le_of_ble_eq_true rfl, Nat.le_of_ble_eq_true rfl⟩ hP hS rfl hl.1 rfl (Nat.le_of_ble_eq_true rfl) ⟨Nat.le_refl _, Nat.le_refl _⟩ dX6_ticks_56) hS (fun H locs hP hS => ?_)
      refine lv_aload_n hx hb dX6_ticks_59 rfl (lv_at hl 0 rfl) ?_
      refine gf_6_2 X hP kc_0 q1_200 dX6_ticks_60 ?_
      obtain ⟨r_9, M_8, hc_7, hf⟩ := cb_s hf
      refine g_goi (g_run X (c_X5_turn l g kc_3 hc_7) s_X5_turn (oB_5 kc_3) q2_138 ⟨Nat.le_of_ble_eq_true rfl, Nat.le_of_ble_eq_true rfl⟩ hP hS rfl hl.1 rfl (Nat.le_of_ble_eq_true rfl) ⟨Nat.le_refl _, Nat.le_refl _⟩ dX6_ticks_63) hS (fun H locs hP hS => ?_)
      refine lv_pop hx hb dX6_ticks_66 rfl ?_
      refine lv_iinc (v := (x2 + (1 : Int32))) (lv' := [(2, .int (x2 + (1 : Int32))), (0, .ref (gz g + 0)), (1, .int x1)]) hx hb dX6_ticks_67 hl (k := 2) rfl rfl (by decide) rfl (fun ls hl => ?_)
      refine lv_goto (tgt := 43) hx hb dX6_ticks_70 (by decide) ?_
      exact ih (x2 + (1 : Int32)) M_8 _ _ _ hf hP hS (lv_sub hl [1, 2, 0] rfl)
def f_X6_ticks (x1 : Int32) (M : Mem) : Option (Int32 × Mem) :=
  cb (f_X6_hasBox M) fun r_3 M_2 =>
  if r_3 = 0 then
    some ((-1000002 : Int32), M_2)
  else
    cb (f_X6_within x1 (1 : Int32) (24 : Int32) M_2) fun r_7 M_6 =>
    if r_7 = 0 then
      some ((-1000001 : Int32), M_6)
    else
      if ((M_6 3 4) + x1) ≤ (999 : Int32) then
        f_X6_ticks_43 x1 FU (0 : Int32) M_6
      else
        some ((-1000003 : Int32), M_6)
set_option maxRecDepth 20000 in
theorem c_X6_ticks (l : Launch) (g : GC) {x1 : Int32}  {M : Mem} {out : Int32 × Mem} (hf : f_X6_ticks x1 M = some out) : cI l g yX6_ticks cX6_ticks 3 (some .int) (rM 3 82) [.ref (gz g + 0), .int x1] M out := by
  refine g_met (by decide) (Nat.le_of_ble_eq_true rfl) ?_
  intro p e s m below meth c X hP hS ls hl
  have X : Bx p s m _ meth c RX6 cX6_ticks 3 (some .int) g := X
  have hl : lv_has ls 3 [(0, .ref (gz g + 0)), (1, .int x1)] := hl
  have hx := X.1
  have hb := X.2.1
  refine lv_aload_n hx hb dX6_ticks_0 rfl (lv_at hl 0 rfl) ?_
  obtain ⟨r_3, M_2, hc_1, hf⟩ := cb_s hf
  refine g_goi (g_run X (c_X6_hasBox l g  hc_1) s_X6_hasBox (oB_6 kc_0) q2_127 ⟨Nat.le_of_ble_eq_true rfl, Nat.le_of_ble_eq_true rfl⟩ hP hS rfl hl.1 rfl (Nat.le_of_ble_eq_true rfl) ⟨Nat.le_refl _, Nat.le_refl _⟩ dX6_ticks_1) hS (fun H locs hP hS => ?_)
  refine lv_if_ne (tgt := 10) hx hb dX6_ticks_4 (by decide) (fun h_4 => ?_) (fun h_4 => ?_)
  · replace hf := it_f hf h_4
    refine lv_iload_n hx hb dX6_ticks_10 rfl (lv_at hl 1 rfl) ?_
    refine lv_iconst (v := (1 : Int32)) hx hb dX6_ticks_11 (by decide) ?_
    refine lv_bipush (v := (24 : Int32)) hx hb dX6_ticks_12 (by decide) ?_
    obtain ⟨r_7, M_6, hc_5, hf⟩ := cb_s hf
    refine g_goi (g_runS X (c_X6_within l g  hc_5) s_X6_within q1_236 ⟨Nat.le_of_ble_eq_true rfl, Nat.le_of_ble_eq_true rfl⟩ hP hS rfl hl.1 rfl (Nat.le_of_ble_eq_true rfl) ⟨Nat.le_refl _, Nat.le_refl _⟩ dX6_ticks_14) hS (fun H locs hP hS => ?_)
    refine lv_if_ne (tgt := 23) hx hb dX6_ticks_17 (by decide) (fun h_8 => ?_) (fun h_8 => ?_)
    · replace hf := it_f hf h_8
      refine lv_aload_n hx hb dX6_ticks_23 rfl (lv_at hl 0 rfl) ?_
      refine gf_6_2 X hP kc_0 q1_200 dX6_ticks_24 ?_
      refine gf_5_4 X hP kc_3 q1_47 dX6_ticks_27 ?_
      refine lv_iload_n hx hb dX6_ticks_30 rfl (lv_at hl 1 rfl) ?_
      refine lv_iadd hx hb dX6_ticks_31 ?_
      refine lv_sipush (v := (999 : Int32)) hx hb dX6_ticks_32 (by decide) ?_
      refine lv_icmp_le (tgt := 41) hx hb dX6_ticks_35 (by decide) (fun h_9 => ?_) (fun h_9 => ?_)
      · replace hf := it_t hf h_9
        refine lv_iconst (v := (0 : Int32)) hx hb dX6_ticks_41 (by decide) ?_
        refine lv_istore_n (lv' := [(2, .int (0 : Int32)), (0, .ref (gz g + 0)), (1, .int x1)]) hx hb dX6_ticks_42 rfl hl (by decide) rfl (fun ls hl => ?_)
        exact b_X6_ticks_43 X  FU (0 : Int32) M_6 _ _ _ hf hP hS (lv_sub hl [1, 2, 0] rfl)
      · replace hf := it_f hf h_9
        refine lv_ldc hx hb X.2.2.2.1 (X.2.2.2.2.1 _ q2_50) dX6_ticks_38 ?_
        exact g_iret X hP hS (sm_i hf) dX6_ticks_40
    · replace hf := it_t hf h_8
      refine lv_ldc hx hb X.2.2.2.1 (X.2.2.2.2.1 _ q1_239) dX6_ticks_20 ?_
      exact g_iret X hP hS (sm_i hf) dX6_ticks_22
  · replace hf := it_t hf h_4
    refine lv_ldc hx hb X.2.2.2.1 (X.2.2.2.2.1 _ q2_117) dX6_ticks_7 ?_
    exact g_iret X hP hS (sm_i hf) dX6_ticks_9
def f_X6_wind (x1 : Int32) (M : Mem) : Option (Int32 × Mem) :=
  cb (f_X6_hasBox M) fun r_3 M_2 =>
  if r_3 = 0 then
    some ((-1000002 : Int32), M_2)
  else
    cb (f_X6_within x1 (1 : Int32) (99 : Int32) M_2) fun r_7 M_6 =>
    if r_7 = 0 then
      some ((-1000001 : Int32), M_6)
    else
      cv (f_X1_keep 3 M_6) fun M_10 =>
      cv (f_X5_windBy 3 x1 M_10) fun M_12 =>
      some ((M_12 3 2), M_12)
set_option maxRecDepth 20000 in
theorem c_X6_wind (l : Launch) (g : GC) {x1 : Int32}  {M : Mem} {out : Int32 × Mem} (hf : f_X6_wind x1 M = some out) : cI l g yX6_wind cX6_wind 2 (some .int) (rM 3 82) [.ref (gz g + 0), .int x1] M out := by
  refine g_met (by decide) (Nat.le_of_ble_eq_true rfl) ?_
  intro p e s m below meth c X hP hS ls hl
  have X : Bx p s m _ meth c RX6 cX6_wind 2 (some .int) g := X
  have hl : lv_has ls 2 [(0, .ref (gz g + 0)), (1, .int x1)] := hl
  have hx := X.1
  have hb := X.2.1
  refine lv_aload_n hx hb dX6_wind_0 rfl (lv_at hl 0 rfl) ?_
  obtain ⟨r_3, M_2, hc_1, hf⟩ := cb_s hf
  refine g_goi (g_run X (c_X6_hasBox l g  hc_1) s_X6_hasBox (oB_6 kc_0) q2_127 ⟨Nat.le_of_ble_eq_true rfl, Nat.le_of_ble_eq_true rfl⟩ hP hS rfl hl.1 rfl (Nat.le_of_ble_eq_true rfl) ⟨Nat.le_refl _, Nat.le_refl _⟩ dX6_wind_1) hS (fun H locs hP hS => ?_)
  refine lv_if_ne (tgt := 10) hx hb dX6_wind_4 (by decide) (fun h_4 => ?_) (fun h_4 => ?_)
  · replace hf := it_f hf h_4
    refine lv_iload_n hx hb dX6_wind_10 rfl (lv_at hl 1 rfl) ?_
    refine lv_iconst (v := (1 : Int32)) hx hb dX6_wind_11 (by decide) ?_
    refine lv_bipush (v := (99 : Int32)) hx hb dX6_wind_12 (by decide) ?_
    obtain ⟨r_7, M_6, hc_5, hf⟩ := cb_s hf
    refine g_goi (g_runS X (c_X6_within l g  hc_5) s_X6_within q1_236 ⟨Nat.le_of_ble_eq_true rfl, Nat.le_of_ble_eq_true rfl⟩ hP hS rfl hl.1 rfl (Nat.le_of_ble_eq_true rfl) ⟨Nat.le_refl _, Nat.le_refl _⟩ dX6_wind_14) hS (fun H locs hP hS => ?_)
    refine lv_if_ne (tgt := 23) hx hb dX6_wind_17 (by decide) (fun h_8 => ?_) (fun h_8 => ?_)
    · replace hf := it_f hf h_8
      refine lv_aload_n hx hb dX6_wind_23 rfl (lv_at hl 0 rfl) ?_
      refine gf_6_5 X hP kc_0 q1_203 dX6_wind_24 ?_
      refine lv_aload_n hx hb dX6_wind_27 rfl (lv_at hl 0 rfl) ?_
      refine gf_6_2 X hP kc_0 q1_200 dX6_wind_28 ?_
      obtain ⟨M_10, hc_9, hf⟩ := cv_s hf
      refine g_gov (g_run X (c_X1_keep l g kc_3 hc_9) s_X1_keep (oB_1 kc_17) q2_131 ⟨Nat.le_of_ble_eq_true rfl, Nat.le_of_ble_eq_true rfl⟩ hP hS rfl hl.1 rfl (Nat.le_of_ble_eq_true rfl) ⟨Nat.le_refl _, Nat.le_refl _⟩ dX6_wind_31) hS (fun H locs hP hS => ?_)
      refine lv_aload_n hx hb dX6_wind_34 rfl (lv_at hl 0 rfl) ?_
      refine gf_6_2 X hP kc_0 q1_200 dX6_wind_35 ?_
      refine lv_iload_n hx hb dX6_wind_38 rfl (lv_at hl 1 rfl) ?_
      obtain ⟨M_12, hc_11, hf⟩ := cv_s hf
      refine g_gov (g_run X (c_X5_windBy l g kc_3 hc_11) s_X5_windBy (oB_5 kc_3) q2_169 ⟨Nat.le_of_ble_eq_true rfl, Nat.le_of_ble_eq_true rfl⟩ hP hS rfl hl.1 rfl (Nat.le_of_ble_eq_true rfl) ⟨Nat.le_refl _, Nat.le_refl _⟩ dX6_wind_39) hS (fun H locs hP hS => ?_)
      refine lv_aload_n hx hb dX6_wind_42 rfl (lv_at hl 0 rfl) ?_
      refine gf_6_2 X hP kc_0 q1_200 dX6_wind_43 ?_
      refine gf_5_2 X hP kc_3 q1_41 dX6_wind_46 ?_
      exact g_iret X hP hS (sm_i hf) dX6_wind_49
    · replace hf := it_t hf h_8
      refine lv_ldc hx hb X.2.2.2.1 (X.2.2.2.2.1 _ q1_239) dX6_wind_20 ?_
      exact g_iret X hP hS (sm_i hf) dX6_wind_22
  · replace hf := it_t hf h_4
    refine lv_ldc hx hb X.2.2.2.1 (X.2.2.2.2.1 _ q2_117) dX6_wind_7 ?_
    exact g_iret X hP hS (sm_i hf) dX6_wind_9
def f_X6_hasColumn (x1 : Int32) (M : Mem) : Option (Int32 × Mem) :=
  cb (f_X6_within x1 (0 : Int32) ((M 3 0) - (1 : Int32)) M) fun r_3 M_2 =>
  cbz r_3 <| some (r_3, M_2)
set_option maxRecDepth 20000 in
theorem c_X6_hasColumn (l : Launch) (g : GC) {x1 : Int32}  {M : Mem} {out : Int32 × Mem} (hf : f_X6_hasColumn x1 M = some out) : cI l g yX6_hasColumn cX6_hasColumn 2 (some .boolean) (rM 1 22) [.ref (gz g + 0), .int x1] M out := by
  refine g_met (by decide) (Nat.le_of_ble_eq_true rfl) ?_
  intro p e s m below meth c X hP hS ls hl
  have X : Bx p s m _ meth c RX6 cX6_hasColumn 2 (some .boolean) g := X
  have hl : lv_has ls 2 [(0, .ref (gz g + 0)), (1, .int x1)] := hl
  have hx := X.1
  have hb := X.2.1
  refine lv_iload_n hx hb dX6_hasColumn_0 rfl (lv_at hl 1 rfl) ?_
  refine lv_iconst (v := (0 : Int32)) hx hb dX6_hasColumn_1 (by decide) ?_
  refine lv_aload_n hx hb dX6_hasColumn_2 rfl (lv_at hl 0 rfl) ?_
  refine gf_6_2 X hP kc_0 q1_200 dX6_hasColumn_3 ?_
  refine gf_5_0 X hP kc_3 q1_33 dX6_hasColumn_6 ?_
  refine lv_iconst (v := (1 : Int32)) hx hb dX6_hasColumn_9 (by decide) ?_
  refine lv_isub hx hb dX6_hasColumn_10 ?_
  obtain ⟨r_3, M_2, hc_1, hf⟩ := cb_s hf
  refine g_goi (g_runS X (c_X6_within l g  hc_1) s_X6_within q1_236 ⟨Nat.le_of_ble_eq_true rfl, Nat.le_of_ble_eq_true rfl⟩ hP hS rfl hl.1 rfl (Nat.le_of_ble_eq_true rfl) ⟨Nat.le_refl _, Nat.le_refl _⟩ dX6_hasColumn_11) hS (fun H locs hP hS => ?_)
  obtain ⟨hbz, hf⟩ := cbz_s hf
  exact g_zret X hP hS hbz (sm_i hf) dX6_hasColumn_14
def f_X6_hasTooth (x1 : Int32) (M : Mem) : Option (Int32 × Mem) :=
  cb (f_X6_within x1 (0 : Int32) ((M 3 1) - (1 : Int32)) M) fun r_3 M_2 =>
  cbz r_3 <| some (r_3, M_2)
set_option maxRecDepth 20000 in
theorem c_X6_hasTooth (l : Launch) (g : GC) {x1 : Int32}  {M : Mem} {out : Int32 × Mem} (hf : f_X6_hasTooth x1 M = some out) : cI l g yX6_hasTooth cX6_hasTooth 2 (some .boolean) (rM 1 22) [.ref (gz g + 0), .int x1] M out := by
  refine g_met (by decide) (Nat.le_of_ble_eq_true rfl) ?_
  intro p e s m below meth c X hP hS ls hl
  have X : Bx p s m _ meth c RX6 cX6_hasTooth 2 (some .boolean) g := X
  have hl : lv_has ls 2 [(0, .ref (gz g + 0)), (1, .int x1)] := hl
  have hx := X.1
  have hb := X.2.1
  refine lv_iload_n hx hb dX6_hasTooth_0 rfl (lv_at hl 1 rfl) ?_
  refine lv_iconst (v := (0 : Int32)) hx hb dX6_hasTooth_1 (by decide) ?_
  refine lv_aload_n hx hb dX6_hasTooth_2 rfl (lv_at hl 0 rfl) ?_
  refine gf_6_2 X hP kc_0 q1_200 dX6_hasTooth_3 ?_
  refine gf_5_1 X hP kc_3 q1_37 dX6_hasTooth_6 ?_
  refine lv_iconst (v := (1 : Int32)) hx hb dX6_hasTooth_9 (by decide) ?_
  refine lv_isub hx hb dX6_hasTooth_10 ?_
  obtain ⟨r_3, M_2, hc_1, hf⟩ := cb_s hf
  refine g_goi (g_runS X (c_X6_within l g  hc_1) s_X6_within q1_236 ⟨Nat.le_of_ble_eq_true rfl, Nat.le_of_ble_eq_true rfl⟩ hP hS rfl hl.1 rfl (Nat.le_of_ble_eq_true rfl) ⟨Nat.le_refl _, Nat.le_refl _⟩ dX6_hasTooth_11) hS (fun H locs hP hS => ?_)
  obtain ⟨hbz, hf⟩ := cbz_s hf
  exact g_zret X hP hS hbz (sm_i hf) dX6_hasTooth_14
def f_X6_pin (x1 : Int32) (x2 : Int32) (M : Mem) : Option (Int32 × Mem) :=
  cb (f_X6_hasColumn x1 M) fun r_3 M_2 =>
  if r_3 = 0 then
    some ((-1000001 : Int32), M_2)
  else
    cb (f_X6_hasTooth x2 M_2) fun r_7 M_6 =>
    if r_7 = 0 then
      some ((-1000001 : Int32), M_6)
    else
      cv (f_X1_keep 3 M_6) fun M_10 =>
      cv (f_X5_togglePin 3 x1 x2 M_10) fun M_12 =>
      ck x1 12 <|
      some ((M_12 (3 + 1) x1.toNatClampNeg), M_12)
set_option maxRecDepth 20000 in
theorem c_X6_pin (l : Launch) (g : GC) {x1 : Int32} {x2 : Int32}  {M : Mem} {out : Int32 × Mem} (hf : f_X6_pin x1 x2 M = some out) : cI l g yX6_pin cX6_pin 3 (some .int) (rM 3 82) [.ref (gz g + 0), .int x1, .int x2] M out := by
  refine g_met (by decide) (Nat.le_of_ble_eq_true rfl) ?_
  intro p e s m below meth c X hP hS ls hl
  have X : Bx p s m _ meth c RX6 cX6_pin 3 (some .int) g := X
  have hl : lv_has ls 3 [(0, .ref (gz g + 0)), (1, .int x1), (2, .int x2)] := hl
  have hx := X.1
  have hb := X.2.1
  refine lv_aload_n hx hb dX6_pin_0 rfl (lv_at hl 0 rfl) ?_
  refine lv_iload_n hx hb dX6_pin_1 rfl (lv_at hl 1 rfl) ?_
  obtain ⟨r_3, M_2, hc_1, hf⟩ := cb_s hf
  refine g_goi (g_run X (c_X6_hasColumn l g  hc_1) s_X6_hasColumn (oB_6 kc_0) q2_177 ⟨Nat.le_of_ble_eq_true rfl, Nat.le_of_ble_eq_true rfl⟩ hP hS rfl hl.1 rfl (Nat.le_of_ble_eq_true rfl) ⟨Nat.le_refl _, Nat.le_refl _⟩ dX6_pin_2) hS (fun H locs hP hS => ?_)
  refine lv_if_eq (tgt := 16) hx hb dX6_pin_5 (by decide) (fun h_4 => ?_) (fun h_4 => ?_)
  · replace hf := it_t hf h_4
    refine lv_ldc hx hb X.2.2.2.1 (X.2.2.2.2.1 _ q1_239) dX6_pin_16 ?_
    exact g_iret X hP hS (sm_i hf) dX6_pin_18
  · replace hf := it_f hf h_4
    refine lv_aload_n hx hb dX6_pin_8 rfl (lv_at hl 0 rfl) ?_
    refine lv_iload_n hx hb dX6_pin_9 rfl (lv_at hl 2 rfl) ?_
    obtain ⟨r_7, M_6, hc_5, hf⟩ := cb_s hf
    refine g_goi (g_run X (c_X6_hasTooth l g  hc_5) s_X6_hasTooth (oB_6 kc_0) q2_181 ⟨Nat.le_of_ble_eq_true rfl, Nat.le_of_ble_eq_true rfl⟩ hP hS rfl hl.1 rfl (Nat.le_of_ble_eq_true rfl) ⟨Nat.le_refl _, Nat.le_refl _⟩ dX6_pin_10) hS (fun H locs hP hS => ?_)
    refine lv_if_ne (tgt := 19) hx hb dX6_pin_13 (by decide) (fun h_8 => ?_) (fun h_8 => ?_)
    · replace hf := it_f hf h_8
      refine lv_aload_n hx hb dX6_pin_19 rfl (lv_at hl 0 rfl) ?_
      refine gf_6_5 X hP kc_0 q1_203 dX6_pin_20 ?_
      refine lv_aload_n hx hb dX6_pin_23 rfl (lv_at hl 0 rfl) ?_
      refine gf_6_2 X hP kc_0 q1_200 dX6_pin_24 ?_
      obtain ⟨M_10, hc_9, hf⟩ := cv_s hf
      refine g_gov (g_run X (c_X1_keep l g kc_3 hc_9) s_X1_keep (oB_1 kc_17) q2_131 ⟨Nat.le_of_ble_eq_true rfl, Nat.le_of_ble_eq_true rfl⟩ hP hS rfl hl.1 rfl (Nat.le_of_ble_eq_true rfl) ⟨Nat.le_refl _, Nat.le_refl _⟩ dX6_pin_27) hS (fun H locs hP hS => ?_)
      refine lv_aload_n hx hb dX6_pin_30 rfl (lv_at hl 0 rfl) ?_
      refine gf_6_2 X hP kc_0 q1_200 dX6_pin_31 ?_
      refine lv_iload_n hx hb dX6_pin_34 rfl (lv_at hl 1 rfl) ?_
      refine lv_iload_n hx hb dX6_pin_35 rfl (lv_at hl 2 rfl) ?_
      obtain ⟨M_12, hc_11, hf⟩ := cv_s hf
      refine g_gov (g_run X (c_X5_togglePin l g kc_3 hc_11) s_X5_togglePin (oB_5 kc_3) q2_185 ⟨Nat.le_of_ble_eq_true rfl, Nat.le_of_ble_eq_true rfl⟩ hP hS rfl hl.1 rfl (Nat.le_of_ble_eq_true rfl) ⟨Nat.le_refl _, Nat.le_refl _⟩ dX6_pin_36) hS (fun H locs hP hS => ?_)
      refine lv_aload_n hx hb dX6_pin_39 rfl (lv_at hl 0 rfl) ?_
      refine gf_6_2 X hP kc_0 q1_200 dX6_pin_40 ?_
      refine gf_5_6 X hP kc_3 q1_53 dX6_pin_43 ?_
      refine lv_iload_n hx hb dX6_pin_46 rfl (lv_at hl 1 rfl) ?_
      obtain ⟨hi_13, hf⟩ := ck_s hf
      refine ga_ld X hP (iA_9 (kdW1 kc_3)) hi_13 dX6_pin_47 ?_
      exact g_iret X hP hS (sm_i hf) dX6_pin_48
    · replace hf := it_t hf h_8
      refine lv_ldc hx hb X.2.2.2.1 (X.2.2.2.2.1 _ q1_239) dX6_pin_16 ?_
      exact g_iret X hP hS (sm_i hf) dX6_pin_18
def f_X6_drum (x1 : Int32) (M : Mem) : Option (Int32 × Mem) :=
  cb (f_X6_hasColumn x1 M) fun r_3 M_2 =>
  if r_3 = 0 then
    some ((-1000001 : Int32), M_2)
  else
    lt (M_2 3 3) fun x2_5 =>
    if x1 = x2_5 then
      some ((-1000002 : Int32), M_2)
    else
      cv (f_X1_keep 3 M_2) fun M_8 =>
      lt (up2 M_8 3 3 x1) fun M_9 =>
      some (x2_5, M_9)
set_option maxRecDepth 20000 in
theorem c_X6_drum (l : Launch) (g : GC) {x1 : Int32}  {M : Mem} {out : Int32 × Mem} (hf : f_X6_drum x1 M = some out) : cI l g yX6_drum cX6_drum 3 (some .int) (rM 3 82) [.ref (gz g + 0), .int x1] M out := by
  refine g_met (by decide) (Nat.le_of_ble_eq_true rfl) ?_
  intro p e s m below meth c X hP hS ls hl
  have X : Bx p s m _ meth c RX6 cX6_drum 3 (some .int) g := X
  have hl : lv_has ls 3 [(0, .ref (gz g + 0)), (1, .int x1)] := hl
  have hx := X.1
  have hb := X.2.1
  refine lv_aload_n hx hb dX6_drum_0 rfl (lv_at hl 0 rfl) ?_
  refine lv_iload_n hx hb dX6_drum_1 rfl (lv_at hl 1 rfl) ?_
  obtain ⟨r_3, M_2, hc_1, hf⟩ := cb_s hf
  refine g_goi (g_run X (c_X6_hasColumn l g  hc_1) s_X6_hasColumn (oB_6 kc_0) q2_177 ⟨Nat.le_of_ble_eq_true rfl, Nat.le_of_ble_eq_true rfl⟩ hP hS rfl hl.1 rfl (Nat.le_of_ble_eq_true rfl) ⟨Nat.le_refl _, Nat.le_refl _⟩ dX6_drum_2) hS (fun H locs hP hS => ?_)
  refine lv_if_ne (tgt := 11) hx hb dX6_drum_5 (by decide) (fun h_4 => ?_) (fun h_4 => ?_)
  · replace hf := it_f hf h_4
    refine lv_aload_n hx hb dX6_drum_11 rfl (lv_at hl 0 rfl) ?_
    refine gf_6_2 X hP kc_0 q1_200 dX6_drum_12 ?_
    refine gf_5_3 X hP kc_3 q1_45 dX6_drum_15 ?_
    refine lv_topi (fun x2_5 ex2_5 => ?_)
    replace hf := lt_go hf ex2_5
    refine lv_istore_n (lv' := [(2, .int x2_5), (0, .ref (gz g + 0)), (1, .int x1)]) hx hb dX6_drum_18 rfl hl (by decide) rfl (fun ls hl => ?_)
    refine lv_iload_n hx hb dX6_drum_19 rfl (lv_at hl 2 rfl) ?_
    refine lv_iload_n hx hb dX6_drum_20 rfl (lv_at hl 0 rfl) ?_
    refine lv_icmp_ne (tgt := 27) hx hb dX6_drum_21 (by decide) (fun h_6 => ?_) (fun h_6 => ?_)
    · replace hf := it_f hf h_6
      refine lv_aload_n hx hb dX6_drum_27 rfl (lv_at hl 1 rfl) ?_
      refine gf_6_5 X hP kc_0 q1_203 dX6_drum_28 ?_
      refine lv_aload_n hx hb dX6_drum_31 rfl (lv_at hl 1 rfl) ?_
      refine gf_6_2 X hP kc_0 q1_200 dX6_drum_32 ?_
      obtain ⟨M_8, hc_7, hf⟩ := cv_s hf
      refine g_gov (g_run X (c_X1_keep l g kc_3 hc_7) s_X1_keep (oB_1 kc_17) q2_131 ⟨Nat.le_of_ble_eq_true rfl, Nat.le_of_ble_eq_true rfl⟩ hP hS rfl hl.1 rfl (Nat.le_of_ble_eq_true rfl) ⟨Nat.le_refl _, Nat.le_refl _⟩ dX6_drum_35) hS (fun H locs hP hS => ?_)
      refine lv_aload_n hx hb dX6_drum_38 rfl (lv_at hl 1 rfl) ?_
      refine gf_6_2 X hP kc_0 q1_200 dX6_drum_39 ?_
      refine lv_iload_n hx hb dX6_drum_42 rfl (lv_at hl 2 rfl) ?_
      refine gp_5_3 X hP hS kc_3 q1_45 dX6_drum_43 (fun H locs M_9 eM_9 hP hS => ?_)
      replace hf := lt_go hf eM_9
      refine lv_iload_n hx hb dX6_drum_46 rfl (lv_at hl 0 rfl) ?_
      exact g_iret X hP hS (sm_i hf) dX6_drum_47
    · replace hf := it_t hf h_6
      refine lv_ldc hx hb X.2.2.2.1 (X.2.2.2.2.1 _ q2_117) dX6_drum_24 ?_
      exact g_iret X hP hS (sm_i hf) dX6_drum_26
  · replace hf := it_t hf h_4
    refine lv_ldc hx hb X.2.2.2.1 (X.2.2.2.2.1 _ q1_239) dX6_drum_8 ?_
    exact g_iret X hP hS (sm_i hf) dX6_drum_10
def f_X6_mend (x1 : Int32) (M : Mem) : Option (Int32 × Mem) :=
  cb (f_X6_hasTooth x1 M) fun r_3 M_2 =>
  if r_3 = 0 then
    some ((-1000001 : Int32), M_2)
  else
    cb (f_X5_isBroken 3 x1 M_2) fun r_7 M_6 =>
    if r_7 = 0 then
      some ((-1000002 : Int32), M_6)
    else
      ck x1 6 <|
      lt (M_6 (3 + 5) x1.toNatClampNeg) fun x2_10 =>
      cv (f_X1_keep 3 M_6) fun M_12 =>
      cv (f_X5_makeWhole 3 x1 M_12) fun M_14 =>
      some (x2_10, M_14)
set_option maxRecDepth 20000 in
theorem c_X6_mend (l : Launch) (g : GC) {x1 : Int32}  {M : Mem} {out : Int32 × Mem} (hf : f_X6_mend x1 M = some out) : cI l g yX6_mend cX6_mend 3 (some .int) (rM 3 82) [.ref (gz g + 0), .int x1] M out := by
  refine g_met (by decide) (Nat.le_of_ble_eq_true rfl) ?_
  intro p e s m below meth c X hP hS ls hl
  have X : Bx p s m _ meth c RX6 cX6_mend 3 (some .int) g := X
  have hl : lv_has ls 3 [(0, .ref (gz g + 0)), (1, .int x1)] := hl
  have hx := X.1
  have hb := X.2.1
  refine lv_aload_n hx hb dX6_mend_0 rfl (lv_at hl 0 rfl) ?_
  refine lv_iload_n hx hb dX6_mend_1 rfl (lv_at hl 1 rfl) ?_
  obtain ⟨r_3, M_2, hc_1, hf⟩ := cb_s hf
  refine g_goi (g_run X (c_X6_hasTooth l g  hc_1) s_X6_hasTooth (oB_6 kc_0) q2_181 ⟨Nat.le_of_ble_eq_true rfl, Nat.le_of_ble_eq_true rfl⟩ hP hS rfl hl.1 rfl (Nat.le_of_ble_eq_true rfl) ⟨Nat.le_refl _, Nat.le_refl _⟩ dX6_mend_2) hS (fun H locs hP hS => ?_)
  refine lv_if_ne (tgt := 11) hx hb dX6_mend_5 (by decide) (fun h_4 => ?_) (fun h_4 => ?_)
  · replace hf := it_f hf h_4
    refine lv_aload_n hx hb dX6_mend_11 rfl (lv_at hl 0 rfl) ?_
    refine gf_6_2 X hP kc_0 q1_200 dX6_mend_12 ?_
    refine lv_iload_n hx hb dX6_mend_15 rfl (lv_at hl 1 rfl) ?_
    obtain ⟨r_7, M_6, hc_5, hf⟩ := cb_s hf
    refine g_goi (g_run X (c_X5_isBroken l g kc_3 hc_5) s_X5_isBroken (oB_5 kc_3) q2_197 ⟨Nat.le_of_ble_eq_true rfl, Nat.le_of_ble_eq_true rfl⟩ hP hS rfl hl.1 rfl (Nat.le_of_ble_eq_true rfl) ⟨Nat.le_refl _, Nat.le_refl _⟩ dX6_mend_16) hS (fun H locs hP hS => ?_)
    refine lv_if_ne (tgt := 25) hx hb dX6_mend_19 (by decide) (fun h_8 => ?_) (fun h_8 => ?_)
    · replace hf := it_f hf h_8
      refine lv_aload_n hx hb dX6_mend_25 rfl (lv_at hl 0 rfl) ?_
      refine gf_6_2 X hP kc_0 q1_200 dX6_mend_26 ?_
      refine gf_5_10 X hP kc_3 q1_70 dX6_mend_29 ?_
      refine lv_iload_n hx hb dX6_mend_32 rfl (lv_at hl 1 rfl) ?_
      obtain ⟨hi_9, hf⟩ := ck_s hf
      refine ga_ld X hP (iA_8 (kdW5 kc_3)) hi_9 dX6_mend_33 ?_
      refine lv_topi (fun x2_10 ex2_10 => ?_)
      replace hf := lt_go hf ex2_10
      refine lv_istore_n (lv' := [(2, .int x2_10), (0, .ref (gz g + 0)), (1, .int x1)]) hx hb dX6_mend_34 rfl hl (by decide) rfl (fun ls hl => ?_)
      refine lv_aload_n hx hb dX6_mend_35 rfl (lv_at hl 1 rfl) ?_
      refine gf_6_5 X hP kc_0 q1_203 dX6_mend_36 ?_
      refine lv_aload_n hx hb dX6_mend_39 rfl (lv_at hl 1 rfl) ?_
      refine gf_6_2 X hP kc_0 q1_200 dX6_mend_40 ?_
      obtain ⟨M_12, hc_11, hf⟩ := cv_s hf
      refine g_gov (g_run X (c_X1_keep l g kc_3 hc_11) s_X1_keep (oB_1 kc_17) q2_131 ⟨Nat.le_of_ble_eq_true rfl, Nat.le_of_ble_eq_true rfl⟩ hP hS rfl hl.1 rfl (Nat.le_of_ble_eq_true rfl) ⟨Nat.le_refl _, Nat.le_refl _⟩ dX6_mend_43) hS (fun H locs hP hS => ?_)
      refine lv_aload_n hx hb dX6_mend_46 rfl (lv_at hl 1 rfl) ?_
      refine gf_6_2 X hP kc_0 q1_200 dX6_mend_47 ?_
      refine lv_iload_n hx hb dX6_mend_50 rfl (lv_at hl 2 rfl) ?_
      obtain ⟨M_14, hc_13, hf⟩ := cv_s hf
      refine g_gov (g_run X (c_X5_makeWhole l g kc_3 hc_13) s_X5_makeWhole (oB_5 kc_3) q2_201 ⟨Nat.le_of_ble_eq_true rfl, Nat.le_of_ble_eq_true rfl⟩ hP hS rfl hl.1 rfl (Nat.le_of_ble_eq_true rfl) ⟨Nat.le_refl _, Nat.le_refl _⟩ dX6_mend_51) hS (fun H locs hP hS => ?_)
      refine lv_iload_n hx hb dX6_mend_54 rfl (lv_at hl 0 rfl) ?_
      exact g_iret X hP hS (sm_i hf) dX6_mend_55
    · replace hf := it_t hf h_8
      refine lv_ldc hx hb X.2.2.2.1 (X.2.2.2.2.1 _ q2_117) dX6_mend_22 ?_
      exact g_iret X hP hS (sm_i hf) dX6_mend_24
  · replace hf := it_t hf h_4
    refine lv_ldc hx hb X.2.2.2.1 (X.2.2.2.2.1 _ q1_239) dX6_mend_8 ?_
    exact g_iret X hP hS (sm_i hf) dX6_mend_10
def f_X6_tooth (x1 : Int32) (x2 : Int32) (M : Mem) : Option (Int32 × Mem) :=
  cb (f_X6_hasTooth x1 M) fun r_3 M_2 =>
  if r_3 = 0 then
    some ((-1000001 : Int32), M_2)
  else
    lt x2 fun v_5 =>
    if v_5 = (0 : Int32) then
      ck x1 6 <|
      some ((M_2 (3 + 3) x1.toNatClampNeg), M_2)
    else
      if v_5 = (1 : Int32) then
        ck x1 6 <|
        some ((M_2 (3 + 4) x1.toNatClampNeg), M_2)
      else
        if v_5 = (2 : Int32) then
          ck x1 6 <|
          some ((M_2 (3 + 5) x1.toNatClampNeg), M_2)
        else
          if v_5 = (3 : Int32) then
            cb (f_X5_isBroken 3 x1 M_2) fun r_15 M_14 =>
            if r_15 = 0 then
              some ((0 : Int32), M_14)
            else
              some ((1 : Int32), M_14)
          else
            if v_5 = (4 : Int32) then
              cb (f_X5_columnsOf 3 x1 M_2) fun r_20 M_19 =>
              some (r_20, M_19)
            else
              some ((-1000001 : Int32), M_2)
set_option maxRecDepth 20000 in
theorem c_X6_tooth (l : Launch) (g : GC) {x1 : Int32} {x2 : Int32}  {M : Mem} {out : Int32 × Mem} (hf : f_X6_tooth x1 x2 M = some out) : cI l g yX6_tooth cX6_tooth 3 (some .int) (rM 2 43) [.ref (gz g + 0), .int x1, .int x2] M out := by
  refine g_met (by decide) (Nat.le_of_ble_eq_true rfl) ?_
  intro p e s m below meth c X hP hS ls hl
  have X : Bx p s m _ meth c RX6 cX6_tooth 3 (some .int) g := X
  have hl : lv_has ls 3 [(0, .ref (gz g + 0)), (1, .int x1), (2, .int x2)] := hl
  have hx := X.1
  have hb := X.2.1
  refine lv_aload_n hx hb dX6_tooth_0 rfl (lv_at hl 0 rfl) ?_
  refine lv_iload_n hx hb dX6_tooth_1 rfl (lv_at hl 1 rfl) ?_
  obtain ⟨r_3, M_2, hc_1, hf⟩ := cb_s hf
  refine g_goi (g_run X (c_X6_hasTooth l g  hc_1) s_X6_hasTooth (oB_6 kc_0) q2_181 ⟨Nat.le_of_ble_eq_true rfl, Nat.le_of_ble_eq_true rfl⟩ hP hS rfl hl.1 rfl (Nat.le_of_ble_eq_true rfl) ⟨Nat.le_refl _, Nat.le_refl _⟩ dX6_tooth_2) hS (fun H locs hP hS => ?_)
  refine lv_if_ne (tgt := 11) hx hb dX6_tooth_5 (by decide) (fun h_4 => ?_) (fun h_4 => ?_)
  · replace hf := it_f hf h_4
    refine lv_iload_n hx hb dX6_tooth_11 rfl (lv_at hl 2 rfl) ?_
    refine lv_topi (fun v_5 ev_5 => ?_)
    replace hf := lt_go hf ev_5
    by_cases h_6 : v_5 = (0 : Int32)
    · replace hf := it_t hf h_6
      refine lv_tableIn (off := 36) (tgt := 48) hx hb dX6_tooth_12 (by rw [h_6]; decide) (by rw [h_6]; decide) (by rw [h_6]; rfl) (by decide) ?_
      refine lv_aload_n hx hb dX6_tooth_48 rfl (lv_at hl 0 rfl) ?_
      refine gf_6_2 X hP kc_0 q1_200 dX6_tooth_49 ?_
      refine gf_5_8 X hP kc_3 q1_62 dX6_tooth_52 ?_
      refine lv_iload_n hx hb dX6_tooth_55 rfl (lv_at hl 1 rfl) ?_
      obtain ⟨hi_7, hf⟩ := ck_s hf
      refine ga_ld X hP (iA_8 (kdW3 kc_3)) hi_7 dX6_tooth_56 ?_
      exact g_iret X hP hS (sm_i hf) dX6_tooth_57
    · replace hf := it_f hf h_6
      by_cases h_8 : v_5 = (1 : Int32)
      · replace hf := it_t hf h_8
        refine lv_tableIn (off := 46) (tgt := 58) hx hb dX6_tooth_12 (by rw [h_8]; decide) (by rw [h_8]; decide) (by rw [h_8]; rfl) (by decide) ?_
        refine lv_aload_n hx hb dX6_tooth_58 rfl (lv_at hl 0 rfl) ?_
        refine gf_6_2 X hP kc_0 q1_200 dX6_tooth_59 ?_
        refine gf_5_9 X hP kc_3 q1_67 dX6_tooth_62 ?_
        refine lv_iload_n hx hb dX6_tooth_65 rfl (lv_at hl 1 rfl) ?_
        obtain ⟨hi_9, hf⟩ := ck_s hf
        refine ga_ld X hP (iA_8 (kdW4 kc_3)) hi_9 dX6_tooth_66 ?_
        exact g_iret X hP hS (sm_i hf) dX6_tooth_67
      · replace hf := it_f hf h_8
        by_cases h_10 : v_5 = (2 : Int32)
        · replace hf := it_t hf h_10
          refine lv_tableIn (off := 56) (tgt := 68) hx hb dX6_tooth_12 (by rw [h_10]; decide) (by rw [h_10]; decide) (by rw [h_10]; rfl) (by decide) ?_
          refine lv_aload_n hx hb dX6_tooth_68 rfl (lv_at hl 0 rfl) ?_
          refine gf_6_2 X hP kc_0 q1_200 dX6_tooth_69 ?_
          refine gf_5_10 X hP kc_3 q1_70 dX6_tooth_72 ?_
          refine lv_iload_n hx hb dX6_tooth_75 rfl (lv_at hl 1 rfl) ?_
          obtain ⟨hi_11, hf⟩ := ck_s hf
          refine ga_ld X hP (iA_8 (kdW5 kc_3)) hi_11 dX6_tooth_76 ?_
          exact g_iret X hP hS (sm_i hf) dX6_tooth_77
        · replace hf := it_f hf h_10
          by_cases h_12 : v_5 = (3 : Int32)
          · replace hf := it_t hf h_12
            refine lv_tableIn (off := 66) (tgt := 78) hx hb dX6_tooth_12 (by rw [h_12]; decide) (by rw [h_12]; decide) (by rw [h_12]; rfl) (by decide) ?_
            refine lv_aload_n hx hb dX6_tooth_78 rfl (lv_at hl 0 rfl) ?_
            refine gf_6_2 X hP kc_0 q1_200 dX6_tooth_79 ?_
            refine lv_iload_n hx hb dX6_tooth_82 rfl (lv_at hl 1 rfl) ?_
            obtain ⟨r_15, M_14, hc_13, hf⟩ := cb_s hf
            refine g_goi (g_run X (c_X5_isBroken l g kc_3 hc_13) s_X5_isBroken (oB_5 kc_3) q2_197 ⟨Nat.le_of_ble_eq_true rfl, Nat.le_of_ble_eq_true rfl⟩ hP hS rfl hl.1 rfl (Nat.le_of_ble_eq_true rfl) ⟨Nat.le_refl _, Nat.le_refl _⟩ dX6_tooth_83) hS (fun H locs hP hS => ?_)
            refine lv_if_eq (tgt := 93) hx hb dX6_tooth_86 (by decide) (fun h_16 => ?_) (fun h_16 => ?_)
            · replace hf := it_t hf h_16
              refine lv_iconst (v := (0 : Int32)) hx hb dX6_tooth_93 (by decide) ?_
              exact g_iret X hP hS (sm_i hf) dX6_tooth_94
            · replace hf := it_f hf h_16
              refine lv_iconst (v := (1 : Int32)) hx hb dX6_tooth_89 (by decide) ?_
              refine lv_goto (tgt := 94) hx hb dX6_tooth_90 (by decide) ?_
              exact g_iret X hP hS (sm_i hf) dX6_tooth_94
          · replace hf := it_f hf h_12
            by_cases h_17 : v_5 = (4 : Int32)
            · replace hf := it_t hf h_17
              refine lv_tableIn (off := 83) (tgt := 95) hx hb dX6_tooth_12 (by rw [h_17]; decide) (by rw [h_17]; decide) (by rw [h_17]; rfl) (by decide) ?_
              refine lv_aload_n hx hb dX6_tooth_95 rfl (lv_at hl 0 rfl) ?_
              refine gf_6_2 X hP kc_0 q1_200 dX6_tooth_96 ?_
              refine lv_iload_n hx hb dX6_tooth_99 rfl (lv_at hl 1 rfl) ?_
              obtain ⟨r_20, M_19, hc_18, hf⟩ := cb_s hf
              refine g_goi (g_run X (c_X5_columnsOf l g kc_3 hc_18) s_X5_columnsOf (oB_5 kc_3) q2_209 ⟨Nat.le_of_ble_eq_true rfl, Nat.le_of_ble_eq_true rfl⟩ hP hS rfl hl.1 rfl (Nat.le_of_ble_eq_true rfl) ⟨Nat.le_refl _, Nat.le_refl _⟩ dX6_tooth_100) hS (fun H locs hP hS => ?_)
              exact g_iret X hP hS (sm_i hf) dX6_tooth_103
            · replace hf := it_f hf h_17
              refine lv_tableOut (tgt := 104) hx hb dX6_tooth_12 (by have n0 := lv_neT (a := 0) h_6 rfl; have n1 := lv_neT (a := 1) h_8 rfl; have n2 := lv_neT (a := 2) h_10 rfl; have n3 := lv_neT (a := 3) h_12 rfl; have n4 := lv_neT (a := 4) h_17 rfl; omega) (by decide) ?_
              refine lv_ldc hx hb X.2.2.2.1 (X.2.2.2.2.1 _ q1_239) dX6_tooth_104 ?_
              exact g_iret X hP hS (sm_i hf) dX6_tooth_106
  · replace hf := it_t hf h_4
    refine lv_ldc hx hb X.2.2.2.1 (X.2.2.2.2.1 _ q1_239) dX6_tooth_8 ?_
    exact g_iret X hP hS (sm_i hf) dX6_tooth_10
def f_X6_pins (x1 : Int32) (M : Mem) : Option (Int32 × Mem) :=
  cb (f_X6_hasColumn x1 M) fun r_3 M_2 =>
  if r_3 = 0 then
    some ((-1000001 : Int32), M_2)
  else
    ck x1 12 <|
    some ((M_2 (3 + 1) x1.toNatClampNeg), M_2)
set_option maxRecDepth 20000 in
theorem c_X6_pins (l : Launch) (g : GC) {x1 : Int32}  {M : Mem} {out : Int32 × Mem} (hf : f_X6_pins x1 M = some out) : cI l g yX6_pins cX6_pins 2 (some .int) (rM 2 43) [.ref (gz g + 0), .int x1] M out := by
  refine g_met (by decide) (Nat.le_of_ble_eq_true rfl) ?_
  intro p e s m below meth c X hP hS ls hl
  have X : Bx p s m _ meth c RX6 cX6_pins 2 (some .int) g := X
  have hl : lv_has ls 2 [(0, .ref (gz g + 0)), (1, .int x1)] := hl
  have hx := X.1
  have hb := X.2.1
  refine lv_aload_n hx hb dX6_pins_0 rfl (lv_at hl 0 rfl) ?_
  refine lv_iload_n hx hb dX6_pins_1 rfl (lv_at hl 1 rfl) ?_
  obtain ⟨r_3, M_2, hc_1, hf⟩ := cb_s hf
  refine g_goi (g_run X (c_X6_hasColumn l g  hc_1) s_X6_hasColumn (oB_6 kc_0) q2_177 ⟨Nat.le_of_ble_eq_true rfl, Nat.le_of_ble_eq_true rfl⟩ hP hS rfl hl.1 rfl (Nat.le_of_ble_eq_true rfl) ⟨Nat.le_refl _, Nat.le_refl _⟩ dX6_pins_2) hS (fun H locs hP hS => ?_)
  refine lv_if_eq (tgt := 20) hx hb dX6_pins_5 (by decide) (fun h_4 => ?_) (fun h_4 => ?_)
  · replace hf := it_t hf h_4
    refine lv_ldc hx hb X.2.2.2.1 (X.2.2.2.2.1 _ q1_239) dX6_pins_20 ?_
    exact g_iret X hP hS (sm_i hf) dX6_pins_22
  · replace hf := it_f hf h_4
    refine lv_aload_n hx hb dX6_pins_8 rfl (lv_at hl 0 rfl) ?_
    refine gf_6_2 X hP kc_0 q1_200 dX6_pins_9 ?_
    refine gf_5_6 X hP kc_3 q1_53 dX6_pins_12 ?_
    refine lv_iload_n hx hb dX6_pins_15 rfl (lv_at hl 1 rfl) ?_
    obtain ⟨hi_5, hf⟩ := ck_s hf
    refine ga_ld X hP (iA_9 (kdW1 kc_3)) hi_5 dX6_pins_16 ?_
    refine lv_goto (tgt := 22) hx hb dX6_pins_17 (by decide) ?_
    exact g_iret X hP hS (sm_i hf) dX6_pins_22
def f_X6_stand (x1 : Int32) (M : Mem) : Option (Int32 × Mem) :=
  cb (f_X6_hasBox M) fun r_3 M_2 =>
  if r_3 = 0 then
    some ((-1000002 : Int32), M_2)
  else
    lt x1 fun v_5 =>
    if v_5 = (0 : Int32) then
      some ((M_2 3 0), M_2)
    else
      if v_5 = (1 : Int32) then
        some ((M_2 3 3), M_2)
      else
        if v_5 = (2 : Int32) then
          some ((M_2 3 2), M_2)
        else
          if v_5 = (3 : Int32) then
            cb (f_X5_loud 3 M_2) fun r_12 M_11 =>
            some (r_12, M_11)
          else
            if v_5 = (4 : Int32) then
              cb (f_X5_ringing 3 M_2) fun r_16 M_15 =>
              some (r_16, M_15)
            else
              if v_5 = (5 : Int32) then
                some ((M_2 3 5), M_2)
              else
                some ((-1000001 : Int32), M_2)
set_option maxRecDepth 20000 in
theorem c_X6_stand (l : Launch) (g : GC) {x1 : Int32}  {M : Mem} {out : Int32 × Mem} (hf : f_X6_stand x1 M = some out) : cI l g yX6_stand cX6_stand 2 (some .int) (rM 1 22) [.ref (gz g + 0), .int x1] M out := by
  refine g_met (by decide) (Nat.le_of_ble_eq_true rfl) ?_
  intro p e s m below meth c X hP hS ls hl
  have X : Bx p s m _ meth c RX6 cX6_stand 2 (some .int) g := X
  have hl : lv_has ls 2 [(0, .ref (gz g + 0)), (1, .int x1)] := hl
  have hx := X.1
  have hb := X.2.1
  refine lv_aload_n hx hb dX6_stand_0 rfl (lv_at hl 0 rfl) ?_
  obtain ⟨r_3, M_2, hc_1, hf⟩ := cb_s hf
  refine g_goi (g_run X (c_X6_hasBox l g  hc_1) s_X6_hasBox (oB_6 kc_0) q2_127 ⟨Nat.le_of_ble_eq_true rfl, Nat.le_of_ble_eq_true rfl⟩ hP hS rfl hl.1 rfl (Nat.le_of_ble_eq_true rfl) ⟨Nat.le_refl _, Nat.le_refl _⟩ dX6_stand_1) hS (fun H locs hP hS => ?_)
  refine lv_if_ne (tgt := 10) hx hb dX6_stand_4 (by decide) (fun h_4 => ?_) (fun h_4 => ?_)
  · replace hf := it_f hf h_4
    refine lv_iload_n hx hb dX6_stand_10 rfl (lv_at hl 1 rfl) ?_
    refine lv_topi (fun v_5 ev_5 => ?_)
    replace hf := lt_go hf ev_5
    by_cases h_6 : v_5 = (0 : Int32)
    · replace hf := it_t hf h_6
      refine lv_tableIn (off := 37) (tgt := 48) hx hb dX6_stand_11 (by rw [h_6]; decide) (by rw [h_6]; decide) (by rw [h_6]; rfl) (by decide) ?_
      refine lv_aload_n hx hb dX6_stand_48 rfl (lv_at hl 0 rfl) ?_
      refine gf_6_2 X hP kc_0 q1_200 dX6_stand_49 ?_
      refine gf_5_0 X hP kc_3 q1_33 dX6_stand_52 ?_
      exact g_iret X hP hS (sm_i hf) dX6_stand_55
    · replace hf := it_f hf h_6
      by_cases h_7 : v_5 = (1 : Int32)
      · replace hf := it_t hf h_7
        refine lv_tableIn (off := 45) (tgt := 56) hx hb dX6_stand_11 (by rw [h_7]; decide) (by rw [h_7]; decide) (by rw [h_7]; rfl) (by decide) ?_
        refine lv_aload_n hx hb dX6_stand_56 rfl (lv_at hl 0 rfl) ?_
        refine gf_6_2 X hP kc_0 q1_200 dX6_stand_57 ?_
        refine gf_5_3 X hP kc_3 q1_45 dX6_stand_60 ?_
        exact g_iret X hP hS (sm_i hf) dX6_stand_63
      · replace hf := it_f hf h_7
        by_cases h_8 : v_5 = (2 : Int32)
        · replace hf := it_t hf h_8
          refine lv_tableIn (off := 53) (tgt := 64) hx hb dX6_stand_11 (by rw [h_8]; decide) (by rw [h_8]; decide) (by rw [h_8]; rfl) (by decide) ?_
          refine lv_aload_n hx hb dX6_stand_64 rfl (lv_at hl 0 rfl) ?_
          refine gf_6_2 X hP kc_0 q1_200 dX6_stand_65 ?_
          refine gf_5_2 X hP kc_3 q1_41 dX6_stand_68 ?_
          exact g_iret X hP hS (sm_i hf) dX6_stand_71
        · replace hf := it_f hf h_8
          by_cases h_9 : v_5 = (3 : Int32)
          · replace hf := it_t hf h_9
            refine lv_tableIn (off := 61) (tgt := 72) hx hb dX6_stand_11 (by rw [h_9]; decide) (by rw [h_9]; decide) (by rw [h_9]; rfl) (by decide) ?_
            refine lv_aload_n hx hb dX6_stand_72 rfl (lv_at hl 0 rfl) ?_
            refine gf_6_2 X hP kc_0 q1_200 dX6_stand_73 ?_
            obtain ⟨r_12, M_11, hc_10, hf⟩ := cb_s hf
            refine g_goi (g_run X (c_X5_loud l g kc_3 hc_10) s_X5_loud (oB_5 kc_3) q2_161 ⟨Nat.le_of_ble_eq_true rfl, Nat.le_of_ble_eq_true rfl⟩ hP hS rfl hl.1 rfl (Nat.le_of_ble_eq_true rfl) ⟨Nat.le_refl _, Nat.le_refl _⟩ dX6_stand_76) hS (fun H locs hP hS => ?_)
            exact g_iret X hP hS (sm_i hf) dX6_stand_79
          · replace hf := it_f hf h_9
            by_cases h_13 : v_5 = (4 : Int32)
            · replace hf := it_t hf h_13
              refine lv_tableIn (off := 69) (tgt := 80) hx hb dX6_stand_11 (by rw [h_13]; decide) (by rw [h_13]; decide) (by rw [h_13]; rfl) (by decide) ?_
              refine lv_aload_n hx hb dX6_stand_80 rfl (lv_at hl 0 rfl) ?_
              refine gf_6_2 X hP kc_0 q1_200 dX6_stand_81 ?_
              obtain ⟨r_16, M_15, hc_14, hf⟩ := cb_s hf
              refine g_goi (g_run X (c_X5_ringing l g kc_3 hc_14) s_X5_ringing (oB_5 kc_3) q2_221 ⟨Nat.le_of_ble_eq_true rfl, Nat.le_of_ble_eq_true rfl⟩ hP hS rfl hl.1 rfl (Nat.le_of_ble_eq_true rfl) ⟨Nat.le_refl _, Nat.le_refl _⟩ dX6_stand_84) hS (fun H locs hP hS => ?_)
              exact g_iret X hP hS (sm_i hf) dX6_stand_87
            · replace hf := it_f hf h_13
              by_cases h_17 : v_5 = (5 : Int32)
              · replace hf := it_t hf h_17
                refine lv_tableIn (off := 77) (tgt := 88) hx hb dX6_stand_11 (by rw [h_17]; decide) (by rw [h_17]; decide) (by rw [h_17]; rfl) (by decide) ?_
                refine lv_aload_n hx hb dX6_stand_88 rfl (lv_at hl 0 rfl) ?_
                refine gf_6_2 X hP kc_0 q1_200 dX6_stand_89 ?_
                refine gf_5_5 X hP kc_3 q1_49 dX6_stand_92 ?_
                exact g_iret X hP hS (sm_i hf) dX6_stand_95
              · replace hf := it_f hf h_17
                refine lv_tableOut (tgt := 96) hx hb dX6_stand_11 (by have n0 := lv_neT (a := 0) h_6 rfl; have n1 := lv_neT (a := 1) h_7 rfl; have n2 := lv_neT (a := 2) h_8 rfl; have n3 := lv_neT (a := 3) h_9 rfl; have n4 := lv_neT (a := 4) h_13 rfl; have n5 := lv_neT (a := 5) h_17 rfl; omega) (by decide) ?_
                refine lv_ldc hx hb X.2.2.2.1 (X.2.2.2.2.1 _ q1_239) dX6_stand_96 ?_
                exact g_iret X hP hS (sm_i hf) dX6_stand_98
  · replace hf := it_t hf h_4
    refine lv_ldc hx hb X.2.2.2.1 (X.2.2.2.2.1 _ q2_117) dX6_stand_7 ?_
    exact g_iret X hP hS (sm_i hf) dX6_stand_9
def f_X6_ahead (x1 : Int32) (x2 : Int32) (x3 : Int32) (M : Mem) : Option (Int32 × Mem) :=
  cb (f_X6_hasTooth x1 M) fun r_3 M_2 =>
  if r_3 = 0 then
    some ((-1000001 : Int32), M_2)
  else
    cb (f_X6_within x2 (0 : Int32) (60 : Int32) M_2) fun r_7 M_6 =>
    if r_7 = 0 then
      some ((-1000001 : Int32), M_6)
    else
      cb (f_X6_within x3 (0 : Int32) (2 : Int32) M_6) fun r_11 M_10 =>
      if r_11 = 0 then
        some ((-1000001 : Int32), M_10)
      else
        cb (f_X3_toothAhead x1 x2 x3 M_10) fun r_15 M_14 =>
        some (r_15, M_14)
set_option maxRecDepth 20000 in
theorem c_X6_ahead (l : Launch) (g : GC) {x1 : Int32} {x2 : Int32} {x3 : Int32}  {M : Mem} {out : Int32 × Mem} (hf : f_X6_ahead x1 x2 x3 M = some out) : cI l g yX6_ahead cX6_ahead 4 (some .int) (rM 6 140) [.ref (gz g + 0), .int x1, .int x2, .int x3] M out := by
  refine g_met (by decide) (Nat.le_of_ble_eq_true rfl) ?_
  intro p e s m below meth c X hP hS ls hl
  have X : Bx p s m _ meth c RX6 cX6_ahead 4 (some .int) g := X
  have hl : lv_has ls 4 [(0, .ref (gz g + 0)), (1, .int x1), (2, .int x2), (3, .int x3)] := hl
  have hx := X.1
  have hb := X.2.1
  refine lv_aload_n hx hb dX6_ahead_0 rfl (lv_at hl 0 rfl) ?_
  refine lv_iload_n hx hb dX6_ahead_1 rfl (lv_at hl 1 rfl) ?_
  obtain ⟨r_3, M_2, hc_1, hf⟩ := cb_s hf
  refine g_goi (g_run X (c_X6_hasTooth l g  hc_1) s_X6_hasTooth (oB_6 kc_0) q2_181 ⟨Nat.le_of_ble_eq_true rfl, Nat.le_of_ble_eq_true rfl⟩ hP hS rfl hl.1 rfl (Nat.le_of_ble_eq_true rfl) ⟨Nat.le_refl _, Nat.le_refl _⟩ dX6_ahead_2) hS (fun H locs hP hS => ?_)
  refine lv_if_eq (tgt := 27) hx hb dX6_ahead_5 (by decide) (fun h_4 => ?_) (fun h_4 => ?_)
  · replace hf := it_t hf h_4
    refine lv_ldc hx hb X.2.2.2.1 (X.2.2.2.2.1 _ q1_239) dX6_ahead_27 ?_
    exact g_iret X hP hS (sm_i hf) dX6_ahead_29
  · replace hf := it_f hf h_4
    refine lv_iload_n hx hb dX6_ahead_8 rfl (lv_at hl 2 rfl) ?_
    refine lv_iconst (v := (0 : Int32)) hx hb dX6_ahead_9 (by decide) ?_
    refine lv_bipush (v := (60 : Int32)) hx hb dX6_ahead_10 (by decide) ?_
    obtain ⟨r_7, M_6, hc_5, hf⟩ := cb_s hf
    refine g_goi (g_runS X (c_X6_within l g  hc_5) s_X6_within q1_236 ⟨Nat.le_of_ble_eq_true rfl, Nat.le_of_ble_eq_true rfl⟩ hP hS rfl hl.1 rfl (Nat.le_of_ble_eq_true rfl) ⟨Nat.le_refl _, Nat.le_refl _⟩ dX6_ahead_12) hS (fun H locs hP hS => ?_)
    refine lv_if_eq (tgt := 27) hx hb dX6_ahead_15 (by decide) (fun h_8 => ?_) (fun h_8 => ?_)
    · replace hf := it_t hf h_8
      refine lv_ldc hx hb X.2.2.2.1 (X.2.2.2.2.1 _ q1_239) dX6_ahead_27 ?_
      exact g_iret X hP hS (sm_i hf) dX6_ahead_29
    · replace hf := it_f hf h_8
      refine lv_iload_n hx hb dX6_ahead_18 rfl (lv_at hl 3 rfl) ?_
      refine lv_iconst (v := (0 : Int32)) hx hb dX6_ahead_19 (by decide) ?_
      refine lv_iconst (v := (2 : Int32)) hx hb dX6_ahead_20 (by decide) ?_
      obtain ⟨r_11, M_10, hc_9, hf⟩ := cb_s hf
      refine g_goi (g_runS X (c_X6_within l g  hc_9) s_X6_within q1_236 ⟨Nat.le_of_ble_eq_true rfl, Nat.le_of_ble_eq_true rfl⟩ hP hS rfl hl.1 rfl (Nat.le_of_ble_eq_true rfl) ⟨Nat.le_refl _, Nat.le_refl _⟩ dX6_ahead_21) hS (fun H locs hP hS => ?_)
      refine lv_if_ne (tgt := 30) hx hb dX6_ahead_24 (by decide) (fun h_12 => ?_) (fun h_12 => ?_)
      · replace hf := it_f hf h_12
        refine lv_aload_n hx hb dX6_ahead_30 rfl (lv_at hl 0 rfl) ?_
        refine gf_6_6 X hP kc_0 q1_204 dX6_ahead_31 ?_
        refine lv_iload_n hx hb dX6_ahead_34 rfl (lv_at hl 1 rfl) ?_
        refine lv_iload_n hx hb dX6_ahead_35 rfl (lv_at hl 2 rfl) ?_
        refine lv_iload_n hx hb dX6_ahead_36 rfl (lv_at hl 3 rfl) ?_
        obtain ⟨r_15, M_14, hc_13, hf⟩ := cb_s hf
        refine g_goi (g_run X (c_X3_toothAhead l g  hc_13) s_X3_toothAhead (oB_3 kc_163) q2_229 ⟨Nat.le_of_ble_eq_true rfl, Nat.le_of_ble_eq_true rfl⟩ hP hS rfl hl.1 rfl (Nat.le_of_ble_eq_true rfl) ⟨Nat.le_refl _, Nat.le_refl _⟩ dX6_ahead_37) hS (fun H locs hP hS => ?_)
        exact g_iret X hP hS (sm_i hf) dX6_ahead_40
      · replace hf := it_t hf h_12
        refine lv_ldc hx hb X.2.2.2.1 (X.2.2.2.2.1 _ q1_239) dX6_ahead_27 ?_
        exact g_iret X hP hS (sm_i hf) dX6_ahead_29
def f_X6_heard (x1 : Int32) (x2 : Int32) (M : Mem) : Option (Int32 × Mem) :=
  cb (f_X6_hasBox M) fun r_3 M_2 =>
  if r_3 = 0 then
    some ((-1000002 : Int32), M_2)
  else
    cb (f_X6_within x1 (0 : Int32) (60 : Int32) M_2) fun r_7 M_6 =>
    if r_7 = 0 then
      some ((-1000001 : Int32), M_6)
    else
      cb (f_X6_within x2 (0 : Int32) (3 : Int32) M_6) fun r_11 M_10 =>
      if r_11 = 0 then
        some ((-1000001 : Int32), M_10)
      else
        cb (f_X3_boxAhead x1 x2 M_10) fun r_15 M_14 =>
        some (r_15, M_14)
set_option maxRecDepth 20000 in
theorem c_X6_heard (l : Launch) (g : GC) {x1 : Int32} {x2 : Int32}  {M : Mem} {out : Int32 × Mem} (hf : f_X6_heard x1 x2 M = some out) : cI l g yX6_heard cX6_heard 3 (some .int) (rM 6 139) [.ref (gz g + 0), .int x1, .int x2] M out := by
  refine g_met (by decide) (Nat.le_of_ble_eq_true rfl) ?_
  intro p e s m below meth c X hP hS ls hl
  have X : Bx p s m _ meth c RX6 cX6_heard 3 (some .int) g := X
  have hl : lv_has ls 3 [(0, .ref (gz g + 0)), (1, .int x1), (2, .int x2)] := hl
  have hx := X.1
  have hb := X.2.1
  refine lv_aload_n hx hb dX6_heard_0 rfl (lv_at hl 0 rfl) ?_
  obtain ⟨r_3, M_2, hc_1, hf⟩ := cb_s hf
  refine g_goi (g_run X (c_X6_hasBox l g  hc_1) s_X6_hasBox (oB_6 kc_0) q2_127 ⟨Nat.le_of_ble_eq_true rfl, Nat.le_of_ble_eq_true rfl⟩ hP hS rfl hl.1 rfl (Nat.le_of_ble_eq_true rfl) ⟨Nat.le_refl _, Nat.le_refl _⟩ dX6_heard_1) hS (fun H locs hP hS => ?_)
  refine lv_if_ne (tgt := 10) hx hb dX6_heard_4 (by decide) (fun h_4 => ?_) (fun h_4 => ?_)
  · replace hf := it_f hf h_4
    refine lv_iload_n hx hb dX6_heard_10 rfl (lv_at hl 1 rfl) ?_
    refine lv_iconst (v := (0 : Int32)) hx hb dX6_heard_11 (by decide) ?_
    refine lv_bipush (v := (60 : Int32)) hx hb dX6_heard_12 (by decide) ?_
    obtain ⟨r_7, M_6, hc_5, hf⟩ := cb_s hf
    refine g_goi (g_runS X (c_X6_within l g  hc_5) s_X6_within q1_236 ⟨Nat.le_of_ble_eq_true rfl, Nat.le_of_ble_eq_true rfl⟩ hP hS rfl hl.1 rfl (Nat.le_of_ble_eq_true rfl) ⟨Nat.le_refl _, Nat.le_refl _⟩ dX6_heard_14) hS (fun H locs hP hS => ?_)
    refine lv_if_eq (tgt := 29) hx hb dX6_heard_17 (by decide) (fun h_8 => ?_) (fun h_8 => ?_)
    · replace hf := it_t hf h_8
      refine lv_ldc hx hb X.2.2.2.1 (X.2.2.2.2.1 _ q1_239) dX6_heard_29 ?_
      exact g_iret X hP hS (sm_i hf) dX6_heard_31
    · replace hf := it_f hf h_8
      refine lv_iload_n hx hb dX6_heard_20 rfl (lv_at hl 2 rfl) ?_
      refine lv_iconst (v := (0 : Int32)) hx hb dX6_heard_21 (by decide) ?_
      refine lv_iconst (v := (3 : Int32)) hx hb dX6_heard_22 (by decide) ?_
      obtain ⟨r_11, M_10, hc_9, hf⟩ := cb_s hf
      refine g_goi (g_runS X (c_X6_within l g  hc_9) s_X6_within q1_236 ⟨Nat.le_of_ble_eq_true rfl, Nat.le_of_ble_eq_true rfl⟩ hP hS rfl hl.1 rfl (Nat.le_of_ble_eq_true rfl) ⟨Nat.le_refl _, Nat.le_refl _⟩ dX6_heard_23) hS (fun H locs hP hS => ?_)
      refine lv_if_ne (tgt := 32) hx hb dX6_heard_26 (by decide) (fun h_12 => ?_) (fun h_12 => ?_)
      · replace hf := it_f hf h_12
        refine lv_aload_n hx hb dX6_heard_32 rfl (lv_at hl 0 rfl) ?_
        refine gf_6_6 X hP kc_0 q1_204 dX6_heard_33 ?_
        refine lv_iload_n hx hb dX6_heard_36 rfl (lv_at hl 1 rfl) ?_
        refine lv_iload_n hx hb dX6_heard_37 rfl (lv_at hl 2 rfl) ?_
        obtain ⟨r_15, M_14, hc_13, hf⟩ := cb_s hf
        refine g_goi (g_run X (c_X3_boxAhead l g  hc_13) s_X3_boxAhead (oB_3 kc_163) q3_8 ⟨Nat.le_of_ble_eq_true rfl, Nat.le_of_ble_eq_true rfl⟩ hP hS rfl hl.1 rfl (Nat.le_of_ble_eq_true rfl) ⟨Nat.le_refl _, Nat.le_refl _⟩ dX6_heard_38) hS (fun H locs hP hS => ?_)
        exact g_iret X hP hS (sm_i hf) dX6_heard_41
      · replace hf := it_t hf h_12
        refine lv_ldc hx hb X.2.2.2.1 (X.2.2.2.2.1 _ q1_239) dX6_heard_29 ?_
        exact g_iret X hP hS (sm_i hf) dX6_heard_31
  · replace hf := it_t hf h_4
    refine lv_ldc hx hb X.2.2.2.1 (X.2.2.2.2.1 _ q2_117) dX6_heard_7 ?_
    exact g_iret X hP hS (sm_i hf) dX6_heard_9
def f_X6_when (x1 : Int32) (x2 : Int32) (M : Mem) : Option (Int32 × Mem) :=
  cb (f_X6_hasTooth x1 M) fun r_3 M_2 =>
  if r_3 = 0 then
    some ((-1000001 : Int32), M_2)
  else
    cb (f_X6_within x2 (0 : Int32) (1 : Int32) M_2) fun r_7 M_6 =>
    if r_7 = 0 then
      some ((-1000001 : Int32), M_6)
    else
      cb (f_X3_firstTick x1 x2 M_6) fun r_11 M_10 =>
      some (r_11, M_10)
set_option maxRecDepth 20000 in
theorem c_X6_when (l : Launch) (g : GC) {x1 : Int32} {x2 : Int32}  {M : Mem} {out : Int32 × Mem} (hf : f_X6_when x1 x2 M = some out) : cI l g yX6_when cX6_when 3 (some .int) (rM 4 98) [.ref (gz g + 0), .int x1, .int x2] M out := by
  refine g_met (by decide) (Nat.le_of_ble_eq_true rfl) ?_
  intro p e s m below meth c X hP hS ls hl
  have X : Bx p s m _ meth c RX6 cX6_when 3 (some .int) g := X
  have hl : lv_has ls 3 [(0, .ref (gz g + 0)), (1, .int x1), (2, .int x2)] := hl
  have hx := X.1
  have hb := X.2.1
  refine lv_aload_n hx hb dX6_when_0 rfl (lv_at hl 0 rfl) ?_
  refine lv_iload_n hx hb dX6_when_1 rfl (lv_at hl 1 rfl) ?_
  obtain ⟨r_3, M_2, hc_1, hf⟩ := cb_s hf
  refine g_goi (g_run X (c_X6_hasTooth l g  hc_1) s_X6_hasTooth (oB_6 kc_0) q2_181 ⟨Nat.le_of_ble_eq_true rfl, Nat.le_of_ble_eq_true rfl⟩ hP hS rfl hl.1 rfl (Nat.le_of_ble_eq_true rfl) ⟨Nat.le_refl _, Nat.le_refl _⟩ dX6_when_2) hS (fun H locs hP hS => ?_)
  refine lv_if_eq (tgt := 17) hx hb dX6_when_5 (by decide) (fun h_4 => ?_) (fun h_4 => ?_)
  · replace hf := it_t hf h_4
    refine lv_ldc hx hb X.2.2.2.1 (X.2.2.2.2.1 _ q1_239) dX6_when_17 ?_
    exact g_iret X hP hS (sm_i hf) dX6_when_19
  · replace hf := it_f hf h_4
    refine lv_iload_n hx hb dX6_when_8 rfl (lv_at hl 2 rfl) ?_
    refine lv_iconst (v := (0 : Int32)) hx hb dX6_when_9 (by decide) ?_
    refine lv_iconst (v := (1 : Int32)) hx hb dX6_when_10 (by decide) ?_
    obtain ⟨r_7, M_6, hc_5, hf⟩ := cb_s hf
    refine g_goi (g_runS X (c_X6_within l g  hc_5) s_X6_within q1_236 ⟨Nat.le_of_ble_eq_true rfl, Nat.le_of_ble_eq_true rfl⟩ hP hS rfl hl.1 rfl (Nat.le_of_ble_eq_true rfl) ⟨Nat.le_refl _, Nat.le_refl _⟩ dX6_when_11) hS (fun H locs hP hS => ?_)
    refine lv_if_ne (tgt := 20) hx hb dX6_when_14 (by decide) (fun h_8 => ?_) (fun h_8 => ?_)
    · replace hf := it_f hf h_8
      refine lv_aload_n hx hb dX6_when_20 rfl (lv_at hl 0 rfl) ?_
      refine gf_6_6 X hP kc_0 q1_204 dX6_when_21 ?_
      refine lv_iload_n hx hb dX6_when_24 rfl (lv_at hl 1 rfl) ?_
      refine lv_iload_n hx hb dX6_when_25 rfl (lv_at hl 2 rfl) ?_
      obtain ⟨r_11, M_10, hc_9, hf⟩ := cb_s hf
      refine g_goi (g_run X (c_X3_firstTick l g  hc_9) s_X3_firstTick (oB_3 kc_163) q3_18 ⟨Nat.le_of_ble_eq_true rfl, Nat.le_of_ble_eq_true rfl⟩ hP hS rfl hl.1 rfl (Nat.le_of_ble_eq_true rfl) ⟨Nat.le_refl _, Nat.le_refl _⟩ dX6_when_26) hS (fun H locs hP hS => ?_)
      exact g_iret X hP hS (sm_i hf) dX6_when_29
    · replace hf := it_t hf h_8
      refine lv_ldc hx hb X.2.2.2.1 (X.2.2.2.2.1 _ q1_239) dX6_when_17 ?_
      exact g_iret X hP hS (sm_i hf) dX6_when_19
def f_X6_stops  (M : Mem) : Option (Int32 × Mem) :=
  cb (f_X6_hasBox M) fun r_3 M_2 =>
  if r_3 = 0 then
    some ((-1000002 : Int32), M_2)
  else
    cb (f_X3_firstStop M_2) fun r_7 M_6 =>
    some (r_7, M_6)
set_option maxRecDepth 20000 in
theorem c_X6_stops (l : Launch) (g : GC)   {M : Mem} {out : Int32 × Mem} (hf : f_X6_stops  M = some out) : cI l g yX6_stops cX6_stops 1 (some .int) (rM 4 95) [.ref (gz g + 0)] M out := by
  refine g_met (by decide) (Nat.le_of_ble_eq_true rfl) ?_
  intro p e s m below meth c X hP hS ls hl
  have X : Bx p s m _ meth c RX6 cX6_stops 1 (some .int) g := X
  have hl : lv_has ls 1 [(0, .ref (gz g + 0))] := hl
  have hx := X.1
  have hb := X.2.1
  refine lv_aload_n hx hb dX6_stops_0 rfl (lv_at hl 0 rfl) ?_
  obtain ⟨r_3, M_2, hc_1, hf⟩ := cb_s hf
  refine g_goi (g_run X (c_X6_hasBox l g  hc_1) s_X6_hasBox (oB_6 kc_0) q2_127 ⟨Nat.le_of_ble_eq_true rfl, Nat.le_of_ble_eq_true rfl⟩ hP hS rfl hl.1 rfl (Nat.le_of_ble_eq_true rfl) ⟨Nat.le_refl _, Nat.le_refl _⟩ dX6_stops_1) hS (fun H locs hP hS => ?_)
  refine lv_if_eq (tgt := 17) hx hb dX6_stops_4 (by decide) (fun h_4 => ?_) (fun h_4 => ?_)
  · replace hf := it_t hf h_4
    refine lv_ldc hx hb X.2.2.2.1 (X.2.2.2.2.1 _ q2_117) dX6_stops_17 ?_
    exact g_iret X hP hS (sm_i hf) dX6_stops_19
  · replace hf := it_f hf h_4
    refine lv_aload_n hx hb dX6_stops_7 rfl (lv_at hl 0 rfl) ?_
    refine gf_6_6 X hP kc_0 q1_204 dX6_stops_8 ?_
    obtain ⟨r_7, M_6, hc_5, hf⟩ := cb_s hf
    refine g_goi (g_run X (c_X3_firstStop l g  hc_5) s_X3_firstStop (oB_3 kc_163) q3_28 ⟨Nat.le_of_ble_eq_true rfl, Nat.le_of_ble_eq_true rfl⟩ hP hS rfl hl.1 rfl (Nat.le_of_ble_eq_true rfl) ⟨Nat.le_refl _, Nat.le_refl _⟩ dX6_stops_11) hS (fun H locs hP hS => ?_)
    refine lv_goto (tgt := 19) hx hb dX6_stops_14 (by decide) ?_
    exact g_iret X hP hS (sm_i hf) dX6_stops_19
def f_X6_bestPin (x1 : Int32) (x2 : Int32) (M : Mem) : Option (Int32 × Mem) :=
  cb (f_X6_hasBox M) fun r_3 M_2 =>
  if r_3 = 0 then
    some ((-1000002 : Int32), M_2)
  else
    cb (f_X6_within x1 (1 : Int32) (20 : Int32) M_2) fun r_7 M_6 =>
    if r_7 = 0 then
      some ((-1000001 : Int32), M_6)
    else
      cb (f_X6_within x2 (0 : Int32) (1 : Int32) M_6) fun r_11 M_10 =>
      if r_11 = 0 then
        some ((-1000001 : Int32), M_10)
      else
        cb (f_X3_loudestPin x1 x2 M_10) fun r_15 M_14 =>
        some (r_15, M_14)
set_option maxRecDepth 20000 in
theorem c_X6_bestPin (l : Launch) (g : GC) {x1 : Int32} {x2 : Int32}  {M : Mem} {out : Int32 × Mem} (hf : f_X6_bestPin x1 x2 M = some out) : cI l g yX6_bestPin cX6_bestPin 3 (some .int) (rM 5 124) [.ref (gz g + 0), .int x1, .int x2] M out := by
  refine g_met (by decide) (Nat.le_of_ble_eq_true rfl) ?_
  intro p e s m below meth c X hP hS ls hl
  have X : Bx p s m _ meth c RX6 cX6_bestPin 3 (some .int) g := X
  have hl : lv_has ls 3 [(0, .ref (gz g + 0)), (1, .int x1), (2, .int x2)] := hl
  have hx := X.1
  have hb := X.2.1
  refine lv_aload_n hx hb dX6_bestPin_0 rfl (lv_at hl 0 rfl) ?_
  obtain ⟨r_3, M_2, hc_1, hf⟩ := cb_s hf
  refine g_goi (g_run X (c_X6_hasBox l g  hc_1) s_X6_hasBox (oB_6 kc_0) q2_127 ⟨Nat.le_of_ble_eq_true rfl, Nat.le_of_ble_eq_true rfl⟩ hP hS rfl hl.1 rfl (Nat.le_of_ble_eq_true rfl) ⟨Nat.le_refl _, Nat.le_refl _⟩ dX6_bestPin_1) hS (fun H locs hP hS => ?_)
  refine lv_if_ne (tgt := 10) hx hb dX6_bestPin_4 (by decide) (fun h_4 => ?_) (fun h_4 => ?_)
  · replace hf := it_f hf h_4
    refine lv_iload_n hx hb dX6_bestPin_10 rfl (lv_at hl 1 rfl) ?_
    refine lv_iconst (v := (1 : Int32)) hx hb dX6_bestPin_11 (by decide) ?_
    refine lv_bipush (v := (20 : Int32)) hx hb dX6_bestPin_12 (by decide) ?_
    obtain ⟨r_7, M_6, hc_5, hf⟩ := cb_s hf
    refine g_goi (g_runS X (c_X6_within l g  hc_5) s_X6_within q1_236 ⟨Nat.le_of_ble_eq_true rfl, Nat.le_of_ble_eq_true rfl⟩ hP hS rfl hl.1 rfl (Nat.le_of_ble_eq_true rfl) ⟨Nat.le_refl _, Nat.le_refl _⟩ dX6_bestPin_14) hS (fun H locs hP hS => ?_)
    refine lv_if_eq (tgt := 29) hx hb dX6_bestPin_17 (by decide) (fun h_8 => ?_) (fun h_8 => ?_)
    · replace hf := it_t hf h_8
      refine lv_ldc hx hb X.2.2.2.1 (X.2.2.2.2.1 _ q1_239) dX6_bestPin_29 ?_
      exact g_iret X hP hS (sm_i hf) dX6_bestPin_31
    · replace hf := it_f hf h_8
      refine lv_iload_n hx hb dX6_bestPin_20 rfl (lv_at hl 2 rfl) ?_
      refine lv_iconst (v := (0 : Int32)) hx hb dX6_bestPin_21 (by decide) ?_
      refine lv_iconst (v := (1 : Int32)) hx hb dX6_bestPin_22 (by decide) ?_
      obtain ⟨r_11, M_10, hc_9, hf⟩ := cb_s hf
      refine g_goi (g_runS X (c_X6_within l g  hc_9) s_X6_within q1_236 ⟨Nat.le_of_ble_eq_true rfl, Nat.le_of_ble_eq_true rfl⟩ hP hS rfl hl.1 rfl (Nat.le_of_ble_eq_true rfl) ⟨Nat.le_refl _, Nat.le_refl _⟩ dX6_bestPin_23) hS (fun H locs hP hS => ?_)
      refine lv_if_ne (tgt := 32) hx hb dX6_bestPin_26 (by decide) (fun h_12 => ?_) (fun h_12 => ?_)
      · replace hf := it_f hf h_12
        refine lv_aload_n hx hb dX6_bestPin_32 rfl (lv_at hl 0 rfl) ?_
        refine gf_6_6 X hP kc_0 q1_204 dX6_bestPin_33 ?_
        refine lv_iload_n hx hb dX6_bestPin_36 rfl (lv_at hl 1 rfl) ?_
        refine lv_iload_n hx hb dX6_bestPin_37 rfl (lv_at hl 2 rfl) ?_
        obtain ⟨r_15, M_14, hc_13, hf⟩ := cb_s hf
        refine g_goi (g_run X (c_X3_loudestPin l g  hc_13) s_X3_loudestPin (oB_3 kc_163) q3_36 ⟨Nat.le_of_ble_eq_true rfl, Nat.le_of_ble_eq_true rfl⟩ hP hS rfl hl.1 rfl (Nat.le_of_ble_eq_true rfl) ⟨Nat.le_refl _, Nat.le_refl _⟩ dX6_bestPin_38) hS (fun H locs hP hS => ?_)
        exact g_iret X hP hS (sm_i hf) dX6_bestPin_41
      · replace hf := it_t hf h_12
        refine lv_ldc hx hb X.2.2.2.1 (X.2.2.2.2.1 _ q1_239) dX6_bestPin_29 ?_
        exact g_iret X hP hS (sm_i hf) dX6_bestPin_31
  · replace hf := it_t hf h_4
    refine lv_ldc hx hb X.2.2.2.1 (X.2.2.2.2.1 _ q2_117) dX6_bestPin_7 ?_
    exact g_iret X hP hS (sm_i hf) dX6_bestPin_9
def f_X6_begin (x1 : Int32) (x2 : Int32) (M : Mem) : Option (Int32 × Mem) :=
  cb (f_X6_hasBox M) fun r_3 M_2 =>
  if r_3 = 0 then
    some ((-1000002 : Int32), M_2)
  else
    cb (f_X6_within x1 (1 : Int32) (40 : Int32) M_2) fun r_7 M_6 =>
    if r_7 = 0 then
      some ((-1000001 : Int32), M_6)
    else
      cb (f_X6_within x2 (0 : Int32) (1 : Int32) M_6) fun r_11 M_10 =>
      if r_11 = 0 then
        some ((-1000001 : Int32), M_10)
      else
        cb (f_X3_loudestColumn x1 x2 M_10) fun r_15 M_14 =>
        some (r_15, M_14)
set_option maxRecDepth 20000 in
theorem c_X6_begin (l : Launch) (g : GC) {x1 : Int32} {x2 : Int32}  {M : Mem} {out : Int32 × Mem} (hf : f_X6_begin x1 x2 M = some out) : cI l g yX6_begin cX6_begin 3 (some .int) (rM 5 123) [.ref (gz g + 0), .int x1, .int x2] M out := by
  refine g_met (by decide) (Nat.le_of_ble_eq_true rfl) ?_
  intro p e s m below meth c X hP hS ls hl
  have X : Bx p s m _ meth c RX6 cX6_begin 3 (some .int) g := X
  have hl : lv_has ls 3 [(0, .ref (gz g + 0)), (1, .int x1), (2, .int x2)] := hl
  have hx := X.1
  have hb := X.2.1
  refine lv_aload_n hx hb dX6_begin_0 rfl (lv_at hl 0 rfl) ?_
  obtain ⟨r_3, M_2, hc_1, hf⟩ := cb_s hf
  refine g_goi (g_run X (c_X6_hasBox l g  hc_1) s_X6_hasBox (oB_6 kc_0) q2_127 ⟨Nat.le_of_ble_eq_true rfl, Nat.le_of_ble_eq_true rfl⟩ hP hS rfl hl.1 rfl (Nat.le_of_ble_eq_true rfl) ⟨Nat.le_refl _, Nat.le_refl _⟩ dX6_begin_1) hS (fun H locs hP hS => ?_)
  refine lv_if_ne (tgt := 10) hx hb dX6_begin_4 (by decide) (fun h_4 => ?_) (fun h_4 => ?_)
  · replace hf := it_f hf h_4
    refine lv_iload_n hx hb dX6_begin_10 rfl (lv_at hl 1 rfl) ?_
    refine lv_iconst (v := (1 : Int32)) hx hb dX6_begin_11 (by decide) ?_
    refine lv_bipush (v := (40 : Int32)) hx hb dX6_begin_12 (by decide) ?_
    obtain ⟨r_7, M_6, hc_5, hf⟩ := cb_s hf
    refine g_goi (g_runS X (c_X6_within l g  hc_5) s_X6_within q1_236 ⟨Nat.le_of_ble_eq_true rfl, Nat.le_of_ble_eq_true rfl⟩ hP hS rfl hl.1 rfl (Nat.le_of_ble_eq_true rfl) ⟨Nat.le_refl _, Nat.le_refl _⟩ dX6_begin_14) hS (fun H locs hP hS => ?_)
    refine lv_if_eq (tgt := 29) hx hb dX6_begin_17 (by decide) (fun h_8 => ?_) (fun h_8 => ?_)
    · replace hf := it_t hf h_8
      refine lv_ldc hx hb X.2.2.2.1 (X.2.2.2.2.1 _ q1_239) dX6_begin_29 ?_
      exact g_iret X hP hS (sm_i hf) dX6_begin_31
    · replace hf := it_f hf h_8
      refine lv_iload_n hx hb dX6_begin_20 rfl (lv_at hl 2 rfl) ?_
      refine lv_iconst (v := (0 : Int32)) hx hb dX6_begin_21 (by decide) ?_
      refine lv_iconst (v := (1 : Int32)) hx hb dX6_begin_22 (by decide) ?_
      obtain ⟨r_11, M_10, hc_9, hf⟩ := cb_s hf
      refine g_goi (g_runS X (c_X6_within l g  hc_9) s_X6_within q1_236 ⟨Nat.le_of_ble_eq_true rfl, Nat.le_of_ble_eq_true rfl⟩ hP hS rfl hl.1 rfl (Nat.le_of_ble_eq_true rfl) ⟨Nat.le_refl _, Nat.le_refl _⟩ dX6_begin_23) hS (fun H locs hP hS => ?_)
      refine lv_if_ne (tgt := 32) hx hb dX6_begin_26 (by decide) (fun h_12 => ?_) (fun h_12 => ?_)
      · replace hf := it_f hf h_12
        refine lv_aload_n hx hb dX6_begin_32 rfl (lv_at hl 0 rfl) ?_
        refine gf_6_6 X hP kc_0 q1_204 dX6_begin_33 ?_
        refine lv_iload_n hx hb dX6_begin_36 rfl (lv_at hl 1 rfl) ?_
        refine lv_iload_n hx hb dX6_begin_37 rfl (lv_at hl 2 rfl) ?_
        obtain ⟨r_15, M_14, hc_13, hf⟩ := cb_s hf
        refine g_goi (g_run X (c_X3_loudestColumn l g  hc_13) s_X3_loudestColumn (oB_3 kc_163) q3_50 ⟨Nat.le_of_ble_eq_true rfl, Nat.le_of_ble_eq_true rfl⟩ hP hS rfl hl.1 rfl (Nat.le_of_ble_eq_true rfl) ⟨Nat.le_refl _, Nat.le_refl _⟩ dX6_begin_38) hS (fun H locs hP hS => ?_)
        exact g_iret X hP hS (sm_i hf) dX6_begin_41
      · replace hf := it_t hf h_12
        refine lv_ldc hx hb X.2.2.2.1 (X.2.2.2.2.1 _ q1_239) dX6_begin_29 ?_
        exact g_iret X hP hS (sm_i hf) dX6_begin_31
  · replace hf := it_t hf h_4
    refine lv_ldc hx hb X.2.2.2.1 (X.2.2.2.2.1 _ q2_117) dX6_begin_7 ?_
    exact g_iret X hP hS (sm_i hf) dX6_begin_9
def f_X6_least (x1 : Int32) (M : Mem) : Option (Int32 × Mem) :=
  cb (f_X6_hasBox M) fun r_3 M_2 =>
  if r_3 = 0 then
    some ((-1000002 : Int32), M_2)
  else
    cb (f_X6_within x1 (1 : Int32) (40 : Int32) M_2) fun r_7 M_6 =>
    if r_7 = 0 then
      some ((-1000001 : Int32), M_6)
    else
      cb (f_X3_leastSpring x1 M_6) fun r_11 M_10 =>
      some (r_11, M_10)
set_option maxRecDepth 20000 in
theorem c_X6_least (l : Launch) (g : GC) {x1 : Int32}  {M : Mem} {out : Int32 × Mem} (hf : f_X6_least x1 M = some out) : cI l g yX6_least cX6_least 2 (some .int) (rM 4 97) [.ref (gz g + 0), .int x1] M out := by
  refine g_met (by decide) (Nat.le_of_ble_eq_true rfl) ?_
  intro p e s m below meth c X hP hS ls hl
  have X : Bx p s m _ meth c RX6 cX6_least 2 (some .int) g := X
  have hl : lv_has ls 2 [(0, .ref (gz g + 0)), (1, .int x1)] := hl
  have hx := X.1
  have hb := X.2.1
  refine lv_aload_n hx hb dX6_least_0 rfl (lv_at hl 0 rfl) ?_
  obtain ⟨r_3, M_2, hc_1, hf⟩ := cb_s hf
  refine g_goi (g_run X (c_X6_hasBox l g  hc_1) s_X6_hasBox (oB_6 kc_0) q2_127 ⟨Nat.le_of_ble_eq_true rfl, Nat.le_of_ble_eq_true rfl⟩ hP hS rfl hl.1 rfl (Nat.le_of_ble_eq_true rfl) ⟨Nat.le_refl _, Nat.le_refl _⟩ dX6_least_1) hS (fun H locs hP hS => ?_)
  refine lv_if_ne (tgt := 10) hx hb dX6_least_4 (by decide) (fun h_4 => ?_) (fun h_4 => ?_)
  · replace hf := it_f hf h_4
    refine lv_iload_n hx hb dX6_least_10 rfl (lv_at hl 1 rfl) ?_
    refine lv_iconst (v := (1 : Int32)) hx hb dX6_least_11 (by decide) ?_
    refine lv_bipush (v := (40 : Int32)) hx hb dX6_least_12 (by decide) ?_
    obtain ⟨r_7, M_6, hc_5, hf⟩ := cb_s hf
    refine g_goi (g_runS X (c_X6_within l g  hc_5) s_X6_within q1_236 ⟨Nat.le_of_ble_eq_true rfl, Nat.le_of_ble_eq_true rfl⟩ hP hS rfl hl.1 rfl (Nat.le_of_ble_eq_true rfl) ⟨Nat.le_refl _, Nat.le_refl _⟩ dX6_least_14) hS (fun H locs hP hS => ?_)
    refine lv_if_ne (tgt := 23) hx hb dX6_least_17 (by decide) (fun h_8 => ?_) (fun h_8 => ?_)
    · replace hf := it_f hf h_8
      refine lv_aload_n hx hb dX6_least_23 rfl (lv_at hl 0 rfl) ?_
      refine gf_6_6 X hP kc_0 q1_204 dX6_least_24 ?_
      refine lv_iload_n hx hb dX6_least_27 rfl (lv_at hl 1 rfl) ?_
      obtain ⟨r_11, M_10, hc_9, hf⟩ := cb_s hf
      refine g_goi (g_run X (c_X3_leastSpring l g  hc_9) s_X3_leastSpring (oB_3 kc_163) q3_58 ⟨Nat.le_of_ble_eq_true rfl, Nat.le_of_ble_eq_true rfl⟩ hP hS rfl hl.1 rfl (Nat.le_of_ble_eq_true rfl) ⟨Nat.le_refl _, Nat.le_refl _⟩ dX6_least_28) hS (fun H locs hP hS => ?_)
      exact g_iret X hP hS (sm_i hf) dX6_least_31
    · replace hf := it_t hf h_8
      refine lv_ldc hx hb X.2.2.2.1 (X.2.2.2.2.1 _ q1_239) dX6_least_20 ?_
      exact g_iret X hP hS (sm_i hf) dX6_least_22
  · replace hf := it_t hf h_4
    refine lv_ldc hx hb X.2.2.2.1 (X.2.2.2.2.1 _ q2_117) dX6_least_7 ?_
    exact g_iret X hP hS (sm_i hf) dX6_least_9
def f_X6_tune (x1 : Int32) (x2 : Int32) (x3 : Int32) (M : Mem) : Option (Int32 × Mem) :=
  cb (f_X6_hasBox M) fun r_3 M_2 =>
  if r_3 = 0 then
    some ((-1000002 : Int32), M_2)
  else
    cb (f_X6_isRow x1 M_2) fun r_7 M_6 =>
    if r_7 = 0 then
      some ((-1000001 : Int32), M_6)
    else
      cb (f_X6_within x3 (1 : Int32) (12 : Int32) M_6) fun r_11 M_10 =>
      if r_11 = 0 then
        some ((-1000001 : Int32), M_10)
      else
        ck x1 8 <|
        cb (f_X6_findingOf (251 + 2 * x1.toNatClampNeg) x2 x3 M_10) fun r_16 M_15 =>
        if r_16 = 0 then
          ck x1 8 <|
          cb (f_X3_columnsOfTune (251 + 2 * x1.toNatClampNeg) x2 x3 M_15) fun r_21 M_20 =>
          cb (f_X6_unfound r_21 M_20) fun r_24 M_23 =>
          some (r_24, M_23)
        else
          cb (f_X6_found r_16 M_15) fun r_27 M_26 =>
          some (r_27, M_26)
set_option maxRecDepth 20000 in
theorem c_X6_tune (l : Launch) (g : GC) {x1 : Int32} {x2 : Int32} {x3 : Int32}  {M : Mem} {out : Int32 × Mem} (hf : f_X6_tune x1 x2 x3 M = some out) : cI l g yX6_tune cX6_tune 5 (some .int) (rM 2 52) [.ref (gz g + 0), .int x1, .int x2, .int x3] M out := by
  refine g_met (by decide) (Nat.le_of_ble_eq_true rfl) ?_
  intro p e s m below meth c X hP hS ls hl
  have X : Bx p s m _ meth c RX6 cX6_tune 5 (some .int) g := X
  have hl : lv_has ls 5 [(0, .ref (gz g + 0)), (1, .int x1), (2, .int x2), (3, .int x3)] := hl
  have hx := X.1
  have hb := X.2.1
  refine lv_aload_n hx hb dX6_tune_0 rfl (lv_at hl 0 rfl) ?_
  obtain ⟨r_3, M_2, hc_1, hf⟩ := cb_s hf
  refine g_goi (g_run X (c_X6_hasBox l g  hc_1) s_X6_hasBox (oB_6 kc_0) q2_127 ⟨Nat.le_of_ble_eq_true rfl, Nat.le_of_ble_eq_true rfl⟩ hP hS rfl hl.1 rfl (Nat.le_of_ble_eq_true rfl) ⟨Nat.le_refl _, Nat.le_refl _⟩ dX6_tune_1) hS (fun H locs hP hS => ?_)
  refine lv_if_ne (tgt := 10) hx hb dX6_tune_4 (by decide) (fun h_4 => ?_) (fun h_4 => ?_)
  · replace hf := it_f hf h_4
    refine lv_iload_n hx hb dX6_tune_10 rfl (lv_at hl 1 rfl) ?_
    obtain ⟨r_7, M_6, hc_5, hf⟩ := cb_s hf
    refine g_goi (g_runS X (c_X6_isRow l g  hc_5) s_X6_isRow q1_233 ⟨Nat.le_of_ble_eq_true rfl, Nat.le_of_ble_eq_true rfl⟩ hP hS rfl hl.1 rfl (Nat.le_of_ble_eq_true rfl) ⟨Nat.le_refl _, Nat.le_refl _⟩ dX6_tune_11) hS (fun H locs hP hS => ?_)
    refine lv_if_eq (tgt := 27) hx hb dX6_tune_14 (by decide) (fun h_8 => ?_) (fun h_8 => ?_)
    · replace hf := it_t hf h_8
      refine lv_ldc hx hb X.2.2.2.1 (X.2.2.2.2.1 _ q1_239) dX6_tune_27 ?_
      exact g_iret X hP hS (sm_i hf) dX6_tune_29
    · replace hf := it_f hf h_8
      refine lv_iload_n hx hb dX6_tune_17 rfl (lv_at hl 3 rfl) ?_
      refine lv_iconst (v := (1 : Int32)) hx hb dX6_tune_18 (by decide) ?_
      refine lv_bipush (v := (12 : Int32)) hx hb dX6_tune_19 (by decide) ?_
      obtain ⟨r_11, M_10, hc_9, hf⟩ := cb_s hf
      refine g_goi (g_runS X (c_X6_within l g  hc_9) s_X6_within q1_236 ⟨Nat.le_of_ble_eq_true rfl, Nat.le_of_ble_eq_true rfl⟩ hP hS rfl hl.1 rfl (Nat.le_of_ble_eq_true rfl) ⟨Nat.le_refl _, Nat.le_refl _⟩ dX6_tune_21) hS (fun H locs hP hS => ?_)
      refine lv_if_ne (tgt := 30) hx hb dX6_tune_24 (by decide) (fun h_12 => ?_) (fun h_12 => ?_)
      · replace hf := it_f hf h_12
        refine lv_aload_n hx hb dX6_tune_30 rfl (lv_at hl 0 rfl) ?_
        refine gf_6_0 X hP kc_0 q1_198 dX6_tune_31 ?_
        refine lv_iload_n hx hb dX6_tune_34 rfl (lv_at hl 1 rfl) ?_
        obtain ⟨hi_13, hf⟩ := ck_s hf
        refine gr_rows X hP kc_1 hi_13 dX6_tune_35 ?_
        refine lv_iload_n hx hb dX6_tune_36 rfl (lv_at hl 2 rfl) ?_
        refine lv_iload_n hx hb dX6_tune_37 rfl (lv_at hl 3 rfl) ?_
        obtain ⟨r_16, M_15, hc_14, hf⟩ := cb_s hf
        refine g_goi (g_runS X (c_X6_findingOf l g (kd_rows hi_13) hc_14) s_X6_findingOf q2_20 ⟨Nat.le_of_ble_eq_true rfl, Nat.le_of_ble_eq_true rfl⟩ hP hS rfl hl.1 rfl (Nat.le_of_ble_eq_true rfl) ⟨Nat.le_refl _, Nat.le_refl _⟩ dX6_tune_38) hS (fun H locs hP hS => ?_)
        refine lv_istore (lv' := [(4, .int r_16), (0, .ref (gz g + 0)), (1, .int x1), (2, .int x2), (3, .int x3)]) hx hb dX6_tune_41 hl (by decide) rfl (fun ls hl => ?_)
        refine lv_iload hx hb dX6_tune_43 (lv_at hl 0 rfl) ?_
        refine lv_if_eq (tgt := 55) hx hb dX6_tune_45 (by decide) (fun h_17 => ?_) (fun h_17 => ?_)
        · replace hf := it_t hf h_17
          refine lv_aload_n hx hb dX6_tune_55 rfl (lv_at hl 1 rfl) ?_
          refine lv_aload_n hx hb dX6_tune_56 rfl (lv_at hl 1 rfl) ?_
          refine gf_6_6 X hP kc_0 q1_204 dX6_tune_57 ?_
          refine lv_aload_n hx hb dX6_tune_60 rfl (lv_at hl 1 rfl) ?_
          refine gf_6_0 X hP kc_0 q1_198 dX6_tune_61 ?_
          refine lv_iload_n hx hb dX6_tune_64 rfl (lv_at hl 2 rfl) ?_
          obtain ⟨hi_18, hf⟩ := ck_s hf
          refine gr_rows X hP kc_1 hi_18 dX6_tune_65 ?_
          refine lv_iload_n hx hb dX6_tune_66 rfl (lv_at hl 3 rfl) ?_
          refine lv_iload_n hx hb dX6_tune_67 rfl (lv_at hl 4 rfl) ?_
          obtain ⟨r_21, M_20, hc_19, hf⟩ := cb_s hf
          refine g_goi (g_run X (c_X3_columnsOfTune l g (kd_rows hi_18) hc_19) s_X3_columnsOfTune (oB_3 kc_163) q3_66 ⟨Nat.le_of_ble_eq_true rfl, Nat.le_of_ble_eq_true rfl⟩ hP hS rfl hl.1 rfl (Nat.le_of_ble_eq_true rfl) ⟨Nat.le_refl _, Nat.le_refl _⟩ dX6_tune_68) hS (fun H locs hP hS => ?_)
          obtain ⟨r_24, M_23, hc_22, hf⟩ := cb_s hf
          refine g_goi (g_run X (c_X6_unfound l g  hc_22) s_X6_unfound (oB_6 kc_0) q2_12 ⟨Nat.le_of_ble_eq_true rfl, Nat.le_of_ble_eq_true rfl⟩ hP hS rfl hl.1 rfl (Nat.le_of_ble_eq_true rfl) ⟨Nat.le_refl _, Nat.le_refl _⟩ dX6_tune_71) hS (fun H locs hP hS => ?_)
          exact g_iret X hP hS (sm_i hf) dX6_tune_74
        · replace hf := it_f hf h_17
          refine lv_aload_n hx hb dX6_tune_48 rfl (lv_at hl 1 rfl) ?_
          refine lv_iload hx hb dX6_tune_49 (lv_at hl 0 rfl) ?_
          obtain ⟨r_27, M_26, hc_25, hf⟩ := cb_s hf
          refine g_goi (g_run X (c_X6_found l g  hc_25) s_X6_found (oB_6 kc_0) q2_0 ⟨Nat.le_of_ble_eq_true rfl, Nat.le_of_ble_eq_true rfl⟩ hP hS rfl hl.1 rfl (Nat.le_of_ble_eq_true rfl) ⟨Nat.le_refl _, Nat.le_refl _⟩ dX6_tune_51) hS (fun H locs hP hS => ?_)
          exact g_iret X hP hS (sm_i hf) dX6_tune_54
      · replace hf := it_t hf h_12
        refine lv_ldc hx hb X.2.2.2.1 (X.2.2.2.2.1 _ q1_239) dX6_tune_27 ?_
        exact g_iret X hP hS (sm_i hf) dX6_tune_29
  · replace hf := it_t hf h_4
    refine lv_ldc hx hb X.2.2.2.1 (X.2.2.2.2.1 _ q2_117) dX6_tune_7 ?_
    exact g_iret X hP hS (sm_i hf) dX6_tune_9
def f_X6_sets (x1 : Int32) (x2 : Int32) (M : Mem) : Option (Int32 × Mem) :=
  cb (f_X6_hasBox M) fun r_3 M_2 =>
  if r_3 = 0 then
    some ((-1000002 : Int32), M_2)
  else
    cb (f_X6_within x1 (0 : Int32) (99 : Int32) M_2) fun r_7 M_6 =>
    if r_7 = 0 then
      some ((-1000001 : Int32), M_6)
    else
      cb (f_X6_within x2 (0 : Int32) (2 : Int32) M_6) fun r_11 M_10 =>
      if r_11 = 0 then
        some ((-1000001 : Int32), M_10)
      else
        cb (f_X3_setsThatRing x1 x2 M_10) fun r_15 M_14 =>
        some (r_15, M_14)
set_option maxRecDepth 20000 in
theorem c_X6_sets (l : Launch) (g : GC) {x1 : Int32} {x2 : Int32}  {M : Mem} {out : Int32 × Mem} (hf : f_X6_sets x1 x2 M = some out) : cI l g yX6_sets cX6_sets 3 (some .int) (rM 2 50) [.ref (gz g + 0), .int x1, .int x2] M out := by
  refine g_met (by decide) (Nat.le_of_ble_eq_true rfl) ?_
  intro p e s m below meth c X hP hS ls hl
  have X : Bx p s m _ meth c RX6 cX6_sets 3 (some .int) g := X
  have hl : lv_has ls 3 [(0, .ref (gz g + 0)), (1, .int x1), (2, .int x2)] := hl
  have hx := X.1
  have hb := X.2.1
  refine lv_aload_n hx hb dX6_sets_0 rfl (lv_at hl 0 rfl) ?_
  obtain ⟨r_3, M_2, hc_1, hf⟩ := cb_s hf
  refine g_goi (g_run X (c_X6_hasBox l g  hc_1) s_X6_hasBox (oB_6 kc_0) q2_127 ⟨Nat.le_of_ble_eq_true rfl, Nat.le_of_ble_eq_true rfl⟩ hP hS rfl hl.1 rfl (Nat.le_of_ble_eq_true rfl) ⟨Nat.le_refl _, Nat.le_refl _⟩ dX6_sets_1) hS (fun H locs hP hS => ?_)
  refine lv_if_ne (tgt := 10) hx hb dX6_sets_4 (by decide) (fun h_4 => ?_) (fun h_4 => ?_)
  · replace hf := it_f hf h_4
    refine lv_iload_n hx hb dX6_sets_10 rfl (lv_at hl 1 rfl) ?_
    refine lv_iconst (v := (0 : Int32)) hx hb dX6_sets_11 (by decide) ?_
    refine lv_bipush (v := (99 : Int32)) hx hb dX6_sets_12 (by decide) ?_
    obtain ⟨r_7, M_6, hc_5, hf⟩ := cb_s hf
    refine g_goi (g_runS X (c_X6_within l g  hc_5) s_X6_within q1_236 ⟨Nat.le_of_ble_eq_true rfl, Nat.le_of_ble_eq_true rfl⟩ hP hS rfl hl.1 rfl (Nat.le_of_ble_eq_true rfl) ⟨Nat.le_refl _, Nat.le_refl _⟩ dX6_sets_14) hS (fun H locs hP hS => ?_)
    refine lv_if_eq (tgt := 29) hx hb dX6_sets_17 (by decide) (fun h_8 => ?_) (fun h_8 => ?_)
    · replace hf := it_t hf h_8
      refine lv_ldc hx hb X.2.2.2.1 (X.2.2.2.2.1 _ q1_239) dX6_sets_29 ?_
      exact g_iret X hP hS (sm_i hf) dX6_sets_31
    · replace hf := it_f hf h_8
      refine lv_iload_n hx hb dX6_sets_20 rfl (lv_at hl 2 rfl) ?_
      refine lv_iconst (v := (0 : Int32)) hx hb dX6_sets_21 (by decide) ?_
      refine lv_iconst (v := (2 : Int32)) hx hb dX6_sets_22 (by decide) ?_
      obtain ⟨r_11, M_10, hc_9, hf⟩ := cb_s hf
      refine g_goi (g_runS X (c_X6_within l g  hc_9) s_X6_within q1_236 ⟨Nat.le_of_ble_eq_true rfl, Nat.le_of_ble_eq_true rfl⟩ hP hS rfl hl.1 rfl (Nat.le_of_ble_eq_true rfl) ⟨Nat.le_refl _, Nat.le_refl _⟩ dX6_sets_23) hS (fun H locs hP hS => ?_)
      refine lv_if_ne (tgt := 32) hx hb dX6_sets_26 (by decide) (fun h_12 => ?_) (fun h_12 => ?_)
      · replace hf := it_f hf h_12
        refine lv_aload_n hx hb dX6_sets_32 rfl (lv_at hl 0 rfl) ?_
        refine gf_6_6 X hP kc_0 q1_204 dX6_sets_33 ?_
        refine lv_iload_n hx hb dX6_sets_36 rfl (lv_at hl 1 rfl) ?_
        refine lv_iload_n hx hb dX6_sets_37 rfl (lv_at hl 2 rfl) ?_
        obtain ⟨r_15, M_14, hc_13, hf⟩ := cb_s hf
        refine g_goi (g_run X (c_X3_setsThatRing l g  hc_13) s_X3_setsThatRing (oB_3 kc_163) q3_78 ⟨Nat.le_of_ble_eq_true rfl, Nat.le_of_ble_eq_true rfl⟩ hP hS rfl hl.1 rfl (Nat.le_of_ble_eq_true rfl) ⟨Nat.le_refl _, Nat.le_refl _⟩ dX6_sets_38) hS (fun H locs hP hS => ?_)
        exact g_iret X hP hS (sm_i hf) dX6_sets_41
      · replace hf := it_t hf h_12
        refine lv_ldc hx hb X.2.2.2.1 (X.2.2.2.2.1 _ q1_239) dX6_sets_29 ?_
        exact g_iret X hP hS (sm_i hf) dX6_sets_31
  · replace hf := it_t hf h_4
    refine lv_ldc hx hb X.2.2.2.1 (X.2.2.2.2.1 _ q2_117) dX6_sets_7 ?_
    exact g_iret X hP hS (sm_i hf) dX6_sets_9
def f_X6_share (x1 : Int32) (x2 : Int32) (M : Mem) : Option (Int32 × Mem) :=
  cb (f_X6_hasTooth x1 M) fun r_3 M_2 =>
  if r_3 = 0 then
    some ((-1000001 : Int32), M_2)
  else
    cb (f_X6_within x2 (0 : Int32) (999 : Int32) M_2) fun r_7 M_6 =>
    if r_7 = 0 then
      some ((-1000001 : Int32), M_6)
    else
      cb (f_X3_oilFor x1 x2 M_6) fun r_11 M_10 =>
      some (r_11, M_10)
set_option maxRecDepth 20000 in
theorem c_X6_share (l : Launch) (g : GC) {x1 : Int32} {x2 : Int32}  {M : Mem} {out : Int32 × Mem} (hf : f_X6_share x1 x2 M = some out) : cI l g yX6_share cX6_share 3 (some .int) (rM 3 68) [.ref (gz g + 0), .int x1, .int x2] M out := by
  refine g_met (by decide) (Nat.le_of_ble_eq_true rfl) ?_
  intro p e s m below meth c X hP hS ls hl
  have X : Bx p s m _ meth c RX6 cX6_share 3 (some .int) g := X
  have hl : lv_has ls 3 [(0, .ref (gz g + 0)), (1, .int x1), (2, .int x2)] := hl
  have hx := X.1
  have hb := X.2.1
  refine lv_aload_n hx hb dX6_share_0 rfl (lv_at hl 0 rfl) ?_
  refine lv_iload_n hx hb dX6_share_1 rfl (lv_at hl 1 rfl) ?_
  obtain ⟨r_3, M_2, hc_1, hf⟩ := cb_s hf
  refine g_goi (g_run X (c_X6_hasTooth l g  hc_1) s_X6_hasTooth (oB_6 kc_0) q2_181 ⟨Nat.le_of_ble_eq_true rfl, Nat.le_of_ble_eq_true rfl⟩ hP hS rfl hl.1 rfl (Nat.le_of_ble_eq_true rfl) ⟨Nat.le_refl _, Nat.le_refl _⟩ dX6_share_2) hS (fun H locs hP hS => ?_)
  refine lv_if_eq (tgt := 19) hx hb dX6_share_5 (by decide) (fun h_4 => ?_) (fun h_4 => ?_)
  · replace hf := it_t hf h_4
    refine lv_ldc hx hb X.2.2.2.1 (X.2.2.2.2.1 _ q1_239) dX6_share_19 ?_
    exact g_iret X hP hS (sm_i hf) dX6_share_21
  · replace hf := it_f hf h_4
    refine lv_iload_n hx hb dX6_share_8 rfl (lv_at hl 2 rfl) ?_
    refine lv_iconst (v := (0 : Int32)) hx hb dX6_share_9 (by decide) ?_
    refine lv_sipush (v := (999 : Int32)) hx hb dX6_share_10 (by decide) ?_
    obtain ⟨r_7, M_6, hc_5, hf⟩ := cb_s hf
    refine g_goi (g_runS X (c_X6_within l g  hc_5) s_X6_within q1_236 ⟨Nat.le_of_ble_eq_true rfl, Nat.le_of_ble_eq_true rfl⟩ hP hS rfl hl.1 rfl (Nat.le_of_ble_eq_true rfl) ⟨Nat.le_refl _, Nat.le_refl _⟩ dX6_share_13) hS (fun H locs hP hS => ?_)
    refine lv_if_ne (tgt := 22) hx hb dX6_share_16 (by decide) (fun h_8 => ?_) (fun h_8 => ?_)
    · replace hf := it_f hf h_8
      refine lv_aload_n hx hb dX6_share_22 rfl (lv_at hl 0 rfl) ?_
      refine gf_6_6 X hP kc_0 q1_204 dX6_share_23 ?_
      refine lv_iload_n hx hb dX6_share_26 rfl (lv_at hl 1 rfl) ?_
      refine lv_iload_n hx hb dX6_share_27 rfl (lv_at hl 2 rfl) ?_
      obtain ⟨r_11, M_10, hc_9, hf⟩ := cb_s hf
      refine g_goi (g_run X (c_X3_oilFor l g  hc_9) s_X3_oilFor (oB_3 kc_163) q3_90 ⟨Nat.le_of_ble_eq_true rfl, Nat.le_of_ble_eq_true rfl⟩ hP hS rfl hl.1 rfl (Nat.le_of_ble_eq_true rfl) ⟨Nat.le_refl _, Nat.le_refl _⟩ dX6_share_28) hS (fun H locs hP hS => ?_)
      exact g_iret X hP hS (sm_i hf) dX6_share_31
    · replace hf := it_t hf h_8
      refine lv_ldc hx hb X.2.2.2.1 (X.2.2.2.2.1 _ q1_239) dX6_share_19 ?_
      exact g_iret X hP hS (sm_i hf) dX6_share_21
def f_X6_byTurns (x1 : Int32) (x2 : Int32) (M : Mem) : Option (Int32 × Mem) :=
  cb (f_X6_hasBox M) fun r_3 M_2 =>
  if r_3 = 0 then
    some ((-1000002 : Int32), M_2)
  else
    cb (f_X6_within x1 (0 : Int32) (4 : Int32) M_2) fun r_7 M_6 =>
    if r_7 = 0 then
      some ((-1000001 : Int32), M_6)
    else
      cb (f_X6_within x2 (1 : Int32) (20 : Int32) M_6) fun r_11 M_10 =>
      if r_11 = 0 then
        some ((-1000001 : Int32), M_10)
      else
        cb (f_X3_outcomeOfTurns x1 x2 M_10) fun r_15 M_14 =>
        some (r_15, M_14)
set_option maxRecDepth 20000 in
theorem c_X6_byTurns (l : Launch) (g : GC) {x1 : Int32} {x2 : Int32}  {M : Mem} {out : Int32 × Mem} (hf : f_X6_byTurns x1 x2 M = some out) : cI l g yX6_byTurns cX6_byTurns 3 (some .int) (rM 31 791) [.ref (gz g + 0), .int x1, .int x2] M out := by
  refine g_met (by decide) (Nat.le_of_ble_eq_true rfl) ?_
  intro p e s m below meth c X hP hS ls hl
  have X : Bx p s m _ meth c RX6 cX6_byTurns 3 (some .int) g := X
  have hl : lv_has ls 3 [(0, .ref (gz g + 0)), (1, .int x1), (2, .int x2)] := hl
  have hx := X.1
  have hb := X.2.1
  refine lv_aload_n hx hb dX6_byTurns_0 rfl (lv_at hl 0 rfl) ?_
  obtain ⟨r_3, M_2, hc_1, hf⟩ := cb_s hf
  refine g_goi (g_run X (c_X6_hasBox l g  hc_1) s_X6_hasBox (oB_6 kc_0) q2_127 ⟨Nat.le_of_ble_eq_true rfl, Nat.le_of_ble_eq_true rfl⟩ hP hS rfl hl.1 rfl (Nat.le_of_ble_eq_true rfl) ⟨Nat.le_refl _, Nat.le_refl _⟩ dX6_byTurns_1) hS (fun H locs hP hS => ?_)
  refine lv_if_ne (tgt := 10) hx hb dX6_byTurns_4 (by decide) (fun h_4 => ?_) (fun h_4 => ?_)
  · replace hf := it_f hf h_4
    refine lv_iload_n hx hb dX6_byTurns_10 rfl (lv_at hl 1 rfl) ?_
    refine lv_iconst (v := (0 : Int32)) hx hb dX6_byTurns_11 (by decide) ?_
    refine lv_iconst (v := (4 : Int32)) hx hb dX6_byTurns_12 (by decide) ?_
    obtain ⟨r_7, M_6, hc_5, hf⟩ := cb_s hf
    refine g_goi (g_runS X (c_X6_within l g  hc_5) s_X6_within q1_236 ⟨Nat.le_of_ble_eq_true rfl, Nat.le_of_ble_eq_true rfl⟩ hP hS rfl hl.1 rfl (Nat.le_of_ble_eq_true rfl) ⟨Nat.le_refl _, Nat.le_refl _⟩ dX6_byTurns_13) hS (fun H locs hP hS => ?_)
    refine lv_if_eq (tgt := 29) hx hb dX6_byTurns_16 (by decide) (fun h_8 => ?_) (fun h_8 => ?_)
    · replace hf := it_t hf h_8
      refine lv_ldc hx hb X.2.2.2.1 (X.2.2.2.2.1 _ q1_239) dX6_byTurns_29 ?_
      exact g_iret X hP hS (sm_i hf) dX6_byTurns_31
    · replace hf := it_f hf h_8
      refine lv_iload_n hx hb dX6_byTurns_19 rfl (lv_at hl 2 rfl) ?_
      refine lv_iconst (v := (1 : Int32)) hx hb dX6_byTurns_20 (by decide) ?_
      refine lv_bipush (v := (20 : Int32)) hx hb dX6_byTurns_21 (by decide) ?_
      obtain ⟨r_11, M_10, hc_9, hf⟩ := cb_s hf
      refine g_goi (g_runS X (c_X6_within l g  hc_9) s_X6_within q1_236 ⟨Nat.le_of_ble_eq_true rfl, Nat.le_of_ble_eq_true rfl⟩ hP hS rfl hl.1 rfl (Nat.le_of_ble_eq_true rfl) ⟨Nat.le_refl _, Nat.le_refl _⟩ dX6_byTurns_23) hS (fun H locs hP hS => ?_)
      refine lv_if_ne (tgt := 32) hx hb dX6_byTurns_26 (by decide) (fun h_12 => ?_) (fun h_12 => ?_)
      · replace hf := it_f hf h_12
        refine lv_aload_n hx hb dX6_byTurns_32 rfl (lv_at hl 0 rfl) ?_
        refine gf_6_6 X hP kc_0 q1_204 dX6_byTurns_33 ?_
        refine lv_iload_n hx hb dX6_byTurns_36 rfl (lv_at hl 1 rfl) ?_
        refine lv_iload_n hx hb dX6_byTurns_37 rfl (lv_at hl 2 rfl) ?_
        obtain ⟨r_15, M_14, hc_13, hf⟩ := cb_s hf
        refine g_goi (g_run X (c_X3_outcomeOfTurns l g  hc_13) s_X3_outcomeOfTurns (oB_3 kc_163) q3_102 ⟨Nat.le_of_ble_eq_true rfl, Nat.le_of_ble_eq_true rfl⟩ hP hS rfl hl.1 rfl (Nat.le_of_ble_eq_true rfl) ⟨Nat.le_refl _, Nat.le_refl _⟩ dX6_byTurns_38) hS (fun H locs hP hS => ?_)
        exact g_iret X hP hS (sm_i hf) dX6_byTurns_41
      · replace hf := it_t hf h_12
        refine lv_ldc hx hb X.2.2.2.1 (X.2.2.2.2.1 _ q1_239) dX6_byTurns_29 ?_
        exact g_iret X hP hS (sm_i hf) dX6_byTurns_31
  · replace hf := it_t hf h_4
    refine lv_ldc hx hb X.2.2.2.1 (X.2.2.2.2.1 _ q2_117) dX6_byTurns_7 ?_
    exact g_iret X hP hS (sm_i hf) dX6_byTurns_9
def f_X6_who (x1 : Int32) (x2 : Int32) (x3 : Int32) (x4 : Int32) (x5 : Int32) (M : Mem) : Option (Int32 × Mem) :=
  cb (f_X6_hasTooth x1 M) fun r_3 M_2 =>
  if r_3 = 0 then
    some ((-1000001 : Int32), M_2)
  else
    cb (f_X6_within x2 (0 : Int32) (4 : Int32) M_2) fun r_7 M_6 =>
    if r_7 = 0 then
      some ((-1000001 : Int32), M_6)
    else
      cb (f_X6_isRow x3 M_6) fun r_11 M_10 =>
      if r_11 = 0 then
        some ((-1000001 : Int32), M_10)
      else
        cb (f_X6_within x5 (1 : Int32) (12 : Int32) M_10) fun r_15 M_14 =>
        if r_15 = 0 then
          some ((-1000001 : Int32), M_14)
        else
          ck x3 8 <|
          cb (f_X6_findingOf (251 + 2 * x3.toNatClampNeg) x4 x5 M_14) fun r_20 M_19 =>
          if r_20 = 0 then
            ck x3 8 <|
            cb (f_X3_whatFits x1 x2 (251 + 2 * x3.toNatClampNeg) x4 x5 M_19) fun r_25 M_24 =>
            cb (f_X6_unfound r_25 M_24) fun r_28 M_27 =>
            some (r_28, M_27)
          else
            cb (f_X6_found r_20 M_19) fun r_31 M_30 =>
            some (r_31, M_30)
set_option maxRecDepth 20000 in
theorem c_X6_who (l : Launch) (g : GC) {x1 : Int32} {x2 : Int32} {x3 : Int32} {x4 : Int32} {x5 : Int32}  {M : Mem} {out : Int32 × Mem} (hf : f_X6_who x1 x2 x3 x4 x5 M = some out) : cI l g yX6_who cX6_who 7 (some .int) (rM 6 150) [.ref (gz g + 0), .int x1, .int x2, .int x3, .int x4, .int x5] M out := by
  refine g_met (by decide) (Nat.le_of_ble_eq_true rfl) ?_
  intro p e s m below meth c X hP hS ls hl
  have X : Bx p s m _ meth c RX6 cX6_who 7 (some .int) g := X
  have hl : lv_has ls 7 [(0, .ref (gz g + 0)), (1, .int x1), (2, .int x2), (3, .int x3), (4, .int x4), (5, .int x5)] := hl
  have hx := X.1
  have hb := X.2.1
  refine lv_aload_n hx hb dX6_who_0 rfl (lv_at hl 0 rfl) ?_
  refine lv_iload_n hx hb dX6_who_1 rfl (lv_at hl 1 rfl) ?_
  obtain ⟨r_3, M_2, hc_1, hf⟩ := cb_s hf
  refine g_goi (g_run X (c_X6_hasTooth l g  hc_1) s_X6_hasTooth (oB_6 kc_0) q2_181 ⟨Nat.le_of_ble_eq_true rfl, Nat.le_of_ble_eq_true rfl⟩ hP hS rfl hl.1 rfl (Nat.le_of_ble_eq_true rfl) ⟨Nat.le_refl _, Nat.le_refl _⟩ dX6_who_2) hS (fun H locs hP hS => ?_)
  refine lv_if_eq (tgt := 35) hx hb dX6_who_5 (by decide) (fun h_4 => ?_) (fun h_4 => ?_)
  · replace hf := it_t hf h_4
    refine lv_ldc hx hb X.2.2.2.1 (X.2.2.2.2.1 _ q1_239) dX6_who_35 ?_
    exact g_iret X hP hS (sm_i hf) dX6_who_37
  · replace hf := it_f hf h_4
    refine lv_iload_n hx hb dX6_who_8 rfl (lv_at hl 2 rfl) ?_
    refine lv_iconst (v := (0 : Int32)) hx hb dX6_who_9 (by decide) ?_
    refine lv_iconst (v := (4 : Int32)) hx hb dX6_who_10 (by decide) ?_
    obtain ⟨r_7, M_6, hc_5, hf⟩ := cb_s hf
    refine g_goi (g_runS X (c_X6_within l g  hc_5) s_X6_within q1_236 ⟨Nat.le_of_ble_eq_true rfl, Nat.le_of_ble_eq_true rfl⟩ hP hS rfl hl.1 rfl (Nat.le_of_ble_eq_true rfl) ⟨Nat.le_refl _, Nat.le_refl _⟩ dX6_who_11) hS (fun H locs hP hS => ?_)
    refine lv_if_eq (tgt := 35) hx hb dX6_who_14 (by decide) (fun h_8 => ?_) (fun h_8 => ?_)
    · replace hf := it_t hf h_8
      refine lv_ldc hx hb X.2.2.2.1 (X.2.2.2.2.1 _ q1_239) dX6_who_35 ?_
      exact g_iret X hP hS (sm_i hf) dX6_who_37
    · replace hf := it_f hf h_8
      refine lv_iload_n hx hb dX6_who_17 rfl (lv_at hl 3 rfl) ?_
      obtain ⟨r_11, M_10, hc_9, hf⟩ := cb_s hf
      refine g_goi (g_runS X (c_X6_isRow l g  hc_9) s_X6_isRow q1_233 ⟨Nat.le_of_ble_eq_true rfl, Nat.le_of_ble_eq_true rfl⟩ hP hS rfl hl.1 rfl (Nat.le_of_ble_eq_true rfl) ⟨Nat.le_refl _, Nat.le_refl _⟩ dX6_who_18) hS (fun H locs hP hS => ?_)
      refine lv_if_eq (tgt := 35) hx hb dX6_who_21 (by decide) (fun h_12 => ?_) (fun h_12 => ?_)
      · replace hf := it_t hf h_12
        refine lv_ldc hx hb X.2.2.2.1 (X.2.2.2.2.1 _ q1_239) dX6_who_35 ?_
        exact g_iret X hP hS (sm_i hf) dX6_who_37
      · replace hf := it_f hf h_12
        refine lv_iload hx hb dX6_who_24 (lv_at hl 5 rfl) ?_
        refine lv_iconst (v := (1 : Int32)) hx hb dX6_who_26 (by decide) ?_
        refine lv_bipush (v := (12 : Int32)) hx hb dX6_who_27 (by decide) ?_
        obtain ⟨r_15, M_14, hc_13, hf⟩ := cb_s hf
        refine g_goi (g_runS X (c_X6_within l g  hc_13) s_X6_within q1_236 ⟨Nat.le_of_ble_eq_true rfl, Nat.le_of_ble_eq_true rfl⟩ hP hS rfl hl.1 rfl (Nat.le_of_ble_eq_true rfl) ⟨Nat.le_refl _, Nat.le_refl _⟩ dX6_who_29) hS (fun H locs hP hS => ?_)
        refine lv_if_ne (tgt := 38) hx hb dX6_who_32 (by decide) (fun h_16 => ?_) (fun h_16 => ?_)
        · replace hf := it_f hf h_16
          refine lv_aload_n hx hb dX6_who_38 rfl (lv_at hl 0 rfl) ?_
          refine gf_6_0 X hP kc_0 q1_198 dX6_who_39 ?_
          refine lv_iload_n hx hb dX6_who_42 rfl (lv_at hl 3 rfl) ?_
          obtain ⟨hi_17, hf⟩ := ck_s hf
          refine gr_rows X hP kc_1 hi_17 dX6_who_43 ?_
          refine lv_iload hx hb dX6_who_44 (lv_at hl 4 rfl) ?_
          refine lv_iload hx hb dX6_who_46 (lv_at hl 5 rfl) ?_
          obtain ⟨r_20, M_19, hc_18, hf⟩ := cb_s hf
          refine g_goi (g_runS X (c_X6_findingOf l g (kd_rows hi_17) hc_18) s_X6_findingOf q2_20 ⟨Nat.le_of_ble_eq_true rfl, Nat.le_of_ble_eq_true rfl⟩ hP hS rfl hl.1 rfl (Nat.le_of_ble_eq_true rfl) ⟨Nat.le_refl _, Nat.le_refl _⟩ dX6_who_48) hS (fun H locs hP hS => ?_)
          refine lv_istore (lv' := [(6, .int r_20), (0, .ref (gz g + 0)), (1, .int x1), (2, .int x2), (3, .int x3), (4, .int x4), (5, .int x5)]) hx hb dX6_who_51 hl (by decide) rfl (fun ls hl => ?_)
          refine lv_iload hx hb dX6_who_53 (lv_at hl 0 rfl) ?_
          refine lv_if_eq (tgt := 65) hx hb dX6_who_55 (by decide) (fun h_21 => ?_) (fun h_21 => ?_)
          · replace hf := it_t hf h_21
            refine lv_aload_n hx hb dX6_who_65 rfl (lv_at hl 1 rfl) ?_
            refine lv_aload_n hx hb dX6_who_66 rfl (lv_at hl 1 rfl) ?_
            refine gf_6_6 X hP kc_0 q1_204 dX6_who_67 ?_
            refine lv_iload_n hx hb dX6_who_70 rfl (lv_at hl 2 rfl) ?_
            refine lv_iload_n hx hb dX6_who_71 rfl (lv_at hl 3 rfl) ?_
            refine lv_aload_n hx hb dX6_who_72 rfl (lv_at hl 1 rfl) ?_
            refine gf_6_0 X hP kc_0 q1_198 dX6_who_73 ?_
            refine lv_iload_n hx hb dX6_who_76 rfl (lv_at hl 4 rfl) ?_
            obtain ⟨hi_22, hf⟩ := ck_s hf
            refine gr_rows X hP kc_1 hi_22 dX6_who_77 ?_
            refine lv_iload hx hb dX6_who_78 (lv_at hl 5 rfl) ?_
            refine lv_iload hx hb dX6_who_80 (lv_at hl 6 rfl) ?_
            obtain ⟨r_25, M_24, hc_23, hf⟩ := cb_s hf
            refine g_goi (g_run X (c_X3_whatFits l g (kd_rows hi_22) hc_23) s_X3_whatFits (oB_3 kc_163) q3_122 ⟨Nat.le_of_ble_eq_true rfl, Nat.le_of_ble_eq_true rfl⟩ hP hS rfl hl.1 rfl (Nat.le_of_ble_eq_true rfl) ⟨Nat.le_refl _, Nat.le_refl _⟩ dX6_who_82) hS (fun H locs hP hS => ?_)
            obtain ⟨r_28, M_27, hc_26, hf⟩ := cb_s hf
            refine g_goi (g_run X (c_X6_unfound l g  hc_26) s_X6_unfound (oB_6 kc_0) q2_12 ⟨Nat.le_of_ble_eq_true rfl, Nat.le_of_ble_eq_true rfl⟩ hP hS rfl hl.1 rfl (Nat.le_of_ble_eq_true rfl) ⟨Nat.le_refl _, Nat.le_refl _⟩ dX6_who_85) hS (fun H locs hP hS => ?_)
            exact g_iret X hP hS (sm_i hf) dX6_who_88
          · replace hf := it_f hf h_21
            refine lv_aload_n hx hb dX6_who_58 rfl (lv_at hl 1 rfl) ?_
            refine lv_iload hx hb dX6_who_59 (lv_at hl 0 rfl) ?_
            obtain ⟨r_31, M_30, hc_29, hf⟩ := cb_s hf
            refine g_goi (g_run X (c_X6_found l g  hc_29) s_X6_found (oB_6 kc_0) q2_0 ⟨Nat.le_of_ble_eq_true rfl, Nat.le_of_ble_eq_true rfl⟩ hP hS rfl hl.1 rfl (Nat.le_of_ble_eq_true rfl) ⟨Nat.le_refl _, Nat.le_refl _⟩ dX6_who_61) hS (fun H locs hP hS => ?_)
            exact g_iret X hP hS (sm_i hf) dX6_who_64
        · replace hf := it_t hf h_16
          refine lv_ldc hx hb X.2.2.2.1 (X.2.2.2.2.1 _ q1_239) dX6_who_35 ?_
          exact g_iret X hP hS (sm_i hf) dX6_who_37
def f_X6_lost (x1 : Int32) (x2 : Int32) (x3 : Int32) (x4 : Int32) (M : Mem) : Option (Int64 × Mem) :=
  cb (f_X6_hasTooth x1 M) fun r_3 M_2 =>
  if r_3 = 0 then
    some ((-1000001 : Int64), M_2)
  else
    cb (f_X6_within x2 (0 : Int32) (20 : Int32) M_2) fun r_7 M_6 =>
    if r_7 = 0 then
      some ((-1000001 : Int64), M_6)
    else
      cb (f_X6_within x3 (0 : Int32) (10 : Int32) M_6) fun r_11 M_10 =>
      if r_11 = 0 then
        some ((-1000001 : Int64), M_10)
      else
        cb (f_X6_within x4 (0 : Int32) (1 : Int32) M_10) fun r_15 M_14 =>
        if r_15 = 0 then
          some ((-1000001 : Int64), M_14)
        else
          cb (f_X3_chanceOfRinging x1 x2 x3 x4 M_14) fun r_19 M_18 =>
          some (r_19, M_18)
set_option maxRecDepth 20000 in
theorem c_X6_lost (l : Launch) (g : GC) {x1 : Int32} {x2 : Int32} {x3 : Int32} {x4 : Int32}  {M : Mem} {out : Int64 × Mem} (hf : f_X6_lost x1 x2 x3 x4 M = some out) : cL l g yX6_lost cX6_lost 5 (some .long) (rM 29 905) [.ref (gz g + 0), .int x1, .int x2, .int x3, .int x4] M out := by
  refine g_met (by decide) (Nat.le_of_ble_eq_true rfl) ?_
  intro p e s m below meth c X hP hS ls hl
  have X : Bx p s m _ meth c RX6 cX6_lost 5 (some .long) g := X
  have hl : lv_has ls 5 [(0, .ref (gz g + 0)), (1, .int x1), (2, .int x2), (3, .int x3), (4, .int x4)] := hl
  have hx := X.1
  have hb := X.2.1
  refine lv_aload_n hx hb dX6_lost_0 rfl (lv_at hl 0 rfl) ?_
  refine lv_iload_n hx hb dX6_lost_1 rfl (lv_at hl 1 rfl) ?_
  obtain ⟨r_3, M_2, hc_1, hf⟩ := cb_s hf
  refine g_goi (g_run X (c_X6_hasTooth l g  hc_1) s_X6_hasTooth (oB_6 kc_0) q2_181 ⟨Nat.le_of_ble_eq_true rfl, Nat.le_of_ble_eq_true rfl⟩ hP hS rfl hl.1 rfl (Nat.le_of_ble_eq_true rfl) ⟨Nat.le_refl _, Nat.le_refl _⟩ dX6_lost_2) hS (fun H locs hP hS => ?_)
  refine lv_if_eq (tgt := 38) hx hb dX6_lost_5 (by decide) (fun h_4 => ?_) (fun h_4 => ?_)
  · replace hf := it_t hf h_4
    refine lv_ldc2 hx hb X.2.2.2.1 (X.2.2.2.2.1 _ q3_150) dX6_lost_38 ?_
    exact g_lret X hP hS (sm_i hf) dX6_lost_41
  · replace hf := it_f hf h_4
    refine lv_iload_n hx hb dX6_lost_8 rfl (lv_at hl 2 rfl) ?_
    refine lv_iconst (v := (0 : Int32)) hx hb dX6_lost_9 (by decide) ?_
    refine lv_bipush (v := (20 : Int32)) hx hb dX6_lost_10 (by decide) ?_
    obtain ⟨r_7, M_6, hc_5, hf⟩ := cb_s hf
    refine g_goi (g_runS X (c_X6_within l g  hc_5) s_X6_within q1_236 ⟨Nat.le_of_ble_eq_true rfl, Nat.le_of_ble_eq_true rfl⟩ hP hS rfl hl.1 rfl (Nat.le_of_ble_eq_true rfl) ⟨Nat.le_refl _, Nat.le_refl _⟩ dX6_lost_12) hS (fun H locs hP hS => ?_)
    refine lv_if_eq (tgt := 38) hx hb dX6_lost_15 (by decide) (fun h_8 => ?_) (fun h_8 => ?_)
    · replace hf := it_t hf h_8
      refine lv_ldc2 hx hb X.2.2.2.1 (X.2.2.2.2.1 _ q3_150) dX6_lost_38 ?_
      exact g_lret X hP hS (sm_i hf) dX6_lost_41
    · replace hf := it_f hf h_8
      refine lv_iload_n hx hb dX6_lost_18 rfl (lv_at hl 3 rfl) ?_
      refine lv_iconst (v := (0 : Int32)) hx hb dX6_lost_19 (by decide) ?_
      refine lv_bipush (v := (10 : Int32)) hx hb dX6_lost_20 (by decide) ?_
      obtain ⟨r_11, M_10, hc_9, hf⟩ := cb_s hf
      refine g_goi (g_runS X (c_X6_within l g  hc_9) s_X6_within q1_236 ⟨Nat.le_of_ble_eq_true rfl, Nat.le_of_ble_eq_true rfl⟩ hP hS rfl hl.1 rfl (Nat.le_of_ble_eq_true rfl) ⟨Nat.le_refl _, Nat.le_refl _⟩ dX6_lost_22) hS (fun H locs hP hS => ?_)
      refine lv_if_eq (tgt := 38) hx hb dX6_lost_25 (by decide) (fun h_12 => ?_) (fun h_12 => ?_)
      · replace hf := it_t hf h_12
        refine lv_ldc2 hx hb X.2.2.2.1 (X.2.2.2.2.1 _ q3_150) dX6_lost_38 ?_
        exact g_lret X hP hS (sm_i hf) dX6_lost_41
      · replace hf := it_f hf h_12
        refine lv_iload hx hb dX6_lost_28 (lv_at hl 4 rfl) ?_
        refine lv_iconst (v := (0 : Int32)) hx hb dX6_lost_30 (by decide) ?_
        refine lv_iconst (v := (1 : Int32)) hx hb dX6_lost_31 (by decide) ?_
        obtain ⟨r_15, M_14, hc_13, hf⟩ := cb_s hf
        refine g_goi (g_runS X (c_X6_within l g  hc_13) s_X6_within q1_236 ⟨Nat.le_of_ble_eq_true rfl, Nat.le_of_ble_eq_true rfl⟩ hP hS rfl hl.1 rfl (Nat.le_of_ble_eq_true rfl) ⟨Nat.le_refl _, Nat.le_refl _⟩ dX6_lost_32) hS (fun H locs hP hS => ?_)
        refine lv_if_ne (tgt := 42) hx hb dX6_lost_35 (by decide) (fun h_16 => ?_) (fun h_16 => ?_)
        · replace hf := it_f hf h_16
          refine lv_aload_n hx hb dX6_lost_42 rfl (lv_at hl 0 rfl) ?_
          refine gf_6_6 X hP kc_0 q1_204 dX6_lost_43 ?_
          refine lv_iload_n hx hb dX6_lost_46 rfl (lv_at hl 1 rfl) ?_
          refine lv_iload_n hx hb dX6_lost_47 rfl (lv_at hl 2 rfl) ?_
          refine lv_iload_n hx hb dX6_lost_48 rfl (lv_at hl 3 rfl) ?_
          refine lv_iload hx hb dX6_lost_49 (lv_at hl 4 rfl) ?_
          obtain ⟨r_19, M_18, hc_17, hf⟩ := cb_s hf
          refine g_gol (g_run X (c_X3_chanceOfRinging l g  hc_17) s_X3_chanceOfRinging (oB_3 kc_163) q3_151 ⟨Nat.le_of_ble_eq_true rfl, Nat.le_of_ble_eq_true rfl⟩ hP hS rfl hl.1 rfl (Nat.le_of_ble_eq_true rfl) ⟨Nat.le_refl _, Nat.le_refl _⟩ dX6_lost_51) hS (fun H locs hP hS => ?_)
          exact g_lret X hP hS (sm_i hf) dX6_lost_54
        · replace hf := it_t hf h_16
          refine lv_ldc2 hx hb X.2.2.2.1 (X.2.2.2.2.1 _ q3_150) dX6_lost_38 ?_
          exact g_lret X hP hS (sm_i hf) dX6_lost_41
def f_X6_drawn (x1 : Int32) (x2 : Int32) (x3 : Int32) (M : Mem) : Option (Int32 × Mem) :=
  cb (f_X6_hasBox M) fun r_3 M_2 =>
  if r_3 = 0 then
    some ((-1000002 : Int32), M_2)
  else
    cb (f_X6_within x1 (0 : Int32) (60 : Int32) M_2) fun r_7 M_6 =>
    if r_7 = 0 then
      some ((-1000001 : Int32), M_6)
    else
      cb (f_X6_within x2 (1 : Int32) (999999 : Int32) M_6) fun r_11 M_10 =>
      if r_11 = 0 then
        some ((-1000001 : Int32), M_10)
      else
        cb (f_X6_within x3 (0 : Int32) (1 : Int32) M_10) fun r_15 M_14 =>
        if r_15 = 0 then
          some ((-1000001 : Int32), M_14)
        else
          cb (f_X3_days x1 x2 x3 M_14) fun r_19 M_18 =>
          some (r_19, M_18)
set_option maxRecDepth 20000 in
theorem c_X6_drawn (l : Launch) (g : GC) {x1 : Int32} {x2 : Int32} {x3 : Int32}  {M : Mem} {out : Int32 × Mem} (hf : f_X6_drawn x1 x2 x3 M = some out) : cI l g yX6_drawn cX6_drawn 4 (some .int) (rM 4 102) [.ref (gz g + 0), .int x1, .int x2, .int x3] M out := by
  refine g_met (by decide) (Nat.le_of_ble_eq_true rfl) ?_
  intro p e s m below meth c X hP hS ls hl
  have X : Bx p s m _ meth c RX6 cX6_drawn 4 (some .int) g := X
  have hl : lv_has ls 4 [(0, .ref (gz g + 0)), (1, .int x1), (2, .int x2), (3, .int x3)] := hl
  have hx := X.1
  have hb := X.2.1
  refine lv_aload_n hx hb dX6_drawn_0 rfl (lv_at hl 0 rfl) ?_
  obtain ⟨r_3, M_2, hc_1, hf⟩ := cb_s hf
  refine g_goi (g_run X (c_X6_hasBox l g  hc_1) s_X6_hasBox (oB_6 kc_0) q2_127 ⟨Nat.le_of_ble_eq_true rfl, Nat.le_of_ble_eq_true rfl⟩ hP hS rfl hl.1 rfl (Nat.le_of_ble_eq_true rfl) ⟨Nat.le_refl _, Nat.le_refl _⟩ dX6_drawn_1) hS (fun H locs hP hS => ?_)
  refine lv_if_ne (tgt := 10) hx hb dX6_drawn_4 (by decide) (fun h_4 => ?_) (fun h_4 => ?_)
  · replace hf := it_f hf h_4
    refine lv_iload_n hx hb dX6_drawn_10 rfl (lv_at hl 1 rfl) ?_
    refine lv_iconst (v := (0 : Int32)) hx hb dX6_drawn_11 (by decide) ?_
    refine lv_bipush (v := (60 : Int32)) hx hb dX6_drawn_12 (by decide) ?_
    obtain ⟨r_7, M_6, hc_5, hf⟩ := cb_s hf
    refine g_goi (g_runS X (c_X6_within l g  hc_5) s_X6_within q1_236 ⟨Nat.le_of_ble_eq_true rfl, Nat.le_of_ble_eq_true rfl⟩ hP hS rfl hl.1 rfl (Nat.le_of_ble_eq_true rfl) ⟨Nat.le_refl _, Nat.le_refl _⟩ dX6_drawn_14) hS (fun H locs hP hS => ?_)
    refine lv_if_eq (tgt := 40) hx hb dX6_drawn_17 (by decide) (fun h_8 => ?_) (fun h_8 => ?_)
    · replace hf := it_t hf h_8
      refine lv_ldc hx hb X.2.2.2.1 (X.2.2.2.2.1 _ q1_239) dX6_drawn_40 ?_
      exact g_iret X hP hS (sm_i hf) dX6_drawn_42
    · replace hf := it_f hf h_8
      refine lv_iload_n hx hb dX6_drawn_20 rfl (lv_at hl 2 rfl) ?_
      refine lv_iconst (v := (1 : Int32)) hx hb dX6_drawn_21 (by decide) ?_
      refine lv_ldcw hx hb X.2.2.2.1 (X.2.2.2.2.1 _ q3_181) dX6_drawn_22 ?_
      obtain ⟨r_11, M_10, hc_9, hf⟩ := cb_s hf
      refine g_goi (g_runS X (c_X6_within l g  hc_9) s_X6_within q1_236 ⟨Nat.le_of_ble_eq_true rfl, Nat.le_of_ble_eq_true rfl⟩ hP hS rfl hl.1 rfl (Nat.le_of_ble_eq_true rfl) ⟨Nat.le_refl _, Nat.le_refl _⟩ dX6_drawn_25) hS (fun H locs hP hS => ?_)
      refine lv_if_eq (tgt := 40) hx hb dX6_drawn_28 (by decide) (fun h_12 => ?_) (fun h_12 => ?_)
      · replace hf := it_t hf h_12
        refine lv_ldc hx hb X.2.2.2.1 (X.2.2.2.2.1 _ q1_239) dX6_drawn_40 ?_
        exact g_iret X hP hS (sm_i hf) dX6_drawn_42
      · replace hf := it_f hf h_12
        refine lv_iload_n hx hb dX6_drawn_31 rfl (lv_at hl 3 rfl) ?_
        refine lv_iconst (v := (0 : Int32)) hx hb dX6_drawn_32 (by decide) ?_
        refine lv_iconst (v := (1 : Int32)) hx hb dX6_drawn_33 (by decide) ?_
        obtain ⟨r_15, M_14, hc_13, hf⟩ := cb_s hf
        refine g_goi (g_runS X (c_X6_within l g  hc_13) s_X6_within q1_236 ⟨Nat.le_of_ble_eq_true rfl, Nat.le_of_ble_eq_true rfl⟩ hP hS rfl hl.1 rfl (Nat.le_of_ble_eq_true rfl) ⟨Nat.le_refl _, Nat.le_refl _⟩ dX6_drawn_34) hS (fun H locs hP hS => ?_)
        refine lv_if_ne (tgt := 43) hx hb dX6_drawn_37 (by decide) (fun h_16 => ?_) (fun h_16 => ?_)
        · replace hf := it_f hf h_16
          refine lv_aload_n hx hb dX6_drawn_43 rfl (lv_at hl 0 rfl) ?_
          refine gf_6_6 X hP kc_0 q1_204 dX6_drawn_44 ?_
          refine lv_iload_n hx hb dX6_drawn_47 rfl (lv_at hl 1 rfl) ?_
          refine lv_iload_n hx hb dX6_drawn_48 rfl (lv_at hl 2 rfl) ?_
          refine lv_iload_n hx hb dX6_drawn_49 rfl (lv_at hl 3 rfl) ?_
          obtain ⟨r_19, M_18, hc_17, hf⟩ := cb_s hf
          refine g_goi (g_run X (c_X3_days l g  hc_17) s_X3_days (oB_3 kc_163) q3_182 ⟨Nat.le_of_ble_eq_true rfl, Nat.le_of_ble_eq_true rfl⟩ hP hS rfl hl.1 rfl (Nat.le_of_ble_eq_true rfl) ⟨Nat.le_refl _, Nat.le_refl _⟩ dX6_drawn_50) hS (fun H locs hP hS => ?_)
          exact g_iret X hP hS (sm_i hf) dX6_drawn_53
        · replace hf := it_t hf h_16
          refine lv_ldc hx hb X.2.2.2.1 (X.2.2.2.2.1 _ q1_239) dX6_drawn_40 ?_
          exact g_iret X hP hS (sm_i hf) dX6_drawn_42
  · replace hf := it_t hf h_4
    refine lv_ldc hx hb X.2.2.2.1 (X.2.2.2.2.1 _ q2_117) dX6_drawn_7 ?_
    exact g_iret X hP hS (sm_i hf) dX6_drawn_9
def f_X6_image (x1 : Int32) (M : Mem) : Option (Int32 × Mem) :=
  cb (f_X6_within x1 (0 : Int32) (1 : Int32) M) fun r_3 M_2 =>
  if r_3 = 0 then
    some ((-1000001 : Int32), M_2)
  else
    cb (f_X6_hasBox M_2) fun r_7 M_6 =>
    if r_7 = 0 then
      some ((-1000002 : Int32), M_6)
    else
      ck x1 2 <|
      cv (f_X5_takeFrom (267 + 6 * x1.toNatClampNeg) 3 M_6) fun M_11 =>
      some ((1 : Int32), M_11)
set_option maxRecDepth 20000 in
theorem c_X6_image (l : Launch) (g : GC) {x1 : Int32}  {M : Mem} {out : Int32 × Mem} (hf : f_X6_image x1 M = some out) : cI l g yX6_image cX6_image 2 (some .int) (rM 2 61) [.ref (gz g + 0), .int x1] M out := by
  refine g_met (by decide) (Nat.le_of_ble_eq_true rfl) ?_
  intro p e s m below meth c X hP hS ls hl
  have X : Bx p s m _ meth c RX6 cX6_image 2 (some .int) g := X
  have hl : lv_has ls 2 [(0, .ref (gz g + 0)), (1, .int x1)] := hl
  have hx := X.1
  have hb := X.2.1
  refine lv_iload_n hx hb dX6_image_0 rfl (lv_at hl 1 rfl) ?_
  refine lv_iconst (v := (0 : Int32)) hx hb dX6_image_1 (by decide) ?_
  refine lv_iconst (v := (1 : Int32)) hx hb dX6_image_2 (by decide) ?_
  obtain ⟨r_3, M_2, hc_1, hf⟩ := cb_s hf
  refine g_goi (g_runS X (c_X6_within l g  hc_1) s_X6_within q1_236 ⟨Nat.le_of_ble_eq_true rfl, Nat.le_of_ble_eq_true rfl⟩ hP hS rfl hl.1 rfl (Nat.le_of_ble_eq_true rfl) ⟨Nat.le_refl _, Nat.le_refl _⟩ dX6_image_3) hS (fun H locs hP hS => ?_)
  refine lv_if_ne (tgt := 12) hx hb dX6_image_6 (by decide) (fun h_4 => ?_) (fun h_4 => ?_)
  · replace hf := it_f hf h_4
    refine lv_aload_n hx hb dX6_image_12 rfl (lv_at hl 0 rfl) ?_
    obtain ⟨r_7, M_6, hc_5, hf⟩ := cb_s hf
    refine g_goi (g_run X (c_X6_hasBox l g  hc_5) s_X6_hasBox (oB_6 kc_0) q2_127 ⟨Nat.le_of_ble_eq_true rfl, Nat.le_of_ble_eq_true rfl⟩ hP hS rfl hl.1 rfl (Nat.le_of_ble_eq_true rfl) ⟨Nat.le_refl _, Nat.le_refl _⟩ dX6_image_13) hS (fun H locs hP hS => ?_)
    refine lv_if_ne (tgt := 22) hx hb dX6_image_16 (by decide) (fun h_8 => ?_) (fun h_8 => ?_)
    · replace hf := it_f hf h_8
      refine lv_aload_n hx hb dX6_image_22 rfl (lv_at hl 0 rfl) ?_
      refine gf_6_1 X hP kc_0 q1_199 dX6_image_23 ?_
      refine lv_iload_n hx hb dX6_image_26 rfl (lv_at hl 1 rfl) ?_
      obtain ⟨hi_9, hf⟩ := ck_s hf
      refine gr_images X hP kc_2 hi_9 dX6_image_27 ?_
      refine lv_aload_n hx hb dX6_image_28 rfl (lv_at hl 0 rfl) ?_
      refine gf_6_2 X hP kc_0 q1_200 dX6_image_29 ?_
      obtain ⟨M_11, hc_10, hf⟩ := cv_s hf
      refine g_gov (g_run X (c_X5_takeFrom l g (kd_images hi_9) kc_3 hc_10) s_X5_takeFrom (oB_5 (kd_images hi_9)) q2_100 ⟨Nat.le_of_ble_eq_true rfl, Nat.le_of_ble_eq_true rfl⟩ hP hS rfl hl.1 rfl (Nat.le_of_ble_eq_true rfl) ⟨Nat.le_refl _, Nat.le_refl _⟩ dX6_image_32) hS (fun H locs hP hS => ?_)
      refine lv_iconst (v := (1 : Int32)) hx hb dX6_image_35 (by decide) ?_
      exact g_iret X hP hS (sm_i hf) dX6_image_36
    · replace hf := it_t hf h_8
      refine lv_ldc hx hb X.2.2.2.1 (X.2.2.2.2.1 _ q2_117) dX6_image_19 ?_
      exact g_iret X hP hS (sm_i hf) dX6_image_21
  · replace hf := it_t hf h_4
    refine lv_ldc hx hb X.2.2.2.1 (X.2.2.2.2.1 _ q1_239) dX6_image_9 ?_
    exact g_iret X hP hS (sm_i hf) dX6_image_11
def f_X6_restore (x1 : Int32) (M : Mem) : Option (Int32 × Mem) :=
  cb (f_X6_within x1 (0 : Int32) (1 : Int32) M) fun r_3 M_2 =>
  if r_3 = 0 then
    some ((-1000001 : Int32), M_2)
  else
    ck x1 2 <|
    if (M_2 (267 + 6 * x1.toNatClampNeg) 1) = 0 then
      some ((-1000002 : Int32), M_2)
    else
      ck x1 2 <|
      cv (f_X5_takeFrom 3 (267 + 6 * x1.toNatClampNeg) M_2) fun M_9 =>
      cv (f_X1_forget M_9) fun M_11 =>
      some ((1 : Int32), M_11)
set_option maxRecDepth 20000 in
theorem c_X6_restore (l : Launch) (g : GC) {x1 : Int32}  {M : Mem} {out : Int32 × Mem} (hf : f_X6_restore x1 M = some out) : cI l g yX6_restore cX6_restore 2 (some .int) (rM 2 61) [.ref (gz g + 0), .int x1] M out := by
  refine g_met (by decide) (Nat.le_of_ble_eq_true rfl) ?_
  intro p e s m below meth c X hP hS ls hl
  have X : Bx p s m _ meth c RX6 cX6_restore 2 (some .int) g := X
  have hl : lv_has ls 2 [(0, .ref (gz g + 0)), (1, .int x1)] := hl
  have hx := X.1
  have hb := X.2.1
  refine lv_iload_n hx hb dX6_restore_0 rfl (lv_at hl 1 rfl) ?_
  refine lv_iconst (v := (0 : Int32)) hx hb dX6_restore_1 (by decide) ?_
  refine lv_iconst (v := (1 : Int32)) hx hb dX6_restore_2 (by decide) ?_
  obtain ⟨r_3, M_2, hc_1, hf⟩ := cb_s hf
  refine g_goi (g_runS X (c_X6_within l g  hc_1) s_X6_within q1_236 ⟨Nat.le_of_ble_eq_true rfl, Nat.le_of_ble_eq_true rfl⟩ hP hS rfl hl.1 rfl (Nat.le_of_ble_eq_true rfl) ⟨Nat.le_refl _, Nat.le_refl _⟩ dX6_restore_3) hS (fun H locs hP hS => ?_)
  refine lv_if_ne (tgt := 12) hx hb dX6_restore_6 (by decide) (fun h_4 => ?_) (fun h_4 => ?_)
  · replace hf := it_f hf h_4
    refine lv_aload_n hx hb dX6_restore_12 rfl (lv_at hl 0 rfl) ?_
    refine gf_6_1 X hP kc_0 q1_199 dX6_restore_13 ?_
    refine lv_iload_n hx hb dX6_restore_16 rfl (lv_at hl 1 rfl) ?_
    obtain ⟨hi_5, hf⟩ := ck_s hf
    refine gr_images X hP kc_2 hi_5 dX6_restore_17 ?_
    refine gf_5_1 X hP (kd_images hi_5) q1_37 dX6_restore_18 ?_
    refine lv_if_ne (tgt := 27) hx hb dX6_restore_21 (by decide) (fun h_6 => ?_) (fun h_6 => ?_)
    · replace hf := it_f hf h_6
      refine lv_aload_n hx hb dX6_restore_27 rfl (lv_at hl 0 rfl) ?_
      refine gf_6_2 X hP kc_0 q1_200 dX6_restore_28 ?_
      refine lv_aload_n hx hb dX6_restore_31 rfl (lv_at hl 0 rfl) ?_
      refine gf_6_1 X hP kc_0 q1_199 dX6_restore_32 ?_
      refine lv_iload_n hx hb dX6_restore_35 rfl (lv_at hl 1 rfl) ?_
      obtain ⟨hi_7, hf⟩ := ck_s hf
      refine gr_images X hP kc_2 hi_7 dX6_restore_36 ?_
      obtain ⟨M_9, hc_8, hf⟩ := cv_s hf
      refine g_gov (g_run X (c_X5_takeFrom l g kc_3 (kd_images hi_7) hc_8) s_X5_takeFrom (oB_5 kc_3) q2_100 ⟨Nat.le_of_ble_eq_true rfl, Nat.le_of_ble_eq_true rfl⟩ hP hS rfl hl.1 rfl (Nat.le_of_ble_eq_true rfl) ⟨Nat.le_refl _, Nat.le_refl _⟩ dX6_restore_37) hS (fun H locs hP hS => ?_)
      refine lv_aload_n hx hb dX6_restore_40 rfl (lv_at hl 0 rfl) ?_
      refine gf_6_5 X hP kc_0 q1_203 dX6_restore_41 ?_
      obtain ⟨M_11, hc_10, hf⟩ := cv_s hf
      refine g_gov (g_run X (c_X1_forget l g  hc_10) s_X1_forget (oB_1 kc_17) q2_105 ⟨Nat.le_of_ble_eq_true rfl, Nat.le_of_ble_eq_true rfl⟩ hP hS rfl hl.1 rfl (Nat.le_of_ble_eq_true rfl) ⟨Nat.le_refl _, Nat.le_refl _⟩ dX6_restore_44) hS (fun H locs hP hS => ?_)
      refine lv_iconst (v := (1 : Int32)) hx hb dX6_restore_47 (by decide) ?_
      exact g_iret X hP hS (sm_i hf) dX6_restore_48
    · replace hf := it_t hf h_6
      refine lv_ldc hx hb X.2.2.2.1 (X.2.2.2.2.1 _ q2_117) dX6_restore_24 ?_
      exact g_iret X hP hS (sm_i hf) dX6_restore_26
  · replace hf := it_t hf h_4
    refine lv_ldc hx hb X.2.2.2.1 (X.2.2.2.2.1 _ q1_239) dX6_restore_9 ?_
    exact g_iret X hP hS (sm_i hf) dX6_restore_11
def f_X6_kind (x1 : Int32) (M : Mem) : Option (Int32 × Mem) :=
  cb (f_X6_hasTooth x1 M) fun r_3 M_2 =>
  if r_3 = 0 then
    some ((-1000001 : Int32), M_2)
  else
    ck x1 6 <|
    some ((M_2 (3 + 2) x1.toNatClampNeg), M_2)
set_option maxRecDepth 20000 in
theorem c_X6_kind (l : Launch) (g : GC) {x1 : Int32}  {M : Mem} {out : Int32 × Mem} (hf : f_X6_kind x1 M = some out) : cI l g yX6_kind cX6_kind 2 (some .int) (rM 2 43) [.ref (gz g + 0), .int x1] M out := by
  refine g_met (by decide) (Nat.le_of_ble_eq_true rfl) ?_
  intro p e s m below meth c X hP hS ls hl
  have X : Bx p s m _ meth c RX6 cX6_kind 2 (some .int) g := X
  have hl : lv_has ls 2 [(0, .ref (gz g + 0)), (1, .int x1)] := hl
  have hx := X.1
  have hb := X.2.1
  refine lv_aload_n hx hb dX6_kind_0 rfl (lv_at hl 0 rfl) ?_
  refine lv_iload_n hx hb dX6_kind_1 rfl (lv_at hl 1 rfl) ?_
  obtain ⟨r_3, M_2, hc_1, hf⟩ := cb_s hf
  refine g_goi (g_run X (c_X6_hasTooth l g  hc_1) s_X6_hasTooth (oB_6 kc_0) q2_181 ⟨Nat.le_of_ble_eq_true rfl, Nat.le_of_ble_eq_true rfl⟩ hP hS rfl hl.1 rfl (Nat.le_of_ble_eq_true rfl) ⟨Nat.le_refl _, Nat.le_refl _⟩ dX6_kind_2) hS (fun H locs hP hS => ?_)
  refine lv_if_eq (tgt := 20) hx hb dX6_kind_5 (by decide) (fun h_4 => ?_) (fun h_4 => ?_)
  · replace hf := it_t hf h_4
    refine lv_ldc hx hb X.2.2.2.1 (X.2.2.2.2.1 _ q1_239) dX6_kind_20 ?_
    exact g_iret X hP hS (sm_i hf) dX6_kind_22
  · replace hf := it_f hf h_4
    refine lv_aload_n hx hb dX6_kind_8 rfl (lv_at hl 0 rfl) ?_
    refine gf_6_2 X hP kc_0 q1_200 dX6_kind_9 ?_
    refine gf_5_7 X hP kc_3 q1_58 dX6_kind_12 ?_
    refine lv_iload_n hx hb dX6_kind_15 rfl (lv_at hl 1 rfl) ?_
    obtain ⟨hi_5, hf⟩ := ck_s hf
    refine ga_ld X hP (iA_8 (kdW2 kc_3)) hi_5 dX6_kind_16 ?_
    refine lv_goto (tgt := 22) hx hb dX6_kind_17 (by decide) ?_
    exact g_iret X hP hS (sm_i hf) dX6_kind_22
def f_X6_isOfKind_18    (M : Mem) : Option (Int32 × Mem) :=
  some ((1 : Int32), M)
set_option maxRecDepth 20000 in
theorem b_X6_isOfKind_18 {out : Int32 × Mem} (X : Bx p s m args meth c RX6 cX6_isOfKind 2 (some .boolean) g)         (M : Mem) {H : Heap} {locs : List Loc} {ls : Array Slot} (hf : f_X6_isOfKind_18 M = some out) (hP : va_P g.1 vwCl (gW g M) H) (hS : va_S (gA g) s.heap H locs) (hl : lv_has ls 2 []) : W p l e (rM 0 0) s m args below meth c H locs 0 0 (MQ below (qI g out) args s 0 0 (gA g)) (F0 m 18 ls []) := by
  have hx := X.1
  have hb := X.2.1
  refine lv_iconst (v := (1 : Int32)) hx hb dX6_isOfKind_18 (by decide) ?_
  refine lv_goto (tgt := 23) hx hb dX6_isOfKind_19 (by decide) ?_
  exact g_zret X hP hS rfl (sm_i hf) dX6_isOfKind_23
def f_X6_isOfKind (x0 : Int32) (x1 : Int32) (M : Mem) : Option (Int32 × Mem) :=
  if x1 = 0 then
    f_X6_isOfKind_18 M
  else
    if x1 = x0 then
      f_X6_isOfKind_18 M
    else
      ck x0 6 <|
      if x1 = (tb1 x0.toNatClampNeg) then
        f_X6_isOfKind_18 M
      else
        some ((0 : Int32), M)
set_option maxRecDepth 20000 in
theorem c_X6_isOfKind (l : Launch) (g : GC) {x0 : Int32} {x1 : Int32}  {M : Mem} {out : Int32 × Mem} (hf : f_X6_isOfKind x0 x1 M = some out) : cI l g yX6_isOfKind cX6_isOfKind 2 (some .boolean) (rM 0 0) [.int x0, .int x1] M out := by
  refine g_met (by decide) (Nat.le_of_ble_eq_true rfl) ?_
  intro p e s m below meth c X hP hS ls hl
  have X : Bx p s m _ meth c RX6 cX6_isOfKind 2 (some .boolean) g := X
  have hl : lv_has ls 2 [(0, .int x0), (1, .int x1)] := hl
  have hx := X.1
  have hb := X.2.1
  refine lv_iload_n hx hb dX6_isOfKind_0 rfl (lv_at hl 1 rfl) ?_
  refine lv_if_eq (tgt := 18) hx hb dX6_isOfKind_1 (by decide) (fun h_1 => ?_) (fun h_1 => ?_)
  · replace hf := it_t hf h_1
    exact b_X6_isOfKind_18 X   M hf hP hS (lv_sub hl [] rfl)
  · replace hf := it_f hf h_1
    refine lv_iload_n hx hb dX6_isOfKind_4 rfl (lv_at hl 1 rfl) ?_
    refine lv_iload_n hx hb dX6_isOfKind_5 rfl (lv_at hl 0 rfl) ?_
    refine lv_icmp_eq (tgt := 18) hx hb dX6_isOfKind_6 (by decide) (fun h_2 => ?_) (fun h_2 => ?_)
    · replace hf := it_t hf h_2
      exact b_X6_isOfKind_18 X   M hf hP hS (lv_sub hl [] rfl)
    · replace hf := it_f hf h_2
      refine lv_iload_n hx hb dX6_isOfKind_9 rfl (lv_at hl 1 rfl) ?_
      refine gs_1 X hS q3_212 dX6_isOfKind_10 ?_
      refine lv_iload_n hx hb dX6_isOfKind_13 rfl (lv_at hl 0 rfl) ?_
      obtain ⟨hi_3, hf⟩ := ck_s hf
      refine gt_1 X hS hi_3 dX6_isOfKind_14 ?_
      refine lv_icmp_ne (tgt := 22) hx hb dX6_isOfKind_15 (by decide) (fun h_4 => ?_) (fun h_4 => ?_)
      · replace hf := it_f hf h_4
        refine lv_iconst (v := (0 : Int32)) hx hb dX6_isOfKind_22 (by decide) ?_
        exact g_zret X hP hS rfl (sm_i hf) dX6_isOfKind_23
      · replace hf := it_t hf h_4
        exact b_X6_isOfKind_18 X   M hf hP hS (lv_sub hl [] rfl)
def f_X6_as (x1 : Int32) (x2 : Int32) (M : Mem) : Option (Int32 × Mem) :=
  cb (f_X6_hasTooth x1 M) fun r_3 M_2 =>
  if r_3 = 0 then
    some ((-1000001 : Int32), M_2)
  else
    cb (f_X6_within x2 (0 : Int32) (5 : Int32) M_2) fun r_7 M_6 =>
    if r_7 = 0 then
      some ((-1000001 : Int32), M_6)
    else
      ck x1 6 <|
      cb (f_X6_isOfKind (M_6 (3 + 2) x1.toNatClampNeg) x2 M_6) fun r_12 M_11 =>
      if r_12 = 0 then
        cb (f_X6_found (3 : Int32) M_11) fun r_16 M_15 =>
        some (r_16, M_15)
      else
        cb (f_X6_unfound x1 M_11) fun r_19 M_18 =>
        some (r_19, M_18)
set_option maxRecDepth 20000 in
theorem c_X6_as (l : Launch) (g : GC) {x1 : Int32} {x2 : Int32}  {M : Mem} {out : Int32 × Mem} (hf : f_X6_as x1 x2 M = some out) : cI l g yX6_as cX6_as 3 (some .int) (rM 2 43) [.ref (gz g + 0), .int x1, .int x2] M out := by
  refine g_met (by decide) (Nat.le_of_ble_eq_true rfl) ?_
  intro p e s m below meth c X hP hS ls hl
  have X : Bx p s m _ meth c RX6 cX6_as 3 (some .int) g := X
  have hl : lv_has ls 3 [(0, .ref (gz g + 0)), (1, .int x1), (2, .int x2)] := hl
  have hx := X.1
  have hb := X.2.1
  refine lv_aload_n hx hb dX6_as_0 rfl (lv_at hl 0 rfl) ?_
  refine lv_iload_n hx hb dX6_as_1 rfl (lv_at hl 1 rfl) ?_
  obtain ⟨r_3, M_2, hc_1, hf⟩ := cb_s hf
  refine g_goi (g_run X (c_X6_hasTooth l g  hc_1) s_X6_hasTooth (oB_6 kc_0) q2_181 ⟨Nat.le_of_ble_eq_true rfl, Nat.le_of_ble_eq_true rfl⟩ hP hS rfl hl.1 rfl (Nat.le_of_ble_eq_true rfl) ⟨Nat.le_refl _, Nat.le_refl _⟩ dX6_as_2) hS (fun H locs hP hS => ?_)
  refine lv_if_eq (tgt := 17) hx hb dX6_as_5 (by decide) (fun h_4 => ?_) (fun h_4 => ?_)
  · replace hf := it_t hf h_4
    refine lv_ldc hx hb X.2.2.2.1 (X.2.2.2.2.1 _ q1_239) dX6_as_17 ?_
    exact g_iret X hP hS (sm_i hf) dX6_as_19
  · replace hf := it_f hf h_4
    refine lv_iload_n hx hb dX6_as_8 rfl (lv_at hl 2 rfl) ?_
    refine lv_iconst (v := (0 : Int32)) hx hb dX6_as_9 (by decide) ?_
    refine lv_iconst (v := (5 : Int32)) hx hb dX6_as_10 (by decide) ?_
    obtain ⟨r_7, M_6, hc_5, hf⟩ := cb_s hf
    refine g_goi (g_runS X (c_X6_within l g  hc_5) s_X6_within q1_236 ⟨Nat.le_of_ble_eq_true rfl, Nat.le_of_ble_eq_true rfl⟩ hP hS rfl hl.1 rfl (Nat.le_of_ble_eq_true rfl) ⟨Nat.le_refl _, Nat.le_refl _⟩ dX6_as_11) hS (fun H locs hP hS => ?_)
    refine lv_if_ne (tgt := 20) hx hb dX6_as_14 (by decide) (fun h_8 => ?_) (fun h_8 => ?_)
    · replace hf := it_f hf h_8
      refine lv_aload_n hx hb dX6_as_20 rfl (lv_at hl 0 rfl) ?_
      refine gf_6_2 X hP kc_0 q1_200 dX6_as_21 ?_
      refine gf_5_7 X hP kc_3 q1_58 dX6_as_24 ?_
      refine lv_iload_n hx hb dX6_as_27 rfl (lv_at hl 1 rfl) ?_
      obtain ⟨hi_9, hf⟩ := ck_s hf
      refine ga_ld X hP (iA_8 (kdW2 kc_3)) hi_9 dX6_as_28 ?_
      refine lv_iload_n hx hb dX6_as_29 rfl (lv_at hl 2 rfl) ?_
      obtain ⟨r_12, M_11, hc_10, hf⟩ := cb_s hf
      refine g_goi (g_runS X (c_X6_isOfKind l g  hc_10) s_X6_isOfKind q3_209 ⟨Nat.le_of_ble_eq_true rfl, Nat.le_of_ble_eq_true rfl⟩ hP hS rfl hl.1 rfl (Nat.le_of_ble_eq_true rfl) ⟨Nat.le_refl _, Nat.le_refl _⟩ dX6_as_30) hS (fun H locs hP hS => ?_)
      refine lv_if_eq (tgt := 44) hx hb dX6_as_33 (by decide) (fun h_13 => ?_) (fun h_13 => ?_)
      · replace hf := it_t hf h_13
        refine lv_aload_n hx hb dX6_as_44 rfl (lv_at hl 0 rfl) ?_
        refine lv_iconst (v := (3 : Int32)) hx hb dX6_as_45 (by decide) ?_
        obtain ⟨r_16, M_15, hc_14, hf⟩ := cb_s hf
        refine g_goi (g_run X (c_X6_found l g  hc_14) s_X6_found (oB_6 kc_0) q2_0 ⟨Nat.le_of_ble_eq_true rfl, Nat.le_of_ble_eq_true rfl⟩ hP hS rfl hl.1 rfl (Nat.le_of_ble_eq_true rfl) ⟨Nat.le_refl _, Nat.le_refl _⟩ dX6_as_46) hS (fun H locs hP hS => ?_)
        exact g_iret X hP hS (sm_i hf) dX6_as_49
      · replace hf := it_f hf h_13
        refine lv_aload_n hx hb dX6_as_36 rfl (lv_at hl 0 rfl) ?_
        refine lv_iload_n hx hb dX6_as_37 rfl (lv_at hl 1 rfl) ?_
        obtain ⟨r_19, M_18, hc_17, hf⟩ := cb_s hf
        refine g_goi (g_run X (c_X6_unfound l g  hc_17) s_X6_unfound (oB_6 kc_0) q2_12 ⟨Nat.le_of_ble_eq_true rfl, Nat.le_of_ble_eq_true rfl⟩ hP hS rfl hl.1 rfl (Nat.le_of_ble_eq_true rfl) ⟨Nat.le_refl _, Nat.le_refl _⟩ dX6_as_38) hS (fun H locs hP hS => ?_)
        refine lv_goto (tgt := 49) hx hb dX6_as_41 (by decide) ?_
        exact g_iret X hP hS (sm_i hf) dX6_as_49
    · replace hf := it_t hf h_8
      refine lv_ldc hx hb X.2.2.2.1 (X.2.2.2.2.1 _ q1_239) dX6_as_17 ?_
      exact g_iret X hP hS (sm_i hf) dX6_as_19
def f_X6_ask (x1 : Int32) (x2 : Int32) (M : Mem) : Option (Int32 × Mem) :=
  cb (f_X6_hasTooth x1 M) fun r_3 M_2 =>
  if r_3 = 0 then
    some ((-1000001 : Int32), M_2)
  else
    cb (f_X6_within x2 (0 : Int32) (1 : Int32) M_2) fun r_7 M_6 =>
    if r_7 = 0 then
      some ((-1000001 : Int32), M_6)
    else
      cb (f_X0_start x2 x1 M_6) fun r_11 M_10 =>
      some (r_11, M_10)
set_option maxRecDepth 20000 in
theorem c_X6_ask (l : Launch) (g : GC) {x1 : Int32} {x2 : Int32}  {M : Mem} {out : Int32 × Mem} (hf : f_X6_ask x1 x2 M = some out) : cI l g yX6_ask cX6_ask 3 (some .int) (rM 27 643) [.ref (gz g + 0), .int x1, .int x2] M out := by
  refine g_met (by decide) (Nat.le_of_ble_eq_true rfl) ?_
  intro p e s m below meth c X hP hS ls hl
  have X : Bx p s m _ meth c RX6 cX6_ask 3 (some .int) g := X
  have hl : lv_has ls 3 [(0, .ref (gz g + 0)), (1, .int x1), (2, .int x2)] := hl
  have hx := X.1
  have hb := X.2.1
  refine lv_aload_n hx hb dX6_ask_0 rfl (lv_at hl 0 rfl) ?_
  refine lv_iload_n hx hb dX6_ask_1 rfl (lv_at hl 1 rfl) ?_
  obtain ⟨r_3, M_2, hc_1, hf⟩ := cb_s hf
  refine g_goi (g_run X (c_X6_hasTooth l g  hc_1) s_X6_hasTooth (oB_6 kc_0) q2_181 ⟨Nat.le_of_ble_eq_true rfl, Nat.le_of_ble_eq_true rfl⟩ hP hS rfl hl.1 rfl (Nat.le_of_ble_eq_true rfl) ⟨Nat.le_refl _, Nat.le_refl _⟩ dX6_ask_2) hS (fun H locs hP hS => ?_)
  refine lv_if_eq (tgt := 17) hx hb dX6_ask_5 (by decide) (fun h_4 => ?_) (fun h_4 => ?_)
  · replace hf := it_t hf h_4
    refine lv_ldc hx hb X.2.2.2.1 (X.2.2.2.2.1 _ q1_239) dX6_ask_17 ?_
    exact g_iret X hP hS (sm_i hf) dX6_ask_19
  · replace hf := it_f hf h_4
    refine lv_iload_n hx hb dX6_ask_8 rfl (lv_at hl 2 rfl) ?_
    refine lv_iconst (v := (0 : Int32)) hx hb dX6_ask_9 (by decide) ?_
    refine lv_iconst (v := (1 : Int32)) hx hb dX6_ask_10 (by decide) ?_
    obtain ⟨r_7, M_6, hc_5, hf⟩ := cb_s hf
    refine g_goi (g_runS X (c_X6_within l g  hc_5) s_X6_within q1_236 ⟨Nat.le_of_ble_eq_true rfl, Nat.le_of_ble_eq_true rfl⟩ hP hS rfl hl.1 rfl (Nat.le_of_ble_eq_true rfl) ⟨Nat.le_refl _, Nat.le_refl _⟩ dX6_ask_11) hS (fun H locs hP hS => ?_)
    refine lv_if_ne (tgt := 20) hx hb dX6_ask_14 (by decide) (fun h_8 => ?_) (fun h_8 => ?_)
    · replace hf := it_f hf h_8
      refine lv_aload_n hx hb dX6_ask_20 rfl (lv_at hl 0 rfl) ?_
      refine gf_6_7 X hP kc_0 q1_205 dX6_ask_21 ?_
      refine lv_iload_n hx hb dX6_ask_24 rfl (lv_at hl 2 rfl) ?_
      refine lv_iload_n hx hb dX6_ask_25 rfl (lv_at hl 1 rfl) ?_
      obtain ⟨r_11, M_10, hc_9, hf⟩ := cb_s hf
      refine g_goi (g_run X (c_X0_start l g  hc_9) s_X0_start (oB_0 kc_249) q3_218 ⟨Nat.le_of_ble_eq_true rfl, Nat.le_of_ble_eq_true rfl⟩ hP hS rfl hl.1 rfl (Nat.le_of_ble_eq_true rfl) ⟨Nat.le_refl _, Nat.le_refl _⟩ dX6_ask_26) hS (fun H locs hP hS => ?_)
      exact g_iret X hP hS (sm_i hf) dX6_ask_29
    · replace hf := it_t hf h_8
      refine lv_ldc hx hb X.2.2.2.1 (X.2.2.2.2.1 _ q1_239) dX6_ask_17 ?_
      exact g_iret X hP hS (sm_i hf) dX6_ask_19
def f_X6_trace (x1 : Int32) (M : Mem) : Option (Int32 × Mem) :=
  cb (f_X6_within x1 (0 : Int32) ((M 249 2) - (1 : Int32)) M) fun r_3 M_2 =>
  if r_3 = 0 then
    some ((-1000000 : Int32), M_2)
  else
    ck x1 16 <|
    some ((M_2 (249 + 1) x1.toNatClampNeg), M_2)
set_option maxRecDepth 20000 in
theorem c_X6_trace (l : Launch) (g : GC) {x1 : Int32}  {M : Mem} {out : Int32 × Mem} (hf : f_X6_trace x1 M = some out) : cI l g yX6_trace cX6_trace 2 (some .int) (rM 1 22) [.ref (gz g + 0), .int x1] M out := by
  refine g_met (by decide) (Nat.le_of_ble_eq_true rfl) ?_
  intro p e s m below meth c X hP hS ls hl
  have X : Bx p s m _ meth c RX6 cX6_trace 2 (some .int) g := X
  have hl : lv_has ls 2 [(0, .ref (gz g + 0)), (1, .int x1)] := hl
  have hx := X.1
  have hb := X.2.1
  refine lv_iload_n hx hb dX6_trace_0 rfl (lv_at hl 1 rfl) ?_
  refine lv_iconst (v := (0 : Int32)) hx hb dX6_trace_1 (by decide) ?_
  refine lv_aload_n hx hb dX6_trace_2 rfl (lv_at hl 0 rfl) ?_
  refine gf_6_7 X hP kc_0 q1_205 dX6_trace_3 ?_
  refine gf_0_2 X hP kc_249 q1_167 dX6_trace_6 ?_
  refine lv_iconst (v := (1 : Int32)) hx hb dX6_trace_9 (by decide) ?_
  refine lv_isub hx hb dX6_trace_10 ?_
  obtain ⟨r_3, M_2, hc_1, hf⟩ := cb_s hf
  refine g_goi (g_runS X (c_X6_within l g  hc_1) s_X6_within q1_236 ⟨Nat.le_of_ble_eq_true rfl, Nat.le_of_ble_eq_true rfl⟩ hP hS rfl hl.1 rfl (Nat.le_of_ble_eq_true rfl) ⟨Nat.le_refl _, Nat.le_refl _⟩ dX6_trace_11) hS (fun H locs hP hS => ?_)
  refine lv_if_eq (tgt := 29) hx hb dX6_trace_14 (by decide) (fun h_4 => ?_) (fun h_4 => ?_)
  · replace hf := it_t hf h_4
    refine lv_ldcw hx hb X.2.2.2.1 (X.2.2.2.2.1 _ q4_2) dX6_trace_29 ?_
    exact g_iret X hP hS (sm_i hf) dX6_trace_32
  · replace hf := it_f hf h_4
    refine lv_aload_n hx hb dX6_trace_17 rfl (lv_at hl 0 rfl) ?_
    refine gf_6_7 X hP kc_0 q1_205 dX6_trace_18 ?_
    refine gf_0_1 X hP kc_249 q1_165 dX6_trace_21 ?_
    refine lv_iload_n hx hb dX6_trace_24 rfl (lv_at hl 1 rfl) ?_
    obtain ⟨hi_5, hf⟩ := ck_s hf
    refine ga_ld X hP (iA_12 kc_250) hi_5 dX6_trace_25 ?_
    refine lv_goto (tgt := 32) hx hb dX6_trace_26 (by decide) ?_
    exact g_iret X hP hS (sm_i hf) dX6_trace_32
def f_X6_rowsThere_25  (k4 : Int32 → Int32 → Mem → Option (Int32 × Mem)) (x1 : Int32) (x2 : Int32) (M : Mem) : Option (Int32 × Mem) :=
  k4 x1 (x2 + (1 : Int32)) M
set_option maxRecDepth 20000 in
theorem b_X6_rowsThere_25 {out : Int32 × Mem} (X : Bx p s m args meth c RX6 cX6_rowsThere 3 (some .int) g)      {k4 : Int32 → Int32 → Mem → Option (Int32 × Mem)} (hk4 : ∀ (x1 : Int32) (x2 : Int32) (M : Mem) (H : Heap) (locs : List Loc) (ls : Array Slot), k4 x1 x2 M = some out → va_P g.1 vwCl (gW g M) H → va_S (gA g) s.heap H locs → lv_has ls 3 [(0, .ref (gz g + 0)), (1, .int x1), (2, .int x2)] → W p l e (rM 0 0) s m args below meth c H locs 0 0 (MQ below (qI g out) args s 0 0 (gA g)) (F0 m 4 ls [])) (x1 : Int32) (x2 : Int32) (M : Mem) {H : Heap} {locs : List Loc} {ls : Array Slot} (hf : f_X6_rowsThere_25 k4 x1 x2 M = some out) (hP : va_P g.1 vwCl (gW g M) H) (hS : va_S (gA g) s.heap H locs) (hl : lv_has ls 3 [(0, .ref (gz g + 0)), (1, .int x1), (2, .int x2)]) : W p l e (rM 0 0) s m args below meth c H locs 0 0 (MQ below (qI g out) args s 0 0 (gA g)) (F0 m 25 ls []) := by
  have hx := X.1
  have hb := X.2.1
  refine lv_iinc (v := (x2 + (1 : Int32))) (lv' := [(2, .int (x2 + (1 : Int32))), (0, .ref (gz g + 0)), (1, .int x1)]) hx hb dX6_rowsThere_25 hl (k := 2) rfl rfl (by decide) rfl (fun ls hl => ?_)
  refine lv_goto (tgt := 4) hx hb dX6_rowsThere_28 (by decide) ?_
  exact hk4 x1 (x2 + (1 : Int32)) M _ _ _ hf hP hS (lv_sub hl [1, 2, 0] rfl)
def f_X6_rowsThere_4   : Nat → Int32 → Int32 → Mem → Option (Int32 × Mem)
  | 0, _, _, _ => none
  | n + 1, x1, x2, M =>
    if (8 : Int32) ≤ x2 then
      some (x1, M)
    else
      ck x2 8 <|
      if (M (251 + 2 * x2.toNatClampNeg) 1) = 0 then
        f_X6_rowsThere_25 (f_X6_rowsThere_4 n) x1 x2 M
      else
        f_X6_rowsThere_25 (f_X6_rowsThere_4 n) (x1 + (1 : Int32)) x2 M
set_option maxRecDepth 20000 in
theorem b_X6_rowsThere_4 {out : Int32 × Mem} (X : Bx p s m args meth c RX6 cX6_rowsThere 3 (some .int) g)        : ∀ (n : Nat) (x1 : Int32) (x2 : Int32) (M : Mem) (H : Heap) (locs : List Loc) (ls : Array Slot), f_X6_rowsThere_4 n x1 x2 M = some out → va_P g.1 vwCl (gW g M) H → va_S (gA g) s.heap H locs → lv_has ls 3 [(0, .ref (gz g + 0)), (1, .int x1), (2, .int x2)] → W p l e (rM 0 0) s m args below meth c H locs 0 0 (MQ below (qI g out) args s 0 0 (gA g)) (F0 m 4 ls []) := by
  have hx := X.1
  have hb := X.2.1
  intro n
  induction n with
  | zero => intro _ _ _ _ _ _ hf; cases hf
  | succ n ih =>
    intro x1 x2 M H locs ls hf hP hS hl
    rw [f_X6_rowsThere_4] at hf
    refine lv_iload_n hx hb dX6_rowsThere_4 rfl (lv_at hl 2 rfl) ?_
    refine lv_bipush (v := (8 : Int32)) hx hb dX6_rowsThere_5 (by decide) ?_
    refine lv_icmp_ge (tgt := 31) hx hb dX6_rowsThere_7 (by decide) (fun h_1 => ?_) (fun h_1 => ?_)
    · replace hf := it_t hf h_1
      refine lv_iload_n hx hb dX6_rowsThere_31 rfl (lv_at hl 1 rfl) ?_
      exact g_iret X hP hS (sm_i hf) dX6_rowsThere_32
    · replace hf := it_f hf h_1
      refine lv_aload_n hx hb dX6_rowsThere_10 rfl (lv_at hl 0 rfl) ?_
      refine gf_6_0 X hP kc_0 q1_198 dX6_rowsThere_11 ?_
      refine lv_iload_n hx hb dX6_rowsThere_14 rfl (lv_at hl 2 rfl) ?_
      obtain ⟨hi_2, hf⟩ := ck_s hf
      refine gr_rows X hP kc_1 hi_2 dX6_rowsThere_15 ?_
      refine gf_2_1 X hP (kd_rows hi_2) q1_184 dX6_rowsThere_16 ?_
      refine lv_if_eq (tgt := 25) hx hb dX6_rowsThere_19 (by decide) (fun h_3 => ?_) (fun h_3 => ?_)
      · replace hf := it_t hf h_3
        exact b_X6_rowsThere_25 X ih x1 x2 M hf hP hS hl
      · replace hf := it_f hf h_3
        refine lv_iinc (v := (x1 + (1 : Int32))) (lv' := [(1, .int (x1 + (1 : Int32))), (0, .ref (gz g + 0)), (2, .int x2)]) hx hb dX6_rowsThere_22 hl (k := 1) rfl rfl (by decide) rfl (fun ls hl => ?_)
        exact b_X6_rowsThere_25 X ih (x1 + (1 : Int32)) x2 M hf hP hS (lv_sub hl [1, 0, 2] rfl)
def f_X6_rowsThere  (M : Mem) : Option (Int32 × Mem) :=
  f_X6_rowsThere_4 FU (0 : Int32) (0 : Int32) M
set_option maxRecDepth 20000 in
theorem c_X6_rowsThere (l : Launch) (g : GC)   {M : Mem} {out : Int32 × Mem} (hf : f_X6_rowsThere  M = some out) : cI l g yX6_rowsThere cX6_rowsThere 3 (some .int) (rM 0 0) [.ref (gz g + 0)] M out := by
  refine g_met (by decide) (Nat.le_of_ble_eq_true rfl) ?_
  intro p e s m below meth c X hP hS ls hl
  have X : Bx p s m _ meth c RX6 cX6_rowsThere 3 (some .int) g := X
  have hl : lv_has ls 3 [(0, .ref (gz g + 0))] := hl
  have hx := X.1
  have hb := X.2.1
  refine lv_iconst (v := (0 : Int32)) hx hb dX6_rowsThere_0 (by decide) ?_
  refine lv_istore_n (lv' := [(1, .int (0 : Int32)), (0, .ref (gz g + 0))]) hx hb dX6_rowsThere_1 rfl hl (by decide) rfl (fun ls hl => ?_)
  refine lv_iconst (v := (0 : Int32)) hx hb dX6_rowsThere_2 (by decide) ?_
  refine lv_istore_n (lv' := [(2, .int (0 : Int32)), (1, .int (0 : Int32)), (0, .ref (gz g + 0))]) hx hb dX6_rowsThere_3 rfl hl (by decide) rfl (fun ls hl => ?_)
  exact b_X6_rowsThere_4 X  FU (0 : Int32) (0 : Int32) M _ _ _ hf hP hS (lv_sub hl [2, 1, 0] rfl)
def f_X6_count (x1 : Int32) (M : Mem) : Option (Int32 × Mem) :=
  lt x1 fun v_1 =>
  if v_1 = (0 : Int32) then
    cb (f_X6_rowsThere M) fun r_5 M_4 =>
    some (r_5, M_4)
  else
    if v_1 = (1 : Int32) then
      some ((M 3 1), M)
    else
      if v_1 = (2 : Int32) then
        some ((M 3 0), M)
      else
        if v_1 = (3 : Int32) then
          some ((M 3 4), M)
        else
          if v_1 = (4 : Int32) then
            some ((M 3 2), M)
          else
            if v_1 = (5 : Int32) then
              cb (f_X5_pluckedInAll 3 M) fun r_13 M_12 =>
              some (r_13, M_12)
            else
              if v_1 = (6 : Int32) then
                some ((M 17 2), M)
              else
                if v_1 = (7 : Int32) then
                  some ((M 15 1), M)
                else
                  some ((-1000001 : Int32), M)
set_option maxRecDepth 20000 in
theorem c_X6_count (l : Launch) (g : GC) {x1 : Int32}  {M : Mem} {out : Int32 × Mem} (hf : f_X6_count x1 M = some out) : cI l g yX6_count cX6_count 2 (some .int) (rM 1 22) [.ref (gz g + 0), .int x1] M out := by
  refine g_met (by decide) (Nat.le_of_ble_eq_true rfl) ?_
  intro p e s m below meth c X hP hS ls hl
  have X : Bx p s m _ meth c RX6 cX6_count 2 (some .int) g := X
  have hl : lv_has ls 2 [(0, .ref (gz g + 0)), (1, .int x1)] := hl
  have hx := X.1
  have hb := X.2.1
  refine lv_iload_n hx hb dX6_count_0 rfl (lv_at hl 1 rfl) ?_
  refine lv_topi (fun v_1 ev_1 => ?_)
  replace hf := lt_go hf ev_1
  by_cases h_2 : v_1 = (0 : Int32)
  · replace hf := it_t hf h_2
    refine lv_tableIn (off := 47) (tgt := 48) hx hb dX6_count_1 (by rw [h_2]; decide) (by rw [h_2]; decide) (by rw [h_2]; rfl) (by decide) ?_
    refine lv_aload_n hx hb dX6_count_48 rfl (lv_at hl 0 rfl) ?_
    obtain ⟨r_5, M_4, hc_3, hf⟩ := cb_s hf
    refine g_goi (g_run X (c_X6_rowsThere l g  hc_3) s_X6_rowsThere (oB_6 kc_0) q4_7 ⟨Nat.le_of_ble_eq_true rfl, Nat.le_of_ble_eq_true rfl⟩ hP hS rfl hl.1 rfl (Nat.le_of_ble_eq_true rfl) ⟨Nat.le_refl _, Nat.le_refl _⟩ dX6_count_49) hS (fun H locs hP hS => ?_)
    exact g_iret X hP hS (sm_i hf) dX6_count_52
  · replace hf := it_f hf h_2
    by_cases h_6 : v_1 = (1 : Int32)
    · replace hf := it_t hf h_6
      refine lv_tableIn (off := 52) (tgt := 53) hx hb dX6_count_1 (by rw [h_6]; decide) (by rw [h_6]; decide) (by rw [h_6]; rfl) (by decide) ?_
      refine lv_aload_n hx hb dX6_count_53 rfl (lv_at hl 0 rfl) ?_
      refine gf_6_2 X hP kc_0 q1_200 dX6_count_54 ?_
      refine gf_5_1 X hP kc_3 q1_37 dX6_count_57 ?_
      exact g_iret X hP hS (sm_i hf) dX6_count_60
    · replace hf := it_f hf h_6
      by_cases h_7 : v_1 = (2 : Int32)
      · replace hf := it_t hf h_7
        refine lv_tableIn (off := 60) (tgt := 61) hx hb dX6_count_1 (by rw [h_7]; decide) (by rw [h_7]; decide) (by rw [h_7]; rfl) (by decide) ?_
        refine lv_aload_n hx hb dX6_count_61 rfl (lv_at hl 0 rfl) ?_
        refine gf_6_2 X hP kc_0 q1_200 dX6_count_62 ?_
        refine gf_5_0 X hP kc_3 q1_33 dX6_count_65 ?_
        exact g_iret X hP hS (sm_i hf) dX6_count_68
      · replace hf := it_f hf h_7
        by_cases h_8 : v_1 = (3 : Int32)
        · replace hf := it_t hf h_8
          refine lv_tableIn (off := 68) (tgt := 69) hx hb dX6_count_1 (by rw [h_8]; decide) (by rw [h_8]; decide) (by rw [h_8]; rfl) (by decide) ?_
          refine lv_aload_n hx hb dX6_count_69 rfl (lv_at hl 0 rfl) ?_
          refine gf_6_2 X hP kc_0 q1_200 dX6_count_70 ?_
          refine gf_5_4 X hP kc_3 q1_47 dX6_count_73 ?_
          exact g_iret X hP hS (sm_i hf) dX6_count_76
        · replace hf := it_f hf h_8
          by_cases h_9 : v_1 = (4 : Int32)
          · replace hf := it_t hf h_9
            refine lv_tableIn (off := 76) (tgt := 77) hx hb dX6_count_1 (by rw [h_9]; decide) (by rw [h_9]; decide) (by rw [h_9]; rfl) (by decide) ?_
            refine lv_aload_n hx hb dX6_count_77 rfl (lv_at hl 0 rfl) ?_
            refine gf_6_2 X hP kc_0 q1_200 dX6_count_78 ?_
            refine gf_5_2 X hP kc_3 q1_41 dX6_count_81 ?_
            exact g_iret X hP hS (sm_i hf) dX6_count_84
          · replace hf := it_f hf h_9
            by_cases h_10 : v_1 = (5 : Int32)
            · replace hf := it_t hf h_10
              refine lv_tableIn (off := 84) (tgt := 85) hx hb dX6_count_1 (by rw [h_10]; decide) (by rw [h_10]; decide) (by rw [h_10]; rfl) (by decide) ?_
              refine lv_aload_n hx hb dX6_count_85 rfl (lv_at hl 0 rfl) ?_
              refine gf_6_2 X hP kc_0 q1_200 dX6_count_86 ?_
              obtain ⟨r_13, M_12, hc_11, hf⟩ := cb_s hf
              refine g_goi (g_run X (c_X5_pluckedInAll l g kc_3 hc_11) s_X5_pluckedInAll (oB_5 kc_3) q4_11 ⟨Nat.le_of_ble_eq_true rfl, Nat.le_of_ble_eq_true rfl⟩ hP hS rfl hl.1 rfl (Nat.le_of_ble_eq_true rfl) ⟨Nat.le_refl _, Nat.le_refl _⟩ dX6_count_89) hS (fun H locs hP hS => ?_)
              exact g_iret X hP hS (sm_i hf) dX6_count_92
            · replace hf := it_f hf h_10
              by_cases h_14 : v_1 = (6 : Int32)
              · replace hf := it_t hf h_14
                refine lv_tableIn (off := 92) (tgt := 93) hx hb dX6_count_1 (by rw [h_14]; decide) (by rw [h_14]; decide) (by rw [h_14]; rfl) (by decide) ?_
                refine lv_aload_n hx hb dX6_count_93 rfl (lv_at hl 0 rfl) ?_
                refine gf_6_5 X hP kc_0 q1_203 dX6_count_94 ?_
                refine gf_1_2 X hP kc_17 q1_131 dX6_count_97 ?_
                exact g_iret X hP hS (sm_i hf) dX6_count_100
              · replace hf := it_f hf h_14
                by_cases h_15 : v_1 = (7 : Int32)
                · replace hf := it_t hf h_15
                  refine lv_tableIn (off := 100) (tgt := 101) hx hb dX6_count_1 (by rw [h_15]; decide) (by rw [h_15]; decide) (by rw [h_15]; rfl) (by decide) ?_
                  refine lv_aload_n hx hb dX6_count_101 rfl (lv_at hl 0 rfl) ?_
                  refine gf_6_4 X hP kc_0 q1_202 dX6_count_102 ?_
                  refine gf_4_1 X hP kc_15 q1_103 dX6_count_105 ?_
                  exact g_iret X hP hS (sm_i hf) dX6_count_108
                · replace hf := it_f hf h_15
                  refine lv_tableOut (tgt := 109) hx hb dX6_count_1 (by have n0 := lv_neT (a := 0) h_2 rfl; have n1 := lv_neT (a := 1) h_6 rfl; have n2 := lv_neT (a := 2) h_7 rfl; have n3 := lv_neT (a := 3) h_8 rfl; have n4 := lv_neT (a := 4) h_9 rfl; have n5 := lv_neT (a := 5) h_10 rfl; have n6 := lv_neT (a := 6) h_14 rfl; have n7 := lv_neT (a := 7) h_15 rfl; omega) (by decide) ?_
                  refine lv_ldc hx hb X.2.2.2.1 (X.2.2.2.2.1 _ q1_239) dX6_count_109 ?_
                  exact g_iret X hP hS (sm_i hf) dX6_count_111
def f_X6_status  (M : Mem) : Option (Int32 × Mem) :=
  some ((M 0 8), M)
set_option maxRecDepth 20000 in
theorem c_X6_status (l : Launch) (g : GC)   {M : Mem} {out : Int32 × Mem} (hf : f_X6_status  M = some out) : cI l g yX6_status cX6_status 1 (some .int) (rM 0 0) [.ref (gz g + 0)] M out := by
  refine g_met (by decide) (Nat.le_of_ble_eq_true rfl) ?_
  intro p e s m below meth c X hP hS ls hl
  have X : Bx p s m _ meth c RX6 cX6_status 1 (some .int) g := X
  have hl : lv_has ls 1 [(0, .ref (gz g + 0))] := hl
  have hx := X.1
  have hb := X.2.1
  refine lv_aload_n hx hb dX6_status_0 rfl (lv_at hl 0 rfl) ?_
  refine gf_6_8 X hP kc_0 q1_206 dX6_status_1 ?_
  exact g_iret X hP hS (sm_i hf) dX6_status_4
