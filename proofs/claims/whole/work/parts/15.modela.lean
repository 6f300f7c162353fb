variable {p : Program} {l : Launch} {e : Env} {s : State} {m : MethodId} {args : Array Value} {below : List Frame} {meth : Method} {c : Code} {g : GC}
def f_X7_in (y0 : Int64) (y2 : Int64) (y4 : Int64) (M : Mem) : Option (Int32 × Mem) :=
  if (lg_cmp y0 y2) < 0 then
    some ((0 : Int32), M)
  else
    if 0 < (lg_cmp y0 y4) then
      some ((0 : Int32), M)
    else
      some ((1 : Int32), M)
set_option maxRecDepth 20000 in
theorem c_X7_in (l : Launch) (g : GC) {y0 : Int64} {y2 : Int64} {y4 : Int64}  {M : Mem} {out : Int32 × Mem} (hf : f_X7_in y0 y2 y4 M = some out) : cI l g yX7_in cX7_in 6 (some .boolean) (rM 0 0) [.long y0, .long y2, .long y4] M out := by
  refine g_met (by decide) (Nat.le_of_ble_eq_true rfl) ?_
  intro p e s m below meth c X hP hS ls hl
  have X : Bx p s m _ meth c RX7 cX7_in 6 (some .boolean) g := X
  have hl : lv_has ls 6 [(0, .long y0), (2, .long y2), (4, .long y4)] := hl
  have hx := X.1
  have hb := X.2.1
  refine lv_lload_n hx hb dX7_in_0 rfl (lv_at hl 0 rfl) ?_
  refine lv_lload_n hx hb dX7_in_1 rfl (lv_at hl 1 rfl) ?_
  refine W.lcmp hx hb dX7_in_2 ?_
  refine lv_if_lt (tgt := 17) hx hb dX7_in_3 (by decide) (fun h_1 => ?_) (fun h_1 => ?_)
  · replace hf := it_t hf h_1
    refine lv_iconst (v := (0 : Int32)) hx hb dX7_in_17 (by decide) ?_
    exact g_zret X hP hS rfl (sm_i hf) dX7_in_18
  · replace hf := it_f hf h_1
    refine lv_lload_n hx hb dX7_in_6 rfl (lv_at hl 0 rfl) ?_
    refine lv_lload hx hb dX7_in_7 (lv_at hl 2 rfl) ?_
    refine W.lcmp hx hb dX7_in_9 ?_
    refine lv_if_gt (tgt := 17) hx hb dX7_in_10 (by decide) (fun h_2 => ?_) (fun h_2 => ?_)
    · replace hf := it_t hf h_2
      refine lv_iconst (v := (0 : Int32)) hx hb dX7_in_17 (by decide) ?_
      exact g_zret X hP hS rfl (sm_i hf) dX7_in_18
    · replace hf := it_f hf h_2
      refine lv_iconst (v := (1 : Int32)) hx hb dX7_in_13 (by decide) ?_
      refine lv_goto (tgt := 18) hx hb dX7_in_14 (by decide) ?_
      exact g_zret X hP hS rfl (sm_i hf) dX7_in_18
def f_X7_has (x0 : Int32) (x1 : Int32) (M : Mem) : Option (Int32 × Mem) :=
  if ((x0 >>> (x1 &&& 31)) &&& (1 : Int32)) = (1 : Int32) then
    some ((1 : Int32), M)
  else
    some ((0 : Int32), M)
set_option maxRecDepth 20000 in
theorem c_X7_has (l : Launch) (g : GC) {x0 : Int32} {x1 : Int32}  {M : Mem} {out : Int32 × Mem} (hf : f_X7_has x0 x1 M = some out) : cI l g yX7_has cX7_has 2 (some .boolean) (rM 0 0) [.int x0, .int x1] M out := by
  refine g_met (by decide) (Nat.le_of_ble_eq_true rfl) ?_
  intro p e s m below meth c X hP hS ls hl
  have X : Bx p s m _ meth c RX7 cX7_has 2 (some .boolean) g := X
  have hl : lv_has ls 2 [(0, .int x0), (1, .int x1)] := hl
  have hx := X.1
  have hb := X.2.1
  refine lv_iload_n hx hb dX7_has_0 rfl (lv_at hl 0 rfl) ?_
  refine lv_iload_n hx hb dX7_has_1 rfl (lv_at hl 1 rfl) ?_
  refine lv_ishr hx hb dX7_has_2 ?_
  refine lv_iconst (v := (1 : Int32)) hx hb dX7_has_3 (by decide) ?_
  refine lv_iand hx hb dX7_has_4 ?_
  refine lv_iconst (v := (1 : Int32)) hx hb dX7_has_5 (by decide) ?_
  refine lv_icmp_ne (tgt := 13) hx hb dX7_has_6 (by decide) (fun h_1 => ?_) (fun h_1 => ?_)
  · replace hf := it_f hf h_1
    refine lv_iconst (v := (0 : Int32)) hx hb dX7_has_13 (by decide) ?_
    exact g_zret X hP hS rfl (sm_i hf) dX7_has_14
  · replace hf := it_t hf h_1
    refine lv_iconst (v := (1 : Int32)) hx hb dX7_has_9 (by decide) ?_
    refine lv_goto (tgt := 14) hx hb dX7_has_10 (by decide) ?_
    exact g_zret X hP hS rfl (sm_i hf) dX7_has_14
def f_X7_copyOf_2 (x1 : Int32) (x2 : Int32)  : Nat → Int32 → Mem → Option Mem
  | 0, _, _ => none
  | n + 1, x3, M =>
    if (43 : Int32) ≤ x3 then
      some M
    else
      ck (x1 + x3) 1247 <|
      ck (x2 + x3) 1247 <|
      lt (up2 M 280 ((x2 + x3)).toNatClampNeg (M 280 ((x1 + x3)).toNatClampNeg)) fun M_3 =>
      (f_X7_copyOf_2 x1 x2 n) (x3 + (1 : Int32)) M_3
set_option maxRecDepth 20000 in
theorem b_X7_copyOf_2 {out : Mem} (X : Bx p s m args meth c RX7 cX7_copyOf 4 none g)   {x1 : Int32} {x2 : Int32}     : ∀ (n : Nat) (x3 : Int32) (M : Mem) (H : Heap) (locs : List Loc) (ls : Array Slot), f_X7_copyOf_2 x1 x2 n x3 M = some out → va_P g.1 vwCl (gW g M) H → va_S (gA g) s.heap H locs → lv_has ls 4 [(0, .ref (gz g + 279)), (1, .int x1), (2, .int x2), (3, .int x3)] → W p l e (rM 0 0) s m args below meth c H locs 0 0 (MQ below (qV g out) args s 0 0 (gA g)) (F0 m 2 ls []) := by
  have hx := X.1
  have hb := X.2.1
  intro n
  induction n with
  | zero => intro _ _ _ _ _ hf; cases hf
  | succ n ih =>
    intro x3 M H locs ls hf hP hS hl
    rw [f_X7_copyOf_2] at hf
    refine lv_iload_n hx hb dX7_copyOf_2 rfl (lv_at hl 3 rfl) ?_
    refine lv_bipush (v := (43 : Int32)) hx hb dX7_copyOf_3 (by decide) ?_
    refine lv_icmp_ge (tgt := 30) hx hb dX7_copyOf_5 (by decide) (fun h_1 => ?_) (fun h_1 => ?_)
    · replace hf := it_t hf h_1
      exact g_vret X hP hS (sm_i hf) dX7_copyOf_30
    · replace hf := it_f hf h_1
      refine lv_aload_n hx hb dX7_copyOf_8 rfl (lv_at hl 0 rfl) ?_
      refine gf_7_0 X hP kc_279 q4_25 dX7_copyOf_9 ?_
      refine lv_iload_n hx hb dX7_copyOf_12 rfl (lv_at hl 2 rfl) ?_
      refine lv_iload_n hx hb dX7_copyOf_13 rfl (lv_at hl 3 rfl) ?_
      refine lv_iadd hx hb dX7_copyOf_14 ?_
      refine lv_aload_n hx hb dX7_copyOf_15 rfl (lv_at hl 0 rfl) ?_
      refine gf_7_0 X hP kc_279 q4_25 dX7_copyOf_16 ?_
      refine lv_iload_n hx hb dX7_copyOf_19 rfl (lv_at hl 1 rfl) ?_
      refine lv_iload_n hx hb dX7_copyOf_20 rfl (lv_at hl 3 rfl) ?_
      refine lv_iadd hx hb dX7_copyOf_21 ?_
      obtain ⟨hi_2, hf⟩ := ck_s hf
      refine ga_ld X hP (iA_13 kc_280) hi_2 dX7_copyOf_22 ?_
      obtain ⟨hi_4, hf⟩ := ck_s hf
      refine ga_st X hP hS (iA_13 kc_280) hi_4 dX7_copyOf_23 (fun H locs M_3 eM_3 hP hS => ?_)
      replace hf := lt_go hf eM_3
      refine lv_iinc (v := (x3 + (1 : Int32))) (lv' := [(3, .int (x3 + (1 : Int32))), (0, .ref (gz g + 279)), (1, .int x1), (2, .int x2)]) hx hb dX7_copyOf_24 hl (k := 3) rfl rfl (by decide) rfl (fun ls hl => ?_)
      refine lv_goto (tgt := 2) hx hb dX7_copyOf_27 (by decide) ?_
      exact ih (x3 + (1 : Int32)) M_3 _ _ _ hf hP hS (lv_sub hl [1, 2, 3, 0] rfl)
def f_X7_copyOf (x1 : Int32) (x2 : Int32) (M : Mem) : Option Mem :=
  f_X7_copyOf_2 x1 x2 FU (0 : Int32) M
set_option maxRecDepth 20000 in
theorem c_X7_copyOf (l : Launch) (g : GC) {x1 : Int32} {x2 : Int32}  {M : Mem} {out : Mem} (hf : f_X7_copyOf x1 x2 M = some out) : cV l g yX7_copyOf cX7_copyOf 4 (rM 0 0) [.ref (gz g + 279), .int x1, .int x2] M out := by
  refine g_met (by decide) (Nat.le_of_ble_eq_true rfl) ?_
  intro p e s m below meth c X hP hS ls hl
  have X : Bx p s m _ meth c RX7 cX7_copyOf 4 none g := X
  have hl : lv_has ls 4 [(0, .ref (gz g + 279)), (1, .int x1), (2, .int x2)] := hl
  have hx := X.1
  have hb := X.2.1
  refine lv_iconst (v := (0 : Int32)) hx hb dX7_copyOf_0 (by decide) ?_
  refine lv_istore_n (lv' := [(3, .int (0 : Int32)), (0, .ref (gz g + 279)), (1, .int x1), (2, .int x2)]) hx hb dX7_copyOf_1 rfl hl (by decide) rfl (fun ls hl => ?_)
  exact b_X7_copyOf_2 X  FU (0 : Int32) M _ _ _ hf hP hS (lv_sub hl [1, 2, 3, 0] rfl)
def f_X7_isTooth (x1 : Int32) (M : Mem) : Option (Int32 × Mem) :=
  cb (f_X7_in ((x1).toInt64) (0 : Int64) ((((M 280 0) - (1 : Int32))).toInt64) M) fun r_3 M_2 =>
  cbz r_3 <| some (r_3, M_2)
set_option maxRecDepth 20000 in
theorem c_X7_isTooth (l : Launch) (g : GC) {x1 : Int32}  {M : Mem} {out : Int32 × Mem} (hf : f_X7_isTooth x1 M = some out) : cI l g yX7_isTooth cX7_isTooth 2 (some .boolean) (rM 1 25) [.ref (gz g + 279), .int x1] M out := by
  refine g_met (by decide) (Nat.le_of_ble_eq_true rfl) ?_
  intro p e s m below meth c X hP hS ls hl
  have X : Bx p s m _ meth c RX7 cX7_isTooth 2 (some .boolean) g := X
  have hl : lv_has ls 2 [(0, .ref (gz g + 279)), (1, .int x1)] := hl
  have hx := X.1
  have hb := X.2.1
  refine lv_iload_n hx hb dX7_isTooth_0 rfl (lv_at hl 1 rfl) ?_
  refine lv_i2l hx hb dX7_isTooth_1 rfl ?_
  refine lv_lconst (v := (0 : Int64)) hx hb dX7_isTooth_2 (by decide) ?_
  refine lv_aload_n hx hb dX7_isTooth_3 rfl (lv_at hl 0 rfl) ?_
  refine gf_7_0 X hP kc_279 q4_25 dX7_isTooth_4 ?_
  refine lv_iconst (v := (0 : Int32)) hx hb dX7_isTooth_7 (by decide) ?_
  refine ga_ldj (j := 0) X hP (iA_13 kc_280) (by unfold vp_in; decide) (by decide) dX7_isTooth_8 ?_
  refine lv_iconst (v := (1 : Int32)) hx hb dX7_isTooth_9 (by decide) ?_
  refine lv_isub hx hb dX7_isTooth_10 ?_
  refine lv_i2l hx hb dX7_isTooth_11 rfl ?_
  obtain ⟨r_3, M_2, hc_1, hf⟩ := cb_s hf
  refine g_goi (g_runS X (c_X7_in l g  hc_1) s_X7_in q4_89 ⟨Nat.le_of_ble_eq_true rfl, Nat.le_of_ble_eq_true rfl⟩ hP hS rfl hl.1 rfl (Nat.le_of_ble_eq_true rfl) ⟨Nat.le_refl _, Nat.le_refl _⟩ dX7_isTooth_12) hS (fun H locs hP hS => ?_)
  obtain ⟨hbz, hf⟩ := cbz_s hf
  exact g_zret X hP hS hbz (sm_i hf) dX7_isTooth_15
def f_X7_isColumn (x1 : Int32) (M : Mem) : Option (Int32 × Mem) :=
  cb (f_X7_in ((x1).toInt64) (0 : Int64) ((((M 280 1) - (1 : Int32))).toInt64) M) fun r_3 M_2 =>
  cbz r_3 <| some (r_3, M_2)
set_option maxRecDepth 20000 in
theorem c_X7_isColumn (l : Launch) (g : GC) {x1 : Int32}  {M : Mem} {out : Int32 × Mem} (hf : f_X7_isColumn x1 M = some out) : cI l g yX7_isColumn cX7_isColumn 2 (some .boolean) (rM 1 25) [.ref (gz g + 279), .int x1] M out := by
  refine g_met (by decide) (Nat.le_of_ble_eq_true rfl) ?_
  intro p e s m below meth c X hP hS ls hl
  have X : Bx p s m _ meth c RX7 cX7_isColumn 2 (some .boolean) g := X
  have hl : lv_has ls 2 [(0, .ref (gz g + 279)), (1, .int x1)] := hl
  have hx := X.1
  have hb := X.2.1
  refine lv_iload_n hx hb dX7_isColumn_0 rfl (lv_at hl 1 rfl) ?_
  refine lv_i2l hx hb dX7_isColumn_1 rfl ?_
  refine lv_lconst (v := (0 : Int64)) hx hb dX7_isColumn_2 (by decide) ?_
  refine lv_aload_n hx hb dX7_isColumn_3 rfl (lv_at hl 0 rfl) ?_
  refine gf_7_0 X hP kc_279 q4_25 dX7_isColumn_4 ?_
  refine lv_iconst (v := (1 : Int32)) hx hb dX7_isColumn_7 (by decide) ?_
  refine ga_ldj (j := 1) X hP (iA_13 kc_280) (by unfold vp_in; decide) (by decide) dX7_isColumn_8 ?_
  refine lv_iconst (v := (1 : Int32)) hx hb dX7_isColumn_9 (by decide) ?_
  refine lv_isub hx hb dX7_isColumn_10 ?_
  refine lv_i2l hx hb dX7_isColumn_11 rfl ?_
  obtain ⟨r_3, M_2, hc_1, hf⟩ := cb_s hf
  refine g_goi (g_runS X (c_X7_in l g  hc_1) s_X7_in q4_89 ⟨Nat.le_of_ble_eq_true rfl, Nat.le_of_ble_eq_true rfl⟩ hP hS rfl hl.1 rfl (Nat.le_of_ble_eq_true rfl) ⟨Nat.le_refl _, Nat.le_refl _⟩ dX7_isColumn_12) hS (fun H locs hP hS => ?_)
  obtain ⟨hbz, hf⟩ := cbz_s hf
  exact g_zret X hP hS hbz (sm_i hf) dX7_isColumn_15
def f_X7_isBox  (M : Mem) : Option (Int32 × Mem) :=
  if (M 280 0) ≤ 0 then
    some ((0 : Int32), M)
  else
    some ((1 : Int32), M)
set_option maxRecDepth 20000 in
theorem c_X7_isBox (l : Launch) (g : GC)   {M : Mem} {out : Int32 × Mem} (hf : f_X7_isBox  M = some out) : cI l g yX7_isBox cX7_isBox 1 (some .boolean) (rM 0 0) [.ref (gz g + 279)] M out := by
  refine g_met (by decide) (Nat.le_of_ble_eq_true rfl) ?_
  intro p e s m below meth c X hP hS ls hl
  have X : Bx p s m _ meth c RX7 cX7_isBox 1 (some .boolean) g := X
  have hl : lv_has ls 1 [(0, .ref (gz g + 279))] := hl
  have hx := X.1
  have hb := X.2.1
  refine lv_aload_n hx hb dX7_isBox_0 rfl (lv_at hl 0 rfl) ?_
  refine gf_7_0 X hP kc_279 q4_25 dX7_isBox_1 ?_
  refine lv_iconst (v := (0 : Int32)) hx hb dX7_isBox_4 (by decide) ?_
  refine ga_ldj (j := 0) X hP (iA_13 kc_280) (by unfold vp_in; decide) (by decide) dX7_isBox_5 ?_
  refine lv_if_le (tgt := 13) hx hb dX7_isBox_6 (by decide) (fun h_1 => ?_) (fun h_1 => ?_)
  · replace hf := it_t hf h_1
    refine lv_iconst (v := (0 : Int32)) hx hb dX7_isBox_13 (by decide) ?_
    exact g_zret X hP hS rfl (sm_i hf) dX7_isBox_14
  · replace hf := it_f hf h_1
    refine lv_iconst (v := (1 : Int32)) hx hb dX7_isBox_9 (by decide) ?_
    refine lv_goto (tgt := 14) hx hb dX7_isBox_10 (by decide) ?_
    exact g_zret X hP hS rfl (sm_i hf) dX7_isBox_14
def f_X7_isRow (x0 : Int32) (M : Mem) : Option (Int32 × Mem) :=
  cb (f_X7_in ((x0).toInt64) (0 : Int64) (7 : Int64) M) fun r_3 M_2 =>
  cbz r_3 <| some (r_3, M_2)
set_option maxRecDepth 20000 in
theorem c_X7_isRow (l : Launch) (g : GC) {x0 : Int32}  {M : Mem} {out : Int32 × Mem} (hf : f_X7_isRow x0 M = some out) : cI l g yX7_isRow cX7_isRow 1 (some .boolean) (rM 1 25) [.int x0] M out := by
  refine g_met (by decide) (Nat.le_of_ble_eq_true rfl) ?_
  intro p e s m below meth c X hP hS ls hl
  have X : Bx p s m _ meth c RX7 cX7_isRow 1 (some .boolean) g := X
  have hl : lv_has ls 1 [(0, .int x0)] := hl
  have hx := X.1
  have hb := X.2.1
  refine lv_iload_n hx hb dX7_isRow_0 rfl (lv_at hl 0 rfl) ?_
  refine lv_i2l hx hb dX7_isRow_1 rfl ?_
  refine lv_lconst (v := (0 : Int64)) hx hb dX7_isRow_2 (by decide) ?_
  refine lv_ldc2 hx hb X.2.2.2.1 (X.2.2.2.2.1 _ q4_88) dX7_isRow_3 ?_
  obtain ⟨r_3, M_2, hc_1, hf⟩ := cb_s hf
  refine g_goi (g_runS X (c_X7_in l g  hc_1) s_X7_in q4_89 ⟨Nat.le_of_ble_eq_true rfl, Nat.le_of_ble_eq_true rfl⟩ hP hS rfl hl.1 rfl (Nat.le_of_ble_eq_true rfl) ⟨Nat.le_refl _, Nat.le_refl _⟩ dX7_isRow_6) hS (fun H locs hP hS => ?_)
  obtain ⟨hbz, hf⟩ := cbz_s hf
  exact g_zret X hP hS hbz (sm_i hf) dX7_isRow_9
def f_X7_finds (x1 : Int32) (M : Mem) : Option (Int32 × Mem) :=
  lt (up2 M 279 5 x1) fun M_1 =>
  some (((-1000010 : Int32) - x1), M_1)
set_option maxRecDepth 20000 in
theorem c_X7_finds (l : Launch) (g : GC) {x1 : Int32}  {M : Mem} {out : Int32 × Mem} (hf : f_X7_finds x1 M = some out) : cI l g yX7_finds cX7_finds 2 (some .int) (rM 0 0) [.ref (gz g + 279), .int x1] M out := by
  refine g_met (by decide) (Nat.le_of_ble_eq_true rfl) ?_
  intro p e s m below meth c X hP hS ls hl
  have X : Bx p s m _ meth c RX7 cX7_finds 2 (some .int) g := X
  have hl : lv_has ls 2 [(0, .ref (gz g + 279)), (1, .int x1)] := hl
  have hx := X.1
  have hb := X.2.1
  refine lv_aload_n hx hb dX7_finds_0 rfl (lv_at hl 0 rfl) ?_
  refine lv_iload_n hx hb dX7_finds_1 rfl (lv_at hl 1 rfl) ?_
  refine gp_7_5 X hP hS kc_279 q4_30 dX7_finds_2 (fun H locs M_1 eM_1 hP hS => ?_)
  replace hf := lt_go hf eM_1
  refine lv_ldc hx hb X.2.2.2.1 (X.2.2.2.2.1 _ q4_98) dX7_finds_5 ?_
  refine lv_iload_n hx hb dX7_finds_7 rfl (lv_at hl 1 rfl) ?_
  refine lv_isub hx hb dX7_finds_8 ?_
  exact g_iret X hP hS (sm_i hf) dX7_finds_9
def f_X7_against_37    (M : Mem) : Option (Int32 × Mem) :=
  some ((2 : Int32), M)
set_option maxRecDepth 20000 in
theorem b_X7_against_37 {out : Int32 × Mem} (X : Bx p s m args meth c RX7 cX7_against 4 (some .int) g)         (M : Mem) {H : Heap} {locs : List Loc} {ls : Array Slot} (hf : f_X7_against_37 M = some out) (hP : va_P g.1 vwCl (gW g M) H) (hS : va_S (gA g) s.heap H locs) (hl : lv_has ls 4 []) : W p l e (rM 0 0) s m args below meth c H locs 0 0 (MQ below (qI g out) args s 0 0 (gA g)) (F0 m 37 ls []) := by
  have hx := X.1
  have hb := X.2.1
  refine lv_iconst (v := (2 : Int32)) hx hb dX7_against_37 (by decide) ?_
  refine lv_goto (tgt := 42) hx hb dX7_against_38 (by decide) ?_
  exact g_iret X hP hS (sm_i hf) dX7_against_42
def f_X7_against (x1 : Int32) (x2 : Int32) (x3 : Int32) (M : Mem) : Option (Int32 × Mem) :=
  ck x1 8 <|
  if 0 ≤ (M 282 x1.toNatClampNeg) then
    if x2 < 0 then
      f_X7_against_37 M
    else
      if x3 < 0 then
        f_X7_against_37 M
      else
        ck x1 8 <|
        if (lg_cmp ((x2).toInt64 + (x3).toInt64) (((M 282 x1.toNatClampNeg)).toInt64)) ≤ 0 then
          some ((0 : Int32), M)
        else
          f_X7_against_37 M
  else
    some ((1 : Int32), M)
set_option maxRecDepth 20000 in
theorem c_X7_against (l : Launch) (g : GC) {x1 : Int32} {x2 : Int32} {x3 : Int32}  {M : Mem} {out : Int32 × Mem} (hf : f_X7_against x1 x2 x3 M = some out) : cI l g yX7_against cX7_against 4 (some .int) (rM 0 0) [.ref (gz g + 279), .int x1, .int x2, .int x3] M out := by
  refine g_met (by decide) (Nat.le_of_ble_eq_true rfl) ?_
  intro p e s m below meth c X hP hS ls hl
  have X : Bx p s m _ meth c RX7 cX7_against 4 (some .int) g := X
  have hl : lv_has ls 4 [(0, .ref (gz g + 279)), (1, .int x1), (2, .int x2), (3, .int x3)] := hl
  have hx := X.1
  have hb := X.2.1
  refine lv_aload_n hx hb dX7_against_0 rfl (lv_at hl 0 rfl) ?_
  refine gf_7_6 X hP kc_279 q4_31 dX7_against_1 ?_
  refine lv_iload_n hx hb dX7_against_4 rfl (lv_at hl 1 rfl) ?_
  obtain ⟨hi_1, hf⟩ := ck_s hf
  refine ga_ld X hP (iA_14 kc_282) hi_1 dX7_against_5 ?_
  refine lv_if_ge (tgt := 13) hx hb dX7_against_6 (by decide) (fun h_2 => ?_) (fun h_2 => ?_)
  · replace hf := it_t hf h_2
    refine lv_iload_n hx hb dX7_against_13 rfl (lv_at hl 2 rfl) ?_
    refine lv_if_lt (tgt := 37) hx hb dX7_against_14 (by decide) (fun h_3 => ?_) (fun h_3 => ?_)
    · replace hf := it_t hf h_3
      exact b_X7_against_37 X   M hf hP hS (lv_sub hl [] rfl)
    · replace hf := it_f hf h_3
      refine lv_iload_n hx hb dX7_against_17 rfl (lv_at hl 3 rfl) ?_
      refine lv_if_lt (tgt := 37) hx hb dX7_against_18 (by decide) (fun h_4 => ?_) (fun h_4 => ?_)
      · replace hf := it_t hf h_4
        exact b_X7_against_37 X   M hf hP hS (lv_sub hl [] rfl)
      · replace hf := it_f hf h_4
        refine lv_iload_n hx hb dX7_against_21 rfl (lv_at hl 2 rfl) ?_
        refine lv_i2l hx hb dX7_against_22 rfl ?_
        refine lv_iload_n hx hb dX7_against_23 rfl (lv_at hl 3 rfl) ?_
        refine lv_i2l hx hb dX7_against_24 rfl ?_
        refine lv_ladd hx hb dX7_against_25 ?_
        refine lv_aload_n hx hb dX7_against_26 rfl (lv_at hl 0 rfl) ?_
        refine gf_7_6 X hP kc_279 q4_31 dX7_against_27 ?_
        refine lv_iload_n hx hb dX7_against_30 rfl (lv_at hl 1 rfl) ?_
        obtain ⟨hi_5, hf⟩ := ck_s hf
        refine ga_ld X hP (iA_14 kc_282) hi_5 dX7_against_31 ?_
        refine lv_i2l hx hb dX7_against_32 rfl ?_
        refine W.lcmp hx hb dX7_against_33 ?_
        refine lv_if_le (tgt := 41) hx hb dX7_against_34 (by decide) (fun h_6 => ?_) (fun h_6 => ?_)
        · replace hf := it_t hf h_6
          refine lv_iconst (v := (0 : Int32)) hx hb dX7_against_41 (by decide) ?_
          exact g_iret X hP hS (sm_i hf) dX7_against_42
        · replace hf := it_f hf h_6
          exact b_X7_against_37 X   M hf hP hS (lv_sub hl [] rfl)
  · replace hf := it_f hf h_2
    refine lv_iconst (v := (1 : Int32)) hx hb dX7_against_9 (by decide) ?_
    refine lv_goto (tgt := 42) hx hb dX7_against_10 (by decide) ?_
    exact g_iret X hP hS (sm_i hf) dX7_against_42
def f_X7_row_60 (x1 : Int32) (x3 : Int32)  : Nat → Int32 → Mem → Option (Int32 × Mem)
  | 0, _, _ => none
  | n + 1, x4, M =>
    if (40 : Int32) ≤ x4 then
      some (x3, M)
    else
      ck (((40 : Int32) * x1) + x4) 320 <|
      lt (up2 M 284 ((((40 : Int32) * x1) + x4)).toNatClampNeg (0 : Int32)) fun M_2 =>
      (f_X7_row_60 x1 x3 n) (x4 + (1 : Int32)) M_2
set_option maxRecDepth 20000 in
theorem b_X7_row_60 {out : Int32 × Mem} (X : Bx p s m args meth c RX7 cX7_row 5 (some .int) g)   {x1 : Int32} {x3 : Int32}     : ∀ (n : Nat) (x4 : Int32) (M : Mem) (H : Heap) (locs : List Loc) (ls : Array Slot), f_X7_row_60 x1 x3 n x4 M = some out → va_P g.1 vwCl (gW g M) H → va_S (gA g) s.heap H locs → lv_has ls 5 [(0, .ref (gz g + 279)), (1, .int x1), (3, .int x3), (4, .int x4)] → W p l e (rM 2 45) s m args below meth c H locs 0 0 (MQ below (qI g out) args s 0 0 (gA g)) (F0 m 60 ls []) := by
  have hx := X.1
  have hb := X.2.1
  intro n
  induction n with
  | zero => intro _ _ _ _ _ hf; cases hf
  | succ n ih =>
    intro x4 M H locs ls hf hP hS hl
    rw [f_X7_row_60] at hf
    refine lv_iload hx hb dX7_row_60 (lv_at hl 3 rfl) ?_
    refine lv_bipush (v := (40 : Int32)) hx hb dX7_row_62 (by decide) ?_
    refine lv_icmp_ge (tgt := 86) hx hb dX7_row_64 (by decide) (fun h_1 => ?_) (fun h_1 => ?_)
    · replace hf := it_t hf h_1
      refine lv_iload_n hx hb dX7_row_86 rfl (lv_at hl 2 rfl) ?_
      exact g_iret X hP hS (sm_i hf) dX7_row_87
    · replace hf := it_f hf h_1
      refine lv_aload_n hx hb dX7_row_67 rfl (lv_at hl 0 rfl) ?_
      refine gf_7_8 X hP kc_279 q4_33 dX7_row_68 ?_
      refine lv_bipush (v := (40 : Int32)) hx hb dX7_row_71 (by decide) ?_
      refine lv_iload_n hx hb dX7_row_73 rfl (lv_at hl 1 rfl) ?_
      refine lv_imul hx hb dX7_row_74 ?_
      refine lv_iload hx hb dX7_row_75 (lv_at hl 3 rfl) ?_
      refine lv_iadd hx hb dX7_row_77 ?_
      refine lv_iconst (v := (0 : Int32)) hx hb dX7_row_78 (by decide) ?_
      obtain ⟨hi_3, hf⟩ := ck_s hf
      refine ga_st X hP hS (iA_15 kc_284) hi_3 dX7_row_79 (fun H locs M_2 eM_2 hP hS => ?_)
      replace hf := lt_go hf eM_2
      refine lv_iinc (v := (x4 + (1 : Int32))) (lv' := [(4, .int (x4 + (1 : Int32))), (0, .ref (gz g + 279)), (1, .int x1), (3, .int x3)]) hx hb dX7_row_80 hl (k := 3) rfl rfl (by decide) rfl (fun ls hl => ?_)
      refine lv_goto (tgt := 60) hx hb dX7_row_83 (by decide) ?_
      exact ih (x4 + (1 : Int32)) M_2 _ _ _ hf hP hS (lv_sub hl [1, 2, 3, 0] rfl)
def f_X7_row (x1 : Int32) (x2 : Int32) (x3 : Int32) (M : Mem) : Option (Int32 × Mem) :=
  cb (f_X7_isRow x1 M) fun r_3 M_2 =>
  if r_3 = 0 then
    some ((-1000001 : Int32), M_2)
  else
    cb (f_X7_in ((x2).toInt64) (0 : Int64) (2 : Int64) M_2) fun r_7 M_6 =>
    if r_7 = 0 then
      some ((-1000001 : Int32), M_6)
    else
      if x3 ≤ (40 : Int32) then
        if 0 ≤ x3 then
          lt (up2 M_6 279 5 (0 : Int32)) fun M_11 =>
          ck x1 8 <|
          lt (up2 M_11 282 x1.toNatClampNeg x3) fun M_12 =>
          ck x1 8 <|
          lt (up2 M_12 283 x1.toNatClampNeg x2) fun M_14 =>
          f_X7_row_60 x1 x3 FU (0 : Int32) M_14
        else
          cb (f_X7_finds (4 : Int32) M_6) fun r_18 M_17 =>
          some (r_18, M_17)
      else
        some ((-1000001 : Int32), M_6)
set_option maxRecDepth 20000 in
theorem c_X7_row (l : Launch) (g : GC) {x1 : Int32} {x2 : Int32} {x3 : Int32}  {M : Mem} {out : Int32 × Mem} (hf : f_X7_row x1 x2 x3 M = some out) : cI l g yX7_row cX7_row 5 (some .int) (rM 2 45) [.ref (gz g + 279), .int x1, .int x2, .int x3] M out := by
  refine g_met (by decide) (Nat.le_of_ble_eq_true rfl) ?_
  intro p e s m below meth c X hP hS ls hl
  have X : Bx p s m _ meth c RX7 cX7_row 5 (some .int) g := X
  have hl : lv_has ls 5 [(0, .ref (gz g + 279)), (1, .int x1), (2, .int x2), (3, .int x3)] := hl
  have hx := X.1
  have hb := X.2.1
  refine lv_iload_n hx hb dX7_row_0 rfl (lv_at hl 1 rfl) ?_
  obtain ⟨r_3, M_2, hc_1, hf⟩ := cb_s hf
  refine g_goi (g_runS X (c_X7_isRow l g  hc_1) s_X7_isRow q4_85 ⟨Nat.le_of_ble_eq_true rfl, Nat.le_of_ble_eq_true rfl⟩ hP hS rfl hl.1 rfl (Nat.le_of_ble_eq_true rfl) ⟨Nat.le_refl _, Nat.le_refl _⟩ dX7_row_1) hS (fun H locs hP hS => ?_)
  refine lv_if_eq (tgt := 25) hx hb dX7_row_4 (by decide) (fun h_4 => ?_) (fun h_4 => ?_)
  · replace hf := it_t hf h_4
    refine lv_ldc hx hb X.2.2.2.1 (X.2.2.2.2.1 _ q4_93) dX7_row_25 ?_
    exact g_iret X hP hS (sm_i hf) dX7_row_27
  · replace hf := it_f hf h_4
    refine lv_iload_n hx hb dX7_row_7 rfl (lv_at hl 2 rfl) ?_
    refine lv_i2l hx hb dX7_row_8 rfl ?_
    refine lv_lconst (v := (0 : Int64)) hx hb dX7_row_9 (by decide) ?_
    refine lv_ldc2 hx hb X.2.2.2.1 (X.2.2.2.2.1 _ q4_92) dX7_row_10 ?_
    obtain ⟨r_7, M_6, hc_5, hf⟩ := cb_s hf
    refine g_goi (g_runS X (c_X7_in l g  hc_5) s_X7_in q4_89 ⟨Nat.le_of_ble_eq_true rfl, Nat.le_of_ble_eq_true rfl⟩ hP hS rfl hl.1 rfl (Nat.le_of_ble_eq_true rfl) ⟨Nat.le_refl _, Nat.le_refl _⟩ dX7_row_13) hS (fun H locs hP hS => ?_)
    refine lv_if_eq (tgt := 25) hx hb dX7_row_16 (by decide) (fun h_8 => ?_) (fun h_8 => ?_)
    · replace hf := it_t hf h_8
      refine lv_ldc hx hb X.2.2.2.1 (X.2.2.2.2.1 _ q4_93) dX7_row_25 ?_
      exact g_iret X hP hS (sm_i hf) dX7_row_27
    · replace hf := it_f hf h_8
      refine lv_iload_n hx hb dX7_row_19 rfl (lv_at hl 3 rfl) ?_
      refine lv_bipush (v := (40 : Int32)) hx hb dX7_row_20 (by decide) ?_
      refine lv_icmp_le (tgt := 28) hx hb dX7_row_22 (by decide) (fun h_9 => ?_) (fun h_9 => ?_)
      · replace hf := it_t hf h_9
        refine lv_iload_n hx hb dX7_row_28 rfl (lv_at hl 3 rfl) ?_
        refine lv_if_ge (tgt := 38) hx hb dX7_row_29 (by decide) (fun h_10 => ?_) (fun h_10 => ?_)
        · replace hf := it_t hf h_10
          refine lv_aload_n hx hb dX7_row_38 rfl (lv_at hl 0 rfl) ?_
          refine lv_iconst (v := (0 : Int32)) hx hb dX7_row_39 (by decide) ?_
          refine gp_7_5 X hP hS kc_279 q4_30 dX7_row_40 (fun H locs M_11 eM_11 hP hS => ?_)
          replace hf := lt_go hf eM_11
          refine lv_aload_n hx hb dX7_row_43 rfl (lv_at hl 0 rfl) ?_
          refine gf_7_6 X hP kc_279 q4_31 dX7_row_44 ?_
          refine lv_iload_n hx hb dX7_row_47 rfl (lv_at hl 1 rfl) ?_
          refine lv_iload_n hx hb dX7_row_48 rfl (lv_at hl 3 rfl) ?_
          obtain ⟨hi_13, hf⟩ := ck_s hf
          refine ga_st X hP hS (iA_14 kc_282) hi_13 dX7_row_49 (fun H locs M_12 eM_12 hP hS => ?_)
          replace hf := lt_go hf eM_12
          refine lv_aload_n hx hb dX7_row_50 rfl (lv_at hl 0 rfl) ?_
          refine gf_7_7 X hP kc_279 q4_32 dX7_row_51 ?_
          refine lv_iload_n hx hb dX7_row_54 rfl (lv_at hl 1 rfl) ?_
          refine lv_iload_n hx hb dX7_row_55 rfl (lv_at hl 2 rfl) ?_
          obtain ⟨hi_15, hf⟩ := ck_s hf
          refine ga_st X hP hS (iA_14 kc_283) hi_15 dX7_row_56 (fun H locs M_14 eM_14 hP hS => ?_)
          replace hf := lt_go hf eM_14
          refine lv_iconst (v := (0 : Int32)) hx hb dX7_row_57 (by decide) ?_
          refine lv_istore (lv' := [(4, .int (0 : Int32)), (0, .ref (gz g + 279)), (1, .int x1), (2, .int x2), (3, .int x3)]) hx hb dX7_row_58 hl (by decide) rfl (fun ls hl => ?_)
          exact b_X7_row_60 X  FU (0 : Int32) M_14 _ _ _ hf hP hS (lv_sub hl [1, 2, 4, 0] rfl)
        · replace hf := it_f hf h_10
          refine lv_aload_n hx hb dX7_row_32 rfl (lv_at hl 0 rfl) ?_
          refine lv_iconst (v := (4 : Int32)) hx hb dX7_row_33 (by decide) ?_
          obtain ⟨r_18, M_17, hc_16, hf⟩ := cb_s hf
          refine g_goi (g_run X (c_X7_finds l g  hc_16) s_X7_finds (oB_7 kc_279) q4_94 ⟨Nat.le_of_ble_eq_true rfl, Nat.le_of_ble_eq_true rfl⟩ hP hS rfl hl.1 rfl (Nat.le_of_ble_eq_true rfl) ⟨Nat.le_refl _, Nat.le_refl _⟩ dX7_row_34) hS (fun H locs hP hS => ?_)
          exact g_iret X hP hS (sm_i hf) dX7_row_37
      · replace hf := it_f hf h_9
        refine lv_ldc hx hb X.2.2.2.1 (X.2.2.2.2.1 _ q4_93) dX7_row_25 ?_
        exact g_iret X hP hS (sm_i hf) dX7_row_27
def f_X7_set_76 (x1 : Int32) (x2 : Int32)  (t1 : Int32) (t2 : Int32) (M : Mem) : Option (Int32 × Mem) :=
  ck t1 320 <|
  lt (up2 M 284 t1.toNatClampNeg t2) fun M_1 =>
  ck (((40 : Int32) * x1) + x2) 320 <|
  some ((M_1 284 ((((40 : Int32) * x1) + x2)).toNatClampNeg), M_1)
set_option maxRecDepth 20000 in
theorem b_X7_set_76 {out : Int32 × Mem} (X : Bx p s m args meth c RX7 cX7_set 5 (some .int) g)   {x1 : Int32} {x2 : Int32}     (t1 : Int32) (t2 : Int32) (M : Mem) {H : Heap} {locs : List Loc} {ls : Array Slot} (hf : f_X7_set_76 x1 x2 t1 t2 M = some out) (hP : va_P g.1 vwCl (gW g M) H) (hS : va_S (gA g) s.heap H locs) (hl : lv_has ls 5 [(0, .ref (gz g + 279)), (1, .int x1), (2, .int x2)]) : W p l e (rM 2 45) s m args below meth c H locs 0 0 (MQ below (qI g out) args s 0 0 (gA g)) (F0 m 76 ls [.int t2, .int t1, .ref (gz g + 284)]) := by
  have hx := X.1
  have hb := X.2.1
  obtain ⟨hi_2, hf⟩ := ck_s hf
  refine ga_st X hP hS (iA_15 kc_284) hi_2 dX7_set_76 (fun H locs M_1 eM_1 hP hS => ?_)
  replace hf := lt_go hf eM_1
  refine lv_aload_n hx hb dX7_set_77 rfl (lv_at hl 0 rfl) ?_
  refine gf_7_8 X hP kc_279 q4_33 dX7_set_78 ?_
  refine lv_bipush (v := (40 : Int32)) hx hb dX7_set_81 (by decide) ?_
  refine lv_iload_n hx hb dX7_set_83 rfl (lv_at hl 1 rfl) ?_
  refine lv_imul hx hb dX7_set_84 ?_
  refine lv_iload_n hx hb dX7_set_85 rfl (lv_at hl 2 rfl) ?_
  refine lv_iadd hx hb dX7_set_86 ?_
  obtain ⟨hi_3, hf⟩ := ck_s hf
  refine ga_ld X hP (iA_15 kc_284) hi_3 dX7_set_87 ?_
  exact g_iret X hP hS (sm_i hf) dX7_set_88
def f_X7_set (x1 : Int32) (x2 : Int32) (x3 : Int32) (M : Mem) : Option (Int32 × Mem) :=
  cb (f_X7_isRow x1 M) fun r_3 M_2 =>
  if r_3 = 0 then
    some ((-1000001 : Int32), M_2)
  else
    cb (f_X7_against x1 x2 (1 : Int32) M_2) fun r_7 M_6 =>
    if r_7 ≤ 0 then
      lt (up2 M_6 279 5 (0 : Int32)) fun M_9 =>
      ck x1 8 <|
      if (M_9 283 x1.toNatClampNeg) = 0 then
        f_X7_set_76 x1 x2 (((40 : Int32) * x1) + x2) ((x3).toInt8.toInt32) M_9
      else
        ck x1 8 <|
        if (M_9 283 x1.toNatClampNeg) = (1 : Int32) then
          f_X7_set_76 x1 x2 (((40 : Int32) * x1) + x2) ((x3).toInt16.toInt32) M_9
        else
          f_X7_set_76 x1 x2 (((40 : Int32) * x1) + x2) x3 M_9
    else
      cb (f_X7_finds r_7 M_6) fun r_16 M_15 =>
      some (r_16, M_15)
set_option maxRecDepth 20000 in
theorem c_X7_set (l : Launch) (g : GC) {x1 : Int32} {x2 : Int32} {x3 : Int32}  {M : Mem} {out : Int32 × Mem} (hf : f_X7_set x1 x2 x3 M = some out) : cI l g yX7_set cX7_set 5 (some .int) (rM 2 45) [.ref (gz g + 279), .int x1, .int x2, .int x3] M out := by
  refine g_met (by decide) (Nat.le_of_ble_eq_true rfl) ?_
  intro p e s m below meth c X hP hS ls hl
  have X : Bx p s m _ meth c RX7 cX7_set 5 (some .int) g := X
  have hl : lv_has ls 5 [(0, .ref (gz g + 279)), (1, .int x1), (2, .int x2), (3, .int x3)] := hl
  have hx := X.1
  have hb := X.2.1
  refine lv_iload_n hx hb dX7_set_0 rfl (lv_at hl 1 rfl) ?_
  obtain ⟨r_3, M_2, hc_1, hf⟩ := cb_s hf
  refine g_goi (g_runS X (c_X7_isRow l g  hc_1) s_X7_isRow q4_85 ⟨Nat.le_of_ble_eq_true rfl, Nat.le_of_ble_eq_true rfl⟩ hP hS rfl hl.1 rfl (Nat.le_of_ble_eq_true rfl) ⟨Nat.le_refl _, Nat.le_refl _⟩ dX7_set_1) hS (fun H locs hP hS => ?_)
  refine lv_if_ne (tgt := 10) hx hb dX7_set_4 (by decide) (fun h_4 => ?_) (fun h_4 => ?_)
  · replace hf := it_f hf h_4
    refine lv_aload_n hx hb dX7_set_10 rfl (lv_at hl 0 rfl) ?_
    refine lv_iload_n hx hb dX7_set_11 rfl (lv_at hl 1 rfl) ?_
    refine lv_iload_n hx hb dX7_set_12 rfl (lv_at hl 2 rfl) ?_
    refine lv_iconst (v := (1 : Int32)) hx hb dX7_set_13 (by decide) ?_
    obtain ⟨r_7, M_6, hc_5, hf⟩ := cb_s hf
    refine g_goi (g_run X (c_X7_against l g  hc_5) s_X7_against (oB_7 kc_279) q4_103 ⟨Nat.le_of_ble_eq_true rfl, Nat.le_of_ble_eq_true rfl⟩ hP hS rfl hl.1 rfl (Nat.le_of_ble_eq_true rfl) ⟨Nat.le_refl _, Nat.le_refl _⟩ dX7_set_14) hS (fun H locs hP hS => ?_)
    refine lv_istore (lv' := [(4, .int r_7), (0, .ref (gz g + 279)), (1, .int x1), (2, .int x2), (3, .int x3)]) hx hb dX7_set_17 hl (by decide) rfl (fun ls hl => ?_)
    refine lv_iload hx hb dX7_set_19 (lv_at hl 0 rfl) ?_
    refine lv_if_le (tgt := 31) hx hb dX7_set_21 (by decide) (fun h_8 => ?_) (fun h_8 => ?_)
    · replace hf := it_t hf h_8
      refine lv_aload_n hx hb dX7_set_31 rfl (lv_at hl 1 rfl) ?_
      refine lv_iconst (v := (0 : Int32)) hx hb dX7_set_32 (by decide) ?_
      refine gp_7_5 X hP hS kc_279 q4_30 dX7_set_33 (fun H locs M_9 eM_9 hP hS => ?_)
      replace hf := lt_go hf eM_9
      refine lv_aload_n hx hb dX7_set_36 rfl (lv_at hl 1 rfl) ?_
      refine gf_7_8 X hP kc_279 q4_33 dX7_set_37 ?_
      refine lv_bipush (v := (40 : Int32)) hx hb dX7_set_40 (by decide) ?_
      refine lv_iload_n hx hb dX7_set_42 rfl (lv_at hl 2 rfl) ?_
      refine lv_imul hx hb dX7_set_43 ?_
      refine lv_iload_n hx hb dX7_set_44 rfl (lv_at hl 3 rfl) ?_
      refine lv_iadd hx hb dX7_set_45 ?_
      refine lv_aload_n hx hb dX7_set_46 rfl (lv_at hl 1 rfl) ?_
      refine gf_7_7 X hP kc_279 q4_32 dX7_set_47 ?_
      refine lv_iload_n hx hb dX7_set_50 rfl (lv_at hl 2 rfl) ?_
      obtain ⟨hi_10, hf⟩ := ck_s hf
      refine ga_ld X hP (iA_14 kc_283) hi_10 dX7_set_51 ?_
      refine lv_if_ne (tgt := 60) hx hb dX7_set_52 (by decide) (fun h_11 => ?_) (fun h_11 => ?_)
      · replace hf := it_f hf h_11
        refine lv_aload_n hx hb dX7_set_60 rfl (lv_at hl 1 rfl) ?_
        refine gf_7_7 X hP kc_279 q4_32 dX7_set_61 ?_
        refine lv_iload_n hx hb dX7_set_64 rfl (lv_at hl 2 rfl) ?_
        obtain ⟨hi_12, hf⟩ := ck_s hf
        refine ga_ld X hP (iA_14 kc_283) hi_12 dX7_set_65 ?_
        refine lv_iconst (v := (1 : Int32)) hx hb dX7_set_66 (by decide) ?_
        refine lv_icmp_ne (tgt := 75) hx hb dX7_set_67 (by decide) (fun h_13 => ?_) (fun h_13 => ?_)
        · replace hf := it_f hf h_13
          refine lv_iload_n hx hb dX7_set_75 rfl (lv_at hl 4 rfl) ?_
          exact b_X7_set_76 X  (((40 : Int32) * x1) + x2) x3 M_9 hf hP hS (lv_sub hl [1, 2, 3] rfl)
        · replace hf := it_t hf h_13
          refine lv_iload_n hx hb dX7_set_70 rfl (lv_at hl 4 rfl) ?_
          refine lv_i2s hx hb dX7_set_71 rfl ?_
          refine lv_goto (tgt := 76) hx hb dX7_set_72 (by decide) ?_
          exact b_X7_set_76 X  (((40 : Int32) * x1) + x2) ((x3).toInt16.toInt32) M_9 hf hP hS (lv_sub hl [1, 2, 3] rfl)
      · replace hf := it_t hf h_11
        refine lv_iload_n hx hb dX7_set_55 rfl (lv_at hl 4 rfl) ?_
        refine lv_i2b hx hb dX7_set_56 rfl ?_
        refine lv_goto (tgt := 76) hx hb dX7_set_57 (by decide) ?_
        exact b_X7_set_76 X  (((40 : Int32) * x1) + x2) ((x3).toInt8.toInt32) M_9 hf hP hS (lv_sub hl [1, 2, 3] rfl)
    · replace hf := it_f hf h_8
      refine lv_aload_n hx hb dX7_set_24 rfl (lv_at hl 1 rfl) ?_
      refine lv_iload hx hb dX7_set_25 (lv_at hl 0 rfl) ?_
      obtain ⟨r_16, M_15, hc_14, hf⟩ := cb_s hf
      refine g_goi (g_run X (c_X7_finds l g  hc_14) s_X7_finds (oB_7 kc_279) q4_94 ⟨Nat.le_of_ble_eq_true rfl, Nat.le_of_ble_eq_true rfl⟩ hP hS rfl hl.1 rfl (Nat.le_of_ble_eq_true rfl) ⟨Nat.le_refl _, Nat.le_refl _⟩ dX7_set_27) hS (fun H locs hP hS => ?_)
      exact g_iret X hP hS (sm_i hf) dX7_set_30
  · replace hf := it_t hf h_4
    refine lv_ldc hx hb X.2.2.2.1 (X.2.2.2.2.1 _ q4_93) dX7_set_7 ?_
    exact g_iret X hP hS (sm_i hf) dX7_set_9
def f_X7_copy_136 (x3 : Int32) (x4 : Int32) (x5 : Int32)  : Nat → Int32 → Mem → Option (Int32 × Mem)
  | 0, _, _ => none
  | n + 1, x6, M =>
    if x5 ≤ x6 then
      some (x5, M)
    else
      ck x6 40 <|
      ck ((((40 : Int32) * x3) + x4) + x6) 320 <|
      lt (up2 M 284 (((((40 : Int32) * x3) + x4) + x6)).toNatClampNeg (M 285 x6.toNatClampNeg)) fun M_3 =>
      (f_X7_copy_136 x3 x4 x5 n) (x6 + (1 : Int32)) M_3
set_option maxRecDepth 20000 in
theorem b_X7_copy_136 {out : Int32 × Mem} (X : Bx p s m args meth c RX7 cX7_copy 7 (some .int) g)   {x3 : Int32} {x4 : Int32} {x5 : Int32}     : ∀ (n : Nat) (x6 : Int32) (M : Mem) (H : Heap) (locs : List Loc) (ls : Array Slot), f_X7_copy_136 x3 x4 x5 n x6 M = some out → va_P g.1 vwCl (gW g M) H → va_S (gA g) s.heap H locs → lv_has ls 7 [(0, .ref (gz g + 279)), (3, .int x3), (4, .int x4), (5, .int x5), (6, .int x6)] → W p l e (rM 2 45) s m args below meth c H locs 0 0 (MQ below (qI g out) args s 0 0 (gA g)) (F0 m 136 ls []) := by
  have hx := X.1
  have hb := X.2.1
  intro n
  induction n with
  | zero => intro _ _ _ _ _ hf; cases hf
  | succ n ih =>
    intro x6 M H locs ls hf hP hS hl
    rw [f_X7_copy_136] at hf
    refine lv_iload hx hb dX7_copy_136 (lv_at hl 4 rfl) ?_
    refine lv_iload hx hb dX7_copy_138 (lv_at hl 3 rfl) ?_
    refine lv_icmp_ge (tgt := 171) hx hb dX7_copy_140 (by decide) (fun h_1 => ?_) (fun h_1 => ?_)
    · replace hf := it_t hf h_1
      refine lv_iload hx hb dX7_copy_171 (lv_at hl 3 rfl) ?_
      exact g_iret X hP hS (sm_i hf) dX7_copy_173
    · replace hf := it_f hf h_1
      refine lv_aload_n hx hb dX7_copy_143 rfl (lv_at hl 0 rfl) ?_
      refine gf_7_8 X hP kc_279 q4_33 dX7_copy_144 ?_
      refine lv_bipush (v := (40 : Int32)) hx hb dX7_copy_147 (by decide) ?_
      refine lv_iload_n hx hb dX7_copy_149 rfl (lv_at hl 1 rfl) ?_
      refine lv_imul hx hb dX7_copy_150 ?_
      refine lv_iload hx hb dX7_copy_151 (lv_at hl 2 rfl) ?_
      refine lv_iadd hx hb dX7_copy_153 ?_
      refine lv_iload hx hb dX7_copy_154 (lv_at hl 4 rfl) ?_
      refine lv_iadd hx hb dX7_copy_156 ?_
      refine lv_aload_n hx hb dX7_copy_157 rfl (lv_at hl 0 rfl) ?_
      refine gf_7_9 X hP kc_279 q4_34 dX7_copy_158 ?_
      refine lv_iload hx hb dX7_copy_161 (lv_at hl 4 rfl) ?_
      obtain ⟨hi_2, hf⟩ := ck_s hf
      refine ga_ld X hP (iA_10 kc_285) hi_2 dX7_copy_163 ?_
      obtain ⟨hi_4, hf⟩ := ck_s hf
      refine ga_st X hP hS (iA_15 kc_284) hi_4 dX7_copy_164 (fun H locs M_3 eM_3 hP hS => ?_)
      replace hf := lt_go hf eM_3
      refine lv_iinc (v := (x6 + (1 : Int32))) (lv' := [(6, .int (x6 + (1 : Int32))), (0, .ref (gz g + 279)), (3, .int x3), (4, .int x4), (5, .int x5)]) hx hb dX7_copy_165 hl (k := 4) rfl rfl (by decide) rfl (fun ls hl => ?_)
      refine lv_goto (tgt := 136) hx hb dX7_copy_168 (by decide) ?_
      exact ih (x6 + (1 : Int32)) M_3 _ _ _ hf hP hS (lv_sub hl [1, 2, 3, 4, 0] rfl)
def f_X7_copy_99 (x1 : Int32) (x2 : Int32) (x3 : Int32) (x4 : Int32) (x5 : Int32)  : Nat → Int32 → Mem → Option (Int32 × Mem)
  | 0, _, _ => none
  | n + 1, x6, M =>
    if x5 ≤ x6 then
      f_X7_copy_136 x3 x4 x5 FU (0 : Int32) M
    else
      ck ((((40 : Int32) * x1) + x2) + x6) 320 <|
      ck x6 40 <|
      lt (up2 M 285 x6.toNatClampNeg (M 284 (((((40 : Int32) * x1) + x2) + x6)).toNatClampNeg)) fun M_3 =>
      (f_X7_copy_99 x1 x2 x3 x4 x5 n) (x6 + (1 : Int32)) M_3
set_option maxRecDepth 20000 in
theorem b_X7_copy_99 {out : Int32 × Mem} (X : Bx p s m args meth c RX7 cX7_copy 7 (some .int) g)   {x1 : Int32} {x2 : Int32} {x3 : Int32} {x4 : Int32} {x5 : Int32}     : ∀ (n : Nat) (x6 : Int32) (M : Mem) (H : Heap) (locs : List Loc) (ls : Array Slot), f_X7_copy_99 x1 x2 x3 x4 x5 n x6 M = some out → va_P g.1 vwCl (gW g M) H → va_S (gA g) s.heap H locs → lv_has ls 7 [(0, .ref (gz g + 279)), (1, .int x1), (2, .int x2), (3, .int x3), (4, .int x4), (5, .int x5), (6, .int x6)] → W p l e (rM 2 45) s m args below meth c H locs 0 0 (MQ below (qI g out) args s 0 0 (gA g)) (F0 m 99 ls []) := by
  have hx := X.1
  have hb := X.2.1
  intro n
  induction n with
  | zero => intro _ _ _ _ _ hf; cases hf
  | succ n ih =>
    intro x6 M H locs ls hf hP hS hl
    rw [f_X7_copy_99] at hf
    refine lv_iload hx hb dX7_copy_99 (lv_at hl 6 rfl) ?_
    refine lv_iload hx hb dX7_copy_101 (lv_at hl 5 rfl) ?_
    refine lv_icmp_ge (tgt := 133) hx hb dX7_copy_103 (by decide) (fun h_1 => ?_) (fun h_1 => ?_)
    · replace hf := it_t hf h_1
      refine lv_iconst (v := (0 : Int32)) hx hb dX7_copy_133 (by decide) ?_
      refine lv_istore (lv' := [(6, .int (0 : Int32)), (0, .ref (gz g + 279)), (1, .int x1), (2, .int x2), (3, .int x3), (4, .int x4), (5, .int x5)]) hx hb dX7_copy_134 hl (by decide) rfl (fun ls hl => ?_)
      exact b_X7_copy_136 X  FU (0 : Int32) M _ _ _ hf hP hS (lv_sub hl [1, 4, 5, 6, 0] rfl)
    · replace hf := it_f hf h_1
      refine lv_aload_n hx hb dX7_copy_106 rfl (lv_at hl 0 rfl) ?_
      refine gf_7_9 X hP kc_279 q4_34 dX7_copy_107 ?_
      refine lv_iload hx hb dX7_copy_110 (lv_at hl 6 rfl) ?_
      refine lv_aload_n hx hb dX7_copy_112 rfl (lv_at hl 0 rfl) ?_
      refine gf_7_8 X hP kc_279 q4_33 dX7_copy_113 ?_
      refine lv_bipush (v := (40 : Int32)) hx hb dX7_copy_116 (by decide) ?_
      refine lv_iload_n hx hb dX7_copy_118 rfl (lv_at hl 1 rfl) ?_
      refine lv_imul hx hb dX7_copy_119 ?_
      refine lv_iload_n hx hb dX7_copy_120 rfl (lv_at hl 2 rfl) ?_
      refine lv_iadd hx hb dX7_copy_121 ?_
      refine lv_iload hx hb dX7_copy_122 (lv_at hl 6 rfl) ?_
      refine lv_iadd hx hb dX7_copy_124 ?_
      obtain ⟨hi_2, hf⟩ := ck_s hf
      refine ga_ld X hP (iA_15 kc_284) hi_2 dX7_copy_125 ?_
      obtain ⟨hi_4, hf⟩ := ck_s hf
      refine ga_st X hP hS (iA_10 kc_285) hi_4 dX7_copy_126 (fun H locs M_3 eM_3 hP hS => ?_)
      replace hf := lt_go hf eM_3
      refine lv_iinc (v := (x6 + (1 : Int32))) (lv' := [(6, .int (x6 + (1 : Int32))), (0, .ref (gz g + 279)), (1, .int x1), (2, .int x2), (3, .int x3), (4, .int x4), (5, .int x5)]) hx hb dX7_copy_127 hl (k := 6) rfl rfl (by decide) rfl (fun ls hl => ?_)
      refine lv_goto (tgt := 99) hx hb dX7_copy_130 (by decide) ?_
      exact ih (x6 + (1 : Int32)) M_3 _ _ _ hf hP hS (lv_sub hl [1, 2, 3, 4, 5, 6, 0] rfl)
def f_X7_copy_85    (M : Mem) : Option (Int32 × Mem) :=
  cb (f_X7_finds (2 : Int32) M) fun r_3 M_2 =>
  some (r_3, M_2)
set_option maxRecDepth 20000 in
theorem b_X7_copy_85 {out : Int32 × Mem} (X : Bx p s m args meth c RX7 cX7_copy 7 (some .int) g)         (M : Mem) {H : Heap} {locs : List Loc} {ls : Array Slot} (hf : f_X7_copy_85 M = some out) (hP : va_P g.1 vwCl (gW g M) H) (hS : va_S (gA g) s.heap H locs) (hl : lv_has ls 7 [(0, .ref (gz g + 279))]) : W p l e (rM 2 45) s m args below meth c H locs 0 0 (MQ below (qI g out) args s 0 0 (gA g)) (F0 m 85 ls []) := by
  have hx := X.1
  have hb := X.2.1
  refine lv_aload_n hx hb dX7_copy_85 rfl (lv_at hl 0 rfl) ?_
  refine lv_iconst (v := (2 : Int32)) hx hb dX7_copy_86 (by decide) ?_
  obtain ⟨r_3, M_2, hc_1, hf⟩ := cb_s hf
  refine g_goi (g_run X (c_X7_finds l g  hc_1) s_X7_finds (oB_7 kc_279) q4_94 ⟨Nat.le_of_ble_eq_true rfl, Nat.le_of_ble_eq_true rfl⟩ hP hS rfl hl.1 rfl (Nat.le_of_ble_eq_true rfl) ⟨Nat.le_refl _, Nat.le_refl _⟩ dX7_copy_87) hS (fun H locs hP hS => ?_)
  exact g_iret X hP hS (sm_i hf) dX7_copy_90
def f_X7_copy_35    (M : Mem) : Option (Int32 × Mem) :=
  cb (f_X7_finds (1 : Int32) M) fun r_3 M_2 =>
  some (r_3, M_2)
set_option maxRecDepth 20000 in
theorem b_X7_copy_35 {out : Int32 × Mem} (X : Bx p s m args meth c RX7 cX7_copy 7 (some .int) g)         (M : Mem) {H : Heap} {locs : List Loc} {ls : Array Slot} (hf : f_X7_copy_35 M = some out) (hP : va_P g.1 vwCl (gW g M) H) (hS : va_S (gA g) s.heap H locs) (hl : lv_has ls 7 [(0, .ref (gz g + 279))]) : W p l e (rM 2 45) s m args below meth c H locs 0 0 (MQ below (qI g out) args s 0 0 (gA g)) (F0 m 35 ls []) := by
  have hx := X.1
  have hb := X.2.1
  refine lv_aload_n hx hb dX7_copy_35 rfl (lv_at hl 0 rfl) ?_
  refine lv_iconst (v := (1 : Int32)) hx hb dX7_copy_36 (by decide) ?_
  obtain ⟨r_3, M_2, hc_1, hf⟩ := cb_s hf
  refine g_goi (g_run X (c_X7_finds l g  hc_1) s_X7_finds (oB_7 kc_279) q4_94 ⟨Nat.le_of_ble_eq_true rfl, Nat.le_of_ble_eq_true rfl⟩ hP hS rfl hl.1 rfl (Nat.le_of_ble_eq_true rfl) ⟨Nat.le_refl _, Nat.le_refl _⟩ dX7_copy_37) hS (fun H locs hP hS => ?_)
  exact g_iret X hP hS (sm_i hf) dX7_copy_40
def f_X7_copy (x1 : Int32) (x2 : Int32) (x3 : Int32) (x4 : Int32) (x5 : Int32) (M : Mem) : Option (Int32 × Mem) :=
  cb (f_X7_isRow x1 M) fun r_3 M_2 =>
  if r_3 = 0 then
    some ((-1000001 : Int32), M_2)
  else
    cb (f_X7_isRow x3 M_2) fun r_7 M_6 =>
    if r_7 = 0 then
      some ((-1000001 : Int32), M_6)
    else
      ck x1 8 <|
      if (M_6 282 x1.toNatClampNeg) < 0 then
        f_X7_copy_35 M_6
      else
        ck x3 8 <|
        if 0 ≤ (M_6 282 x3.toNatClampNeg) then
          ck x1 8 <|
          ck x3 8 <|
          if (M_6 283 x1.toNatClampNeg) = (M_6 283 x3.toNatClampNeg) then
            cb (f_X7_against x1 x2 x5 M_6) fun r_18 M_17 =>
            if 0 < r_18 then
              f_X7_copy_85 M_17
            else
              cb (f_X7_against x3 x4 x5 M_17) fun r_22 M_21 =>
              if r_22 ≤ 0 then
                lt (up2 M_21 279 5 (0 : Int32)) fun M_24 =>
                f_X7_copy_99 x1 x2 x3 x4 x5 FU (0 : Int32) M_24
              else
                f_X7_copy_85 M_21
          else
            cb (f_X7_finds (5 : Int32) M_6) fun r_27 M_26 =>
            some (r_27, M_26)
        else
          f_X7_copy_35 M_6
set_option maxRecDepth 20000 in
theorem c_X7_copy (l : Launch) (g : GC) {x1 : Int32} {x2 : Int32} {x3 : Int32} {x4 : Int32} {x5 : Int32}  {M : Mem} {out : Int32 × Mem} (hf : f_X7_copy x1 x2 x3 x4 x5 M = some out) : cI l g yX7_copy cX7_copy 7 (some .int) (rM 2 45) [.ref (gz g + 279), .int x1, .int x2, .int x3, .int x4, .int x5] M out := by
  refine g_met (by decide) (Nat.le_of_ble_eq_true rfl) ?_
  intro p e s m below meth c X hP hS ls hl
  have X : Bx p s m _ meth c RX7 cX7_copy 7 (some .int) g := X
  have hl : lv_has ls 7 [(0, .ref (gz g + 279)), (1, .int x1), (2, .int x2), (3, .int x3), (4, .int x4), (5, .int x5)] := hl
  have hx := X.1
  have hb := X.2.1
  refine lv_iload_n hx hb dX7_copy_0 rfl (lv_at hl 1 rfl) ?_
  obtain ⟨r_3, M_2, hc_1, hf⟩ := cb_s hf
  refine g_goi (g_runS X (c_X7_isRow l g  hc_1) s_X7_isRow q4_85 ⟨Nat.le_of_ble_eq_true rfl, Nat.le_of_ble_eq_true rfl⟩ hP hS rfl hl.1 rfl (Nat.le_of_ble_eq_true rfl) ⟨Nat.le_refl _, Nat.le_refl _⟩ dX7_copy_1) hS (fun H locs hP hS => ?_)
  refine lv_if_eq (tgt := 14) hx hb dX7_copy_4 (by decide) (fun h_4 => ?_) (fun h_4 => ?_)
  · replace hf := it_t hf h_4
    refine lv_ldc hx hb X.2.2.2.1 (X.2.2.2.2.1 _ q4_93) dX7_copy_14 ?_
    exact g_iret X hP hS (sm_i hf) dX7_copy_16
  · replace hf := it_f hf h_4
    refine lv_iload_n hx hb dX7_copy_7 rfl (lv_at hl 3 rfl) ?_
    obtain ⟨r_7, M_6, hc_5, hf⟩ := cb_s hf
    refine g_goi (g_runS X (c_X7_isRow l g  hc_5) s_X7_isRow q4_85 ⟨Nat.le_of_ble_eq_true rfl, Nat.le_of_ble_eq_true rfl⟩ hP hS rfl hl.1 rfl (Nat.le_of_ble_eq_true rfl) ⟨Nat.le_refl _, Nat.le_refl _⟩ dX7_copy_8) hS (fun H locs hP hS => ?_)
    refine lv_if_ne (tgt := 17) hx hb dX7_copy_11 (by decide) (fun h_8 => ?_) (fun h_8 => ?_)
    · replace hf := it_f hf h_8
      refine lv_aload_n hx hb dX7_copy_17 rfl (lv_at hl 0 rfl) ?_
      refine gf_7_6 X hP kc_279 q4_31 dX7_copy_18 ?_
      refine lv_iload_n hx hb dX7_copy_21 rfl (lv_at hl 1 rfl) ?_
      obtain ⟨hi_9, hf⟩ := ck_s hf
      refine ga_ld X hP (iA_14 kc_282) hi_9 dX7_copy_22 ?_
      refine lv_if_lt (tgt := 35) hx hb dX7_copy_23 (by decide) (fun h_10 => ?_) (fun h_10 => ?_)
      · replace hf := it_t hf h_10
        exact b_X7_copy_35 X   M_6 hf hP hS (lv_sub hl [0] rfl)
      · replace hf := it_f hf h_10
        refine lv_aload_n hx hb dX7_copy_26 rfl (lv_at hl 0 rfl) ?_
        refine gf_7_6 X hP kc_279 q4_31 dX7_copy_27 ?_
        refine lv_iload_n hx hb dX7_copy_30 rfl (lv_at hl 3 rfl) ?_
        obtain ⟨hi_11, hf⟩ := ck_s hf
        refine ga_ld X hP (iA_14 kc_282) hi_11 dX7_copy_31 ?_
        refine lv_if_ge (tgt := 41) hx hb dX7_copy_32 (by decide) (fun h_12 => ?_) (fun h_12 => ?_)
        · replace hf := it_t hf h_12
          refine lv_aload_n hx hb dX7_copy_41 rfl (lv_at hl 0 rfl) ?_
          refine gf_7_7 X hP kc_279 q4_32 dX7_copy_42 ?_
          refine lv_iload_n hx hb dX7_copy_45 rfl (lv_at hl 1 rfl) ?_
          obtain ⟨hi_13, hf⟩ := ck_s hf
          refine ga_ld X hP (iA_14 kc_283) hi_13 dX7_copy_46 ?_
          refine lv_aload_n hx hb dX7_copy_47 rfl (lv_at hl 0 rfl) ?_
          refine gf_7_7 X hP kc_279 q4_32 dX7_copy_48 ?_
          refine lv_iload_n hx hb dX7_copy_51 rfl (lv_at hl 3 rfl) ?_
          obtain ⟨hi_14, hf⟩ := ck_s hf
          refine ga_ld X hP (iA_14 kc_283) hi_14 dX7_copy_52 ?_
          refine lv_icmp_eq (tgt := 62) hx hb dX7_copy_53 (by decide) (fun h_15 => ?_) (fun h_15 => ?_)
          · replace hf := it_t hf h_15
            refine lv_aload_n hx hb dX7_copy_62 rfl (lv_at hl 0 rfl) ?_
            refine lv_iload_n hx hb dX7_copy_63 rfl (lv_at hl 1 rfl) ?_
            refine lv_iload_n hx hb dX7_copy_64 rfl (lv_at hl 2 rfl) ?_
            refine lv_iload hx hb dX7_copy_65 (lv_at hl 5 rfl) ?_
            obtain ⟨r_18, M_17, hc_16, hf⟩ := cb_s hf
            refine g_goi (g_run X (c_X7_against l g  hc_16) s_X7_against (oB_7 kc_279) q4_103 ⟨Nat.le_of_ble_eq_true rfl, Nat.le_of_ble_eq_true rfl⟩ hP hS rfl hl.1 rfl (Nat.le_of_ble_eq_true rfl) ⟨Nat.le_refl _, Nat.le_refl _⟩ dX7_copy_67) hS (fun H locs hP hS => ?_)
            refine lv_if_gt (tgt := 85) hx hb dX7_copy_70 (by decide) (fun h_19 => ?_) (fun h_19 => ?_)
            · replace hf := it_t hf h_19
              exact b_X7_copy_85 X   M_17 hf hP hS (lv_sub hl [0] rfl)
            · replace hf := it_f hf h_19
              refine lv_aload_n hx hb dX7_copy_73 rfl (lv_at hl 0 rfl) ?_
              refine lv_iload_n hx hb dX7_copy_74 rfl (lv_at hl 3 rfl) ?_
              refine lv_iload hx hb dX7_copy_75 (lv_at hl 4 rfl) ?_
              refine lv_iload hx hb dX7_copy_77 (lv_at hl 5 rfl) ?_
              obtain ⟨r_22, M_21, hc_20, hf⟩ := cb_s hf
              refine g_goi (g_run X (c_X7_against l g  hc_20) s_X7_against (oB_7 kc_279) q4_103 ⟨Nat.le_of_ble_eq_true rfl, Nat.le_of_ble_eq_true rfl⟩ hP hS rfl hl.1 rfl (Nat.le_of_ble_eq_true rfl) ⟨Nat.le_refl _, Nat.le_refl _⟩ dX7_copy_79) hS (fun H locs hP hS => ?_)
              refine lv_if_le (tgt := 91) hx hb dX7_copy_82 (by decide) (fun h_23 => ?_) (fun h_23 => ?_)
              · replace hf := it_t hf h_23
                refine lv_aload_n hx hb dX7_copy_91 rfl (lv_at hl 0 rfl) ?_
                refine lv_iconst (v := (0 : Int32)) hx hb dX7_copy_92 (by decide) ?_
                refine gp_7_5 X hP hS kc_279 q4_30 dX7_copy_93 (fun H locs M_24 eM_24 hP hS => ?_)
                replace hf := lt_go hf eM_24
                refine lv_iconst (v := (0 : Int32)) hx hb dX7_copy_96 (by decide) ?_
                refine lv_istore (lv' := [(6, .int (0 : Int32)), (0, .ref (gz g + 279)), (1, .int x1), (2, .int x2), (3, .int x3), (4, .int x4), (5, .int x5)]) hx hb dX7_copy_97 hl (by decide) rfl (fun ls hl => ?_)
                exact b_X7_copy_99 X  FU (0 : Int32) M_24 _ _ _ hf hP hS (lv_sub hl [1, 2, 3, 4, 5, 6, 0] rfl)
              · replace hf := it_f hf h_23
                exact b_X7_copy_85 X   M_21 hf hP hS (lv_sub hl [0] rfl)
          · replace hf := it_f hf h_15
            refine lv_aload_n hx hb dX7_copy_56 rfl (lv_at hl 0 rfl) ?_
            refine lv_iconst (v := (5 : Int32)) hx hb dX7_copy_57 (by decide) ?_
            obtain ⟨r_27, M_26, hc_25, hf⟩ := cb_s hf
            refine g_goi (g_run X (c_X7_finds l g  hc_25) s_X7_finds (oB_7 kc_279) q4_94 ⟨Nat.le_of_ble_eq_true rfl, Nat.le_of_ble_eq_true rfl⟩ hP hS rfl hl.1 rfl (Nat.le_of_ble_eq_true rfl) ⟨Nat.le_refl _, Nat.le_refl _⟩ dX7_copy_58) hS (fun H locs hP hS => ?_)
            exact g_iret X hP hS (sm_i hf) dX7_copy_61
        · replace hf := it_f hf h_12
          exact b_X7_copy_35 X   M_6 hf hP hS (lv_sub hl [0] rfl)
    · replace hf := it_t hf h_8
      refine lv_ldc hx hb X.2.2.2.1 (X.2.2.2.2.1 _ q4_93) dX7_copy_14 ?_
      exact g_iret X hP hS (sm_i hf) dX7_copy_16
def f_X7_drop (x1 : Int32) (M : Mem) : Option (Int32 × Mem) :=
  cb (f_X7_isRow x1 M) fun r_3 M_2 =>
  if r_3 = 0 then
    some ((-1000001 : Int32), M_2)
  else
    ck x1 8 <|
    if 0 ≤ (M_2 282 x1.toNatClampNeg) then
      lt (up2 M_2 279 5 (0 : Int32)) fun M_7 =>
      ck x1 8 <|
      lt (M_7 282 x1.toNatClampNeg) fun x2_9 =>
      ck x1 8 <|
      lt (up2 M_7 282 x1.toNatClampNeg (-1 : Int32)) fun M_10 =>
      some (x2_9, M_10)
    else
      cb (f_X7_finds (1 : Int32) M_2) fun r_14 M_13 =>
      some (r_14, M_13)
set_option maxRecDepth 20000 in
theorem c_X7_drop (l : Launch) (g : GC) {x1 : Int32}  {M : Mem} {out : Int32 × Mem} (hf : f_X7_drop x1 M = some out) : cI l g yX7_drop cX7_drop 3 (some .int) (rM 2 45) [.ref (gz g + 279), .int x1] M out := by
  refine g_met (by decide) (Nat.le_of_ble_eq_true rfl) ?_
  intro p e s m below meth c X hP hS ls hl
  have X : Bx p s m _ meth c RX7 cX7_drop 3 (some .int) g := X
  have hl : lv_has ls 3 [(0, .ref (gz g + 279)), (1, .int x1)] := hl
  have hx := X.1
  have hb := X.2.1
  refine lv_iload_n hx hb dX7_drop_0 rfl (lv_at hl 1 rfl) ?_
  obtain ⟨r_3, M_2, hc_1, hf⟩ := cb_s hf
  refine g_goi (g_runS X (c_X7_isRow l g  hc_1) s_X7_isRow q4_85 ⟨Nat.le_of_ble_eq_true rfl, Nat.le_of_ble_eq_true rfl⟩ hP hS rfl hl.1 rfl (Nat.le_of_ble_eq_true rfl) ⟨Nat.le_refl _, Nat.le_refl _⟩ dX7_drop_1) hS (fun H locs hP hS => ?_)
  refine lv_if_ne (tgt := 10) hx hb dX7_drop_4 (by decide) (fun h_4 => ?_) (fun h_4 => ?_)
  · replace hf := it_f hf h_4
    refine lv_aload_n hx hb dX7_drop_10 rfl (lv_at hl 0 rfl) ?_
    refine gf_7_6 X hP kc_279 q4_31 dX7_drop_11 ?_
    refine lv_iload_n hx hb dX7_drop_14 rfl (lv_at hl 1 rfl) ?_
    obtain ⟨hi_5, hf⟩ := ck_s hf
    refine ga_ld X hP (iA_14 kc_282) hi_5 dX7_drop_15 ?_
    refine lv_if_ge (tgt := 25) hx hb dX7_drop_16 (by decide) (fun h_6 => ?_) (fun h_6 => ?_)
    · replace hf := it_t hf h_6
      refine lv_aload_n hx hb dX7_drop_25 rfl (lv_at hl 0 rfl) ?_
      refine lv_iconst (v := (0 : Int32)) hx hb dX7_drop_26 (by decide) ?_
      refine gp_7_5 X hP hS kc_279 q4_30 dX7_drop_27 (fun H locs M_7 eM_7 hP hS => ?_)
      replace hf := lt_go hf eM_7
      refine lv_aload_n hx hb dX7_drop_30 rfl (lv_at hl 0 rfl) ?_
      refine gf_7_6 X hP kc_279 q4_31 dX7_drop_31 ?_
      refine lv_iload_n hx hb dX7_drop_34 rfl (lv_at hl 1 rfl) ?_
      obtain ⟨hi_8, hf⟩ := ck_s hf
      refine ga_ld X hP (iA_14 kc_282) hi_8 dX7_drop_35 ?_
      refine lv_topi (fun x2_9 ex2_9 => ?_)
      replace hf := lt_go hf ex2_9
      refine lv_istore_n (lv' := [(2, .int x2_9), (0, .ref (gz g + 279)), (1, .int x1)]) hx hb dX7_drop_36 rfl hl (by decide) rfl (fun ls hl => ?_)
      refine lv_aload_n hx hb dX7_drop_37 rfl (lv_at hl 1 rfl) ?_
      refine gf_7_6 X hP kc_279 q4_31 dX7_drop_38 ?_
      refine lv_iload_n hx hb dX7_drop_41 rfl (lv_at hl 2 rfl) ?_
      refine lv_iconst (v := (-1 : Int32)) hx hb dX7_drop_42 (by decide) ?_
      obtain ⟨hi_11, hf⟩ := ck_s hf
      refine ga_st X hP hS (iA_14 kc_282) hi_11 dX7_drop_43 (fun H locs M_10 eM_10 hP hS => ?_)
      replace hf := lt_go hf eM_10
      refine lv_iload_n hx hb dX7_drop_44 rfl (lv_at hl 0 rfl) ?_
      exact g_iret X hP hS (sm_i hf) dX7_drop_45
    · replace hf := it_f hf h_6
      refine lv_aload_n hx hb dX7_drop_19 rfl (lv_at hl 0 rfl) ?_
      refine lv_iconst (v := (1 : Int32)) hx hb dX7_drop_20 (by decide) ?_
      obtain ⟨r_14, M_13, hc_12, hf⟩ := cb_s hf
      refine g_goi (g_run X (c_X7_finds l g  hc_12) s_X7_finds (oB_7 kc_279) q4_94 ⟨Nat.le_of_ble_eq_true rfl, Nat.le_of_ble_eq_true rfl⟩ hP hS rfl hl.1 rfl (Nat.le_of_ble_eq_true rfl) ⟨Nat.le_refl _, Nat.le_refl _⟩ dX7_drop_21) hS (fun H locs hP hS => ?_)
      exact g_iret X hP hS (sm_i hf) dX7_drop_24
  · replace hf := it_t hf h_4
    refine lv_ldc hx hb X.2.2.2.1 (X.2.2.2.2.1 _ q4_93) dX7_drop_7 ?_
    exact g_iret X hP hS (sm_i hf) dX7_drop_9
def f_X7_feed (x1 : Int32) (M : Mem) : Option (Int32 × Mem) :=
  cb (f_X7_in ((x1).toInt64) (0 : Int64) (255 : Int64) M) fun r_3 M_2 =>
  if r_3 = 0 then
    some ((-1000001 : Int32), M_2)
  else
    if (M_2 279 3) = (100 : Int32) then
      some ((-1000003 : Int32), M_2)
    else
      ck (M_2 279 3) 100 <|
      lt (up2 M_2 281 ((M_2 279 3)).toNatClampNeg x1) fun M_6 =>
      lt (up2 M_6 279 3 ((M_6 279 3) + (1 : Int32))) fun M_8 =>
      some ((M_8 279 3), M_8)
set_option maxRecDepth 20000 in
theorem c_X7_feed (l : Launch) (g : GC) {x1 : Int32}  {M : Mem} {out : Int32 × Mem} (hf : f_X7_feed x1 M = some out) : cI l g yX7_feed cX7_feed 2 (some .int) (rM 1 25) [.ref (gz g + 279), .int x1] M out := by
  refine g_met (by decide) (Nat.le_of_ble_eq_true rfl) ?_
  intro p e s m below meth c X hP hS ls hl
  have X : Bx p s m _ meth c RX7 cX7_feed 2 (some .int) g := X
  have hl : lv_has ls 2 [(0, .ref (gz g + 279)), (1, .int x1)] := hl
  have hx := X.1
  have hb := X.2.1
  refine lv_iload_n hx hb dX7_feed_0 rfl (lv_at hl 1 rfl) ?_
  refine lv_i2l hx hb dX7_feed_1 rfl ?_
  refine lv_lconst (v := (0 : Int64)) hx hb dX7_feed_2 (by decide) ?_
  refine lv_ldc2 hx hb X.2.2.2.1 (X.2.2.2.2.1 _ q4_119) dX7_feed_3 ?_
  obtain ⟨r_3, M_2, hc_1, hf⟩ := cb_s hf
  refine g_goi (g_runS X (c_X7_in l g  hc_1) s_X7_in q4_89 ⟨Nat.le_of_ble_eq_true rfl, Nat.le_of_ble_eq_true rfl⟩ hP hS rfl hl.1 rfl (Nat.le_of_ble_eq_true rfl) ⟨Nat.le_refl _, Nat.le_refl _⟩ dX7_feed_6) hS (fun H locs hP hS => ?_)
  refine lv_if_ne (tgt := 15) hx hb dX7_feed_9 (by decide) (fun h_4 => ?_) (fun h_4 => ?_)
  · replace hf := it_f hf h_4
    refine lv_aload_n hx hb dX7_feed_15 rfl (lv_at hl 0 rfl) ?_
    refine gf_7_3 X hP kc_279 q4_28 dX7_feed_16 ?_
    refine lv_bipush (v := (100 : Int32)) hx hb dX7_feed_19 (by decide) ?_
    refine lv_icmp_ne (tgt := 27) hx hb dX7_feed_21 (by decide) (fun h_5 => ?_) (fun h_5 => ?_)
    · replace hf := it_f hf h_5
      refine lv_aload_n hx hb dX7_feed_27 rfl (lv_at hl 0 rfl) ?_
      refine gf_7_2 X hP kc_279 q4_27 dX7_feed_28 ?_
      refine lv_aload_n hx hb dX7_feed_31 rfl (lv_at hl 0 rfl) ?_
      refine gf_7_3 X hP kc_279 q4_28 dX7_feed_32 ?_
      refine lv_iload_n hx hb dX7_feed_35 rfl (lv_at hl 1 rfl) ?_
      obtain ⟨hi_7, hf⟩ := ck_s hf
      refine ga_st X hP hS (iA_11 kc_281) hi_7 dX7_feed_36 (fun H locs M_6 eM_6 hP hS => ?_)
      replace hf := lt_go hf eM_6
      refine lv_aload_n hx hb dX7_feed_37 rfl (lv_at hl 0 rfl) ?_
      refine lv_dup hx hb dX7_feed_38 rfl ?_
      refine gf_7_3 X hP kc_279 q4_28 dX7_feed_39 ?_
      refine lv_iconst (v := (1 : Int32)) hx hb dX7_feed_42 (by decide) ?_
      refine lv_iadd hx hb dX7_feed_43 ?_
      refine gp_7_3 X hP hS kc_279 q4_28 dX7_feed_44 (fun H locs M_8 eM_8 hP hS => ?_)
      replace hf := lt_go hf eM_8
      refine lv_aload_n hx hb dX7_feed_47 rfl (lv_at hl 0 rfl) ?_
      refine gf_7_3 X hP kc_279 q4_28 dX7_feed_48 ?_
      exact g_iret X hP hS (sm_i hf) dX7_feed_51
    · replace hf := it_t hf h_5
      refine lv_ldc hx hb X.2.2.2.1 (X.2.2.2.2.1 _ q4_120) dX7_feed_24 ?_
      exact g_iret X hP hS (sm_i hf) dX7_feed_26
  · replace hf := it_t hf h_4
    refine lv_ldc hx hb X.2.2.2.1 (X.2.2.2.2.1 _ q4_93) dX7_feed_12 ?_
    exact g_iret X hP hS (sm_i hf) dX7_feed_14
def f_X7_here  (M : Mem) : Option (Int32 × Mem) :=
  if (M 279 3) ≤ (M 279 10) then
    some ((-1 : Int32), M)
  else
    ck (M 279 10) 100 <|
    some ((M 281 ((M 279 10)).toNatClampNeg), M)
set_option maxRecDepth 20000 in
theorem c_X7_here (l : Launch) (g : GC)   {M : Mem} {out : Int32 × Mem} (hf : f_X7_here  M = some out) : cI l g yX7_here cX7_here 1 (some .int) (rM 0 0) [.ref (gz g + 279)] M out := by
  refine g_met (by decide) (Nat.le_of_ble_eq_true rfl) ?_
  intro p e s m below meth c X hP hS ls hl
  have X : Bx p s m _ meth c RX7 cX7_here 1 (some .int) g := X
  have hl : lv_has ls 1 [(0, .ref (gz g + 279))] := hl
  have hx := X.1
  have hb := X.2.1
  refine lv_aload_n hx hb dX7_here_0 rfl (lv_at hl 0 rfl) ?_
  refine gf_7_10 X hP kc_279 q4_35 dX7_here_1 ?_
  refine lv_aload_n hx hb dX7_here_4 rfl (lv_at hl 0 rfl) ?_
  refine gf_7_3 X hP kc_279 q4_28 dX7_here_5 ?_
  refine lv_icmp_ge (tgt := 23) hx hb dX7_here_8 (by decide) (fun h_1 => ?_) (fun h_1 => ?_)
  · replace hf := it_t hf h_1
    refine lv_iconst (v := (-1 : Int32)) hx hb dX7_here_23 (by decide) ?_
    exact g_iret X hP hS (sm_i hf) dX7_here_24
  · replace hf := it_f hf h_1
    refine lv_aload_n hx hb dX7_here_11 rfl (lv_at hl 0 rfl) ?_
    refine gf_7_2 X hP kc_279 q4_27 dX7_here_12 ?_
    refine lv_aload_n hx hb dX7_here_15 rfl (lv_at hl 0 rfl) ?_
    refine gf_7_10 X hP kc_279 q4_35 dX7_here_16 ?_
    obtain ⟨hi_2, hf⟩ := ck_s hf
    refine ga_ld X hP (iA_11 kc_281) hi_2 dX7_here_19 ?_
    refine lv_goto (tgt := 24) hx hb dX7_here_20 (by decide) ?_
    exact g_iret X hP hS (sm_i hf) dX7_here_24
def f_X7_fails (x1 : Int32) (x2 : Int32) (M : Mem) : Option (Int32 × Mem) :=
  lt (up2 M 279 4 x1) fun M_1 =>
  lt (up2 M_1 279 11 x2) fun M_2 =>
  some ((0 : Int32), M_2)
set_option maxRecDepth 20000 in
theorem c_X7_fails (l : Launch) (g : GC) {x1 : Int32} {x2 : Int32}  {M : Mem} {out : Int32 × Mem} (hf : f_X7_fails x1 x2 M = some out) : cI l g yX7_fails cX7_fails 3 (some .boolean) (rM 0 0) [.ref (gz g + 279), .int x1, .int x2] M out := by
  refine g_met (by decide) (Nat.le_of_ble_eq_true rfl) ?_
  intro p e s m below meth c X hP hS ls hl
  have X : Bx p s m _ meth c RX7 cX7_fails 3 (some .boolean) g := X
  have hl : lv_has ls 3 [(0, .ref (gz g + 279)), (1, .int x1), (2, .int x2)] := hl
  have hx := X.1
  have hb := X.2.1
  refine lv_aload_n hx hb dX7_fails_0 rfl (lv_at hl 0 rfl) ?_
  refine lv_iload_n hx hb dX7_fails_1 rfl (lv_at hl 1 rfl) ?_
  refine gp_7_4 X hP hS kc_279 q4_29 dX7_fails_2 (fun H locs M_1 eM_1 hP hS => ?_)
  replace hf := lt_go hf eM_1
  refine lv_aload_n hx hb dX7_fails_5 rfl (lv_at hl 0 rfl) ?_
  refine lv_iload_n hx hb dX7_fails_6 rfl (lv_at hl 2 rfl) ?_
  refine gp_7_11 X hP hS kc_279 q4_36 dX7_fails_7 (fun H locs M_2 eM_2 hP hS => ?_)
  replace hf := lt_go hf eM_2
  refine lv_iconst (v := (0 : Int32)) hx hb dX7_fails_10 (by decide) ?_
  exact g_zret X hP hS rfl (sm_i hf) dX7_fails_11
def f_X7_takes (x1 : Int32) (M : Mem) : Option (Int32 × Mem) :=
  cb (f_X7_here M) fun r_3 M_2 =>
  if r_3 = x1 then
    lt (up2 M_2 279 10 ((M_2 279 10) + (1 : Int32))) fun M_5 =>
    some ((1 : Int32), M_5)
  else
    cb (f_X7_fails (1 : Int32) (M_2 279 10) M_2) fun r_8 M_7 =>
    cbz r_8 <| some (r_8, M_7)
set_option maxRecDepth 20000 in
theorem c_X7_takes (l : Launch) (g : GC) {x1 : Int32}  {M : Mem} {out : Int32 × Mem} (hf : f_X7_takes x1 M = some out) : cI l g yX7_takes cX7_takes 2 (some .boolean) (rM 1 22) [.ref (gz g + 279), .int x1] M out := by
  refine g_met (by decide) (Nat.le_of_ble_eq_true rfl) ?_
  intro p e s m below meth c X hP hS ls hl
  have X : Bx p s m _ meth c RX7 cX7_takes 2 (some .boolean) g := X
  have hl : lv_has ls 2 [(0, .ref (gz g + 279)), (1, .int x1)] := hl
  have hx := X.1
  have hb := X.2.1
  refine lv_aload_n hx hb dX7_takes_0 rfl (lv_at hl 0 rfl) ?_
  obtain ⟨r_3, M_2, hc_1, hf⟩ := cb_s hf
  refine g_goi (g_run X (c_X7_here l g  hc_1) s_X7_here (oB_7 kc_279) q4_137 ⟨Nat.le_of_ble_eq_true rfl, Nat.le_of_ble_eq_true rfl⟩ hP hS rfl hl.1 rfl (Nat.le_of_ble_eq_true rfl) ⟨Nat.le_refl _, Nat.le_refl _⟩ dX7_takes_1) hS (fun H locs hP hS => ?_)
  refine lv_iload_n hx hb dX7_takes_4 rfl (lv_at hl 1 rfl) ?_
  refine lv_icmp_eq (tgt := 18) hx hb dX7_takes_5 (by decide) (fun h_4 => ?_) (fun h_4 => ?_)
  · replace hf := it_t hf h_4
    refine lv_aload_n hx hb dX7_takes_18 rfl (lv_at hl 0 rfl) ?_
    refine lv_dup hx hb dX7_takes_19 rfl ?_
    refine gf_7_10 X hP kc_279 q4_35 dX7_takes_20 ?_
    refine lv_iconst (v := (1 : Int32)) hx hb dX7_takes_23 (by decide) ?_
    refine lv_iadd hx hb dX7_takes_24 ?_
    refine gp_7_10 X hP hS kc_279 q4_35 dX7_takes_25 (fun H locs M_5 eM_5 hP hS => ?_)
    replace hf := lt_go hf eM_5
    refine lv_iconst (v := (1 : Int32)) hx hb dX7_takes_28 (by decide) ?_
    exact g_zret X hP hS rfl (sm_i hf) dX7_takes_29
  · replace hf := it_f hf h_4
    refine lv_aload_n hx hb dX7_takes_8 rfl (lv_at hl 0 rfl) ?_
    refine lv_iconst (v := (1 : Int32)) hx hb dX7_takes_9 (by decide) ?_
    refine lv_aload_n hx hb dX7_takes_10 rfl (lv_at hl 0 rfl) ?_
    refine gf_7_10 X hP kc_279 q4_35 dX7_takes_11 ?_
    obtain ⟨r_8, M_7, hc_6, hf⟩ := cb_s hf
    refine g_goi (g_run X (c_X7_fails l g  hc_6) s_X7_fails (oB_7 kc_279) q4_141 ⟨Nat.le_of_ble_eq_true rfl, Nat.le_of_ble_eq_true rfl⟩ hP hS rfl hl.1 rfl (Nat.le_of_ble_eq_true rfl) ⟨Nat.le_refl _, Nat.le_refl _⟩ dX7_takes_14) hS (fun H locs hP hS => ?_)
    obtain ⟨hbz, hf⟩ := cbz_s hf
    exact g_zret X hP hS hbz (sm_i hf) dX7_takes_17
def f_X7_takesNumber_60 (x1 : Int32) (x2 : Int32) (k10 : Int32 → Mem → Option (Int32 × Mem)) (x3 : Int32) (t1 : Int32) (M : Mem) : Option (Int32 × Mem) :=
  lt (up2 M 279 12 t1) fun M_1 =>
  lt (up2 M_1 279 10 ((M_1 279 10) + (1 : Int32))) fun M_2 =>
  k10 x3 M_2
set_option maxRecDepth 20000 in
theorem b_X7_takesNumber_60 {out : Int32 × Mem} (X : Bx p s m args meth c RX7 cX7_takesNumber 4 (some .boolean) g)   {x1 : Int32} {x2 : Int32}   {k10 : Int32 → Mem → Option (Int32 × Mem)} (hk10 : ∀ (x3 : Int32) (M : Mem) (H : Heap) (locs : List Loc) (ls : Array Slot), k10 x3 M = some out → va_P g.1 vwCl (gW g M) H → va_S (gA g) s.heap H locs → lv_has ls 4 [(0, .ref (gz g + 279)), (1, .int x1), (2, .int x2), (3, .int x3)] → W p l e (rM 1 25) s m args below meth c H locs 0 0 (MQ below (qI g out) args s 0 0 (gA g)) (F0 m 10 ls [])) (x3 : Int32) (t1 : Int32) (M : Mem) {H : Heap} {locs : List Loc} {ls : Array Slot} (hf : f_X7_takesNumber_60 x1 x2 k10 x3 t1 M = some out) (hP : va_P g.1 vwCl (gW g M) H) (hS : va_S (gA g) s.heap H locs) (hl : lv_has ls 4 [(0, .ref (gz g + 279)), (1, .int x1), (2, .int x2), (3, .int x3)]) : W p l e (rM 1 25) s m args below meth c H locs 0 0 (MQ below (qI g out) args s 0 0 (gA g)) (F0 m 60 ls [.int t1, .ref (gz g + 279)]) := by
  have hx := X.1
  have hb := X.2.1
  refine gp_7_12 X hP hS kc_279 q4_37 dX7_takesNumber_60 (fun H locs M_1 eM_1 hP hS => ?_)
  replace hf := lt_go hf eM_1
  refine lv_aload_n hx hb dX7_takesNumber_63 rfl (lv_at hl 0 rfl) ?_
  refine lv_dup hx hb dX7_takesNumber_64 rfl ?_
  refine gf_7_10 X hP kc_279 q4_35 dX7_takesNumber_65 ?_
  refine lv_iconst (v := (1 : Int32)) hx hb dX7_takesNumber_68 (by decide) ?_
  refine lv_iadd hx hb dX7_takesNumber_69 ?_
  refine gp_7_10 X hP hS kc_279 q4_35 dX7_takesNumber_70 (fun H locs M_2 eM_2 hP hS => ?_)
  replace hf := lt_go hf eM_2
  refine lv_goto (tgt := 10) hx hb dX7_takesNumber_73 (by decide) ?_
  exact hk10 x3 M_2 _ _ _ hf hP hS hl
def f_X7_takesNumber_10 (x1 : Int32) (x2 : Int32)  : Nat → Int32 → Mem → Option (Int32 × Mem)
  | 0, _, _ => none
  | n + 1, x3, M =>
    cb (f_X7_here M) fun r_3 M_2 =>
    cb (f_X7_in ((r_3).toInt64) (48 : Int64) (57 : Int64) M_2) fun r_6 M_5 =>
    if r_6 = 0 then
      cb (f_X7_in ((((M_5 279 10) - x3)).toInt64) (1 : Int64) (2 : Int64) M_5) fun r_10 M_9 =>
      if r_10 = 0 then
        cb (f_X7_fails (1 : Int32) x3 M_9) fun r_21 M_20 =>
        cbz r_21 <| some (r_21, M_20)
      else
        cb (f_X7_in (((M_9 279 12)).toInt64) ((x1).toInt64) ((x2).toInt64) M_9) fun r_14 M_13 =>
        if r_14 = 0 then
          cb (f_X7_fails (2 : Int32) x3 M_13) fun r_18 M_17 =>
          cbz r_18 <| some (r_18, M_17)
        else
          some ((1 : Int32), M_13)
    else
      if (2 : Int32) ≤ ((M_5 279 10) - x3) then
        f_X7_takesNumber_60 x1 x2 (f_X7_takesNumber_10 x1 x2 n) x3 (M_5 279 12) M_5
      else
        cb (f_X7_here M_5) fun r_25 M_24 =>
        f_X7_takesNumber_60 x1 x2 (f_X7_takesNumber_10 x1 x2 n) x3 ((((10 : Int32) * (M_5 279 12)) + r_25) - (48 : Int32)) M_24
set_option maxRecDepth 20000 in
theorem b_X7_takesNumber_10 {out : Int32 × Mem} (X : Bx p s m args meth c RX7 cX7_takesNumber 4 (some .boolean) g)   {x1 : Int32} {x2 : Int32}     : ∀ (n : Nat) (x3 : Int32) (M : Mem) (H : Heap) (locs : List Loc) (ls : Array Slot), f_X7_takesNumber_10 x1 x2 n x3 M = some out → va_P g.1 vwCl (gW g M) H → va_S (gA g) s.heap H locs → lv_has ls 4 [(0, .ref (gz g + 279)), (1, .int x1), (2, .int x2), (3, .int x3)] → W p l e (rM 1 25) s m args below meth c H locs 0 0 (MQ below (qI g out) args s 0 0 (gA g)) (F0 m 10 ls []) := by
  have hx := X.1
  have hb := X.2.1
  intro n
  induction n with
  | zero => intro _ _ _ _ _ hf; cases hf
  | succ n ih =>
    intro x3 M H locs ls hf hP hS hl
    rw [f_X7_takesNumber_10] at hf
    refine lv_aload_n hx hb dX7_takesNumber_10 rfl (lv_at hl 0 rfl) ?_
    obtain ⟨r_3, M_2, hc_1, hf⟩ := cb_s hf
    refine g_goi (g_run X (c_X7_here l g  hc_1) s_X7_here (oB_7 kc_279) q4_137 ⟨Nat.le_of_ble_eq_true rfl, Nat.le_of_ble_eq_true rfl⟩ hP hS rfl hl.1 rfl (Nat.le_of_ble_eq_true rfl) ⟨Nat.le_refl _, Nat.le_refl _⟩ dX7_takesNumber_11) hS (fun H locs hP hS => ?_)
    refine lv_i2l hx hb dX7_takesNumber_14 rfl ?_
    refine lv_ldc2 hx hb X.2.2.2.1 (X.2.2.2.2.1 _ q4_149) dX7_takesNumber_15 ?_
    refine lv_ldc2 hx hb X.2.2.2.1 (X.2.2.2.2.1 _ q4_150) dX7_takesNumber_18 ?_
    obtain ⟨r_6, M_5, hc_4, hf⟩ := cb_s hf
    refine g_goi (g_runS X (c_X7_in l g  hc_4) s_X7_in q4_89 ⟨Nat.le_of_ble_eq_true rfl, Nat.le_of_ble_eq_true rfl⟩ hP hS rfl hl.1 rfl (Nat.le_of_ble_eq_true rfl) ⟨Nat.le_refl _, Nat.le_refl _⟩ dX7_takesNumber_21) hS (fun H locs hP hS => ?_)
    refine lv_if_eq (tgt := 76) hx hb dX7_takesNumber_24 (by decide) (fun h_7 => ?_) (fun h_7 => ?_)
    · replace hf := it_t hf h_7
      refine lv_aload_n hx hb dX7_takesNumber_76 rfl (lv_at hl 0 rfl) ?_
      refine gf_7_10 X hP kc_279 q4_35 dX7_takesNumber_77 ?_
      refine lv_iload_n hx hb dX7_takesNumber_80 rfl (lv_at hl 3 rfl) ?_
      refine lv_isub hx hb dX7_takesNumber_81 ?_
      refine lv_i2l hx hb dX7_takesNumber_82 rfl ?_
      refine lv_lconst (v := (1 : Int64)) hx hb dX7_takesNumber_83 (by decide) ?_
      refine lv_ldc2 hx hb X.2.2.2.1 (X.2.2.2.2.1 _ q4_92) dX7_takesNumber_84 ?_
      obtain ⟨r_10, M_9, hc_8, hf⟩ := cb_s hf
      refine g_goi (g_runS X (c_X7_in l g  hc_8) s_X7_in q4_89 ⟨Nat.le_of_ble_eq_true rfl, Nat.le_of_ble_eq_true rfl⟩ hP hS rfl hl.1 rfl (Nat.le_of_ble_eq_true rfl) ⟨Nat.le_refl _, Nat.le_refl _⟩ dX7_takesNumber_87) hS (fun H locs hP hS => ?_)
      refine lv_if_ne (tgt := 100) hx hb dX7_takesNumber_90 (by decide) (fun h_11 => ?_) (fun h_11 => ?_)
      · replace hf := it_f hf h_11
        refine lv_aload_n hx hb dX7_takesNumber_100 rfl (lv_at hl 0 rfl) ?_
        refine gf_7_12 X hP kc_279 q4_37 dX7_takesNumber_101 ?_
        refine lv_i2l hx hb dX7_takesNumber_104 rfl ?_
        refine lv_iload_n hx hb dX7_takesNumber_105 rfl (lv_at hl 1 rfl) ?_
        refine lv_i2l hx hb dX7_takesNumber_106 rfl ?_
        refine lv_iload_n hx hb dX7_takesNumber_107 rfl (lv_at hl 2 rfl) ?_
        refine lv_i2l hx hb dX7_takesNumber_108 rfl ?_
        obtain ⟨r_14, M_13, hc_12, hf⟩ := cb_s hf
        refine g_goi (g_runS X (c_X7_in l g  hc_12) s_X7_in q4_89 ⟨Nat.le_of_ble_eq_true rfl, Nat.le_of_ble_eq_true rfl⟩ hP hS rfl hl.1 rfl (Nat.le_of_ble_eq_true rfl) ⟨Nat.le_refl _, Nat.le_refl _⟩ dX7_takesNumber_109) hS (fun H locs hP hS => ?_)
        refine lv_if_ne (tgt := 122) hx hb dX7_takesNumber_112 (by decide) (fun h_15 => ?_) (fun h_15 => ?_)
        · replace hf := it_f hf h_15
          refine lv_iconst (v := (1 : Int32)) hx hb dX7_takesNumber_122 (by decide) ?_
          exact g_zret X hP hS rfl (sm_i hf) dX7_takesNumber_123
        · replace hf := it_t hf h_15
          refine lv_aload_n hx hb dX7_takesNumber_115 rfl (lv_at hl 0 rfl) ?_
          refine lv_iconst (v := (2 : Int32)) hx hb dX7_takesNumber_116 (by decide) ?_
          refine lv_iload_n hx hb dX7_takesNumber_117 rfl (lv_at hl 3 rfl) ?_
          obtain ⟨r_18, M_17, hc_16, hf⟩ := cb_s hf
          refine g_goi (g_run X (c_X7_fails l g  hc_16) s_X7_fails (oB_7 kc_279) q4_141 ⟨Nat.le_of_ble_eq_true rfl, Nat.le_of_ble_eq_true rfl⟩ hP hS rfl hl.1 rfl (Nat.le_of_ble_eq_true rfl) ⟨Nat.le_refl _, Nat.le_refl _⟩ dX7_takesNumber_118) hS (fun H locs hP hS => ?_)
          obtain ⟨hbz, hf⟩ := cbz_s hf
          exact g_zret X hP hS hbz (sm_i hf) dX7_takesNumber_121
      · replace hf := it_t hf h_11
        refine lv_aload_n hx hb dX7_takesNumber_93 rfl (lv_at hl 0 rfl) ?_
        refine lv_iconst (v := (1 : Int32)) hx hb dX7_takesNumber_94 (by decide) ?_
        refine lv_iload_n hx hb dX7_takesNumber_95 rfl (lv_at hl 3 rfl) ?_
        obtain ⟨r_21, M_20, hc_19, hf⟩ := cb_s hf
        refine g_goi (g_run X (c_X7_fails l g  hc_19) s_X7_fails (oB_7 kc_279) q4_141 ⟨Nat.le_of_ble_eq_true rfl, Nat.le_of_ble_eq_true rfl⟩ hP hS rfl hl.1 rfl (Nat.le_of_ble_eq_true rfl) ⟨Nat.le_refl _, Nat.le_refl _⟩ dX7_takesNumber_96) hS (fun H locs hP hS => ?_)
        obtain ⟨hbz, hf⟩ := cbz_s hf
        exact g_zret X hP hS hbz (sm_i hf) dX7_takesNumber_99
    · replace hf := it_f hf h_7
      refine lv_aload_n hx hb dX7_takesNumber_27 rfl (lv_at hl 0 rfl) ?_
      refine lv_aload_n hx hb dX7_takesNumber_28 rfl (lv_at hl 0 rfl) ?_
      refine gf_7_10 X hP kc_279 q4_35 dX7_takesNumber_29 ?_
      refine lv_iload_n hx hb dX7_takesNumber_32 rfl (lv_at hl 3 rfl) ?_
      refine lv_isub hx hb dX7_takesNumber_33 ?_
      refine lv_iconst (v := (2 : Int32)) hx hb dX7_takesNumber_34 (by decide) ?_
      refine lv_icmp_ge (tgt := 56) hx hb dX7_takesNumber_35 (by decide) (fun h_22 => ?_) (fun h_22 => ?_)
      · replace hf := it_t hf h_22
        refine lv_aload_n hx hb dX7_takesNumber_56 rfl (lv_at hl 0 rfl) ?_
        refine gf_7_12 X hP kc_279 q4_37 dX7_takesNumber_57 ?_
        exact b_X7_takesNumber_60 X ih x3 (M_5 279 12) M_5 hf hP hS hl
      · replace hf := it_f hf h_22
        refine lv_bipush (v := (10 : Int32)) hx hb dX7_takesNumber_38 (by decide) ?_
        refine lv_aload_n hx hb dX7_takesNumber_40 rfl (lv_at hl 0 rfl) ?_
        refine gf_7_12 X hP kc_279 q4_37 dX7_takesNumber_41 ?_
        refine lv_imul hx hb dX7_takesNumber_44 ?_
        refine lv_aload_n hx hb dX7_takesNumber_45 rfl (lv_at hl 0 rfl) ?_
        obtain ⟨r_25, M_24, hc_23, hf⟩ := cb_s hf
        refine g_goi (g_run X (c_X7_here l g  hc_23) s_X7_here (oB_7 kc_279) q4_137 ⟨Nat.le_of_ble_eq_true rfl, Nat.le_of_ble_eq_true rfl⟩ hP hS rfl hl.1 rfl (Nat.le_of_ble_eq_true rfl) ⟨Nat.le_refl _, Nat.le_refl _⟩ dX7_takesNumber_46) hS (fun H locs hP hS => ?_)
        refine lv_iadd hx hb dX7_takesNumber_49 ?_
        refine lv_bipush (v := (48 : Int32)) hx hb dX7_takesNumber_50 (by decide) ?_
        refine lv_isub hx hb dX7_takesNumber_52 ?_
        refine lv_goto (tgt := 60) hx hb dX7_takesNumber_53 (by decide) ?_
        exact b_X7_takesNumber_60 X ih x3 ((((10 : Int32) * (M_5 279 12)) + r_25) - (48 : Int32)) M_24 hf hP hS hl
def f_X7_takesNumber (x1 : Int32) (x2 : Int32) (M : Mem) : Option (Int32 × Mem) :=
  lt (M 279 10) fun x3_1 =>
  lt (up2 M 279 12 (0 : Int32)) fun M_2 =>
  f_X7_takesNumber_10 x1 x2 FU x3_1 M_2
set_option maxRecDepth 20000 in
theorem c_X7_takesNumber (l : Launch) (g : GC) {x1 : Int32} {x2 : Int32}  {M : Mem} {out : Int32 × Mem} (hf : f_X7_takesNumber x1 x2 M = some out) : cI l g yX7_takesNumber cX7_takesNumber 4 (some .boolean) (rM 1 25) [.ref (gz g + 279), .int x1, .int x2] M out := by
  refine g_met (by decide) (Nat.le_of_ble_eq_true rfl) ?_
  intro p e s m below meth c X hP hS ls hl
  have X : Bx p s m _ meth c RX7 cX7_takesNumber 4 (some .boolean) g := X
  have hl : lv_has ls 4 [(0, .ref (gz g + 279)), (1, .int x1), (2, .int x2)] := hl
  have hx := X.1
  have hb := X.2.1
  refine lv_aload_n hx hb dX7_takesNumber_0 rfl (lv_at hl 0 rfl) ?_
  refine gf_7_10 X hP kc_279 q4_35 dX7_takesNumber_1 ?_
  refine lv_topi (fun x3_1 ex3_1 => ?_)
  replace hf := lt_go hf ex3_1
  refine lv_istore_n (lv' := [(3, .int x3_1), (0, .ref (gz g + 279)), (1, .int x1), (2, .int x2)]) hx hb dX7_takesNumber_4 rfl hl (by decide) rfl (fun ls hl => ?_)
  refine lv_aload_n hx hb dX7_takesNumber_5 rfl (lv_at hl 1 rfl) ?_
  refine lv_iconst (v := (0 : Int32)) hx hb dX7_takesNumber_6 (by decide) ?_
  refine gp_7_12 X hP hS kc_279 q4_37 dX7_takesNumber_7 (fun H locs M_2 eM_2 hP hS => ?_)
  replace hf := lt_go hf eM_2
  exact b_X7_takesNumber_10 X  FU x3_1 M_2 _ _ _ hf hP hS (lv_sub hl [1, 2, 3, 0] rfl)
def f_X7_kindOf (x0 : Int32) (M : Mem) : Option (Int32 × Mem) :=
  if x0 = (115 : Int32) then
    some ((1 : Int32), M)
  else
    if x0 = (100 : Int32) then
      some ((2 : Int32), M)
    else
      if x0 = (116 : Int32) then
        some ((3 : Int32), M)
      else
        if x0 = (114 : Int32) then
          some ((4 : Int32), M)
        else
          if x0 = (99 : Int32) then
            some ((5 : Int32), M)
          else
            some ((0 : Int32), M)
set_option maxRecDepth 20000 in
theorem c_X7_kindOf (l : Launch) (g : GC) {x0 : Int32}  {M : Mem} {out : Int32 × Mem} (hf : f_X7_kindOf x0 M = some out) : cI l g yX7_kindOf cX7_kindOf 1 (some .int) (rM 0 0) [.int x0] M out := by
  refine g_met (by decide) (Nat.le_of_ble_eq_true rfl) ?_
  intro p e s m below meth c X hP hS ls hl
  have X : Bx p s m _ meth c RX7 cX7_kindOf 1 (some .int) g := X
  have hl : lv_has ls 1 [(0, .int x0)] := hl
  have hx := X.1
  have hb := X.2.1
  refine lv_iload_n hx hb dX7_kindOf_0 rfl (lv_at hl 0 rfl) ?_
  refine lv_bipush (v := (115 : Int32)) hx hb dX7_kindOf_1 (by decide) ?_
  refine lv_icmp_ne (tgt := 10) hx hb dX7_kindOf_3 (by decide) (fun h_1 => ?_) (fun h_1 => ?_)
  · replace hf := it_f hf h_1
    refine lv_iload_n hx hb dX7_kindOf_10 rfl (lv_at hl 0 rfl) ?_
    refine lv_bipush (v := (100 : Int32)) hx hb dX7_kindOf_11 (by decide) ?_
    refine lv_icmp_ne (tgt := 20) hx hb dX7_kindOf_13 (by decide) (fun h_2 => ?_) (fun h_2 => ?_)
    · replace hf := it_f hf h_2
      refine lv_iload_n hx hb dX7_kindOf_20 rfl (lv_at hl 0 rfl) ?_
      refine lv_bipush (v := (116 : Int32)) hx hb dX7_kindOf_21 (by decide) ?_
      refine lv_icmp_ne (tgt := 30) hx hb dX7_kindOf_23 (by decide) (fun h_3 => ?_) (fun h_3 => ?_)
      · replace hf := it_f hf h_3
        refine lv_iload_n hx hb dX7_kindOf_30 rfl (lv_at hl 0 rfl) ?_
        refine lv_bipush (v := (114 : Int32)) hx hb dX7_kindOf_31 (by decide) ?_
        refine lv_icmp_ne (tgt := 40) hx hb dX7_kindOf_33 (by decide) (fun h_4 => ?_) (fun h_4 => ?_)
        · replace hf := it_f hf h_4
          refine lv_iload_n hx hb dX7_kindOf_40 rfl (lv_at hl 0 rfl) ?_
          refine lv_bipush (v := (99 : Int32)) hx hb dX7_kindOf_41 (by decide) ?_
          refine lv_icmp_ne (tgt := 50) hx hb dX7_kindOf_43 (by decide) (fun h_5 => ?_) (fun h_5 => ?_)
          · replace hf := it_f hf h_5
            refine lv_iconst (v := (0 : Int32)) hx hb dX7_kindOf_50 (by decide) ?_
            exact g_iret X hP hS (sm_i hf) dX7_kindOf_51
          · replace hf := it_t hf h_5
            refine lv_iconst (v := (5 : Int32)) hx hb dX7_kindOf_46 (by decide) ?_
            refine lv_goto (tgt := 51) hx hb dX7_kindOf_47 (by decide) ?_
            exact g_iret X hP hS (sm_i hf) dX7_kindOf_51
        · replace hf := it_t hf h_4
          refine lv_iconst (v := (4 : Int32)) hx hb dX7_kindOf_36 (by decide) ?_
          refine lv_goto (tgt := 51) hx hb dX7_kindOf_37 (by decide) ?_
          exact g_iret X hP hS (sm_i hf) dX7_kindOf_51
      · replace hf := it_t hf h_3
        refine lv_iconst (v := (3 : Int32)) hx hb dX7_kindOf_26 (by decide) ?_
        refine lv_goto (tgt := 51) hx hb dX7_kindOf_27 (by decide) ?_
        exact g_iret X hP hS (sm_i hf) dX7_kindOf_51
    · replace hf := it_t hf h_2
      refine lv_iconst (v := (2 : Int32)) hx hb dX7_kindOf_16 (by decide) ?_
      refine lv_goto (tgt := 51) hx hb dX7_kindOf_17 (by decide) ?_
      exact g_iret X hP hS (sm_i hf) dX7_kindOf_51
  · replace hf := it_t hf h_1
    refine lv_iconst (v := (1 : Int32)) hx hb dX7_kindOf_6 (by decide) ?_
    refine lv_goto (tgt := 51) hx hb dX7_kindOf_7 (by decide) ?_
    exact g_iret X hP hS (sm_i hf) dX7_kindOf_51
def f_X7_takesLaw  (M : Mem) : Option (Int32 × Mem) :=
  cb (f_X7_takes (109 : Int32) M) fun r_3 M_2 =>
  if r_3 = 0 then
    some ((0 : Int32), M_2)
  else
    cb (f_X7_takesNumber (0 : Int32) (99 : Int32) M_2) fun r_7 M_6 =>
    if r_7 = 0 then
      some ((0 : Int32), M_6)
    else
      lt (up2 M_6 280 174 (M_6 279 12)) fun M_9 =>
      cb (f_X7_takes (44 : Int32) M_9) fun r_12 M_11 =>
      if r_12 = 0 then
        some ((0 : Int32), M_11)
      else
        cb (f_X7_takesNumber (0 : Int32) (3 : Int32) M_11) fun r_16 M_15 =>
        if r_16 = 0 then
          some ((0 : Int32), M_15)
        else
          lt (up2 M_15 280 175 (M_15 279 12)) fun M_18 =>
          cb (f_X7_takes (59 : Int32) M_18) fun r_21 M_20 =>
          cbz r_21 <| some (r_21, M_20)
set_option maxRecDepth 20000 in
theorem c_X7_takesLaw (l : Launch) (g : GC)   {M : Mem} {out : Int32 × Mem} (hf : f_X7_takesLaw  M = some out) : cI l g yX7_takesLaw cX7_takesLaw 1 (some .boolean) (rM 2 48) [.ref (gz g + 279)] M out := by
  refine g_met (by decide) (Nat.le_of_ble_eq_true rfl) ?_
  intro p e s m below meth c X hP hS ls hl
  have X : Bx p s m _ meth c RX7 cX7_takesLaw 1 (some .boolean) g := X
  have hl : lv_has ls 1 [(0, .ref (gz g + 279))] := hl
  have hx := X.1
  have hb := X.2.1
  refine lv_aload_n hx hb dX7_takesLaw_0 rfl (lv_at hl 0 rfl) ?_
  refine lv_bipush (v := (109 : Int32)) hx hb dX7_takesLaw_1 (by decide) ?_
  obtain ⟨r_3, M_2, hc_1, hf⟩ := cb_s hf
  refine g_goi (g_run X (c_X7_takes l g  hc_1) s_X7_takes (oB_7 kc_279) q4_133 ⟨Nat.le_of_ble_eq_true rfl, Nat.le_of_ble_eq_true rfl⟩ hP hS rfl hl.1 rfl (Nat.le_of_ble_eq_true rfl) ⟨Nat.le_refl _, Nat.le_refl _⟩ dX7_takesLaw_3) hS (fun H locs hP hS => ?_)
  refine lv_if_eq (tgt := 19) hx hb dX7_takesLaw_6 (by decide) (fun h_4 => ?_) (fun h_4 => ?_)
  · replace hf := it_t hf h_4
    refine lv_iconst (v := (0 : Int32)) hx hb dX7_takesLaw_19 (by decide) ?_
    exact g_zret X hP hS rfl (sm_i hf) dX7_takesLaw_20
  · replace hf := it_f hf h_4
    refine lv_aload_n hx hb dX7_takesLaw_9 rfl (lv_at hl 0 rfl) ?_
    refine lv_iconst (v := (0 : Int32)) hx hb dX7_takesLaw_10 (by decide) ?_
    refine lv_bipush (v := (99 : Int32)) hx hb dX7_takesLaw_11 (by decide) ?_
    obtain ⟨r_7, M_6, hc_5, hf⟩ := cb_s hf
    refine g_goi (g_run X (c_X7_takesNumber l g  hc_5) s_X7_takesNumber (oB_7 kc_279) q4_145 ⟨Nat.le_of_ble_eq_true rfl, Nat.le_of_ble_eq_true rfl⟩ hP hS rfl hl.1 rfl (Nat.le_of_ble_eq_true rfl) ⟨Nat.le_refl _, Nat.le_refl _⟩ dX7_takesLaw_13) hS (fun H locs hP hS => ?_)
    refine lv_if_ne (tgt := 21) hx hb dX7_takesLaw_16 (by decide) (fun h_8 => ?_) (fun h_8 => ?_)
    · replace hf := it_f hf h_8
      refine lv_aload_n hx hb dX7_takesLaw_21 rfl (lv_at hl 0 rfl) ?_
      refine gf_7_0 X hP kc_279 q4_25 dX7_takesLaw_22 ?_
      refine lv_sipush (v := (174 : Int32)) hx hb dX7_takesLaw_25 (by decide) ?_
      refine lv_aload_n hx hb dX7_takesLaw_28 rfl (lv_at hl 0 rfl) ?_
      refine gf_7_12 X hP kc_279 q4_37 dX7_takesLaw_29 ?_
      refine ga_stj (j := 174) X hP hS (iA_13 kc_280) (by unfold vp_in; decide) (by decide) dX7_takesLaw_32 (fun H locs M_9 eM_9 hP hS => ?_)
      replace hf := lt_go hf eM_9
      refine lv_aload_n hx hb dX7_takesLaw_33 rfl (lv_at hl 0 rfl) ?_
      refine lv_bipush (v := (44 : Int32)) hx hb dX7_takesLaw_34 (by decide) ?_
      obtain ⟨r_12, M_11, hc_10, hf⟩ := cb_s hf
      refine g_goi (g_run X (c_X7_takes l g  hc_10) s_X7_takes (oB_7 kc_279) q4_133 ⟨Nat.le_of_ble_eq_true rfl, Nat.le_of_ble_eq_true rfl⟩ hP hS rfl hl.1 rfl (Nat.le_of_ble_eq_true rfl) ⟨Nat.le_refl _, Nat.le_refl _⟩ dX7_takesLaw_36) hS (fun H locs hP hS => ?_)
      refine lv_if_eq (tgt := 51) hx hb dX7_takesLaw_39 (by decide) (fun h_13 => ?_) (fun h_13 => ?_)
      · replace hf := it_t hf h_13
        refine lv_iconst (v := (0 : Int32)) hx hb dX7_takesLaw_51 (by decide) ?_
        exact g_zret X hP hS rfl (sm_i hf) dX7_takesLaw_52
      · replace hf := it_f hf h_13
        refine lv_aload_n hx hb dX7_takesLaw_42 rfl (lv_at hl 0 rfl) ?_
        refine lv_iconst (v := (0 : Int32)) hx hb dX7_takesLaw_43 (by decide) ?_
        refine lv_iconst (v := (3 : Int32)) hx hb dX7_takesLaw_44 (by decide) ?_
        obtain ⟨r_16, M_15, hc_14, hf⟩ := cb_s hf
        refine g_goi (g_run X (c_X7_takesNumber l g  hc_14) s_X7_takesNumber (oB_7 kc_279) q4_145 ⟨Nat.le_of_ble_eq_true rfl, Nat.le_of_ble_eq_true rfl⟩ hP hS rfl hl.1 rfl (Nat.le_of_ble_eq_true rfl) ⟨Nat.le_refl _, Nat.le_refl _⟩ dX7_takesLaw_45) hS (fun H locs hP hS => ?_)
        refine lv_if_ne (tgt := 53) hx hb dX7_takesLaw_48 (by decide) (fun h_17 => ?_) (fun h_17 => ?_)
        · replace hf := it_f hf h_17
          refine lv_aload_n hx hb dX7_takesLaw_53 rfl (lv_at hl 0 rfl) ?_
          refine gf_7_0 X hP kc_279 q4_25 dX7_takesLaw_54 ?_
          refine lv_sipush (v := (175 : Int32)) hx hb dX7_takesLaw_57 (by decide) ?_
          refine lv_aload_n hx hb dX7_takesLaw_60 rfl (lv_at hl 0 rfl) ?_
          refine gf_7_12 X hP kc_279 q4_37 dX7_takesLaw_61 ?_
          refine ga_stj (j := 175) X hP hS (iA_13 kc_280) (by unfold vp_in; decide) (by decide) dX7_takesLaw_64 (fun H locs M_18 eM_18 hP hS => ?_)
          replace hf := lt_go hf eM_18
          refine lv_aload_n hx hb dX7_takesLaw_65 rfl (lv_at hl 0 rfl) ?_
          refine lv_bipush (v := (59 : Int32)) hx hb dX7_takesLaw_66 (by decide) ?_
          obtain ⟨r_21, M_20, hc_19, hf⟩ := cb_s hf
          refine g_goi (g_run X (c_X7_takes l g  hc_19) s_X7_takes (oB_7 kc_279) q4_133 ⟨Nat.le_of_ble_eq_true rfl, Nat.le_of_ble_eq_true rfl⟩ hP hS rfl hl.1 rfl (Nat.le_of_ble_eq_true rfl) ⟨Nat.le_refl _, Nat.le_refl _⟩ dX7_takesLaw_68) hS (fun H locs hP hS => ?_)
          obtain ⟨hbz, hf⟩ := cbz_s hf
          exact g_zret X hP hS hbz (sm_i hf) dX7_takesLaw_71
        · replace hf := it_t hf h_17
          refine lv_iconst (v := (0 : Int32)) hx hb dX7_takesLaw_51 (by decide) ?_
          exact g_zret X hP hS rfl (sm_i hf) dX7_takesLaw_52
    · replace hf := it_t hf h_8
      refine lv_iconst (v := (0 : Int32)) hx hb dX7_takesLaw_19 (by decide) ?_
      exact g_zret X hP hS rfl (sm_i hf) dX7_takesLaw_20
def f_X7_takesColumn  (M : Mem) : Option (Int32 × Mem) :=
  cb (f_X7_here M) fun r_3 M_2 =>
  if r_3 = (112 : Int32) then
    if (M_2 280 173) = (12 : Int32) then
      cb (f_X7_fails (3 : Int32) (M_2 279 10) M_2) fun r_19 M_18 =>
      cbz r_19 <| some (r_19, M_18)
    else
      lt (up2 M_2 279 10 ((M_2 279 10) + (1 : Int32))) fun M_6 =>
      cb (f_X7_takesNumber (0 : Int32) (63 : Int32) M_6) fun r_9 M_8 =>
      if r_9 = 0 then
        some ((0 : Int32), M_8)
      else
        ck ((202 : Int32) + (M_8 280 173)) 1247 <|
        lt (up2 M_8 280 (((202 : Int32) + (M_8 280 173))).toNatClampNeg (M_8 279 12)) fun M_11 =>
        lt (up2 M_11 280 173 ((M_11 280 173) + (1 : Int32))) fun M_13 =>
        cb (f_X7_takes (59 : Int32) M_13) fun r_16 M_15 =>
        cbz r_16 <| some (r_16, M_15)
  else
    cb (f_X7_fails (1 : Int32) (M_2 279 10) M_2) fun r_22 M_21 =>
    cbz r_22 <| some (r_22, M_21)
set_option maxRecDepth 20000 in
theorem c_X7_takesColumn (l : Launch) (g : GC)   {M : Mem} {out : Int32 × Mem} (hf : f_X7_takesColumn  M = some out) : cI l g yX7_takesColumn cX7_takesColumn 1 (some .boolean) (rM 2 48) [.ref (gz g + 279)] M out := by
  refine g_met (by decide) (Nat.le_of_ble_eq_true rfl) ?_
  intro p e s m below meth c X hP hS ls hl
  have X : Bx p s m _ meth c RX7 cX7_takesColumn 1 (some .boolean) g := X
  have hl : lv_has ls 1 [(0, .ref (gz g + 279))] := hl
  have hx := X.1
  have hb := X.2.1
  refine lv_aload_n hx hb dX7_takesColumn_0 rfl (lv_at hl 0 rfl) ?_
  obtain ⟨r_3, M_2, hc_1, hf⟩ := cb_s hf
  refine g_goi (g_run X (c_X7_here l g  hc_1) s_X7_here (oB_7 kc_279) q4_137 ⟨Nat.le_of_ble_eq_true rfl, Nat.le_of_ble_eq_true rfl⟩ hP hS rfl hl.1 rfl (Nat.le_of_ble_eq_true rfl) ⟨Nat.le_refl _, Nat.le_refl _⟩ dX7_takesColumn_1) hS (fun H locs hP hS => ?_)
  refine lv_bipush (v := (112 : Int32)) hx hb dX7_takesColumn_4 (by decide) ?_
  refine lv_icmp_eq (tgt := 19) hx hb dX7_takesColumn_6 (by decide) (fun h_4 => ?_) (fun h_4 => ?_)
  · replace hf := it_t hf h_4
    refine lv_aload_n hx hb dX7_takesColumn_19 rfl (lv_at hl 0 rfl) ?_
    refine gf_7_0 X hP kc_279 q4_25 dX7_takesColumn_20 ?_
    refine lv_sipush (v := (173 : Int32)) hx hb dX7_takesColumn_23 (by decide) ?_
    refine ga_ldj (j := 173) X hP (iA_13 kc_280) (by unfold vp_in; decide) (by decide) dX7_takesColumn_26 ?_
    refine lv_bipush (v := (12 : Int32)) hx hb dX7_takesColumn_27 (by decide) ?_
    refine lv_icmp_ne (tgt := 42) hx hb dX7_takesColumn_29 (by decide) (fun h_5 => ?_) (fun h_5 => ?_)
    · replace hf := it_f hf h_5
      refine lv_aload_n hx hb dX7_takesColumn_42 rfl (lv_at hl 0 rfl) ?_
      refine lv_dup hx hb dX7_takesColumn_43 rfl ?_
      refine gf_7_10 X hP kc_279 q4_35 dX7_takesColumn_44 ?_
      refine lv_iconst (v := (1 : Int32)) hx hb dX7_takesColumn_47 (by decide) ?_
      refine lv_iadd hx hb dX7_takesColumn_48 ?_
      refine gp_7_10 X hP hS kc_279 q4_35 dX7_takesColumn_49 (fun H locs M_6 eM_6 hP hS => ?_)
      replace hf := lt_go hf eM_6
      refine lv_aload_n hx hb dX7_takesColumn_52 rfl (lv_at hl 0 rfl) ?_
      refine lv_iconst (v := (0 : Int32)) hx hb dX7_takesColumn_53 (by decide) ?_
      refine lv_bipush (v := (63 : Int32)) hx hb dX7_takesColumn_54 (by decide) ?_
      obtain ⟨r_9, M_8, hc_7, hf⟩ := cb_s hf
      refine g_goi (g_run X (c_X7_takesNumber l g  hc_7) s_X7_takesNumber (oB_7 kc_279) q4_145 ⟨Nat.le_of_ble_eq_true rfl, Nat.le_of_ble_eq_true rfl⟩ hP hS rfl hl.1 rfl (Nat.le_of_ble_eq_true rfl) ⟨Nat.le_refl _, Nat.le_refl _⟩ dX7_takesColumn_56) hS (fun H locs hP hS => ?_)
      refine lv_if_ne (tgt := 64) hx hb dX7_takesColumn_59 (by decide) (fun h_10 => ?_) (fun h_10 => ?_)
      · replace hf := it_f hf h_10
        refine lv_aload_n hx hb dX7_takesColumn_64 rfl (lv_at hl 0 rfl) ?_
        refine gf_7_0 X hP kc_279 q4_25 dX7_takesColumn_65 ?_
        refine lv_sipush (v := (202 : Int32)) hx hb dX7_takesColumn_68 (by decide) ?_
        refine lv_aload_n hx hb dX7_takesColumn_71 rfl (lv_at hl 0 rfl) ?_
        refine gf_7_0 X hP kc_279 q4_25 dX7_takesColumn_72 ?_
        refine lv_sipush (v := (173 : Int32)) hx hb dX7_takesColumn_75 (by decide) ?_
        refine ga_ldj (j := 173) X hP (iA_13 kc_280) (by unfold vp_in; decide) (by decide) dX7_takesColumn_78 ?_
        refine lv_iadd hx hb dX7_takesColumn_79 ?_
        refine lv_aload_n hx hb dX7_takesColumn_80 rfl (lv_at hl 0 rfl) ?_
        refine gf_7_12 X hP kc_279 q4_37 dX7_takesColumn_81 ?_
        obtain ⟨hi_12, hf⟩ := ck_s hf
        refine ga_st X hP hS (iA_13 kc_280) hi_12 dX7_takesColumn_84 (fun H locs M_11 eM_11 hP hS => ?_)
        replace hf := lt_go hf eM_11
        refine lv_aload_n hx hb dX7_takesColumn_85 rfl (lv_at hl 0 rfl) ?_
        refine gf_7_0 X hP kc_279 q4_25 dX7_takesColumn_86 ?_
        refine lv_sipush (v := (173 : Int32)) hx hb dX7_takesColumn_89 (by decide) ?_
        refine lv_dup2_11 hx hb dX7_takesColumn_92 rfl rfl ?_
        refine ga_ldj (j := 173) X hP (iA_13 kc_280) (by unfold vp_in; decide) (by decide) dX7_takesColumn_93 ?_
        refine lv_iconst (v := (1 : Int32)) hx hb dX7_takesColumn_94 (by decide) ?_
        refine lv_iadd hx hb dX7_takesColumn_95 ?_
        refine ga_stj (j := 173) X hP hS (iA_13 kc_280) (by unfold vp_in; decide) (by decide) dX7_takesColumn_96 (fun H locs M_13 eM_13 hP hS => ?_)
        replace hf := lt_go hf eM_13
        refine lv_aload_n hx hb dX7_takesColumn_97 rfl (lv_at hl 0 rfl) ?_
        refine lv_bipush (v := (59 : Int32)) hx hb dX7_takesColumn_98 (by decide) ?_
        obtain ⟨r_16, M_15, hc_14, hf⟩ := cb_s hf
        refine g_goi (g_run X (c_X7_takes l g  hc_14) s_X7_takes (oB_7 kc_279) q4_133 ⟨Nat.le_of_ble_eq_true rfl, Nat.le_of_ble_eq_true rfl⟩ hP hS rfl hl.1 rfl (Nat.le_of_ble_eq_true rfl) ⟨Nat.le_refl _, Nat.le_refl _⟩ dX7_takesColumn_100) hS (fun H locs hP hS => ?_)
        obtain ⟨hbz, hf⟩ := cbz_s hf
        exact g_zret X hP hS hbz (sm_i hf) dX7_takesColumn_103
      · replace hf := it_t hf h_10
        refine lv_iconst (v := (0 : Int32)) hx hb dX7_takesColumn_62 (by decide) ?_
        exact g_zret X hP hS rfl (sm_i hf) dX7_takesColumn_63
    · replace hf := it_t hf h_5
      refine lv_aload_n hx hb dX7_takesColumn_32 rfl (lv_at hl 0 rfl) ?_
      refine lv_iconst (v := (3 : Int32)) hx hb dX7_takesColumn_33 (by decide) ?_
      refine lv_aload_n hx hb dX7_takesColumn_34 rfl (lv_at hl 0 rfl) ?_
      refine gf_7_10 X hP kc_279 q4_35 dX7_takesColumn_35 ?_
      obtain ⟨r_19, M_18, hc_17, hf⟩ := cb_s hf
      refine g_goi (g_run X (c_X7_fails l g  hc_17) s_X7_fails (oB_7 kc_279) q4_141 ⟨Nat.le_of_ble_eq_true rfl, Nat.le_of_ble_eq_true rfl⟩ hP hS rfl hl.1 rfl (Nat.le_of_ble_eq_true rfl) ⟨Nat.le_refl _, Nat.le_refl _⟩ dX7_takesColumn_38) hS (fun H locs hP hS => ?_)
      obtain ⟨hbz, hf⟩ := cbz_s hf
      exact g_zret X hP hS hbz (sm_i hf) dX7_takesColumn_41
  · replace hf := it_f hf h_4
    refine lv_aload_n hx hb dX7_takesColumn_9 rfl (lv_at hl 0 rfl) ?_
    refine lv_iconst (v := (1 : Int32)) hx hb dX7_takesColumn_10 (by decide) ?_
    refine lv_aload_n hx hb dX7_takesColumn_11 rfl (lv_at hl 0 rfl) ?_
    refine gf_7_10 X hP kc_279 q4_35 dX7_takesColumn_12 ?_
    obtain ⟨r_22, M_21, hc_20, hf⟩ := cb_s hf
    refine g_goi (g_run X (c_X7_fails l g  hc_20) s_X7_fails (oB_7 kc_279) q4_141 ⟨Nat.le_of_ble_eq_true rfl, Nat.le_of_ble_eq_true rfl⟩ hP hS rfl hl.1 rfl (Nat.le_of_ble_eq_true rfl) ⟨Nat.le_refl _, Nat.le_refl _⟩ dX7_takesColumn_15) hS (fun H locs hP hS => ?_)
    obtain ⟨hbz, hf⟩ := cbz_s hf
    exact g_zret X hP hS hbz (sm_i hf) dX7_takesColumn_18
def f_X7_takesTooth  (M : Mem) : Option (Int32 × Mem) :=
  cb (f_X7_here M) fun r_3 M_2 =>
  cb (f_X7_kindOf r_3 M_2) fun r_6 M_5 =>
  if r_6 = 0 then
    cb (f_X7_fails (1 : Int32) (M_5 279 10) M_5) fun r_27 M_26 =>
    cbz r_27 <| some (r_27, M_26)
  else
    if (M_5 280 172) = (6 : Int32) then
      cb (f_X7_fails (3 : Int32) (M_5 279 10) M_5) fun r_24 M_23 =>
      cbz r_24 <| some (r_24, M_23)
    else
      lt (up2 M_5 279 10 ((M_5 279 10) + (1 : Int32))) fun M_9 =>
      ck ((178 : Int32) + (M_9 280 172)) 1247 <|
      lt (up2 M_9 280 (((178 : Int32) + (M_9 280 172))).toNatClampNeg r_6) fun M_10 =>
      cb (f_X7_takesNumber (1 : Int32) (9 : Int32) M_10) fun r_14 M_13 =>
      if r_14 = 0 then
        some ((0 : Int32), M_13)
      else
        ck ((184 : Int32) + (M_13 280 172)) 1247 <|
        lt (up2 M_13 280 (((184 : Int32) + (M_13 280 172))).toNatClampNeg (M_13 279 12)) fun M_16 =>
        lt (up2 M_16 280 172 ((M_16 280 172) + (1 : Int32))) fun M_18 =>
        cb (f_X7_takes (59 : Int32) M_18) fun r_21 M_20 =>
        cbz r_21 <| some (r_21, M_20)
set_option maxRecDepth 20000 in
theorem c_X7_takesTooth (l : Launch) (g : GC)   {M : Mem} {out : Int32 × Mem} (hf : f_X7_takesTooth  M = some out) : cI l g yX7_takesTooth cX7_takesTooth 2 (some .boolean) (rM 2 48) [.ref (gz g + 279)] M out := by
  refine g_met (by decide) (Nat.le_of_ble_eq_true rfl) ?_
  intro p e s m below meth c X hP hS ls hl
  have X : Bx p s m _ meth c RX7 cX7_takesTooth 2 (some .boolean) g := X
  have hl : lv_has ls 2 [(0, .ref (gz g + 279))] := hl
  have hx := X.1
  have hb := X.2.1
  refine lv_aload_n hx hb dX7_takesTooth_0 rfl (lv_at hl 0 rfl) ?_
  obtain ⟨r_3, M_2, hc_1, hf⟩ := cb_s hf
  refine g_goi (g_run X (c_X7_here l g  hc_1) s_X7_here (oB_7 kc_279) q4_137 ⟨Nat.le_of_ble_eq_true rfl, Nat.le_of_ble_eq_true rfl⟩ hP hS rfl hl.1 rfl (Nat.le_of_ble_eq_true rfl) ⟨Nat.le_refl _, Nat.le_refl _⟩ dX7_takesTooth_1) hS (fun H locs hP hS => ?_)
  obtain ⟨r_6, M_5, hc_4, hf⟩ := cb_s hf
  refine g_goi (g_runS X (c_X7_kindOf l g  hc_4) s_X7_kindOf q4_159 ⟨Nat.le_of_ble_eq_true rfl, Nat.le_of_ble_eq_true rfl⟩ hP hS rfl hl.1 rfl (Nat.le_of_ble_eq_true rfl) ⟨Nat.le_refl _, Nat.le_refl _⟩ dX7_takesTooth_4) hS (fun H locs hP hS => ?_)
  refine lv_istore_n (lv' := [(1, .int r_6), (0, .ref (gz g + 279))]) hx hb dX7_takesTooth_7 rfl hl (by decide) rfl (fun ls hl => ?_)
  refine lv_iload_n hx hb dX7_takesTooth_8 rfl (lv_at hl 0 rfl) ?_
  refine lv_if_ne (tgt := 22) hx hb dX7_takesTooth_9 (by decide) (fun h_7 => ?_) (fun h_7 => ?_)
  · replace hf := it_f hf h_7
    refine lv_aload_n hx hb dX7_takesTooth_22 rfl (lv_at hl 1 rfl) ?_
    refine gf_7_0 X hP kc_279 q4_25 dX7_takesTooth_23 ?_
    refine lv_sipush (v := (172 : Int32)) hx hb dX7_takesTooth_26 (by decide) ?_
    refine ga_ldj (j := 172) X hP (iA_13 kc_280) (by unfold vp_in; decide) (by decide) dX7_takesTooth_29 ?_
    refine lv_bipush (v := (6 : Int32)) hx hb dX7_takesTooth_30 (by decide) ?_
    refine lv_icmp_ne (tgt := 45) hx hb dX7_takesTooth_32 (by decide) (fun h_8 => ?_) (fun h_8 => ?_)
    · replace hf := it_f hf h_8
      refine lv_aload_n hx hb dX7_takesTooth_45 rfl (lv_at hl 1 rfl) ?_
      refine lv_dup hx hb dX7_takesTooth_46 rfl ?_
      refine gf_7_10 X hP kc_279 q4_35 dX7_takesTooth_47 ?_
      refine lv_iconst (v := (1 : Int32)) hx hb dX7_takesTooth_50 (by decide) ?_
      refine lv_iadd hx hb dX7_takesTooth_51 ?_
      refine gp_7_10 X hP hS kc_279 q4_35 dX7_takesTooth_52 (fun H locs M_9 eM_9 hP hS => ?_)
      replace hf := lt_go hf eM_9
      refine lv_aload_n hx hb dX7_takesTooth_55 rfl (lv_at hl 1 rfl) ?_
      refine gf_7_0 X hP kc_279 q4_25 dX7_takesTooth_56 ?_
      refine lv_sipush (v := (178 : Int32)) hx hb dX7_takesTooth_59 (by decide) ?_
      refine lv_aload_n hx hb dX7_takesTooth_62 rfl (lv_at hl 1 rfl) ?_
      refine gf_7_0 X hP kc_279 q4_25 dX7_takesTooth_63 ?_
      refine lv_sipush (v := (172 : Int32)) hx hb dX7_takesTooth_66 (by decide) ?_
      refine ga_ldj (j := 172) X hP (iA_13 kc_280) (by unfold vp_in; decide) (by decide) dX7_takesTooth_69 ?_
      refine lv_iadd hx hb dX7_takesTooth_70 ?_
      refine lv_iload_n hx hb dX7_takesTooth_71 rfl (lv_at hl 0 rfl) ?_
      obtain ⟨hi_11, hf⟩ := ck_s hf
      refine ga_st X hP hS (iA_13 kc_280) hi_11 dX7_takesTooth_72 (fun H locs M_10 eM_10 hP hS => ?_)
      replace hf := lt_go hf eM_10
      refine lv_aload_n hx hb dX7_takesTooth_73 rfl (lv_at hl 1 rfl) ?_
      refine lv_iconst (v := (1 : Int32)) hx hb dX7_takesTooth_74 (by decide) ?_
      refine lv_bipush (v := (9 : Int32)) hx hb dX7_takesTooth_75 (by decide) ?_
      obtain ⟨r_14, M_13, hc_12, hf⟩ := cb_s hf
      refine g_goi (g_run X (c_X7_takesNumber l g  hc_12) s_X7_takesNumber (oB_7 kc_279) q4_145 ⟨Nat.le_of_ble_eq_true rfl, Nat.le_of_ble_eq_true rfl⟩ hP hS rfl hl.1 rfl (Nat.le_of_ble_eq_true rfl) ⟨Nat.le_refl _, Nat.le_refl _⟩ dX7_takesTooth_77) hS (fun H locs hP hS => ?_)
      refine lv_if_ne (tgt := 85) hx hb dX7_takesTooth_80 (by decide) (fun h_15 => ?_) (fun h_15 => ?_)
      · replace hf := it_f hf h_15
        refine lv_aload_n hx hb dX7_takesTooth_85 rfl (lv_at hl 1 rfl) ?_
        refine gf_7_0 X hP kc_279 q4_25 dX7_takesTooth_86 ?_
        refine lv_sipush (v := (184 : Int32)) hx hb dX7_takesTooth_89 (by decide) ?_
        refine lv_aload_n hx hb dX7_takesTooth_92 rfl (lv_at hl 1 rfl) ?_
        refine gf_7_0 X hP kc_279 q4_25 dX7_takesTooth_93 ?_
        refine lv_sipush (v := (172 : Int32)) hx hb dX7_takesTooth_96 (by decide) ?_
        refine ga_ldj (j := 172) X hP (iA_13 kc_280) (by unfold vp_in; decide) (by decide) dX7_takesTooth_99 ?_
        refine lv_iadd hx hb dX7_takesTooth_100 ?_
        refine lv_aload_n hx hb dX7_takesTooth_101 rfl (lv_at hl 1 rfl) ?_
        refine gf_7_12 X hP kc_279 q4_37 dX7_takesTooth_102 ?_
        obtain ⟨hi_17, hf⟩ := ck_s hf
        refine ga_st X hP hS (iA_13 kc_280) hi_17 dX7_takesTooth_105 (fun H locs M_16 eM_16 hP hS => ?_)
        replace hf := lt_go hf eM_16
        refine lv_aload_n hx hb dX7_takesTooth_106 rfl (lv_at hl 1 rfl) ?_
        refine gf_7_0 X hP kc_279 q4_25 dX7_takesTooth_107 ?_
        refine lv_sipush (v := (172 : Int32)) hx hb dX7_takesTooth_110 (by decide) ?_
        refine lv_dup2_11 hx hb dX7_takesTooth_113 rfl rfl ?_
        refine ga_ldj (j := 172) X hP (iA_13 kc_280) (by unfold vp_in; decide) (by decide) dX7_takesTooth_114 ?_
        refine lv_iconst (v := (1 : Int32)) hx hb dX7_takesTooth_115 (by decide) ?_
        refine lv_iadd hx hb dX7_takesTooth_116 ?_
        refine ga_stj (j := 172) X hP hS (iA_13 kc_280) (by unfold vp_in; decide) (by decide) dX7_takesTooth_117 (fun H locs M_18 eM_18 hP hS => ?_)
        replace hf := lt_go hf eM_18
        refine lv_aload_n hx hb dX7_takesTooth_118 rfl (lv_at hl 1 rfl) ?_
        refine lv_bipush (v := (59 : Int32)) hx hb dX7_takesTooth_119 (by decide) ?_
        obtain ⟨r_21, M_20, hc_19, hf⟩ := cb_s hf
        refine g_goi (g_run X (c_X7_takes l g  hc_19) s_X7_takes (oB_7 kc_279) q4_133 ⟨Nat.le_of_ble_eq_true rfl, Nat.le_of_ble_eq_true rfl⟩ hP hS rfl hl.1 rfl (Nat.le_of_ble_eq_true rfl) ⟨Nat.le_refl _, Nat.le_refl _⟩ dX7_takesTooth_121) hS (fun H locs hP hS => ?_)
        obtain ⟨hbz, hf⟩ := cbz_s hf
        exact g_zret X hP hS hbz (sm_i hf) dX7_takesTooth_124
      · replace hf := it_t hf h_15
        refine lv_iconst (v := (0 : Int32)) hx hb dX7_takesTooth_83 (by decide) ?_
        exact g_zret X hP hS rfl (sm_i hf) dX7_takesTooth_84
    · replace hf := it_t hf h_8
      refine lv_aload_n hx hb dX7_takesTooth_35 rfl (lv_at hl 1 rfl) ?_
      refine lv_iconst (v := (3 : Int32)) hx hb dX7_takesTooth_36 (by decide) ?_
      refine lv_aload_n hx hb dX7_takesTooth_37 rfl (lv_at hl 1 rfl) ?_
      refine gf_7_10 X hP kc_279 q4_35 dX7_takesTooth_38 ?_
      obtain ⟨r_24, M_23, hc_22, hf⟩ := cb_s hf
      refine g_goi (g_run X (c_X7_fails l g  hc_22) s_X7_fails (oB_7 kc_279) q4_141 ⟨Nat.le_of_ble_eq_true rfl, Nat.le_of_ble_eq_true rfl⟩ hP hS rfl hl.1 rfl (Nat.le_of_ble_eq_true rfl) ⟨Nat.le_refl _, Nat.le_refl _⟩ dX7_takesTooth_41) hS (fun H locs hP hS => ?_)
      obtain ⟨hbz, hf⟩ := cbz_s hf
      exact g_zret X hP hS hbz (sm_i hf) dX7_takesTooth_44
  · replace hf := it_t hf h_7
    refine lv_aload_n hx hb dX7_takesTooth_12 rfl (lv_at hl 1 rfl) ?_
    refine lv_iconst (v := (1 : Int32)) hx hb dX7_takesTooth_13 (by decide) ?_
    refine lv_aload_n hx hb dX7_takesTooth_14 rfl (lv_at hl 1 rfl) ?_
    refine gf_7_10 X hP kc_279 q4_35 dX7_takesTooth_15 ?_
    obtain ⟨r_27, M_26, hc_25, hf⟩ := cb_s hf
    refine g_goi (g_run X (c_X7_fails l g  hc_25) s_X7_fails (oB_7 kc_279) q4_141 ⟨Nat.le_of_ble_eq_true rfl, Nat.le_of_ble_eq_true rfl⟩ hP hS rfl hl.1 rfl (Nat.le_of_ble_eq_true rfl) ⟨Nat.le_refl _, Nat.le_refl _⟩ dX7_takesTooth_18) hS (fun H locs hP hS => ?_)
    obtain ⟨hbz, hf⟩ := cbz_s hf
    exact g_zret X hP hS hbz (sm_i hf) dX7_takesTooth_21
def f_X7_takesAll_61  (k39 : Mem → Option (Int32 × Mem))  (M : Mem) : Option (Int32 × Mem) :=
  cb (f_X7_takesTooth M) fun r_3 M_2 =>
  if r_3 = 0 then
    some ((0 : Int32), M_2)
  else
    k39 M_2
set_option maxRecDepth 20000 in
theorem b_X7_takesAll_61 {out : Int32 × Mem} (X : Bx p s m args meth c RX7 cX7_takesAll 1 (some .boolean) g)      {k39 : Mem → Option (Int32 × Mem)} (hk39 : ∀  (M : Mem) (H : Heap) (locs : List Loc) (ls : Array Slot), k39 M = some out → va_P g.1 vwCl (gW g M) H → va_S (gA g) s.heap H locs → lv_has ls 1 [(0, .ref (gz g + 279))] → W p l e (rM 3 69) s m args below meth c H locs 0 0 (MQ below (qI g out) args s 0 0 (gA g)) (F0 m 39 ls []))  (M : Mem) {H : Heap} {locs : List Loc} {ls : Array Slot} (hf : f_X7_takesAll_61 k39 M = some out) (hP : va_P g.1 vwCl (gW g M) H) (hS : va_S (gA g) s.heap H locs) (hl : lv_has ls 1 [(0, .ref (gz g + 279))]) : W p l e (rM 3 69) s m args below meth c H locs 0 0 (MQ below (qI g out) args s 0 0 (gA g)) (F0 m 61 ls []) := by
  have hx := X.1
  have hb := X.2.1
  refine lv_aload_n hx hb dX7_takesAll_61 rfl (lv_at hl 0 rfl) ?_
  obtain ⟨r_3, M_2, hc_1, hf⟩ := cb_s hf
  refine g_goi (g_run X (c_X7_takesTooth l g  hc_1) s_X7_takesTooth (oB_7 kc_279) q4_155 ⟨Nat.le_of_ble_eq_true rfl, Nat.le_of_ble_eq_true rfl⟩ hP hS rfl hl.1 rfl (Nat.le_of_ble_eq_true rfl) ⟨Nat.le_refl _, Nat.le_refl _⟩ dX7_takesAll_62) hS (fun H locs hP hS => ?_)
  refine lv_if_ne (tgt := 39) hx hb dX7_takesAll_65 (by decide) (fun h_4 => ?_) (fun h_4 => ?_)
  · replace hf := it_f hf h_4
    exact hk39  M_2 _ _ _ hf hP hS hl
  · replace hf := it_t hf h_4
    refine lv_iconst (v := (0 : Int32)) hx hb dX7_takesAll_68 (by decide) ?_
    exact g_zret X hP hS rfl (sm_i hf) dX7_takesAll_69
def f_X7_takesAll_39   : Nat → Mem → Option (Int32 × Mem)
  | 0, _ => none
  | n + 1, M =>
    if (M 280 172) = 0 then
      f_X7_takesAll_61 (f_X7_takesAll_39 n) M
    else
      if (M 279 3) ≤ (M 279 10) then
        some ((1 : Int32), M)
      else
        f_X7_takesAll_61 (f_X7_takesAll_39 n) M
set_option maxRecDepth 20000 in
theorem b_X7_takesAll_39 {out : Int32 × Mem} (X : Bx p s m args meth c RX7 cX7_takesAll 1 (some .boolean) g)        : ∀ (n : Nat)  (M : Mem) (H : Heap) (locs : List Loc) (ls : Array Slot), f_X7_takesAll_39 n M = some out → va_P g.1 vwCl (gW g M) H → va_S (gA g) s.heap H locs → lv_has ls 1 [(0, .ref (gz g + 279))] → W p l e (rM 3 69) s m args below meth c H locs 0 0 (MQ below (qI g out) args s 0 0 (gA g)) (F0 m 39 ls []) := by
  have hx := X.1
  have hb := X.2.1
  intro n
  induction n with
  | zero => intro  _ _ _ _ hf; cases hf
  | succ n ih =>
    intro  M H locs ls hf hP hS hl
    rw [f_X7_takesAll_39] at hf
    refine lv_aload_n hx hb dX7_takesAll_39 rfl (lv_at hl 0 rfl) ?_
    refine gf_7_0 X hP kc_279 q4_25 dX7_takesAll_40 ?_
    refine lv_sipush (v := (172 : Int32)) hx hb dX7_takesAll_43 (by decide) ?_
    refine ga_ldj (j := 172) X hP (iA_13 kc_280) (by unfold vp_in; decide) (by decide) dX7_takesAll_46 ?_
    refine lv_if_eq (tgt := 61) hx hb dX7_takesAll_47 (by decide) (fun h_1 => ?_) (fun h_1 => ?_)
    · replace hf := it_t hf h_1
      exact b_X7_takesAll_61 X ih  M hf hP hS hl
    · replace hf := it_f hf h_1
      refine lv_aload_n hx hb dX7_takesAll_50 rfl (lv_at hl 0 rfl) ?_
      refine gf_7_10 X hP kc_279 q4_35 dX7_takesAll_51 ?_
      refine lv_aload_n hx hb dX7_takesAll_54 rfl (lv_at hl 0 rfl) ?_
      refine gf_7_3 X hP kc_279 q4_28 dX7_takesAll_55 ?_
      refine lv_icmp_ge (tgt := 70) hx hb dX7_takesAll_58 (by decide) (fun h_2 => ?_) (fun h_2 => ?_)
      · replace hf := it_t hf h_2
        refine lv_iconst (v := (1 : Int32)) hx hb dX7_takesAll_70 (by decide) ?_
        exact g_zret X hP hS rfl (sm_i hf) dX7_takesAll_71
      · replace hf := it_f hf h_2
        exact b_X7_takesAll_61 X ih  M hf hP hS hl
def f_X7_takesAll_30  (k9 : Mem → Option (Int32 × Mem))  (M : Mem) : Option (Int32 × Mem) :=
  cb (f_X7_takesColumn M) fun r_3 M_2 =>
  if r_3 = 0 then
    some ((0 : Int32), M_2)
  else
    k9 M_2
set_option maxRecDepth 20000 in
theorem b_X7_takesAll_30 {out : Int32 × Mem} (X : Bx p s m args meth c RX7 cX7_takesAll 1 (some .boolean) g)      {k9 : Mem → Option (Int32 × Mem)} (hk9 : ∀  (M : Mem) (H : Heap) (locs : List Loc) (ls : Array Slot), k9 M = some out → va_P g.1 vwCl (gW g M) H → va_S (gA g) s.heap H locs → lv_has ls 1 [(0, .ref (gz g + 279))] → W p l e (rM 3 69) s m args below meth c H locs 0 0 (MQ below (qI g out) args s 0 0 (gA g)) (F0 m 9 ls []))  (M : Mem) {H : Heap} {locs : List Loc} {ls : Array Slot} (hf : f_X7_takesAll_30 k9 M = some out) (hP : va_P g.1 vwCl (gW g M) H) (hS : va_S (gA g) s.heap H locs) (hl : lv_has ls 1 [(0, .ref (gz g + 279))]) : W p l e (rM 3 69) s m args below meth c H locs 0 0 (MQ below (qI g out) args s 0 0 (gA g)) (F0 m 30 ls []) := by
  have hx := X.1
  have hb := X.2.1
  refine lv_aload_n hx hb dX7_takesAll_30 rfl (lv_at hl 0 rfl) ?_
  obtain ⟨r_3, M_2, hc_1, hf⟩ := cb_s hf
  refine g_goi (g_run X (c_X7_takesColumn l g  hc_1) s_X7_takesColumn (oB_7 kc_279) q4_151 ⟨Nat.le_of_ble_eq_true rfl, Nat.le_of_ble_eq_true rfl⟩ hP hS rfl hl.1 rfl (Nat.le_of_ble_eq_true rfl) ⟨Nat.le_refl _, Nat.le_refl _⟩ dX7_takesAll_31) hS (fun H locs hP hS => ?_)
  refine lv_if_ne (tgt := 9) hx hb dX7_takesAll_34 (by decide) (fun h_4 => ?_) (fun h_4 => ?_)
  · replace hf := it_f hf h_4
    exact hk9  M_2 _ _ _ hf hP hS hl
  · replace hf := it_t hf h_4
    refine lv_iconst (v := (0 : Int32)) hx hb dX7_takesAll_37 (by decide) ?_
    exact g_zret X hP hS rfl (sm_i hf) dX7_takesAll_38
def f_X7_takesAll_9   : Nat → Mem → Option (Int32 × Mem)
  | 0, _ => none
  | n + 1, M =>
    if (M 280 173) < (4 : Int32) then
      f_X7_takesAll_30 (f_X7_takesAll_9 n) M
    else
      cb (f_X7_here M) fun r_4 M_3 =>
      if r_4 = (112 : Int32) then
        f_X7_takesAll_30 (f_X7_takesAll_9 n) M_3
      else
        f_X7_takesAll_39 FU M_3
set_option maxRecDepth 20000 in
theorem b_X7_takesAll_9 {out : Int32 × Mem} (X : Bx p s m args meth c RX7 cX7_takesAll 1 (some .boolean) g)        : ∀ (n : Nat)  (M : Mem) (H : Heap) (locs : List Loc) (ls : Array Slot), f_X7_takesAll_9 n M = some out → va_P g.1 vwCl (gW g M) H → va_S (gA g) s.heap H locs → lv_has ls 1 [(0, .ref (gz g + 279))] → W p l e (rM 3 69) s m args below meth c H locs 0 0 (MQ below (qI g out) args s 0 0 (gA g)) (F0 m 9 ls []) := by
  have hx := X.1
  have hb := X.2.1
  intro n
  induction n with
  | zero => intro  _ _ _ _ hf; cases hf
  | succ n ih =>
    intro  M H locs ls hf hP hS hl
    rw [f_X7_takesAll_9] at hf
    refine lv_aload_n hx hb dX7_takesAll_9 rfl (lv_at hl 0 rfl) ?_
    refine gf_7_0 X hP kc_279 q4_25 dX7_takesAll_10 ?_
    refine lv_sipush (v := (173 : Int32)) hx hb dX7_takesAll_13 (by decide) ?_
    refine ga_ldj (j := 173) X hP (iA_13 kc_280) (by unfold vp_in; decide) (by decide) dX7_takesAll_16 ?_
    refine lv_iconst (v := (4 : Int32)) hx hb dX7_takesAll_17 (by decide) ?_
    refine lv_icmp_lt (tgt := 30) hx hb dX7_takesAll_18 (by decide) (fun h_1 => ?_) (fun h_1 => ?_)
    · replace hf := it_t hf h_1
      exact b_X7_takesAll_30 X ih  M hf hP hS hl
    · replace hf := it_f hf h_1
      refine lv_aload_n hx hb dX7_takesAll_21 rfl (lv_at hl 0 rfl) ?_
      obtain ⟨r_4, M_3, hc_2, hf⟩ := cb_s hf
      refine g_goi (g_run X (c_X7_here l g  hc_2) s_X7_here (oB_7 kc_279) q4_137 ⟨Nat.le_of_ble_eq_true rfl, Nat.le_of_ble_eq_true rfl⟩ hP hS rfl hl.1 rfl (Nat.le_of_ble_eq_true rfl) ⟨Nat.le_refl _, Nat.le_refl _⟩ dX7_takesAll_22) hS (fun H locs hP hS => ?_)
      refine lv_bipush (v := (112 : Int32)) hx hb dX7_takesAll_25 (by decide) ?_
      refine lv_icmp_ne (tgt := 39) hx hb dX7_takesAll_27 (by decide) (fun h_5 => ?_) (fun h_5 => ?_)
      · replace hf := it_f hf h_5
        exact b_X7_takesAll_39 X  FU  M_3 _ _ _ hf hP hS hl
      · replace hf := it_t hf h_5
        exact b_X7_takesAll_30 X ih  M_3 hf hP hS hl
def f_X7_takesAll  (M : Mem) : Option (Int32 × Mem) :=
  cb (f_X7_takesLaw M) fun r_3 M_2 =>
  if r_3 = 0 then
    some ((0 : Int32), M_2)
  else
    f_X7_takesAll_9 FU M_2
set_option maxRecDepth 20000 in
theorem c_X7_takesAll (l : Launch) (g : GC)   {M : Mem} {out : Int32 × Mem} (hf : f_X7_takesAll  M = some out) : cI l g yX7_takesAll cX7_takesAll 1 (some .boolean) (rM 3 69) [.ref (gz g + 279)] M out := by
  refine g_met (by decide) (Nat.le_of_ble_eq_true rfl) ?_
  intro p e s m below meth c X hP hS ls hl
  have X : Bx p s m _ meth c RX7 cX7_takesAll 1 (some .boolean) g := X
  have hl : lv_has ls 1 [(0, .ref (gz g + 279))] := hl
  have hx := X.1
  have hb := X.2.1
  refine lv_aload_n hx hb dX7_takesAll_0 rfl (lv_at hl 0 rfl) ?_
  obtain ⟨r_3, M_2, hc_1, hf⟩ := cb_s hf
  refine g_goi (g_run X (c_X7_takesLaw l g  hc_1) s_X7_takesLaw (oB_7 kc_279) q4_129 ⟨Nat.le_of_ble_eq_true rfl, Nat.le_of_ble_eq_true rfl⟩ hP hS rfl hl.1 rfl (Nat.le_of_ble_eq_true rfl) ⟨Nat.le_refl _, Nat.le_refl _⟩ dX7_takesAll_1) hS (fun H locs hP hS => ?_)
  refine lv_if_ne (tgt := 9) hx hb dX7_takesAll_4 (by decide) (fun h_4 => ?_) (fun h_4 => ?_)
  · replace hf := it_f hf h_4
    exact b_X7_takesAll_9 X  FU  M_2 _ _ _ hf hP hS hl
  · replace hf := it_t hf h_4
    refine lv_iconst (v := (0 : Int32)) hx hb dX7_takesAll_7 (by decide) ?_
    exact g_zret X hP hS rfl (sm_i hf) dX7_takesAll_8
def f_X7_box_2   : Nat → Int32 → Mem → Option (Int32 × Mem)
  | 0, _, _ => none
  | n + 1, x1, M =>
    if (43 : Int32) ≤ x1 then
      lt (up2 M 279 10 (0 : Int32)) fun M_2 =>
      cb (f_X7_takesAll M_2) fun r_5 M_4 =>
      lt (up2 M_4 279 3 (0 : Int32)) fun M_6 =>
      if r_5 = 0 then
        some (((-1000100 : Int32) - (M_6 279 11)), M_6)
      else
        cv (f_X7_copyOf (172 : Int32) (0 : Int32) M_6) fun M_9 =>
        lt (up2 M_9 279 1 (0 : Int32)) fun M_10 =>
        some ((M_10 280 0), M_10)
    else
      ck ((172 : Int32) + x1) 1247 <|
      lt (up2 M 280 (((172 : Int32) + x1)).toNatClampNeg (0 : Int32)) fun M_11 =>
      (f_X7_box_2 n) (x1 + (1 : Int32)) M_11
set_option maxRecDepth 20000 in
theorem b_X7_box_2 {out : Int32 × Mem} (X : Bx p s m args meth c RX7 cX7_box 2 (some .int) g)        : ∀ (n : Nat) (x1 : Int32) (M : Mem) (H : Heap) (locs : List Loc) (ls : Array Slot), f_X7_box_2 n x1 M = some out → va_P g.1 vwCl (gW g M) H → va_S (gA g) s.heap H locs → lv_has ls 2 [(0, .ref (gz g + 279)), (1, .int x1)] → W p l e (rM 4 89) s m args below meth c H locs 0 0 (MQ below (qI g out) args s 0 0 (gA g)) (F0 m 2 ls []) := by
  have hx := X.1
  have hb := X.2.1
  intro n
  induction n with
  | zero => intro _ _ _ _ _ hf; cases hf
  | succ n ih =>
    intro x1 M H locs ls hf hP hS hl
    rw [f_X7_box_2] at hf
    refine lv_iload_n hx hb dX7_box_2 rfl (lv_at hl 1 rfl) ?_
    refine lv_bipush (v := (43 : Int32)) hx hb dX7_box_3 (by decide) ?_
    refine lv_icmp_ge (tgt := 25) hx hb dX7_box_5 (by decide) (fun h_1 => ?_) (fun h_1 => ?_)
    · replace hf := it_t hf h_1
      refine lv_aload_n hx hb dX7_box_25 rfl (lv_at hl 0 rfl) ?_
      refine lv_iconst (v := (0 : Int32)) hx hb dX7_box_26 (by decide) ?_
      refine gp_7_10 X hP hS kc_279 q4_35 dX7_box_27 (fun H locs M_2 eM_2 hP hS => ?_)
      replace hf := lt_go hf eM_2
      refine lv_aload_n hx hb dX7_box_30 rfl (lv_at hl 0 rfl) ?_
      obtain ⟨r_5, M_4, hc_3, hf⟩ := cb_s hf
      refine g_goi (g_run X (c_X7_takesAll l g  hc_3) s_X7_takesAll (oB_7 kc_279) q4_125 ⟨Nat.le_of_ble_eq_true rfl, Nat.le_of_ble_eq_true rfl⟩ hP hS rfl hl.1 rfl (Nat.le_of_ble_eq_true rfl) ⟨Nat.le_refl _, Nat.le_refl _⟩ dX7_box_31) hS (fun H locs hP hS => ?_)
      refine lv_istore_n (lv' := [(1, .int r_5), (0, .ref (gz g + 279))]) hx hb dX7_box_34 rfl hl (by decide) rfl (fun ls hl => ?_)
      refine lv_aload_n hx hb dX7_box_35 rfl (lv_at hl 1 rfl) ?_
      refine lv_iconst (v := (0 : Int32)) hx hb dX7_box_36 (by decide) ?_
      refine gp_7_3 X hP hS kc_279 q4_28 dX7_box_37 (fun H locs M_6 eM_6 hP hS => ?_)
      replace hf := lt_go hf eM_6
      refine lv_iload_n hx hb dX7_box_40 rfl (lv_at hl 0 rfl) ?_
      refine lv_if_ne (tgt := 52) hx hb dX7_box_41 (by decide) (fun h_7 => ?_) (fun h_7 => ?_)
      · replace hf := it_f hf h_7
        refine lv_aload_n hx hb dX7_box_52 rfl (lv_at hl 1 rfl) ?_
        refine lv_sipush (v := (172 : Int32)) hx hb dX7_box_53 (by decide) ?_
        refine lv_iconst (v := (0 : Int32)) hx hb dX7_box_56 (by decide) ?_
        obtain ⟨M_9, hc_8, hf⟩ := cv_s hf
        refine g_gov (g_run X (c_X7_copyOf l g  hc_8) s_X7_copyOf (oB_7 kc_279) q4_163 ⟨Nat.le_of_ble_eq_true rfl, Nat.le_of_ble_eq_true rfl⟩ hP hS rfl hl.1 rfl (Nat.le_of_ble_eq_true rfl) ⟨Nat.le_refl _, Nat.le_refl _⟩ dX7_box_57) hS (fun H locs hP hS => ?_)
        refine lv_aload_n hx hb dX7_box_60 rfl (lv_at hl 1 rfl) ?_
        refine lv_iconst (v := (0 : Int32)) hx hb dX7_box_61 (by decide) ?_
        refine gp_7_1 X hP hS kc_279 q4_26 dX7_box_62 (fun H locs M_10 eM_10 hP hS => ?_)
        replace hf := lt_go hf eM_10
        refine lv_aload_n hx hb dX7_box_65 rfl (lv_at hl 1 rfl) ?_
        refine gf_7_0 X hP kc_279 q4_25 dX7_box_66 ?_
        refine lv_iconst (v := (0 : Int32)) hx hb dX7_box_69 (by decide) ?_
        refine ga_ldj (j := 0) X hP (iA_13 kc_280) (by unfold vp_in; decide) (by decide) dX7_box_70 ?_
        exact g_iret X hP hS (sm_i hf) dX7_box_71
      · replace hf := it_t hf h_7
        refine lv_ldc hx hb X.2.2.2.1 (X.2.2.2.2.1 _ q4_162) dX7_box_44 ?_
        refine lv_aload_n hx hb dX7_box_46 rfl (lv_at hl 1 rfl) ?_
        refine gf_7_11 X hP kc_279 q4_36 dX7_box_47 ?_
        refine lv_isub hx hb dX7_box_50 ?_
        exact g_iret X hP hS (sm_i hf) dX7_box_51
    · replace hf := it_f hf h_1
      refine lv_aload_n hx hb dX7_box_8 rfl (lv_at hl 0 rfl) ?_
      refine gf_7_0 X hP kc_279 q4_25 dX7_box_9 ?_
      refine lv_sipush (v := (172 : Int32)) hx hb dX7_box_12 (by decide) ?_
      refine lv_iload_n hx hb dX7_box_15 rfl (lv_at hl 1 rfl) ?_
      refine lv_iadd hx hb dX7_box_16 ?_
      refine lv_iconst (v := (0 : Int32)) hx hb dX7_box_17 (by decide) ?_
      obtain ⟨hi_12, hf⟩ := ck_s hf
      refine ga_st X hP hS (iA_13 kc_280) hi_12 dX7_box_18 (fun H locs M_11 eM_11 hP hS => ?_)
      replace hf := lt_go hf eM_11
      refine lv_iinc (v := (x1 + (1 : Int32))) (lv' := [(1, .int (x1 + (1 : Int32))), (0, .ref (gz g + 279))]) hx hb dX7_box_19 hl (k := 1) rfl rfl (by decide) rfl (fun ls hl => ?_)
      refine lv_goto (tgt := 2) hx hb dX7_box_22 (by decide) ?_
      exact ih (x1 + (1 : Int32)) M_11 _ _ _ hf hP hS (lv_sub hl [1, 0] rfl)
def f_X7_box  (M : Mem) : Option (Int32 × Mem) :=
  f_X7_box_2 FU (0 : Int32) M
set_option maxRecDepth 20000 in
theorem c_X7_box (l : Launch) (g : GC)   {M : Mem} {out : Int32 × Mem} (hf : f_X7_box  M = some out) : cI l g yX7_box cX7_box 2 (some .int) (rM 4 89) [.ref (gz g + 279)] M out := by
  refine g_met (by decide) (Nat.le_of_ble_eq_true rfl) ?_
  intro p e s m below meth c X hP hS ls hl
  have X : Bx p s m _ meth c RX7 cX7_box 2 (some .int) g := X
  have hl : lv_has ls 2 [(0, .ref (gz g + 279))] := hl
  have hx := X.1
  have hb := X.2.1
  refine lv_iconst (v := (0 : Int32)) hx hb dX7_box_0 (by decide) ?_
  refine lv_istore_n (lv' := [(1, .int (0 : Int32)), (0, .ref (gz g + 279))]) hx hb dX7_box_1 rfl hl (by decide) rfl (fun ls hl => ?_)
  exact b_X7_box_2 X  FU (0 : Int32) M _ _ _ hf hP hS (lv_sub hl [1, 0] rfl)
def f_X7_fault  (M : Mem) : Option (Int32 × Mem) :=
  some ((M 279 4), M)
set_option maxRecDepth 20000 in
theorem c_X7_fault (l : Launch) (g : GC)   {M : Mem} {out : Int32 × Mem} (hf : f_X7_fault  M = some out) : cI l g yX7_fault cX7_fault 1 (some .int) (rM 0 0) [.ref (gz g + 279)] M out := by
  refine g_met (by decide) (Nat.le_of_ble_eq_true rfl) ?_
  intro p e s m below meth c X hP hS ls hl
  have X : Bx p s m _ meth c RX7 cX7_fault 1 (some .int) g := X
  have hl : lv_has ls 1 [(0, .ref (gz g + 279))] := hl
  have hx := X.1
  have hb := X.2.1
  refine lv_aload_n hx hb dX7_fault_0 rfl (lv_at hl 0 rfl) ?_
  refine gf_7_4 X hP kc_279 q4_29 dX7_fault_1 ?_
  exact g_iret X hP hS (sm_i hf) dX7_fault_4
def f_X7_fades_99 (x1 : Int32) (k2 : Int32 → Mem → Option Mem) (x2 : Int32) (t1 : Int32) (t2 : Int32) (M : Mem) : Option Mem :=
  ck t1 1247 <|
  lt (up2 M 280 t1.toNatClampNeg t2) fun M_1 =>
  k2 (x2 + (1 : Int32)) M_1
set_option maxRecDepth 20000 in
theorem b_X7_fades_99 {out : Mem} (X : Bx p s m args meth c RX7 cX7_fades 6 none g)   {x1 : Int32}   {k2 : Int32 → Mem → Option Mem} (hk2 : ∀ (x2 : Int32) (M : Mem) (H : Heap) (locs : List Loc) (ls : Array Slot), k2 x2 M = some out → va_P g.1 vwCl (gW g M) H → va_S (gA g) s.heap H locs → lv_has ls 6 [(0, .ref (gz g + 279)), (1, .int x1), (2, .int x2)] → W p l e (rM 0 0) s m args below meth c H locs 0 0 (MQ below (qV g out) args s 0 0 (gA g)) (F0 m 2 ls [])) (x2 : Int32) (t1 : Int32) (t2 : Int32) (M : Mem) {H : Heap} {locs : List Loc} {ls : Array Slot} (hf : f_X7_fades_99 x1 k2 x2 t1 t2 M = some out) (hP : va_P g.1 vwCl (gW g M) H) (hS : va_S (gA g) s.heap H locs) (hl : lv_has ls 6 [(0, .ref (gz g + 279)), (1, .int x1), (2, .int x2)]) : W p l e (rM 0 0) s m args below meth c H locs 0 0 (MQ below (qV g out) args s 0 0 (gA g)) (F0 m 99 ls [.int t2, .int t1, .ref (gz g + 280)]) := by
  have hx := X.1
  have hb := X.2.1
  obtain ⟨hi_2, hf⟩ := ck_s hf
  refine ga_st X hP hS (iA_13 kc_280) hi_2 dX7_fades_99 (fun H locs M_1 eM_1 hP hS => ?_)
  replace hf := lt_go hf eM_1
  refine lv_iinc (v := (x2 + (1 : Int32))) (lv' := [(2, .int (x2 + (1 : Int32))), (0, .ref (gz g + 279)), (1, .int x1)]) hx hb dX7_fades_100 hl (k := 2) rfl rfl (by decide) rfl (fun ls hl => ?_)
  refine lv_goto (tgt := 2) hx hb dX7_fades_103 (by decide) ?_
  exact hk2 (x2 + (1 : Int32)) M_1 _ _ _ hf hP hS (lv_sub hl [1, 2, 0] rfl)
def f_X7_fades_76 (x1 : Int32) (k2 : Int32 → Mem → Option Mem) (x2 : Int32) (t0 : Int32) (M : Mem) : Option Mem :=
  if 0 ≤ t0 then
    f_X7_fades_99 x1 k2 x2 ((x1 + (18 : Int32)) + x2) t0 M
  else
    f_X7_fades_99 x1 k2 x2 ((x1 + (18 : Int32)) + x2) (0 : Int32) M
set_option maxRecDepth 20000 in
theorem b_X7_fades_76 {out : Mem} (X : Bx p s m args meth c RX7 cX7_fades 6 none g)   {x1 : Int32}   {k2 : Int32 → Mem → Option Mem} (hk2 : ∀ (x2 : Int32) (M : Mem) (H : Heap) (locs : List Loc) (ls : Array Slot), k2 x2 M = some out → va_P g.1 vwCl (gW g M) H → va_S (gA g) s.heap H locs → lv_has ls 6 [(0, .ref (gz g + 279)), (1, .int x1), (2, .int x2)] → W p l e (rM 0 0) s m args below meth c H locs 0 0 (MQ below (qV g out) args s 0 0 (gA g)) (F0 m 2 ls [])) (x2 : Int32) (t0 : Int32) (M : Mem) {H : Heap} {locs : List Loc} {ls : Array Slot} (hf : f_X7_fades_76 x1 k2 x2 t0 M = some out) (hP : va_P g.1 vwCl (gW g M) H) (hS : va_S (gA g) s.heap H locs) (hl : lv_has ls 6 [(0, .ref (gz g + 279)), (1, .int x1), (2, .int x2)]) : W p l e (rM 0 0) s m args below meth c H locs 0 0 (MQ below (qV g out) args s 0 0 (gA g)) (F0 m 76 ls [.int t0]) := by
  have hx := X.1
  have hb := X.2.1
  refine lv_istore (lv' := [(5, .int t0), (0, .ref (gz g + 279)), (1, .int x1), (2, .int x2)]) hx hb dX7_fades_76 hl (by decide) rfl (fun ls hl => ?_)
  refine lv_aload_n hx hb dX7_fades_78 rfl (lv_at hl 1 rfl) ?_
  refine gf_7_0 X hP kc_279 q4_25 dX7_fades_79 ?_
  refine lv_iload_n hx hb dX7_fades_82 rfl (lv_at hl 2 rfl) ?_
  refine lv_bipush (v := (18 : Int32)) hx hb dX7_fades_83 (by decide) ?_
  refine lv_iadd hx hb dX7_fades_85 ?_
  refine lv_iload_n hx hb dX7_fades_86 rfl (lv_at hl 3 rfl) ?_
  refine lv_iadd hx hb dX7_fades_87 ?_
  refine lv_iload hx hb dX7_fades_88 (lv_at hl 0 rfl) ?_
  refine lv_if_ge (tgt := 97) hx hb dX7_fades_90 (by decide) (fun h_1 => ?_) (fun h_1 => ?_)
  · replace hf := it_t hf h_1
    refine lv_iload hx hb dX7_fades_97 (lv_at hl 0 rfl) ?_
    exact b_X7_fades_99 X hk2 x2 ((x1 + (18 : Int32)) + x2) t0 M hf hP hS (lv_sub hl [1, 2, 3] rfl)
  · replace hf := it_f hf h_1
    refine lv_iconst (v := (0 : Int32)) hx hb dX7_fades_93 (by decide) ?_
    refine lv_goto (tgt := 99) hx hb dX7_fades_94 (by decide) ?_
    exact b_X7_fades_99 X hk2 x2 ((x1 + (18 : Int32)) + x2) (0 : Int32) M hf hP hS (lv_sub hl [1, 2, 3] rfl)
def f_X7_fades_2 (x1 : Int32)  : Nat → Int32 → Mem → Option Mem
  | 0, _, _ => none
  | n + 1, x2, M =>
    ck (x1 + (0 : Int32)) 1247 <|
    if (M 280 ((x1 + (0 : Int32))).toNatClampNeg) ≤ x2 then
      some M
    else
      ck ((x1 + (18 : Int32)) + x2) 1247 <|
      lt (M 280 (((x1 + (18 : Int32)) + x2)).toNatClampNeg) fun x3_4 =>
      ck ((x1 + (6 : Int32)) + x2) 1247 <|
      lt (M 280 (((x1 + (6 : Int32)) + x2)).toNatClampNeg) fun x4_6 =>
      if x4_6 = (2 : Int32) then
        f_X7_fades_76 x1 (f_X7_fades_2 x1 n) x2 (0 : Int32) M
      else
        if x4_6 = (4 : Int32) then
          f_X7_fades_76 x1 (f_X7_fades_2 x1 n) x2 (x3_4 - (1 : Int32)) M
        else
          if x4_6 = (5 : Int32) then
            f_X7_fades_76 x1 (f_X7_fades_2 x1 n) x2 (x3_4 / (2 : Int32)) M
          else
            f_X7_fades_76 x1 (f_X7_fades_2 x1 n) x2 (x3_4 - (2 : Int32)) M
set_option maxRecDepth 20000 in
theorem b_X7_fades_2 {out : Mem} (X : Bx p s m args meth c RX7 cX7_fades 6 none g)   {x1 : Int32}     : ∀ (n : Nat) (x2 : Int32) (M : Mem) (H : Heap) (locs : List Loc) (ls : Array Slot), f_X7_fades_2 x1 n x2 M = some out → va_P g.1 vwCl (gW g M) H → va_S (gA g) s.heap H locs → lv_has ls 6 [(0, .ref (gz g + 279)), (1, .int x1), (2, .int x2)] → W p l e (rM 0 0) s m args below meth c H locs 0 0 (MQ below (qV g out) args s 0 0 (gA g)) (F0 m 2 ls []) := by
  have hx := X.1
  have hb := X.2.1
  intro n
  induction n with
  | zero => intro _ _ _ _ _ hf; cases hf
  | succ n ih =>
    intro x2 M H locs ls hf hP hS hl
    rw [f_X7_fades_2] at hf
    refine lv_iload_n hx hb dX7_fades_2 rfl (lv_at hl 2 rfl) ?_
    refine lv_aload_n hx hb dX7_fades_3 rfl (lv_at hl 0 rfl) ?_
    refine gf_7_0 X hP kc_279 q4_25 dX7_fades_4 ?_
    refine lv_iload_n hx hb dX7_fades_7 rfl (lv_at hl 1 rfl) ?_
    refine lv_iconst (v := (0 : Int32)) hx hb dX7_fades_8 (by decide) ?_
    refine lv_iadd hx hb dX7_fades_9 ?_
    obtain ⟨hi_1, hf⟩ := ck_s hf
    refine ga_ld X hP (iA_13 kc_280) hi_1 dX7_fades_10 ?_
    refine lv_icmp_ge (tgt := 106) hx hb dX7_fades_11 (by decide) (fun h_2 => ?_) (fun h_2 => ?_)
    · replace hf := it_t hf h_2
      exact g_vret X hP hS (sm_i hf) dX7_fades_106
    · replace hf := it_f hf h_2
      refine lv_aload_n hx hb dX7_fades_14 rfl (lv_at hl 0 rfl) ?_
      refine gf_7_0 X hP kc_279 q4_25 dX7_fades_15 ?_
      refine lv_iload_n hx hb dX7_fades_18 rfl (lv_at hl 1 rfl) ?_
      refine lv_bipush (v := (18 : Int32)) hx hb dX7_fades_19 (by decide) ?_
      refine lv_iadd hx hb dX7_fades_21 ?_
      refine lv_iload_n hx hb dX7_fades_22 rfl (lv_at hl 2 rfl) ?_
      refine lv_iadd hx hb dX7_fades_23 ?_
      obtain ⟨hi_3, hf⟩ := ck_s hf
      refine ga_ld X hP (iA_13 kc_280) hi_3 dX7_fades_24 ?_
      refine lv_topi (fun x3_4 ex3_4 => ?_)
      replace hf := lt_go hf ex3_4
      refine lv_istore_n (lv' := [(3, .int x3_4), (0, .ref (gz g + 279)), (1, .int x1), (2, .int x2)]) hx hb dX7_fades_25 rfl hl (by decide) rfl (fun ls hl => ?_)
      refine lv_aload_n hx hb dX7_fades_26 rfl (lv_at hl 1 rfl) ?_
      refine gf_7_0 X hP kc_279 q4_25 dX7_fades_27 ?_
      refine lv_iload_n hx hb dX7_fades_30 rfl (lv_at hl 2 rfl) ?_
      refine lv_bipush (v := (6 : Int32)) hx hb dX7_fades_31 (by decide) ?_
      refine lv_iadd hx hb dX7_fades_33 ?_
      refine lv_iload_n hx hb dX7_fades_34 rfl (lv_at hl 3 rfl) ?_
      refine lv_iadd hx hb dX7_fades_35 ?_
      obtain ⟨hi_5, hf⟩ := ck_s hf
      refine ga_ld X hP (iA_13 kc_280) hi_5 dX7_fades_36 ?_
      refine lv_topi (fun x4_6 ex4_6 => ?_)
      replace hf := lt_go hf ex4_6
      refine lv_istore (lv' := [(4, .int x4_6), (3, .int x3_4), (0, .ref (gz g + 279)), (1, .int x1), (2, .int x2)]) hx hb dX7_fades_37 hl (by decide) rfl (fun ls hl => ?_)
      refine lv_iload hx hb dX7_fades_39 (lv_at hl 0 rfl) ?_
      refine lv_iconst (v := (2 : Int32)) hx hb dX7_fades_41 (by decide) ?_
      refine lv_icmp_ne (tgt := 49) hx hb dX7_fades_42 (by decide) (fun h_7 => ?_) (fun h_7 => ?_)
      · replace hf := it_f hf h_7
        refine lv_iload hx hb dX7_fades_49 (lv_at hl 0 rfl) ?_
        refine lv_iconst (v := (4 : Int32)) hx hb dX7_fades_51 (by decide) ?_
        refine lv_icmp_ne (tgt := 61) hx hb dX7_fades_52 (by decide) (fun h_8 => ?_) (fun h_8 => ?_)
        · replace hf := it_f hf h_8
          refine lv_iload hx hb dX7_fades_61 (lv_at hl 0 rfl) ?_
          refine lv_iconst (v := (5 : Int32)) hx hb dX7_fades_63 (by decide) ?_
          refine lv_icmp_ne (tgt := 73) hx hb dX7_fades_64 (by decide) (fun h_9 => ?_) (fun h_9 => ?_)
          · replace hf := it_f hf h_9
            refine lv_iload_n hx hb dX7_fades_73 rfl (lv_at hl 1 rfl) ?_
            refine lv_iconst (v := (2 : Int32)) hx hb dX7_fades_74 (by decide) ?_
            refine lv_isub hx hb dX7_fades_75 ?_
            exact b_X7_fades_76 X ih x2 (x3_4 - (2 : Int32)) M hf hP hS (lv_sub hl [2, 3, 4] rfl)
          · replace hf := it_t hf h_9
            refine lv_iload_n hx hb dX7_fades_67 rfl (lv_at hl 1 rfl) ?_
            refine lv_iconst (v := (2 : Int32)) hx hb dX7_fades_68 (by decide) ?_
            refine lv_idiv hx hb dX7_fades_69 (by decide) ?_
            refine lv_goto (tgt := 76) hx hb dX7_fades_70 (by decide) ?_
            exact b_X7_fades_76 X ih x2 (x3_4 / (2 : Int32)) M hf hP hS (lv_sub hl [2, 3, 4] rfl)
        · replace hf := it_t hf h_8
          refine lv_iload_n hx hb dX7_fades_55 rfl (lv_at hl 1 rfl) ?_
          refine lv_iconst (v := (1 : Int32)) hx hb dX7_fades_56 (by decide) ?_
          refine lv_isub hx hb dX7_fades_57 ?_
          refine lv_goto (tgt := 76) hx hb dX7_fades_58 (by decide) ?_
          exact b_X7_fades_76 X ih x2 (x3_4 - (1 : Int32)) M hf hP hS (lv_sub hl [2, 3, 4] rfl)
      · replace hf := it_t hf h_7
        refine lv_iconst (v := (0 : Int32)) hx hb dX7_fades_45 (by decide) ?_
        refine lv_goto (tgt := 76) hx hb dX7_fades_46 (by decide) ?_
        exact b_X7_fades_76 X ih x2 (0 : Int32) M hf hP hS (lv_sub hl [2, 3, 4] rfl)
def f_X7_fades (x1 : Int32) (M : Mem) : Option Mem :=
  f_X7_fades_2 x1 FU (0 : Int32) M
set_option maxRecDepth 20000 in
theorem c_X7_fades (l : Launch) (g : GC) {x1 : Int32}  {M : Mem} {out : Mem} (hf : f_X7_fades x1 M = some out) : cV l g yX7_fades cX7_fades 6 (rM 0 0) [.ref (gz g + 279), .int x1] M out := by
  refine g_met (by decide) (Nat.le_of_ble_eq_true rfl) ?_
  intro p e s m below meth c X hP hS ls hl
  have X : Bx p s m _ meth c RX7 cX7_fades 6 none g := X
  have hl : lv_has ls 6 [(0, .ref (gz g + 279)), (1, .int x1)] := hl
  have hx := X.1
  have hb := X.2.1
  refine lv_iconst (v := (0 : Int32)) hx hb dX7_fades_0 (by decide) ?_
  refine lv_istore_n (lv' := [(2, .int (0 : Int32)), (0, .ref (gz g + 279)), (1, .int x1)]) hx hb dX7_fades_1 rfl hl (by decide) rfl (fun ls hl => ?_)
  exact b_X7_fades_2 X  FU (0 : Int32) M _ _ _ hf hP hS (lv_sub hl [1, 2, 0] rfl)
def f_X7_plucks_237   (t1 : Int32) (t2 : Int32) (t3 : Int32) (M : Mem) : Option Mem :=
  ck t1 1247 <|
  lt (up2 M 280 t1.toNatClampNeg (t2 ||| t3)) fun M_1 =>
  some M_1
set_option maxRecDepth 20000 in
theorem b_X7_plucks_237 {out : Mem} (X : Bx p s m args meth c RX7 cX7_plucks 5 none g)        (t1 : Int32) (t2 : Int32) (t3 : Int32) (M : Mem) {H : Heap} {locs : List Loc} {ls : Array Slot} (hf : f_X7_plucks_237 t1 t2 t3 M = some out) (hP : va_P g.1 vwCl (gW g M) H) (hS : va_S (gA g) s.heap H locs) (hl : lv_has ls 5 []) : W p l e (rM 1 21) s m args below meth c H locs 0 0 (MQ below (qV g out) args s 0 0 (gA g)) (F0 m 237 ls [.int t3, .int t2, .int t1, .ref (gz g + 280)]) := by
  have hx := X.1
  have hb := X.2.1
  refine lv_ior hx hb dX7_plucks_237 ?_
  obtain ⟨hi_2, hf⟩ := ck_s hf
  refine ga_st X hP hS (iA_13 kc_280) hi_2 dX7_plucks_238 (fun H locs M_1 eM_1 hP hS => ?_)
  replace hf := lt_go hf eM_1
  exact g_vret X hP hS (sm_i hf) dX7_plucks_239
def f_X7_plucks_236   (t1 : Int32) (t2 : Int32) (M : Mem) : Option Mem :=
  f_X7_plucks_237 t1 t2 (0 : Int32) M
set_option maxRecDepth 20000 in
theorem b_X7_plucks_236 {out : Mem} (X : Bx p s m args meth c RX7 cX7_plucks 5 none g)        (t1 : Int32) (t2 : Int32) (M : Mem) {H : Heap} {locs : List Loc} {ls : Array Slot} (hf : f_X7_plucks_236 t1 t2 M = some out) (hP : va_P g.1 vwCl (gW g M) H) (hS : va_S (gA g) s.heap H locs) (hl : lv_has ls 5 []) : W p l e (rM 1 21) s m args below meth c H locs 0 0 (MQ below (qV g out) args s 0 0 (gA g)) (F0 m 236 ls [.int t2, .int t1, .ref (gz g + 280)]) := by
  have hx := X.1
  have hb := X.2.1
  refine lv_iconst (v := (0 : Int32)) hx hb dX7_plucks_236 (by decide) ?_
  exact b_X7_plucks_237 X  t1 t2 (0 : Int32) M hf hP hS hl
def f_X7_plucks_201 (x1 : Int32) (x2 : Int32)  (x3 : Int32) (M : Mem) : Option Mem :=
  ck (x1 + (5 : Int32)) 1247 <|
  if x3 = (5 : Int32) then
    ck ((x1 + (24 : Int32)) + x2) 1247 <|
    if (M 280 (((x1 + (24 : Int32)) + x2)).toNatClampNeg) < (3 : Int32) then
      f_X7_plucks_236 (x1 + (5 : Int32)) (M 280 ((x1 + (5 : Int32))).toNatClampNeg) M
    else
      f_X7_plucks_237 (x1 + (5 : Int32)) (M 280 ((x1 + (5 : Int32))).toNatClampNeg) ((1 : Int32) <<< (x2 &&& 31)) M
  else
    f_X7_plucks_236 (x1 + (5 : Int32)) (M 280 ((x1 + (5 : Int32))).toNatClampNeg) M
set_option maxRecDepth 20000 in
theorem b_X7_plucks_201 {out : Mem} (X : Bx p s m args meth c RX7 cX7_plucks 5 none g)   {x1 : Int32} {x2 : Int32}     (x3 : Int32) (M : Mem) {H : Heap} {locs : List Loc} {ls : Array Slot} (hf : f_X7_plucks_201 x1 x2 x3 M = some out) (hP : va_P g.1 vwCl (gW g M) H) (hS : va_S (gA g) s.heap H locs) (hl : lv_has ls 5 [(0, .ref (gz g + 279)), (1, .int x1), (2, .int x2), (3, .int x3)]) : W p l e (rM 1 21) s m args below meth c H locs 0 0 (MQ below (qV g out) args s 0 0 (gA g)) (F0 m 201 ls []) := by
  have hx := X.1
  have hb := X.2.1
  refine lv_aload_n hx hb dX7_plucks_201 rfl (lv_at hl 0 rfl) ?_
  refine gf_7_0 X hP kc_279 q4_25 dX7_plucks_202 ?_
  refine lv_iload_n hx hb dX7_plucks_205 rfl (lv_at hl 1 rfl) ?_
  refine lv_iconst (v := (5 : Int32)) hx hb dX7_plucks_206 (by decide) ?_
  refine lv_iadd hx hb dX7_plucks_207 ?_
  refine lv_dup2_11 hx hb dX7_plucks_208 rfl rfl ?_
  obtain ⟨hi_1, hf⟩ := ck_s hf
  refine ga_ld X hP (iA_13 kc_280) hi_1 dX7_plucks_209 ?_
  refine lv_iload_n hx hb dX7_plucks_210 rfl (lv_at hl 3 rfl) ?_
  refine lv_iconst (v := (5 : Int32)) hx hb dX7_plucks_211 (by decide) ?_
  refine lv_icmp_ne (tgt := 236) hx hb dX7_plucks_212 (by decide) (fun h_2 => ?_) (fun h_2 => ?_)
  · replace hf := it_f hf h_2
    exact b_X7_plucks_236 X  (x1 + (5 : Int32)) (M 280 ((x1 + (5 : Int32))).toNatClampNeg) M hf hP hS (lv_sub hl [] rfl)
  · replace hf := it_t hf h_2
    refine lv_aload_n hx hb dX7_plucks_215 rfl (lv_at hl 0 rfl) ?_
    refine gf_7_0 X hP kc_279 q4_25 dX7_plucks_216 ?_
    refine lv_iload_n hx hb dX7_plucks_219 rfl (lv_at hl 1 rfl) ?_
    refine lv_bipush (v := (24 : Int32)) hx hb dX7_plucks_220 (by decide) ?_
    refine lv_iadd hx hb dX7_plucks_222 ?_
    refine lv_iload_n hx hb dX7_plucks_223 rfl (lv_at hl 2 rfl) ?_
    refine lv_iadd hx hb dX7_plucks_224 ?_
    obtain ⟨hi_3, hf⟩ := ck_s hf
    refine ga_ld X hP (iA_13 kc_280) hi_3 dX7_plucks_225 ?_
    refine lv_iconst (v := (3 : Int32)) hx hb dX7_plucks_226 (by decide) ?_
    refine lv_icmp_lt (tgt := 236) hx hb dX7_plucks_227 (by decide) (fun h_4 => ?_) (fun h_4 => ?_)
    · replace hf := it_t hf h_4
      exact b_X7_plucks_236 X  (x1 + (5 : Int32)) (M 280 ((x1 + (5 : Int32))).toNatClampNeg) M hf hP hS (lv_sub hl [] rfl)
    · replace hf := it_f hf h_4
      refine lv_iconst (v := (1 : Int32)) hx hb dX7_plucks_230 (by decide) ?_
      refine lv_iload_n hx hb dX7_plucks_231 rfl (lv_at hl 2 rfl) ?_
      refine lv_ishl hx hb dX7_plucks_232 ?_
      refine lv_goto (tgt := 237) hx hb dX7_plucks_233 (by decide) ?_
      exact b_X7_plucks_237 X  (x1 + (5 : Int32)) (M 280 ((x1 + (5 : Int32))).toNatClampNeg) ((1 : Int32) <<< (x2 &&& 31)) M hf hP hS (lv_sub hl [] rfl)
def f_X7_plucks_131 (x1 : Int32) (x2 : Int32)  (x3 : Int32) (x4 : Int32) (t1 : Int32) (t2 : Int32) (M : Mem) : Option Mem :=
  ck t1 1247 <|
  lt (up2 M 280 t1.toNatClampNeg t2) fun M_1 =>
  if x3 = (3 : Int32) then
    ck (x1 + (0 : Int32)) 1247 <|
    if (M_1 280 ((x1 + (0 : Int32))).toNatClampNeg) ≤ (x2 + (1 : Int32)) then
      f_X7_plucks_201 x1 x2 x3 M_1
    else
      ck (x1 + (5 : Int32)) 1247 <|
      cb (f_X7_has (M_1 280 ((x1 + (5 : Int32))).toNatClampNeg) (x2 + (1 : Int32)) M_1) fun r_9 M_8 =>
      if r_9 = 0 then
        ck (((x1 + (18 : Int32)) + x2) + (1 : Int32)) 1247 <|
        if x4 ≤ (M_8 280 ((((x1 + (18 : Int32)) + x2) + (1 : Int32))).toNatClampNeg) then
          f_X7_plucks_201 x1 x2 x3 M_8
        else
          ck (((x1 + (18 : Int32)) + x2) + (1 : Int32)) 1247 <|
          lt (up2 M_8 280 ((((x1 + (18 : Int32)) + x2) + (1 : Int32))).toNatClampNeg x4) fun M_13 =>
          f_X7_plucks_201 x1 x2 x3 M_13
      else
        f_X7_plucks_201 x1 x2 x3 M_8
  else
    f_X7_plucks_201 x1 x2 x3 M_1
set_option maxRecDepth 20000 in
theorem b_X7_plucks_131 {out : Mem} (X : Bx p s m args meth c RX7 cX7_plucks 5 none g)   {x1 : Int32} {x2 : Int32}     (x3 : Int32) (x4 : Int32) (t1 : Int32) (t2 : Int32) (M : Mem) {H : Heap} {locs : List Loc} {ls : Array Slot} (hf : f_X7_plucks_131 x1 x2 x3 x4 t1 t2 M = some out) (hP : va_P g.1 vwCl (gW g M) H) (hS : va_S (gA g) s.heap H locs) (hl : lv_has ls 5 [(0, .ref (gz g + 279)), (1, .int x1), (2, .int x2), (3, .int x3), (4, .int x4)]) : W p l e (rM 1 21) s m args below meth c H locs 0 0 (MQ below (qV g out) args s 0 0 (gA g)) (F0 m 131 ls [.int t2, .int t1, .ref (gz g + 280)]) := by
  have hx := X.1
  have hb := X.2.1
  obtain ⟨hi_2, hf⟩ := ck_s hf
  refine ga_st X hP hS (iA_13 kc_280) hi_2 dX7_plucks_131 (fun H locs M_1 eM_1 hP hS => ?_)
  replace hf := lt_go hf eM_1
  refine lv_iload_n hx hb dX7_plucks_132 rfl (lv_at hl 3 rfl) ?_
  refine lv_iconst (v := (3 : Int32)) hx hb dX7_plucks_133 (by decide) ?_
  refine lv_icmp_ne (tgt := 201) hx hb dX7_plucks_134 (by decide) (fun h_3 => ?_) (fun h_3 => ?_)
  · replace hf := it_f hf h_3
    exact b_X7_plucks_201 X  x3 M_1 hf hP hS (lv_sub hl [0, 1, 2, 3] rfl)
  · replace hf := it_t hf h_3
    refine lv_iload_n hx hb dX7_plucks_137 rfl (lv_at hl 2 rfl) ?_
    refine lv_iconst (v := (1 : Int32)) hx hb dX7_plucks_138 (by decide) ?_
    refine lv_iadd hx hb dX7_plucks_139 ?_
    refine lv_aload_n hx hb dX7_plucks_140 rfl (lv_at hl 0 rfl) ?_
    refine gf_7_0 X hP kc_279 q4_25 dX7_plucks_141 ?_
    refine lv_iload_n hx hb dX7_plucks_144 rfl (lv_at hl 1 rfl) ?_
    refine lv_iconst (v := (0 : Int32)) hx hb dX7_plucks_145 (by decide) ?_
    refine lv_iadd hx hb dX7_plucks_146 ?_
    obtain ⟨hi_4, hf⟩ := ck_s hf
    refine ga_ld X hP (iA_13 kc_280) hi_4 dX7_plucks_147 ?_
    refine lv_icmp_ge (tgt := 201) hx hb dX7_plucks_148 (by decide) (fun h_5 => ?_) (fun h_5 => ?_)
    · replace hf := it_t hf h_5
      exact b_X7_plucks_201 X  x3 M_1 hf hP hS (lv_sub hl [0, 1, 2, 3] rfl)
    · replace hf := it_f hf h_5
      refine lv_aload_n hx hb dX7_plucks_151 rfl (lv_at hl 0 rfl) ?_
      refine gf_7_0 X hP kc_279 q4_25 dX7_plucks_152 ?_
      refine lv_iload_n hx hb dX7_plucks_155 rfl (lv_at hl 1 rfl) ?_
      refine lv_iconst (v := (5 : Int32)) hx hb dX7_plucks_156 (by decide) ?_
      refine lv_iadd hx hb dX7_plucks_157 ?_
      obtain ⟨hi_6, hf⟩ := ck_s hf
      refine ga_ld X hP (iA_13 kc_280) hi_6 dX7_plucks_158 ?_
      refine lv_iload_n hx hb dX7_plucks_159 rfl (lv_at hl 2 rfl) ?_
      refine lv_iconst (v := (1 : Int32)) hx hb dX7_plucks_160 (by decide) ?_
      refine lv_iadd hx hb dX7_plucks_161 ?_
      obtain ⟨r_9, M_8, hc_7, hf⟩ := cb_s hf
      refine g_goi (g_runS X (c_X7_has l g  hc_7) s_X7_has q4_197 ⟨Nat.le_of_ble_eq_true rfl, Nat.le_of_ble_eq_true rfl⟩ hP hS rfl hl.1 rfl (Nat.le_of_ble_eq_true rfl) ⟨Nat.le_refl _, Nat.le_refl _⟩ dX7_plucks_162) hS (fun H locs hP hS => ?_)
      refine lv_if_ne (tgt := 201) hx hb dX7_plucks_165 (by decide) (fun h_10 => ?_) (fun h_10 => ?_)
      · replace hf := it_f hf h_10
        exact b_X7_plucks_201 X  x3 M_8 hf hP hS (lv_sub hl [0, 1, 2, 3] rfl)
      · replace hf := it_t hf h_10
        refine lv_aload_n hx hb dX7_plucks_168 rfl (lv_at hl 0 rfl) ?_
        refine gf_7_0 X hP kc_279 q4_25 dX7_plucks_169 ?_
        refine lv_iload_n hx hb dX7_plucks_172 rfl (lv_at hl 1 rfl) ?_
        refine lv_bipush (v := (18 : Int32)) hx hb dX7_plucks_173 (by decide) ?_
        refine lv_iadd hx hb dX7_plucks_175 ?_
        refine lv_iload_n hx hb dX7_plucks_176 rfl (lv_at hl 2 rfl) ?_
        refine lv_iadd hx hb dX7_plucks_177 ?_
        refine lv_iconst (v := (1 : Int32)) hx hb dX7_plucks_178 (by decide) ?_
        refine lv_iadd hx hb dX7_plucks_179 ?_
        obtain ⟨hi_11, hf⟩ := ck_s hf
        refine ga_ld X hP (iA_13 kc_280) hi_11 dX7_plucks_180 ?_
        refine lv_iload hx hb dX7_plucks_181 (lv_at hl 4 rfl) ?_
        refine lv_icmp_ge (tgt := 201) hx hb dX7_plucks_183 (by decide) (fun h_12 => ?_) (fun h_12 => ?_)
        · replace hf := it_t hf h_12
          exact b_X7_plucks_201 X  x3 M_8 hf hP hS (lv_sub hl [0, 1, 2, 3] rfl)
        · replace hf := it_f hf h_12
          refine lv_aload_n hx hb dX7_plucks_186 rfl (lv_at hl 0 rfl) ?_
          refine gf_7_0 X hP kc_279 q4_25 dX7_plucks_187 ?_
          refine lv_iload_n hx hb dX7_plucks_190 rfl (lv_at hl 1 rfl) ?_
          refine lv_bipush (v := (18 : Int32)) hx hb dX7_plucks_191 (by decide) ?_
          refine lv_iadd hx hb dX7_plucks_193 ?_
          refine lv_iload_n hx hb dX7_plucks_194 rfl (lv_at hl 2 rfl) ?_
          refine lv_iadd hx hb dX7_plucks_195 ?_
          refine lv_iconst (v := (1 : Int32)) hx hb dX7_plucks_196 (by decide) ?_
          refine lv_iadd hx hb dX7_plucks_197 ?_
          refine lv_iload hx hb dX7_plucks_198 (lv_at hl 4 rfl) ?_
          obtain ⟨hi_14, hf⟩ := ck_s hf
          refine ga_st X hP hS (iA_13 kc_280) hi_14 dX7_plucks_200 (fun H locs M_13 eM_13 hP hS => ?_)
          replace hf := lt_go hf eM_13
          exact b_X7_plucks_201 X  x3 M_13 hf hP hS (lv_sub hl [0, 1, 2, 3] rfl)
def f_X7_plucks_58 (x1 : Int32) (x2 : Int32)  (t1 : Int32) (t2 : Int32) (t3 : Int32) (M : Mem) : Option Mem :=
  ck t1 1247 <|
  lt (up2 M 280 t1.toNatClampNeg (t2 + t3)) fun M_1 =>
  ck ((x1 + (6 : Int32)) + x2) 1247 <|
  lt (M_1 280 (((x1 + (6 : Int32)) + x2)).toNatClampNeg) fun x3_4 =>
  ck ((x1 + (12 : Int32)) + x2) 1247 <|
  lt (M_1 280 (((x1 + (12 : Int32)) + x2)).toNatClampNeg) fun x4_6 =>
  if x3_4 = (2 : Int32) then
    f_X7_plucks_131 x1 x2 x3_4 x4_6 ((x1 + (18 : Int32)) + x2) x4_6 M_1
  else
    if x3_4 < (4 : Int32) then
      f_X7_plucks_131 x1 x2 x3_4 x4_6 ((x1 + (18 : Int32)) + x2) ((2 : Int32) * x4_6) M_1
    else
      ck (x1 + (2 : Int32)) 1247 <|
      f_X7_plucks_131 x1 x2 x3_4 x4_6 ((x1 + (18 : Int32)) + x2) (x4_6 + ((M_1 280 ((x1 + (2 : Int32))).toNatClampNeg) / (10 : Int32))) M_1
set_option maxRecDepth 20000 in
theorem b_X7_plucks_58 {out : Mem} (X : Bx p s m args meth c RX7 cX7_plucks 5 none g)   {x1 : Int32} {x2 : Int32}     (t1 : Int32) (t2 : Int32) (t3 : Int32) (M : Mem) {H : Heap} {locs : List Loc} {ls : Array Slot} (hf : f_X7_plucks_58 x1 x2 t1 t2 t3 M = some out) (hP : va_P g.1 vwCl (gW g M) H) (hS : va_S (gA g) s.heap H locs) (hl : lv_has ls 5 [(0, .ref (gz g + 279)), (1, .int x1), (2, .int x2)]) : W p l e (rM 1 21) s m args below meth c H locs 0 0 (MQ below (qV g out) args s 0 0 (gA g)) (F0 m 58 ls [.int t3, .int t2, .int t1, .ref (gz g + 280)]) := by
  have hx := X.1
  have hb := X.2.1
  refine lv_iadd hx hb dX7_plucks_58 ?_
  obtain ⟨hi_2, hf⟩ := ck_s hf
  refine ga_st X hP hS (iA_13 kc_280) hi_2 dX7_plucks_59 (fun H locs M_1 eM_1 hP hS => ?_)
  replace hf := lt_go hf eM_1
  refine lv_aload_n hx hb dX7_plucks_60 rfl (lv_at hl 0 rfl) ?_
  refine gf_7_0 X hP kc_279 q4_25 dX7_plucks_61 ?_
  refine lv_iload_n hx hb dX7_plucks_64 rfl (lv_at hl 1 rfl) ?_
  refine lv_bipush (v := (6 : Int32)) hx hb dX7_plucks_65 (by decide) ?_
  refine lv_iadd hx hb dX7_plucks_67 ?_
  refine lv_iload_n hx hb dX7_plucks_68 rfl (lv_at hl 2 rfl) ?_
  refine lv_iadd hx hb dX7_plucks_69 ?_
  obtain ⟨hi_3, hf⟩ := ck_s hf
  refine ga_ld X hP (iA_13 kc_280) hi_3 dX7_plucks_70 ?_
  refine lv_topi (fun x3_4 ex3_4 => ?_)
  replace hf := lt_go hf ex3_4
  refine lv_istore_n (lv' := [(3, .int x3_4), (0, .ref (gz g + 279)), (1, .int x1), (2, .int x2)]) hx hb dX7_plucks_71 rfl hl (by decide) rfl (fun ls hl => ?_)
  refine lv_aload_n hx hb dX7_plucks_72 rfl (lv_at hl 1 rfl) ?_
  refine gf_7_0 X hP kc_279 q4_25 dX7_plucks_73 ?_
  refine lv_iload_n hx hb dX7_plucks_76 rfl (lv_at hl 2 rfl) ?_
  refine lv_bipush (v := (12 : Int32)) hx hb dX7_plucks_77 (by decide) ?_
  refine lv_iadd hx hb dX7_plucks_79 ?_
  refine lv_iload_n hx hb dX7_plucks_80 rfl (lv_at hl 3 rfl) ?_
  refine lv_iadd hx hb dX7_plucks_81 ?_
  obtain ⟨hi_5, hf⟩ := ck_s hf
  refine ga_ld X hP (iA_13 kc_280) hi_5 dX7_plucks_82 ?_
  refine lv_topi (fun x4_6 ex4_6 => ?_)
  replace hf := lt_go hf ex4_6
  refine lv_istore (lv' := [(4, .int x4_6), (3, .int x3_4), (0, .ref (gz g + 279)), (1, .int x1), (2, .int x2)]) hx hb dX7_plucks_83 hl (by decide) rfl (fun ls hl => ?_)
  refine lv_aload_n hx hb dX7_plucks_85 rfl (lv_at hl 2 rfl) ?_
  refine gf_7_0 X hP kc_279 q4_25 dX7_plucks_86 ?_
  refine lv_iload_n hx hb dX7_plucks_89 rfl (lv_at hl 3 rfl) ?_
  refine lv_bipush (v := (18 : Int32)) hx hb dX7_plucks_90 (by decide) ?_
  refine lv_iadd hx hb dX7_plucks_92 ?_
  refine lv_iload_n hx hb dX7_plucks_93 rfl (lv_at hl 4 rfl) ?_
  refine lv_iadd hx hb dX7_plucks_94 ?_
  refine lv_iload_n hx hb dX7_plucks_95 rfl (lv_at hl 1 rfl) ?_
  refine lv_iconst (v := (2 : Int32)) hx hb dX7_plucks_96 (by decide) ?_
  refine lv_icmp_ne (tgt := 105) hx hb dX7_plucks_97 (by decide) (fun h_7 => ?_) (fun h_7 => ?_)
  · replace hf := it_f hf h_7
    refine lv_iload_n hx hb dX7_plucks_105 rfl (lv_at hl 1 rfl) ?_
    refine lv_iconst (v := (4 : Int32)) hx hb dX7_plucks_106 (by decide) ?_
    refine lv_icmp_lt (tgt := 127) hx hb dX7_plucks_107 (by decide) (fun h_8 => ?_) (fun h_8 => ?_)
    · replace hf := it_t hf h_8
      refine lv_iconst (v := (2 : Int32)) hx hb dX7_plucks_127 (by decide) ?_
      refine lv_iload hx hb dX7_plucks_128 (lv_at hl 0 rfl) ?_
      refine lv_imul hx hb dX7_plucks_130 ?_
      exact b_X7_plucks_131 X  x3_4 x4_6 ((x1 + (18 : Int32)) + x2) ((2 : Int32) * x4_6) M_1 hf hP hS (lv_sub hl [2, 3, 4, 1, 0] rfl)
    · replace hf := it_f hf h_8
      refine lv_iload hx hb dX7_plucks_110 (lv_at hl 0 rfl) ?_
      refine lv_aload_n hx hb dX7_plucks_112 rfl (lv_at hl 2 rfl) ?_
      refine gf_7_0 X hP kc_279 q4_25 dX7_plucks_113 ?_
      refine lv_iload_n hx hb dX7_plucks_116 rfl (lv_at hl 3 rfl) ?_
      refine lv_iconst (v := (2 : Int32)) hx hb dX7_plucks_117 (by decide) ?_
      refine lv_iadd hx hb dX7_plucks_118 ?_
      obtain ⟨hi_9, hf⟩ := ck_s hf
      refine ga_ld X hP (iA_13 kc_280) hi_9 dX7_plucks_119 ?_
      refine lv_bipush (v := (10 : Int32)) hx hb dX7_plucks_120 (by decide) ?_
      refine lv_idiv hx hb dX7_plucks_122 (by decide) ?_
      refine lv_iadd hx hb dX7_plucks_123 ?_
      refine lv_goto (tgt := 131) hx hb dX7_plucks_124 (by decide) ?_
      exact b_X7_plucks_131 X  x3_4 x4_6 ((x1 + (18 : Int32)) + x2) (x4_6 + ((M_1 280 ((x1 + (2 : Int32))).toNatClampNeg) / (10 : Int32))) M_1 hf hP hS (lv_sub hl [2, 3, 4, 1, 0] rfl)
  · replace hf := it_t hf h_7
    refine lv_iload hx hb dX7_plucks_100 (lv_at hl 0 rfl) ?_
    refine lv_goto (tgt := 131) hx hb dX7_plucks_102 (by decide) ?_
    exact b_X7_plucks_131 X  x3_4 x4_6 ((x1 + (18 : Int32)) + x2) x4_6 M_1 hf hP hS (lv_sub hl [2, 3, 4, 1, 0] rfl)
def f_X7_plucks (x1 : Int32) (x2 : Int32) (M : Mem) : Option Mem :=
  ck (x1 + (2 : Int32)) 1247 <|
  ck (x1 + (2 : Int32)) 1247 <|
  lt (up2 M 280 ((x1 + (2 : Int32))).toNatClampNeg ((M 280 ((x1 + (2 : Int32))).toNatClampNeg) - (1 : Int32))) fun M_2 =>
  ck (x1 + (42 : Int32)) 1247 <|
  ck (x1 + (42 : Int32)) 1247 <|
  lt (up2 M_2 280 ((x1 + (42 : Int32))).toNatClampNeg ((M_2 280 ((x1 + (42 : Int32))).toNatClampNeg) + (1 : Int32))) fun M_5 =>
  ck ((x1 + (24 : Int32)) + x2) 1247 <|
  ck ((x1 + (24 : Int32)) + x2) 1247 <|
  if (99 : Int32) ≤ (M_5 280 (((x1 + (24 : Int32)) + x2)).toNatClampNeg) then
    f_X7_plucks_58 x1 x2 ((x1 + (24 : Int32)) + x2) (M_5 280 (((x1 + (24 : Int32)) + x2)).toNatClampNeg) (0 : Int32) M_5
  else
    f_X7_plucks_58 x1 x2 ((x1 + (24 : Int32)) + x2) (M_5 280 (((x1 + (24 : Int32)) + x2)).toNatClampNeg) (1 : Int32) M_5
set_option maxRecDepth 20000 in
theorem c_X7_plucks (l : Launch) (g : GC) {x1 : Int32} {x2 : Int32}  {M : Mem} {out : Mem} (hf : f_X7_plucks x1 x2 M = some out) : cV l g yX7_plucks cX7_plucks 5 (rM 1 21) [.ref (gz g + 279), .int x1, .int x2] M out := by
  refine g_met (by decide) (Nat.le_of_ble_eq_true rfl) ?_
  intro p e s m below meth c X hP hS ls hl
  have X : Bx p s m _ meth c RX7 cX7_plucks 5 none g := X
  have hl : lv_has ls 5 [(0, .ref (gz g + 279)), (1, .int x1), (2, .int x2)] := hl
  have hx := X.1
  have hb := X.2.1
  refine lv_aload_n hx hb dX7_plucks_0 rfl (lv_at hl 0 rfl) ?_
  refine gf_7_0 X hP kc_279 q4_25 dX7_plucks_1 ?_
  refine lv_iload_n hx hb dX7_plucks_4 rfl (lv_at hl 1 rfl) ?_
  refine lv_iconst (v := (2 : Int32)) hx hb dX7_plucks_5 (by decide) ?_
  refine lv_iadd hx hb dX7_plucks_6 ?_
  refine lv_dup2_11 hx hb dX7_plucks_7 rfl rfl ?_
  obtain ⟨hi_1, hf⟩ := ck_s hf
  refine ga_ld X hP (iA_13 kc_280) hi_1 dX7_plucks_8 ?_
  refine lv_iconst (v := (1 : Int32)) hx hb dX7_plucks_9 (by decide) ?_
  refine lv_isub hx hb dX7_plucks_10 ?_
  obtain ⟨hi_3, hf⟩ := ck_s hf
  refine ga_st X hP hS (iA_13 kc_280) hi_3 dX7_plucks_11 (fun H locs M_2 eM_2 hP hS => ?_)
  replace hf := lt_go hf eM_2
  refine lv_aload_n hx hb dX7_plucks_12 rfl (lv_at hl 0 rfl) ?_
  refine gf_7_0 X hP kc_279 q4_25 dX7_plucks_13 ?_
  refine lv_iload_n hx hb dX7_plucks_16 rfl (lv_at hl 1 rfl) ?_
  refine lv_bipush (v := (42 : Int32)) hx hb dX7_plucks_17 (by decide) ?_
  refine lv_iadd hx hb dX7_plucks_19 ?_
  refine lv_dup2_11 hx hb dX7_plucks_20 rfl rfl ?_
  obtain ⟨hi_4, hf⟩ := ck_s hf
  refine ga_ld X hP (iA_13 kc_280) hi_4 dX7_plucks_21 ?_
  refine lv_iconst (v := (1 : Int32)) hx hb dX7_plucks_22 (by decide) ?_
  refine lv_iadd hx hb dX7_plucks_23 ?_
  obtain ⟨hi_6, hf⟩ := ck_s hf
  refine ga_st X hP hS (iA_13 kc_280) hi_6 dX7_plucks_24 (fun H locs M_5 eM_5 hP hS => ?_)
  replace hf := lt_go hf eM_5
  refine lv_aload_n hx hb dX7_plucks_25 rfl (lv_at hl 0 rfl) ?_
  refine gf_7_0 X hP kc_279 q4_25 dX7_plucks_26 ?_
  refine lv_iload_n hx hb dX7_plucks_29 rfl (lv_at hl 1 rfl) ?_
  refine lv_bipush (v := (24 : Int32)) hx hb dX7_plucks_30 (by decide) ?_
  refine lv_iadd hx hb dX7_plucks_32 ?_
  refine lv_iload_n hx hb dX7_plucks_33 rfl (lv_at hl 2 rfl) ?_
  refine lv_iadd hx hb dX7_plucks_34 ?_
  refine lv_dup2_11 hx hb dX7_plucks_35 rfl rfl ?_
  obtain ⟨hi_7, hf⟩ := ck_s hf
  refine ga_ld X hP (iA_13 kc_280) hi_7 dX7_plucks_36 ?_
  refine lv_aload_n hx hb dX7_plucks_37 rfl (lv_at hl 0 rfl) ?_
  refine gf_7_0 X hP kc_279 q4_25 dX7_plucks_38 ?_
  refine lv_iload_n hx hb dX7_plucks_41 rfl (lv_at hl 1 rfl) ?_
  refine lv_bipush (v := (24 : Int32)) hx hb dX7_plucks_42 (by decide) ?_
  refine lv_iadd hx hb dX7_plucks_44 ?_
  refine lv_iload_n hx hb dX7_plucks_45 rfl (lv_at hl 2 rfl) ?_
  refine lv_iadd hx hb dX7_plucks_46 ?_
  obtain ⟨hi_8, hf⟩ := ck_s hf
  refine ga_ld X hP (iA_13 kc_280) hi_8 dX7_plucks_47 ?_
  refine lv_bipush (v := (99 : Int32)) hx hb dX7_plucks_48 (by decide) ?_
  refine lv_icmp_ge (tgt := 57) hx hb dX7_plucks_50 (by decide) (fun h_9 => ?_) (fun h_9 => ?_)
  · replace hf := it_t hf h_9
    refine lv_iconst (v := (0 : Int32)) hx hb dX7_plucks_57 (by decide) ?_
    exact b_X7_plucks_58 X  ((x1 + (24 : Int32)) + x2) (M_5 280 (((x1 + (24 : Int32)) + x2)).toNatClampNeg) (0 : Int32) M_5 hf hP hS hl
  · replace hf := it_f hf h_9
    refine lv_iconst (v := (1 : Int32)) hx hb dX7_plucks_53 (by decide) ?_
    refine lv_goto (tgt := 58) hx hb dX7_plucks_54 (by decide) ?_
    exact b_X7_plucks_58 X  ((x1 + (24 : Int32)) + x2) (M_5 280 (((x1 + (24 : Int32)) + x2)).toNatClampNeg) (1 : Int32) M_5 hf hP hS hl
def f_X7_passes_132 (x1 : Int32)   (M : Mem) : Option Mem :=
  ck (x1 + (4 : Int32)) 1247 <|
  ck (x1 + (4 : Int32)) 1247 <|
  lt (up2 M 280 ((x1 + (4 : Int32))).toNatClampNeg ((M 280 ((x1 + (4 : Int32))).toNatClampNeg) + (1 : Int32))) fun M_2 =>
  some M_2
set_option maxRecDepth 20000 in
theorem b_X7_passes_132 {out : Mem} (X : Bx p s m args meth c RX7 cX7_passes 3 none g)   {x1 : Int32}      (M : Mem) {H : Heap} {locs : List Loc} {ls : Array Slot} (hf : f_X7_passes_132 x1 M = some out) (hP : va_P g.1 vwCl (gW g M) H) (hS : va_S (gA g) s.heap H locs) (hl : lv_has ls 3 [(0, .ref (gz g + 279)), (1, .int x1)]) : W p l e (rM 2 45) s m args below meth c H locs 0 0 (MQ below (qV g out) args s 0 0 (gA g)) (F0 m 132 ls []) := by
  have hx := X.1
  have hb := X.2.1
  refine lv_aload_n hx hb dX7_passes_132 rfl (lv_at hl 0 rfl) ?_
  refine gf_7_0 X hP kc_279 q4_25 dX7_passes_133 ?_
  refine lv_iload_n hx hb dX7_passes_136 rfl (lv_at hl 1 rfl) ?_
  refine lv_iconst (v := (4 : Int32)) hx hb dX7_passes_137 (by decide) ?_
  refine lv_iadd hx hb dX7_passes_138 ?_
  refine lv_dup2_11 hx hb dX7_passes_139 rfl rfl ?_
  obtain ⟨hi_1, hf⟩ := ck_s hf
  refine ga_ld X hP (iA_13 kc_280) hi_1 dX7_passes_140 ?_
  refine lv_iconst (v := (1 : Int32)) hx hb dX7_passes_141 (by decide) ?_
  refine lv_iadd hx hb dX7_passes_142 ?_
  obtain ⟨hi_3, hf⟩ := ck_s hf
  refine ga_st X hP hS (iA_13 kc_280) hi_3 dX7_passes_143 (fun H locs M_2 eM_2 hP hS => ?_)
  replace hf := lt_go hf eM_2
  exact g_vret X hP hS (sm_i hf) dX7_passes_144
def f_X7_passes_126 (x1 : Int32) (k57 : Int32 → Mem → Option Mem) (x2 : Int32) (M : Mem) : Option Mem :=
  k57 (x2 + (1 : Int32)) M
set_option maxRecDepth 20000 in
theorem b_X7_passes_126 {out : Mem} (X : Bx p s m args meth c RX7 cX7_passes 3 none g)   {x1 : Int32}   {k57 : Int32 → Mem → Option Mem} (hk57 : ∀ (x2 : Int32) (M : Mem) (H : Heap) (locs : List Loc) (ls : Array Slot), k57 x2 M = some out → va_P g.1 vwCl (gW g M) H → va_S (gA g) s.heap H locs → lv_has ls 3 [(0, .ref (gz g + 279)), (1, .int x1), (2, .int x2)] → W p l e (rM 2 45) s m args below meth c H locs 0 0 (MQ below (qV g out) args s 0 0 (gA g)) (F0 m 57 ls [])) (x2 : Int32) (M : Mem) {H : Heap} {locs : List Loc} {ls : Array Slot} (hf : f_X7_passes_126 x1 k57 x2 M = some out) (hP : va_P g.1 vwCl (gW g M) H) (hS : va_S (gA g) s.heap H locs) (hl : lv_has ls 3 [(0, .ref (gz g + 279)), (1, .int x1), (2, .int x2)]) : W p l e (rM 2 45) s m args below meth c H locs 0 0 (MQ below (qV g out) args s 0 0 (gA g)) (F0 m 126 ls []) := by
  have hx := X.1
  have hb := X.2.1
  refine lv_iinc (v := (x2 + (1 : Int32))) (lv' := [(2, .int (x2 + (1 : Int32))), (0, .ref (gz g + 279)), (1, .int x1)]) hx hb dX7_passes_126 hl (k := 2) rfl rfl (by decide) rfl (fun ls hl => ?_)
  refine lv_goto (tgt := 57) hx hb dX7_passes_129 (by decide) ?_
  exact hk57 (x2 + (1 : Int32)) M _ _ _ hf hP hS (lv_sub hl [1, 2, 0] rfl)
def f_X7_passes_57 (x1 : Int32)  : Nat → Int32 → Mem → Option Mem
  | 0, _, _ => none
  | n + 1, x2, M =>
    ck (x1 + (0 : Int32)) 1247 <|
    if (M 280 ((x1 + (0 : Int32))).toNatClampNeg) ≤ x2 then
      f_X7_passes_132 x1 M
    else
      ck (x1 + (3 : Int32)) 1247 <|
      ck ((x1 + (30 : Int32)) + (M 280 ((x1 + (3 : Int32))).toNatClampNeg)) 1247 <|
      cb (f_X7_has (M 280 (((x1 + (30 : Int32)) + (M 280 ((x1 + (3 : Int32))).toNatClampNeg))).toNatClampNeg) x2 M) fun r_7 M_6 =>
      if r_7 = 0 then
        f_X7_passes_126 x1 (f_X7_passes_57 x1 n) x2 M_6
      else
        ck (x1 + (5 : Int32)) 1247 <|
        cb (f_X7_has (M_6 280 ((x1 + (5 : Int32))).toNatClampNeg) x2 M_6) fun r_12 M_11 =>
        if r_12 = 0 then
          ck (x1 + (2 : Int32)) 1247 <|
          if (M_11 280 ((x1 + (2 : Int32))).toNatClampNeg) ≤ 0 then
            f_X7_passes_126 x1 (f_X7_passes_57 x1 n) x2 M_11
          else
            cv (f_X7_plucks x1 x2 M_11) fun M_17 =>
            f_X7_passes_126 x1 (f_X7_passes_57 x1 n) x2 M_17
        else
          f_X7_passes_126 x1 (f_X7_passes_57 x1 n) x2 M_11
set_option maxRecDepth 20000 in
theorem b_X7_passes_57 {out : Mem} (X : Bx p s m args meth c RX7 cX7_passes 3 none g)   {x1 : Int32}     : ∀ (n : Nat) (x2 : Int32) (M : Mem) (H : Heap) (locs : List Loc) (ls : Array Slot), f_X7_passes_57 x1 n x2 M = some out → va_P g.1 vwCl (gW g M) H → va_S (gA g) s.heap H locs → lv_has ls 3 [(0, .ref (gz g + 279)), (1, .int x1), (2, .int x2)] → W p l e (rM 2 45) s m args below meth c H locs 0 0 (MQ below (qV g out) args s 0 0 (gA g)) (F0 m 57 ls []) := by
  have hx := X.1
  have hb := X.2.1
  intro n
  induction n with
  | zero => intro _ _ _ _ _ hf; cases hf
  | succ n ih =>
    intro x2 M H locs ls hf hP hS hl
    rw [f_X7_passes_57] at hf
    refine lv_iload_n hx hb dX7_passes_57 rfl (lv_at hl 2 rfl) ?_
    refine lv_aload_n hx hb dX7_passes_58 rfl (lv_at hl 0 rfl) ?_
    refine gf_7_0 X hP kc_279 q4_25 dX7_passes_59 ?_
    refine lv_iload_n hx hb dX7_passes_62 rfl (lv_at hl 1 rfl) ?_
    refine lv_iconst (v := (0 : Int32)) hx hb dX7_passes_63 (by decide) ?_
    refine lv_iadd hx hb dX7_passes_64 ?_
    obtain ⟨hi_1, hf⟩ := ck_s hf
    refine ga_ld X hP (iA_13 kc_280) hi_1 dX7_passes_65 ?_
    refine lv_icmp_ge (tgt := 132) hx hb dX7_passes_66 (by decide) (fun h_2 => ?_) (fun h_2 => ?_)
    · replace hf := it_t hf h_2
      exact b_X7_passes_132 X   M hf hP hS (lv_sub hl [0, 1] rfl)
    · replace hf := it_f hf h_2
      refine lv_aload_n hx hb dX7_passes_69 rfl (lv_at hl 0 rfl) ?_
      refine gf_7_0 X hP kc_279 q4_25 dX7_passes_70 ?_
      refine lv_iload_n hx hb dX7_passes_73 rfl (lv_at hl 1 rfl) ?_
      refine lv_bipush (v := (30 : Int32)) hx hb dX7_passes_74 (by decide) ?_
      refine lv_iadd hx hb dX7_passes_76 ?_
      refine lv_aload_n hx hb dX7_passes_77 rfl (lv_at hl 0 rfl) ?_
      refine gf_7_0 X hP kc_279 q4_25 dX7_passes_78 ?_
      refine lv_iload_n hx hb dX7_passes_81 rfl (lv_at hl 1 rfl) ?_
      refine lv_iconst (v := (3 : Int32)) hx hb dX7_passes_82 (by decide) ?_
      refine lv_iadd hx hb dX7_passes_83 ?_
      obtain ⟨hi_3, hf⟩ := ck_s hf
      refine ga_ld X hP (iA_13 kc_280) hi_3 dX7_passes_84 ?_
      refine lv_iadd hx hb dX7_passes_85 ?_
      obtain ⟨hi_4, hf⟩ := ck_s hf
      refine ga_ld X hP (iA_13 kc_280) hi_4 dX7_passes_86 ?_
      refine lv_iload_n hx hb dX7_passes_87 rfl (lv_at hl 2 rfl) ?_
      obtain ⟨r_7, M_6, hc_5, hf⟩ := cb_s hf
      refine g_goi (g_runS X (c_X7_has l g  hc_5) s_X7_has q4_197 ⟨Nat.le_of_ble_eq_true rfl, Nat.le_of_ble_eq_true rfl⟩ hP hS rfl hl.1 rfl (Nat.le_of_ble_eq_true rfl) ⟨Nat.le_refl _, Nat.le_refl _⟩ dX7_passes_88) hS (fun H locs hP hS => ?_)
      refine lv_if_eq (tgt := 126) hx hb dX7_passes_91 (by decide) (fun h_8 => ?_) (fun h_8 => ?_)
      · replace hf := it_t hf h_8
        exact b_X7_passes_126 X ih x2 M_6 hf hP hS hl
      · replace hf := it_f hf h_8
        refine lv_aload_n hx hb dX7_passes_94 rfl (lv_at hl 0 rfl) ?_
        refine gf_7_0 X hP kc_279 q4_25 dX7_passes_95 ?_
        refine lv_iload_n hx hb dX7_passes_98 rfl (lv_at hl 1 rfl) ?_
        refine lv_iconst (v := (5 : Int32)) hx hb dX7_passes_99 (by decide) ?_
        refine lv_iadd hx hb dX7_passes_100 ?_
        obtain ⟨hi_9, hf⟩ := ck_s hf
        refine ga_ld X hP (iA_13 kc_280) hi_9 dX7_passes_101 ?_
        refine lv_iload_n hx hb dX7_passes_102 rfl (lv_at hl 2 rfl) ?_
        obtain ⟨r_12, M_11, hc_10, hf⟩ := cb_s hf
        refine g_goi (g_runS X (c_X7_has l g  hc_10) s_X7_has q4_197 ⟨Nat.le_of_ble_eq_true rfl, Nat.le_of_ble_eq_true rfl⟩ hP hS rfl hl.1 rfl (Nat.le_of_ble_eq_true rfl) ⟨Nat.le_refl _, Nat.le_refl _⟩ dX7_passes_103) hS (fun H locs hP hS => ?_)
        refine lv_if_ne (tgt := 126) hx hb dX7_passes_106 (by decide) (fun h_13 => ?_) (fun h_13 => ?_)
        · replace hf := it_f hf h_13
          exact b_X7_passes_126 X ih x2 M_11 hf hP hS hl
        · replace hf := it_t hf h_13
          refine lv_aload_n hx hb dX7_passes_109 rfl (lv_at hl 0 rfl) ?_
          refine gf_7_0 X hP kc_279 q4_25 dX7_passes_110 ?_
          refine lv_iload_n hx hb dX7_passes_113 rfl (lv_at hl 1 rfl) ?_
          refine lv_iconst (v := (2 : Int32)) hx hb dX7_passes_114 (by decide) ?_
          refine lv_iadd hx hb dX7_passes_115 ?_
          obtain ⟨hi_14, hf⟩ := ck_s hf
          refine ga_ld X hP (iA_13 kc_280) hi_14 dX7_passes_116 ?_
          refine lv_if_le (tgt := 126) hx hb dX7_passes_117 (by decide) (fun h_15 => ?_) (fun h_15 => ?_)
          · replace hf := it_t hf h_15
            exact b_X7_passes_126 X ih x2 M_11 hf hP hS hl
          · replace hf := it_f hf h_15
            refine lv_aload_n hx hb dX7_passes_120 rfl (lv_at hl 0 rfl) ?_
            refine lv_iload_n hx hb dX7_passes_121 rfl (lv_at hl 1 rfl) ?_
            refine lv_iload_n hx hb dX7_passes_122 rfl (lv_at hl 2 rfl) ?_
            obtain ⟨M_17, hc_16, hf⟩ := cv_s hf
            refine g_gov (g_run X (c_X7_plucks l g  hc_16) s_X7_plucks (oB_7 kc_279) q4_200 ⟨Nat.le_of_ble_eq_true rfl, Nat.le_of_ble_eq_true rfl⟩ hP hS rfl hl.1 rfl (Nat.le_of_ble_eq_true rfl) ⟨Nat.le_refl _, Nat.le_refl _⟩ dX7_passes_123) hS (fun H locs hP hS => ?_)
            exact b_X7_passes_126 X ih x2 M_17 hf hP hS hl
def f_X7_passes (x1 : Int32) (M : Mem) : Option Mem :=
  cv (f_X7_fades x1 M) fun M_2 =>
  ck (x1 + (2 : Int32)) 1247 <|
  if (M_2 280 ((x1 + (2 : Int32))).toNatClampNeg) ≤ 0 then
    f_X7_passes_132 x1 M_2
  else
    ck (x1 + (3 : Int32)) 1247 <|
    ck (x1 + (1 : Int32)) 1247 <|
    cz (M_2 280 ((x1 + (1 : Int32))).toNatClampNeg) <|
    ck (x1 + (3 : Int32)) 1247 <|
    lt (up2 M_2 280 ((x1 + (3 : Int32))).toNatClampNeg (((M_2 280 ((x1 + (3 : Int32))).toNatClampNeg) + (1 : Int32)) - ((M_2 280 ((x1 + (3 : Int32))).toNatClampNeg) + (1 : Int32)) / (M_2 280 ((x1 + (1 : Int32))).toNatClampNeg) * (M_2 280 ((x1 + (1 : Int32))).toNatClampNeg))) fun M_8 =>
    ck (x1 + (2 : Int32)) 1247 <|
    ck (x1 + (2 : Int32)) 1247 <|
    lt (up2 M_8 280 ((x1 + (2 : Int32))).toNatClampNeg ((M_8 280 ((x1 + (2 : Int32))).toNatClampNeg) - (1 : Int32))) fun M_11 =>
    f_X7_passes_57 x1 FU (0 : Int32) M_11
set_option maxRecDepth 20000 in
theorem c_X7_passes (l : Launch) (g : GC) {x1 : Int32}  {M : Mem} {out : Mem} (hf : f_X7_passes x1 M = some out) : cV l g yX7_passes cX7_passes 3 (rM 2 45) [.ref (gz g + 279), .int x1] M out := by
  refine g_met (by decide) (Nat.le_of_ble_eq_true rfl) ?_
  intro p e s m below meth c X hP hS ls hl
  have X : Bx p s m _ meth c RX7 cX7_passes 3 none g := X
  have hl : lv_has ls 3 [(0, .ref (gz g + 279)), (1, .int x1)] := hl
  have hx := X.1
  have hb := X.2.1
  refine lv_aload_n hx hb dX7_passes_0 rfl (lv_at hl 0 rfl) ?_
  refine lv_iload_n hx hb dX7_passes_1 rfl (lv_at hl 1 rfl) ?_
  obtain ⟨M_2, hc_1, hf⟩ := cv_s hf
  refine g_gov (g_run X (c_X7_fades l g  hc_1) s_X7_fades (oB_7 kc_279) q4_193 ⟨Nat.le_of_ble_eq_true rfl, Nat.le_of_ble_eq_true rfl⟩ hP hS rfl hl.1 rfl (Nat.le_of_ble_eq_true rfl) ⟨Nat.le_refl _, Nat.le_refl _⟩ dX7_passes_2) hS (fun H locs hP hS => ?_)
  refine lv_aload_n hx hb dX7_passes_5 rfl (lv_at hl 0 rfl) ?_
  refine gf_7_0 X hP kc_279 q4_25 dX7_passes_6 ?_
  refine lv_iload_n hx hb dX7_passes_9 rfl (lv_at hl 1 rfl) ?_
  refine lv_iconst (v := (2 : Int32)) hx hb dX7_passes_10 (by decide) ?_
  refine lv_iadd hx hb dX7_passes_11 ?_
  obtain ⟨hi_3, hf⟩ := ck_s hf
  refine ga_ld X hP (iA_13 kc_280) hi_3 dX7_passes_12 ?_
  refine lv_if_le (tgt := 132) hx hb dX7_passes_13 (by decide) (fun h_4 => ?_) (fun h_4 => ?_)
  · replace hf := it_t hf h_4
    exact b_X7_passes_132 X   M_2 hf hP hS hl
  · replace hf := it_f hf h_4
    refine lv_aload_n hx hb dX7_passes_16 rfl (lv_at hl 0 rfl) ?_
    refine gf_7_0 X hP kc_279 q4_25 dX7_passes_17 ?_
    refine lv_iload_n hx hb dX7_passes_20 rfl (lv_at hl 1 rfl) ?_
    refine lv_iconst (v := (3 : Int32)) hx hb dX7_passes_21 (by decide) ?_
    refine lv_iadd hx hb dX7_passes_22 ?_
    refine lv_aload_n hx hb dX7_passes_23 rfl (lv_at hl 0 rfl) ?_
    refine gf_7_0 X hP kc_279 q4_25 dX7_passes_24 ?_
    refine lv_iload_n hx hb dX7_passes_27 rfl (lv_at hl 1 rfl) ?_
    refine lv_iconst (v := (3 : Int32)) hx hb dX7_passes_28 (by decide) ?_
    refine lv_iadd hx hb dX7_passes_29 ?_
    obtain ⟨hi_5, hf⟩ := ck_s hf
    refine ga_ld X hP (iA_13 kc_280) hi_5 dX7_passes_30 ?_
    refine lv_iconst (v := (1 : Int32)) hx hb dX7_passes_31 (by decide) ?_
    refine lv_iadd hx hb dX7_passes_32 ?_
    refine lv_aload_n hx hb dX7_passes_33 rfl (lv_at hl 0 rfl) ?_
    refine gf_7_0 X hP kc_279 q4_25 dX7_passes_34 ?_
    refine lv_iload_n hx hb dX7_passes_37 rfl (lv_at hl 1 rfl) ?_
    refine lv_iconst (v := (1 : Int32)) hx hb dX7_passes_38 (by decide) ?_
    refine lv_iadd hx hb dX7_passes_39 ?_
    obtain ⟨hi_6, hf⟩ := ck_s hf
    refine ga_ld X hP (iA_13 kc_280) hi_6 dX7_passes_40 ?_
    obtain ⟨hz_7, hf⟩ := cz_s hf
    refine lv_irem hx hb dX7_passes_41 hz_7 ?_
    obtain ⟨hi_9, hf⟩ := ck_s hf
    refine ga_st X hP hS (iA_13 kc_280) hi_9 dX7_passes_42 (fun H locs M_8 eM_8 hP hS => ?_)
    replace hf := lt_go hf eM_8
    refine lv_aload_n hx hb dX7_passes_43 rfl (lv_at hl 0 rfl) ?_
    refine gf_7_0 X hP kc_279 q4_25 dX7_passes_44 ?_
    refine lv_iload_n hx hb dX7_passes_47 rfl (lv_at hl 1 rfl) ?_
    refine lv_iconst (v := (2 : Int32)) hx hb dX7_passes_48 (by decide) ?_
    refine lv_iadd hx hb dX7_passes_49 ?_
    refine lv_dup2_11 hx hb dX7_passes_50 rfl rfl ?_
    obtain ⟨hi_10, hf⟩ := ck_s hf
    refine ga_ld X hP (iA_13 kc_280) hi_10 dX7_passes_51 ?_
    refine lv_iconst (v := (1 : Int32)) hx hb dX7_passes_52 (by decide) ?_
    refine lv_isub hx hb dX7_passes_53 ?_
    obtain ⟨hi_12, hf⟩ := ck_s hf
    refine ga_st X hP hS (iA_13 kc_280) hi_12 dX7_passes_54 (fun H locs M_11 eM_11 hP hS => ?_)
    replace hf := lt_go hf eM_11
    refine lv_iconst (v := (0 : Int32)) hx hb dX7_passes_55 (by decide) ?_
    refine lv_istore_n (lv' := [(2, .int (0 : Int32)), (0, .ref (gz g + 279)), (1, .int x1)]) hx hb dX7_passes_56 rfl hl (by decide) rfl (fun ls hl => ?_)
    exact b_X7_passes_57 X  FU (0 : Int32) M_11 _ _ _ hf hP hS (lv_sub hl [1, 2, 0] rfl)
def f_X7_loud_4 (x1 : Int32)  : Nat → Int32 → Int32 → Mem → Option (Int32 × Mem)
  | 0, _, _, _ => none
  | n + 1, x2, x3, M =>
    ck (x1 + (0 : Int32)) 1247 <|
    if (M 280 ((x1 + (0 : Int32))).toNatClampNeg) ≤ x3 then
      some (x2, M)
    else
      ck ((x1 + (18 : Int32)) + x3) 1247 <|
      lt (x2 + (M 280 (((x1 + (18 : Int32)) + x3)).toNatClampNeg)) fun x2_4 =>
      (f_X7_loud_4 x1 n) x2_4 (x3 + (1 : Int32)) M
set_option maxRecDepth 20000 in
theorem b_X7_loud_4 {out : Int32 × Mem} (X : Bx p s m args meth c RX7 cX7_loud 4 (some .int) g)   {x1 : Int32}     : ∀ (n : Nat) (x2 : Int32) (x3 : Int32) (M : Mem) (H : Heap) (locs : List Loc) (ls : Array Slot), f_X7_loud_4 x1 n x2 x3 M = some out → va_P g.1 vwCl (gW g M) H → va_S (gA g) s.heap H locs → lv_has ls 4 [(0, .ref (gz g + 279)), (1, .int x1), (2, .int x2), (3, .int x3)] → W p l e (rM 0 0) s m args below meth c H locs 0 0 (MQ below (qI g out) args s 0 0 (gA g)) (F0 m 4 ls []) := by
  have hx := X.1
  have hb := X.2.1
  intro n
  induction n with
  | zero => intro _ _ _ _ _ _ hf; cases hf
  | succ n ih =>
    intro x2 x3 M H locs ls hf hP hS hl
    rw [f_X7_loud_4] at hf
    refine lv_iload_n hx hb dX7_loud_4 rfl (lv_at hl 3 rfl) ?_
    refine lv_aload_n hx hb dX7_loud_5 rfl (lv_at hl 0 rfl) ?_
    refine gf_7_0 X hP kc_279 q4_25 dX7_loud_6 ?_
    refine lv_iload_n hx hb dX7_loud_9 rfl (lv_at hl 1 rfl) ?_
    refine lv_iconst (v := (0 : Int32)) hx hb dX7_loud_10 (by decide) ?_
    refine lv_iadd hx hb dX7_loud_11 ?_
    obtain ⟨hi_1, hf⟩ := ck_s hf
    refine ga_ld X hP (iA_13 kc_280) hi_1 dX7_loud_12 ?_
    refine lv_icmp_ge (tgt := 36) hx hb dX7_loud_13 (by decide) (fun h_2 => ?_) (fun h_2 => ?_)
    · replace hf := it_t hf h_2
      refine lv_iload_n hx hb dX7_loud_36 rfl (lv_at hl 2 rfl) ?_
      exact g_iret X hP hS (sm_i hf) dX7_loud_37
    · replace hf := it_f hf h_2
      refine lv_iload_n hx hb dX7_loud_16 rfl (lv_at hl 2 rfl) ?_
      refine lv_aload_n hx hb dX7_loud_17 rfl (lv_at hl 0 rfl) ?_
      refine gf_7_0 X hP kc_279 q4_25 dX7_loud_18 ?_
      refine lv_iload_n hx hb dX7_loud_21 rfl (lv_at hl 1 rfl) ?_
      refine lv_bipush (v := (18 : Int32)) hx hb dX7_loud_22 (by decide) ?_
      refine lv_iadd hx hb dX7_loud_24 ?_
      refine lv_iload_n hx hb dX7_loud_25 rfl (lv_at hl 3 rfl) ?_
      refine lv_iadd hx hb dX7_loud_26 ?_
      obtain ⟨hi_3, hf⟩ := ck_s hf
      refine ga_ld X hP (iA_13 kc_280) hi_3 dX7_loud_27 ?_
      refine lv_iadd hx hb dX7_loud_28 ?_
      refine lv_topi (fun x2_4 ex2_4 => ?_)
      replace hf := lt_go hf ex2_4
      refine lv_istore_n (lv' := [(2, .int x2_4), (0, .ref (gz g + 279)), (1, .int x1), (3, .int x3)]) hx hb dX7_loud_29 rfl hl (by decide) rfl (fun ls hl => ?_)
      refine lv_iinc (v := (x3 + (1 : Int32))) (lv' := [(3, .int (x3 + (1 : Int32))), (2, .int x2_4), (0, .ref (gz g + 279)), (1, .int x1)]) hx hb dX7_loud_30 hl (k := 3) rfl rfl (by decide) rfl (fun ls hl => ?_)
      refine lv_goto (tgt := 4) hx hb dX7_loud_33 (by decide) ?_
      exact ih x2_4 (x3 + (1 : Int32)) M _ _ _ hf hP hS (lv_sub hl [2, 3, 1, 0] rfl)
def f_X7_loud (x1 : Int32) (M : Mem) : Option (Int32 × Mem) :=
  f_X7_loud_4 x1 FU (0 : Int32) (0 : Int32) M
set_option maxRecDepth 20000 in
theorem c_X7_loud (l : Launch) (g : GC) {x1 : Int32}  {M : Mem} {out : Int32 × Mem} (hf : f_X7_loud x1 M = some out) : cI l g yX7_loud cX7_loud 4 (some .int) (rM 0 0) [.ref (gz g + 279), .int x1] M out := by
  refine g_met (by decide) (Nat.le_of_ble_eq_true rfl) ?_
  intro p e s m below meth c X hP hS ls hl
  have X : Bx p s m _ meth c RX7 cX7_loud 4 (some .int) g := X
  have hl : lv_has ls 4 [(0, .ref (gz g + 279)), (1, .int x1)] := hl
  have hx := X.1
  have hb := X.2.1
  refine lv_iconst (v := (0 : Int32)) hx hb dX7_loud_0 (by decide) ?_
  refine lv_istore_n (lv' := [(2, .int (0 : Int32)), (0, .ref (gz g + 279)), (1, .int x1)]) hx hb dX7_loud_1 rfl hl (by decide) rfl (fun ls hl => ?_)
  refine lv_iconst (v := (0 : Int32)) hx hb dX7_loud_2 (by decide) ?_
  refine lv_istore_n (lv' := [(3, .int (0 : Int32)), (2, .int (0 : Int32)), (0, .ref (gz g + 279)), (1, .int x1)]) hx hb dX7_loud_3 rfl hl (by decide) rfl (fun ls hl => ?_)
  exact b_X7_loud_4 X  FU (0 : Int32) (0 : Int32) M _ _ _ hf hP hS (lv_sub hl [2, 3, 1, 0] rfl)
def f_X7_ringing_38 (x1 : Int32) (k4 : Int32 → Int32 → Mem → Option (Int32 × Mem)) (x3 : Int32) (t0 : Int32) (t1 : Int32) (M : Mem) : Option (Int32 × Mem) :=
  lt (t0 ||| t1) fun x2_1 =>
  k4 x2_1 (x3 + (1 : Int32)) M
set_option maxRecDepth 20000 in
theorem b_X7_ringing_38 {out : Int32 × Mem} (X : Bx p s m args meth c RX7 cX7_ringing 4 (some .int) g)   {x1 : Int32}   {k4 : Int32 → Int32 → Mem → Option (Int32 × Mem)} (hk4 : ∀ (x2 : Int32) (x3 : Int32) (M : Mem) (H : Heap) (locs : List Loc) (ls : Array Slot), k4 x2 x3 M = some out → va_P g.1 vwCl (gW g M) H → va_S (gA g) s.heap H locs → lv_has ls 4 [(0, .ref (gz g + 279)), (1, .int x1), (2, .int x2), (3, .int x3)] → W p l e (rM 0 0) s m args below meth c H locs 0 0 (MQ below (qI g out) args s 0 0 (gA g)) (F0 m 4 ls [])) (x3 : Int32) (t0 : Int32) (t1 : Int32) (M : Mem) {H : Heap} {locs : List Loc} {ls : Array Slot} (hf : f_X7_ringing_38 x1 k4 x3 t0 t1 M = some out) (hP : va_P g.1 vwCl (gW g M) H) (hS : va_S (gA g) s.heap H locs) (hl : lv_has ls 4 [(0, .ref (gz g + 279)), (1, .int x1), (3, .int x3)]) : W p l e (rM 0 0) s m args below meth c H locs 0 0 (MQ below (qI g out) args s 0 0 (gA g)) (F0 m 38 ls [.int t1, .int t0]) := by
  have hx := X.1
  have hb := X.2.1
  refine lv_ior hx hb dX7_ringing_38 ?_
  refine lv_topi (fun x2_1 ex2_1 => ?_)
  replace hf := lt_go hf ex2_1
  refine lv_istore_n (lv' := [(2, .int x2_1), (0, .ref (gz g + 279)), (1, .int x1), (3, .int x3)]) hx hb dX7_ringing_39 rfl hl (by decide) rfl (fun ls hl => ?_)
  refine lv_iinc (v := (x3 + (1 : Int32))) (lv' := [(3, .int (x3 + (1 : Int32))), (2, .int x2_1), (0, .ref (gz g + 279)), (1, .int x1)]) hx hb dX7_ringing_40 hl (k := 3) rfl rfl (by decide) rfl (fun ls hl => ?_)
  refine lv_goto (tgt := 4) hx hb dX7_ringing_43 (by decide) ?_
  exact hk4 x2_1 (x3 + (1 : Int32)) M _ _ _ hf hP hS (lv_sub hl [2, 3, 1, 0] rfl)
def f_X7_ringing_4 (x1 : Int32)  : Nat → Int32 → Int32 → Mem → Option (Int32 × Mem)
  | 0, _, _, _ => none
  | n + 1, x2, x3, M =>
    ck (x1 + (0 : Int32)) 1247 <|
    if (M 280 ((x1 + (0 : Int32))).toNatClampNeg) ≤ x3 then
      some (x2, M)
    else
      ck ((x1 + (18 : Int32)) + x3) 1247 <|
      if (M 280 (((x1 + (18 : Int32)) + x3)).toNatClampNeg) ≤ 0 then
        f_X7_ringing_38 x1 (f_X7_ringing_4 x1 n) x3 x2 (0 : Int32) M
      else
        f_X7_ringing_38 x1 (f_X7_ringing_4 x1 n) x3 x2 ((1 : Int32) <<< (x3 &&& 31)) M
set_option maxRecDepth 20000 in
theorem b_X7_ringing_4 {out : Int32 × Mem} (X : Bx p s m args meth c RX7 cX7_ringing 4 (some .int) g)   {x1 : Int32}     : ∀ (n : Nat) (x2 : Int32) (x3 : Int32) (M : Mem) (H : Heap) (locs : List Loc) (ls : Array Slot), f_X7_ringing_4 x1 n x2 x3 M = some out → va_P g.1 vwCl (gW g M) H → va_S (gA g) s.heap H locs → lv_has ls 4 [(0, .ref (gz g + 279)), (1, .int x1), (2, .int x2), (3, .int x3)] → W p l e (rM 0 0) s m args below meth c H locs 0 0 (MQ below (qI g out) args s 0 0 (gA g)) (F0 m 4 ls []) := by
  have hx := X.1
  have hb := X.2.1
  intro n
  induction n with
  | zero => intro _ _ _ _ _ _ hf; cases hf
  | succ n ih =>
    intro x2 x3 M H locs ls hf hP hS hl
    rw [f_X7_ringing_4] at hf
    refine lv_iload_n hx hb dX7_ringing_4 rfl (lv_at hl 3 rfl) ?_
    refine lv_aload_n hx hb dX7_ringing_5 rfl (lv_at hl 0 rfl) ?_
    refine gf_7_0 X hP kc_279 q4_25 dX7_ringing_6 ?_
    refine lv_iload_n hx hb dX7_ringing_9 rfl (lv_at hl 1 rfl) ?_
    refine lv_iconst (v := (0 : Int32)) hx hb dX7_ringing_10 (by decide) ?_
    refine lv_iadd hx hb dX7_ringing_11 ?_
    obtain ⟨hi_1, hf⟩ := ck_s hf
    refine ga_ld X hP (iA_13 kc_280) hi_1 dX7_ringing_12 ?_
    refine lv_icmp_ge (tgt := 46) hx hb dX7_ringing_13 (by decide) (fun h_2 => ?_) (fun h_2 => ?_)
    · replace hf := it_t hf h_2
      refine lv_iload_n hx hb dX7_ringing_46 rfl (lv_at hl 2 rfl) ?_
      exact g_iret X hP hS (sm_i hf) dX7_ringing_47
    · replace hf := it_f hf h_2
      refine lv_iload_n hx hb dX7_ringing_16 rfl (lv_at hl 2 rfl) ?_
      refine lv_aload_n hx hb dX7_ringing_17 rfl (lv_at hl 0 rfl) ?_
      refine gf_7_0 X hP kc_279 q4_25 dX7_ringing_18 ?_
      refine lv_iload_n hx hb dX7_ringing_21 rfl (lv_at hl 1 rfl) ?_
      refine lv_bipush (v := (18 : Int32)) hx hb dX7_ringing_22 (by decide) ?_
      refine lv_iadd hx hb dX7_ringing_24 ?_
      refine lv_iload_n hx hb dX7_ringing_25 rfl (lv_at hl 3 rfl) ?_
      refine lv_iadd hx hb dX7_ringing_26 ?_
      obtain ⟨hi_3, hf⟩ := ck_s hf
      refine ga_ld X hP (iA_13 kc_280) hi_3 dX7_ringing_27 ?_
      refine lv_if_le (tgt := 37) hx hb dX7_ringing_28 (by decide) (fun h_4 => ?_) (fun h_4 => ?_)
      · replace hf := it_t hf h_4
        refine lv_iconst (v := (0 : Int32)) hx hb dX7_ringing_37 (by decide) ?_
        exact b_X7_ringing_38 X ih x3 x2 (0 : Int32) M hf hP hS (lv_sub hl [0, 1, 3] rfl)
      · replace hf := it_f hf h_4
        refine lv_iconst (v := (1 : Int32)) hx hb dX7_ringing_31 (by decide) ?_
        refine lv_iload_n hx hb dX7_ringing_32 rfl (lv_at hl 3 rfl) ?_
        refine lv_ishl hx hb dX7_ringing_33 ?_
        refine lv_goto (tgt := 38) hx hb dX7_ringing_34 (by decide) ?_
        exact b_X7_ringing_38 X ih x3 x2 ((1 : Int32) <<< (x3 &&& 31)) M hf hP hS (lv_sub hl [0, 1, 3] rfl)
def f_X7_ringing (x1 : Int32) (M : Mem) : Option (Int32 × Mem) :=
  f_X7_ringing_4 x1 FU (0 : Int32) (0 : Int32) M
set_option maxRecDepth 20000 in
theorem c_X7_ringing (l : Launch) (g : GC) {x1 : Int32}  {M : Mem} {out : Int32 × Mem} (hf : f_X7_ringing x1 M = some out) : cI l g yX7_ringing cX7_ringing 4 (some .int) (rM 0 0) [.ref (gz g + 279), .int x1] M out := by
  refine g_met (by decide) (Nat.le_of_ble_eq_true rfl) ?_
  intro p e s m below meth c X hP hS ls hl
  have X : Bx p s m _ meth c RX7 cX7_ringing 4 (some .int) g := X
  have hl : lv_has ls 4 [(0, .ref (gz g + 279)), (1, .int x1)] := hl
  have hx := X.1
  have hb := X.2.1
  refine lv_iconst (v := (0 : Int32)) hx hb dX7_ringing_0 (by decide) ?_
  refine lv_istore_n (lv' := [(2, .int (0 : Int32)), (0, .ref (gz g + 279)), (1, .int x1)]) hx hb dX7_ringing_1 rfl hl (by decide) rfl (fun ls hl => ?_)
  refine lv_iconst (v := (0 : Int32)) hx hb dX7_ringing_2 (by decide) ?_
  refine lv_istore_n (lv' := [(3, .int (0 : Int32)), (2, .int (0 : Int32)), (0, .ref (gz g + 279)), (1, .int x1)]) hx hb dX7_ringing_3 rfl hl (by decide) rfl (fun ls hl => ?_)
  exact b_X7_ringing_4 X  FU (0 : Int32) (0 : Int32) M _ _ _ hf hP hS (lv_sub hl [2, 3, 1, 0] rfl)
def f_X7_mends (x1 : Int32) (x2 : Int32) (M : Mem) : Option Mem :=
  ck (x1 + (5 : Int32)) 1247 <|
  ck (x1 + (5 : Int32)) 1247 <|
  lt (up2 M 280 ((x1 + (5 : Int32))).toNatClampNeg ((M 280 ((x1 + (5 : Int32))).toNatClampNeg) &&& (((1 : Int32) <<< (x2 &&& 31)) ^^^ (-1 : Int32)))) fun M_2 =>
  ck ((x1 + (24 : Int32)) + x2) 1247 <|
  lt (up2 M_2 280 (((x1 + (24 : Int32)) + x2)).toNatClampNeg (0 : Int32)) fun M_4 =>
  ck ((x1 + (18 : Int32)) + x2) 1247 <|
  lt (up2 M_4 280 (((x1 + (18 : Int32)) + x2)).toNatClampNeg (0 : Int32)) fun M_6 =>
  some M_6
set_option maxRecDepth 20000 in
theorem c_X7_mends (l : Launch) (g : GC) {x1 : Int32} {x2 : Int32}  {M : Mem} {out : Mem} (hf : f_X7_mends x1 x2 M = some out) : cV l g yX7_mends cX7_mends 3 (rM 0 0) [.ref (gz g + 279), .int x1, .int x2] M out := by
  refine g_met (by decide) (Nat.le_of_ble_eq_true rfl) ?_
  intro p e s m below meth c X hP hS ls hl
  have X : Bx p s m _ meth c RX7 cX7_mends 3 none g := X
  have hl : lv_has ls 3 [(0, .ref (gz g + 279)), (1, .int x1), (2, .int x2)] := hl
  have hx := X.1
  have hb := X.2.1
  refine lv_aload_n hx hb dX7_mends_0 rfl (lv_at hl 0 rfl) ?_
  refine gf_7_0 X hP kc_279 q4_25 dX7_mends_1 ?_
  refine lv_iload_n hx hb dX7_mends_4 rfl (lv_at hl 1 rfl) ?_
  refine lv_iconst (v := (5 : Int32)) hx hb dX7_mends_5 (by decide) ?_
  refine lv_iadd hx hb dX7_mends_6 ?_
  refine lv_dup2_11 hx hb dX7_mends_7 rfl rfl ?_
  obtain ⟨hi_1, hf⟩ := ck_s hf
  refine ga_ld X hP (iA_13 kc_280) hi_1 dX7_mends_8 ?_
  refine lv_iconst (v := (1 : Int32)) hx hb dX7_mends_9 (by decide) ?_
  refine lv_iload_n hx hb dX7_mends_10 rfl (lv_at hl 2 rfl) ?_
  refine lv_ishl hx hb dX7_mends_11 ?_
  refine lv_iconst (v := (-1 : Int32)) hx hb dX7_mends_12 (by decide) ?_
  refine lv_ixor hx hb dX7_mends_13 ?_
  refine lv_iand hx hb dX7_mends_14 ?_
  obtain ⟨hi_3, hf⟩ := ck_s hf
  refine ga_st X hP hS (iA_13 kc_280) hi_3 dX7_mends_15 (fun H locs M_2 eM_2 hP hS => ?_)
  replace hf := lt_go hf eM_2
  refine lv_aload_n hx hb dX7_mends_16 rfl (lv_at hl 0 rfl) ?_
  refine gf_7_0 X hP kc_279 q4_25 dX7_mends_17 ?_
  refine lv_iload_n hx hb dX7_mends_20 rfl (lv_at hl 1 rfl) ?_
  refine lv_bipush (v := (24 : Int32)) hx hb dX7_mends_21 (by decide) ?_
  refine lv_iadd hx hb dX7_mends_23 ?_
  refine lv_iload_n hx hb dX7_mends_24 rfl (lv_at hl 2 rfl) ?_
  refine lv_iadd hx hb dX7_mends_25 ?_
  refine lv_iconst (v := (0 : Int32)) hx hb dX7_mends_26 (by decide) ?_
  obtain ⟨hi_5, hf⟩ := ck_s hf
  refine ga_st X hP hS (iA_13 kc_280) hi_5 dX7_mends_27 (fun H locs M_4 eM_4 hP hS => ?_)
  replace hf := lt_go hf eM_4
  refine lv_aload_n hx hb dX7_mends_28 rfl (lv_at hl 0 rfl) ?_
  refine gf_7_0 X hP kc_279 q4_25 dX7_mends_29 ?_
  refine lv_iload_n hx hb dX7_mends_32 rfl (lv_at hl 1 rfl) ?_
  refine lv_bipush (v := (18 : Int32)) hx hb dX7_mends_33 (by decide) ?_
  refine lv_iadd hx hb dX7_mends_35 ?_
  refine lv_iload_n hx hb dX7_mends_36 rfl (lv_at hl 2 rfl) ?_
  refine lv_iadd hx hb dX7_mends_37 ?_
  refine lv_iconst (v := (0 : Int32)) hx hb dX7_mends_38 (by decide) ?_
  obtain ⟨hi_7, hf⟩ := ck_s hf
  refine ga_st X hP hS (iA_13 kc_280) hi_7 dX7_mends_39 (fun H locs M_6 eM_6 hP hS => ?_)
  replace hf := lt_go hf eM_6
  exact g_vret X hP hS (sm_i hf) dX7_mends_40
def f_X7_minds_57    (M : Mem) : Option Mem :=
  cv (f_X7_copyOf (0 : Int32) ((215 : Int32) + ((43 : Int32) * (M 279 1))) M) fun M_2 =>
  lt (up2 M_2 279 1 ((M_2 279 1) + (1 : Int32))) fun M_3 =>
  some M_3
set_option maxRecDepth 20000 in
theorem b_X7_minds_57 {out : Mem} (X : Bx p s m args meth c RX7 cX7_minds 2 none g)         (M : Mem) {H : Heap} {locs : List Loc} {ls : Array Slot} (hf : f_X7_minds_57 M = some out) (hP : va_P g.1 vwCl (gW g M) H) (hS : va_S (gA g) s.heap H locs) (hl : lv_has ls 2 [(0, .ref (gz g + 279))]) : W p l e (rM 1 23) s m args below meth c H locs 0 0 (MQ below (qV g out) args s 0 0 (gA g)) (F0 m 57 ls []) := by
  have hx := X.1
  have hb := X.2.1
  refine lv_aload_n hx hb dX7_minds_57 rfl (lv_at hl 0 rfl) ?_
  refine lv_iconst (v := (0 : Int32)) hx hb dX7_minds_58 (by decide) ?_
  refine lv_sipush (v := (215 : Int32)) hx hb dX7_minds_59 (by decide) ?_
  refine lv_bipush (v := (43 : Int32)) hx hb dX7_minds_62 (by decide) ?_
  refine lv_aload_n hx hb dX7_minds_64 rfl (lv_at hl 0 rfl) ?_
  refine gf_7_1 X hP kc_279 q4_26 dX7_minds_65 ?_
  refine lv_imul hx hb dX7_minds_68 ?_
  refine lv_iadd hx hb dX7_minds_69 ?_
  obtain ⟨M_2, hc_1, hf⟩ := cv_s hf
  refine g_gov (g_run X (c_X7_copyOf l g  hc_1) s_X7_copyOf (oB_7 kc_279) q4_163 ⟨Nat.le_of_ble_eq_true rfl, Nat.le_of_ble_eq_true rfl⟩ hP hS rfl hl.1 rfl (Nat.le_of_ble_eq_true rfl) ⟨Nat.le_refl _, Nat.le_refl _⟩ dX7_minds_70) hS (fun H locs hP hS => ?_)
  refine lv_aload_n hx hb dX7_minds_73 rfl (lv_at hl 0 rfl) ?_
  refine lv_dup hx hb dX7_minds_74 rfl ?_
  refine gf_7_1 X hP kc_279 q4_26 dX7_minds_75 ?_
  refine lv_iconst (v := (1 : Int32)) hx hb dX7_minds_78 (by decide) ?_
  refine lv_iadd hx hb dX7_minds_79 ?_
  refine gp_7_1 X hP hS kc_279 q4_26 dX7_minds_80 (fun H locs M_3 eM_3 hP hS => ?_)
  replace hf := lt_go hf eM_3
  exact g_vret X hP hS (sm_i hf) dX7_minds_83
def f_X7_minds_11   : Nat → Int32 → Mem → Option Mem
  | 0, _, _ => none
  | n + 1, x1, M =>
    if (989 : Int32) ≤ x1 then
      lt (up2 M 279 1 ((M 279 1) - (1 : Int32))) fun M_2 =>
      f_X7_minds_57 M_2
    else
      ck (((215 : Int32) + x1) + (43 : Int32)) 1247 <|
      ck ((215 : Int32) + x1) 1247 <|
      lt (up2 M 280 (((215 : Int32) + x1)).toNatClampNeg (M 280 ((((215 : Int32) + x1) + (43 : Int32))).toNatClampNeg)) fun M_4 =>
      (f_X7_minds_11 n) (x1 + (1 : Int32)) M_4
set_option maxRecDepth 20000 in
theorem b_X7_minds_11 {out : Mem} (X : Bx p s m args meth c RX7 cX7_minds 2 none g)        : ∀ (n : Nat) (x1 : Int32) (M : Mem) (H : Heap) (locs : List Loc) (ls : Array Slot), f_X7_minds_11 n x1 M = some out → va_P g.1 vwCl (gW g M) H → va_S (gA g) s.heap H locs → lv_has ls 2 [(0, .ref (gz g + 279)), (1, .int x1)] → W p l e (rM 1 23) s m args below meth c H locs 0 0 (MQ below (qV g out) args s 0 0 (gA g)) (F0 m 11 ls []) := by
  have hx := X.1
  have hb := X.2.1
  intro n
  induction n with
  | zero => intro _ _ _ _ _ hf; cases hf
  | succ n ih =>
    intro x1 M H locs ls hf hP hS hl
    rw [f_X7_minds_11] at hf
    refine lv_iload_n hx hb dX7_minds_11 rfl (lv_at hl 1 rfl) ?_
    refine lv_sipush (v := (989 : Int32)) hx hb dX7_minds_12 (by decide) ?_
    refine lv_icmp_ge (tgt := 47) hx hb dX7_minds_15 (by decide) (fun h_1 => ?_) (fun h_1 => ?_)
    · replace hf := it_t hf h_1
      refine lv_aload_n hx hb dX7_minds_47 rfl (lv_at hl 0 rfl) ?_
      refine lv_dup hx hb dX7_minds_48 rfl ?_
      refine gf_7_1 X hP kc_279 q4_26 dX7_minds_49 ?_
      refine lv_iconst (v := (1 : Int32)) hx hb dX7_minds_52 (by decide) ?_
      refine lv_isub hx hb dX7_minds_53 ?_
      refine gp_7_1 X hP hS kc_279 q4_26 dX7_minds_54 (fun H locs M_2 eM_2 hP hS => ?_)
      replace hf := lt_go hf eM_2
      exact b_X7_minds_57 X   M_2 hf hP hS (lv_sub hl [0] rfl)
    · replace hf := it_f hf h_1
      refine lv_aload_n hx hb dX7_minds_18 rfl (lv_at hl 0 rfl) ?_
      refine gf_7_0 X hP kc_279 q4_25 dX7_minds_19 ?_
      refine lv_sipush (v := (215 : Int32)) hx hb dX7_minds_22 (by decide) ?_
      refine lv_iload_n hx hb dX7_minds_25 rfl (lv_at hl 1 rfl) ?_
      refine lv_iadd hx hb dX7_minds_26 ?_
      refine lv_aload_n hx hb dX7_minds_27 rfl (lv_at hl 0 rfl) ?_
      refine gf_7_0 X hP kc_279 q4_25 dX7_minds_28 ?_
      refine lv_sipush (v := (215 : Int32)) hx hb dX7_minds_31 (by decide) ?_
      refine lv_iload_n hx hb dX7_minds_34 rfl (lv_at hl 1 rfl) ?_
      refine lv_iadd hx hb dX7_minds_35 ?_
      refine lv_bipush (v := (43 : Int32)) hx hb dX7_minds_36 (by decide) ?_
      refine lv_iadd hx hb dX7_minds_38 ?_
      obtain ⟨hi_3, hf⟩ := ck_s hf
      refine ga_ld X hP (iA_13 kc_280) hi_3 dX7_minds_39 ?_
      obtain ⟨hi_5, hf⟩ := ck_s hf
      refine ga_st X hP hS (iA_13 kc_280) hi_5 dX7_minds_40 (fun H locs M_4 eM_4 hP hS => ?_)
      replace hf := lt_go hf eM_4
      refine lv_iinc (v := (x1 + (1 : Int32))) (lv' := [(1, .int (x1 + (1 : Int32))), (0, .ref (gz g + 279))]) hx hb dX7_minds_41 hl (k := 1) rfl rfl (by decide) rfl (fun ls hl => ?_)
      refine lv_goto (tgt := 11) hx hb dX7_minds_44 (by decide) ?_
      exact ih (x1 + (1 : Int32)) M_4 _ _ _ hf hP hS (lv_sub hl [1, 0] rfl)
def f_X7_minds  (M : Mem) : Option Mem :=
  if (M 279 1) = (24 : Int32) then
    f_X7_minds_11 FU (0 : Int32) M
  else
    f_X7_minds_57 M
set_option maxRecDepth 20000 in
theorem c_X7_minds (l : Launch) (g : GC)   {M : Mem} {out : Mem} (hf : f_X7_minds  M = some out) : cV l g yX7_minds cX7_minds 2 (rM 1 23) [.ref (gz g + 279)] M out := by
  refine g_met (by decide) (Nat.le_of_ble_eq_true rfl) ?_
  intro p e s m below meth c X hP hS ls hl
  have X : Bx p s m _ meth c RX7 cX7_minds 2 none g := X
  have hl : lv_has ls 2 [(0, .ref (gz g + 279))] := hl
  have hx := X.1
  have hb := X.2.1
  refine lv_aload_n hx hb dX7_minds_0 rfl (lv_at hl 0 rfl) ?_
  refine gf_7_1 X hP kc_279 q4_26 dX7_minds_1 ?_
  refine lv_bipush (v := (24 : Int32)) hx hb dX7_minds_4 (by decide) ?_
  refine lv_icmp_ne (tgt := 57) hx hb dX7_minds_6 (by decide) (fun h_1 => ?_) (fun h_1 => ?_)
  · replace hf := it_f hf h_1
    exact b_X7_minds_57 X   M hf hP hS hl
  · replace hf := it_t hf h_1
    refine lv_iconst (v := (0 : Int32)) hx hb dX7_minds_9 (by decide) ?_
    refine lv_istore_n (lv' := [(1, .int (0 : Int32)), (0, .ref (gz g + 279))]) hx hb dX7_minds_10 rfl hl (by decide) rfl (fun ls hl => ?_)
    exact b_X7_minds_11 X  FU (0 : Int32) M _ _ _ hf hP hS (lv_sub hl [1, 0] rfl)
