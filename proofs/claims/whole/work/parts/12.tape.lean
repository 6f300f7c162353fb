variable {p : Program} {l : Launch} {e : Env} {s : State} {m : MethodId} {args : Array Value} {below : List Frame} {meth : Method} {c : Code} {g : GC}
def f_X4_add (x1 : Int32) (M : Mem) : Option (Int32 × Mem) :=
  ck (M 15 1) 100 <|
  lt (up2 M (15 + 1) ((M 15 1)).toNatClampNeg x1) fun M_1 =>
  lt (up2 M_1 15 1 ((M_1 15 1) + (1 : Int32))) fun M_3 =>
  some ((M_3 15 1), M_3)
set_option maxRecDepth 20000 in
theorem c_X4_add (l : Launch) (g : GC) {x1 : Int32}  {M : Mem} {out : Int32 × Mem} (hf : f_X4_add x1 M = some out) : cI l g yX4_add cX4_add 2 (some .int) (rM 0 0) [.ref (gz g + 15), .int x1] M out := by
  refine g_met (by decide) (Nat.le_of_ble_eq_true rfl) ?_
  intro p e s m below meth c X hP hS ls hl
  have X : Bx p s m _ meth c RX4 cX4_add 2 (some .int) g := X
  have hl : lv_has ls 2 [(0, .ref (gz g + 15)), (1, .int x1)] := hl
  have hx := X.1
  have hb := X.2.1
  refine lv_aload_n hx hb dX4_add_0 rfl (lv_at hl 0 rfl) ?_
  refine gf_4_0 X hP kc_15 q1_101 dX4_add_1 ?_
  refine lv_aload_n hx hb dX4_add_4 rfl (lv_at hl 0 rfl) ?_
  refine gf_4_1 X hP kc_15 q1_102 dX4_add_5 ?_
  refine lv_iload_n hx hb dX4_add_8 rfl (lv_at hl 1 rfl) ?_
  obtain ⟨hi_2, hf⟩ := ck_s hf
  refine ga_st X hP hS (iA_11 kc_16) hi_2 dX4_add_9 (fun H locs M_1 eM_1 hP hS => ?_)
  replace hf := lt_go hf eM_1
  refine lv_aload_n hx hb dX4_add_10 rfl (lv_at hl 0 rfl) ?_
  refine lv_dup hx hb dX4_add_11 rfl ?_
  refine gf_4_1 X hP kc_15 q1_102 dX4_add_12 ?_
  refine lv_iconst (v := (1 : Int32)) hx hb dX4_add_15 (by decide) ?_
  refine lv_iadd hx hb dX4_add_16 ?_
  refine gp_4_1 X hP hS kc_15 q1_102 dX4_add_17 (fun H locs M_3 eM_3 hP hS => ?_)
  replace hf := lt_go hf eM_3
  refine lv_aload_n hx hb dX4_add_20 rfl (lv_at hl 0 rfl) ?_
  refine gf_4_1 X hP kc_15 q1_102 dX4_add_21 ?_
  exact g_iret X hP hS (sm_i hf) dX4_add_24
def f_X4_coming  (M : Mem) : Option (Int32 × Mem) :=
  if (M 15 1) ≤ (M 15 2) then
    some ((-1 : Int32), M)
  else
    ck (M 15 2) 100 <|
    some ((M (15 + 1) ((M 15 2)).toNatClampNeg), M)
set_option maxRecDepth 20000 in
theorem c_X4_coming (l : Launch) (g : GC)   {M : Mem} {out : Int32 × Mem} (hf : f_X4_coming  M = some out) : cI l g yX4_coming cX4_coming 1 (some .int) (rM 0 0) [.ref (gz g + 15)] M out := by
  refine g_met (by decide) (Nat.le_of_ble_eq_true rfl) ?_
  intro p e s m below meth c X hP hS ls hl
  have X : Bx p s m _ meth c RX4 cX4_coming 1 (some .int) g := X
  have hl : lv_has ls 1 [(0, .ref (gz g + 15))] := hl
  have hx := X.1
  have hb := X.2.1
  refine lv_aload_n hx hb dX4_coming_0 rfl (lv_at hl 0 rfl) ?_
  refine gf_4_2 X hP kc_15 q1_104 dX4_coming_1 ?_
  refine lv_aload_n hx hb dX4_coming_4 rfl (lv_at hl 0 rfl) ?_
  refine gf_4_1 X hP kc_15 q1_102 dX4_coming_5 ?_
  refine lv_icmp_ge (tgt := 23) hx hb dX4_coming_8 (by decide) (fun h_1 => ?_) (fun h_1 => ?_)
  · replace hf := it_t hf h_1
    refine lv_iconst (v := (-1 : Int32)) hx hb dX4_coming_23 (by decide) ?_
    exact g_iret X hP hS (sm_i hf) dX4_coming_24
  · replace hf := it_f hf h_1
    refine lv_aload_n hx hb dX4_coming_11 rfl (lv_at hl 0 rfl) ?_
    refine gf_4_0 X hP kc_15 q1_101 dX4_coming_12 ?_
    refine lv_aload_n hx hb dX4_coming_15 rfl (lv_at hl 0 rfl) ?_
    refine gf_4_2 X hP kc_15 q1_104 dX4_coming_16 ?_
    obtain ⟨hi_2, hf⟩ := ck_s hf
    refine ga_ld X hP (iA_11 kc_16) hi_2 dX4_coming_19 ?_
    refine lv_goto (tgt := 24) hx hb dX4_coming_20 (by decide) ?_
    exact g_iret X hP hS (sm_i hf) dX4_coming_24
def f_X4_fail (x1 : Int32) (M : Mem) : Option (Int32 × Mem) :=
  lt (up2 M 15 3 x1) fun M_1 =>
  some ((0 : Int32), M_1)
set_option maxRecDepth 20000 in
theorem c_X4_fail (l : Launch) (g : GC) {x1 : Int32}  {M : Mem} {out : Int32 × Mem} (hf : f_X4_fail x1 M = some out) : cI l g yX4_fail cX4_fail 2 (some .boolean) (rM 0 0) [.ref (gz g + 15), .int x1] M out := by
  refine g_met (by decide) (Nat.le_of_ble_eq_true rfl) ?_
  intro p e s m below meth c X hP hS ls hl
  have X : Bx p s m _ meth c RX4 cX4_fail 2 (some .boolean) g := X
  have hl : lv_has ls 2 [(0, .ref (gz g + 15)), (1, .int x1)] := hl
  have hx := X.1
  have hb := X.2.1
  refine lv_aload_n hx hb dX4_fail_0 rfl (lv_at hl 0 rfl) ?_
  refine lv_iload_n hx hb dX4_fail_1 rfl (lv_at hl 1 rfl) ?_
  refine gp_4_3 X hP hS kc_15 q1_106 dX4_fail_2 (fun H locs M_1 eM_1 hP hS => ?_)
  replace hf := lt_go hf eM_1
  refine lv_iconst (v := (0 : Int32)) hx hb dX4_fail_5 (by decide) ?_
  exact g_zret X hP hS rfl (sm_i hf) dX4_fail_6
def f_X4_take (x1 : Int32) (M : Mem) : Option (Int32 × Mem) :=
  cb (f_X4_coming M) fun r_3 M_2 =>
  if r_3 = x1 then
    lt (up2 M_2 15 2 ((M_2 15 2) + (1 : Int32))) fun M_5 =>
    some ((1 : Int32), M_5)
  else
    cb (f_X4_fail (1 : Int32) M_2) fun r_8 M_7 =>
    cbz r_8 <| some (r_8, M_7)
set_option maxRecDepth 20000 in
theorem c_X4_take (l : Launch) (g : GC) {x1 : Int32}  {M : Mem} {out : Int32 × Mem} (hf : f_X4_take x1 M = some out) : cI l g yX4_take cX4_take 2 (some .boolean) (rM 1 21) [.ref (gz g + 15), .int x1] M out := by
  refine g_met (by decide) (Nat.le_of_ble_eq_true rfl) ?_
  intro p e s m below meth c X hP hS ls hl
  have X : Bx p s m _ meth c RX4 cX4_take 2 (some .boolean) g := X
  have hl : lv_has ls 2 [(0, .ref (gz g + 15)), (1, .int x1)] := hl
  have hx := X.1
  have hb := X.2.1
  refine lv_aload_n hx hb dX4_take_0 rfl (lv_at hl 0 rfl) ?_
  obtain ⟨r_3, M_2, hc_1, hf⟩ := cb_s hf
  refine g_goi (g_run X (c_X4_coming l g  hc_1) s_X4_coming (oB_4 kc_15) q2_76 ⟨Nat.le_of_ble_eq_true rfl, Nat.le_of_ble_eq_true rfl⟩ hP hS rfl hl.1 rfl (Nat.le_of_ble_eq_true rfl) ⟨Nat.le_refl _, Nat.le_refl _⟩ dX4_take_1) hS (fun H locs hP hS => ?_)
  refine lv_iload_n hx hb dX4_take_4 rfl (lv_at hl 1 rfl) ?_
  refine lv_icmp_eq (tgt := 14) hx hb dX4_take_5 (by decide) (fun h_4 => ?_) (fun h_4 => ?_)
  · replace hf := it_t hf h_4
    refine lv_aload_n hx hb dX4_take_14 rfl (lv_at hl 0 rfl) ?_
    refine lv_dup hx hb dX4_take_15 rfl ?_
    refine gf_4_2 X hP kc_15 q1_104 dX4_take_16 ?_
    refine lv_iconst (v := (1 : Int32)) hx hb dX4_take_19 (by decide) ?_
    refine lv_iadd hx hb dX4_take_20 ?_
    refine gp_4_2 X hP hS kc_15 q1_104 dX4_take_21 (fun H locs M_5 eM_5 hP hS => ?_)
    replace hf := lt_go hf eM_5
    refine lv_iconst (v := (1 : Int32)) hx hb dX4_take_24 (by decide) ?_
    exact g_zret X hP hS rfl (sm_i hf) dX4_take_25
  · replace hf := it_f hf h_4
    refine lv_aload_n hx hb dX4_take_8 rfl (lv_at hl 0 rfl) ?_
    refine lv_iconst (v := (1 : Int32)) hx hb dX4_take_9 (by decide) ?_
    obtain ⟨r_8, M_7, hc_6, hf⟩ := cb_s hf
    refine g_goi (g_run X (c_X4_fail l g  hc_6) s_X4_fail (oB_4 kc_15) q2_80 ⟨Nat.le_of_ble_eq_true rfl, Nat.le_of_ble_eq_true rfl⟩ hP hS rfl hl.1 rfl (Nat.le_of_ble_eq_true rfl) ⟨Nat.le_refl _, Nat.le_refl _⟩ dX4_take_10) hS (fun H locs hP hS => ?_)
    obtain ⟨hbz, hf⟩ := cbz_s hf
    exact g_zret X hP hS hbz (sm_i hf) dX4_take_13
def f_X4_takeNumber_99    (M : Mem) : Option (Int32 × Mem) :=
  cb (f_X4_fail (2 : Int32) M) fun r_3 M_2 =>
  cbz r_3 <| some (r_3, M_2)
set_option maxRecDepth 20000 in
theorem b_X4_takeNumber_99 {out : Int32 × Mem} (X : Bx p s m args meth c RX4 cX4_takeNumber 6 (some .boolean) g)         (M : Mem) {H : Heap} {locs : List Loc} {ls : Array Slot} (hf : f_X4_takeNumber_99 M = some out) (hP : va_P g.1 vwCl (gW g M) H) (hS : va_S (gA g) s.heap H locs) (hl : lv_has ls 6 [(0, .ref (gz g + 15))]) : W p l e (rM 1 21) s m args below meth c H locs 0 0 (MQ below (qI g out) args s 0 0 (gA g)) (F0 m 99 ls []) := by
  have hx := X.1
  have hb := X.2.1
  refine lv_aload_n hx hb dX4_takeNumber_99 rfl (lv_at hl 0 rfl) ?_
  refine lv_iconst (v := (2 : Int32)) hx hb dX4_takeNumber_100 (by decide) ?_
  obtain ⟨r_3, M_2, hc_1, hf⟩ := cb_s hf
  refine g_goi (g_run X (c_X4_fail l g  hc_1) s_X4_fail (oB_4 kc_15) q2_80 ⟨Nat.le_of_ble_eq_true rfl, Nat.le_of_ble_eq_true rfl⟩ hP hS rfl hl.1 rfl (Nat.le_of_ble_eq_true rfl) ⟨Nat.le_refl _, Nat.le_refl _⟩ dX4_takeNumber_101) hS (fun H locs hP hS => ?_)
  obtain ⟨hbz, hf⟩ := cbz_s hf
  exact g_zret X hP hS hbz (sm_i hf) dX4_takeNumber_104
def f_X4_takeNumber_81    (M : Mem) : Option (Int32 × Mem) :=
  cb (f_X4_fail (1 : Int32) M) fun r_3 M_2 =>
  cbz r_3 <| some (r_3, M_2)
set_option maxRecDepth 20000 in
theorem b_X4_takeNumber_81 {out : Int32 × Mem} (X : Bx p s m args meth c RX4 cX4_takeNumber 6 (some .boolean) g)         (M : Mem) {H : Heap} {locs : List Loc} {ls : Array Slot} (hf : f_X4_takeNumber_81 M = some out) (hP : va_P g.1 vwCl (gW g M) H) (hS : va_S (gA g) s.heap H locs) (hl : lv_has ls 6 [(0, .ref (gz g + 15))]) : W p l e (rM 1 21) s m args below meth c H locs 0 0 (MQ below (qI g out) args s 0 0 (gA g)) (F0 m 81 ls []) := by
  have hx := X.1
  have hb := X.2.1
  refine lv_aload_n hx hb dX4_takeNumber_81 rfl (lv_at hl 0 rfl) ?_
  refine lv_iconst (v := (1 : Int32)) hx hb dX4_takeNumber_82 (by decide) ?_
  obtain ⟨r_3, M_2, hc_1, hf⟩ := cb_s hf
  refine g_goi (g_run X (c_X4_fail l g  hc_1) s_X4_fail (oB_4 kc_15) q2_80 ⟨Nat.le_of_ble_eq_true rfl, Nat.le_of_ble_eq_true rfl⟩ hP hS rfl hl.1 rfl (Nat.le_of_ble_eq_true rfl) ⟨Nat.le_refl _, Nat.le_refl _⟩ dX4_takeNumber_83) hS (fun H locs hP hS => ?_)
  obtain ⟨hbz, hf⟩ := cbz_s hf
  exact g_zret X hP hS hbz (sm_i hf) dX4_takeNumber_86
def f_X4_takeNumber_71 (x1 : Int32) (x2 : Int32)  (x3 : Int32) (x4 : Int32) (M : Mem) : Option (Int32 × Mem) :=
  if x3 < (1 : Int32) then
    f_X4_takeNumber_81 M
  else
    if x3 ≤ (2 : Int32) then
      if x4 < x1 then
        f_X4_takeNumber_99 M
      else
        if x4 ≤ x2 then
          lt (up2 M 15 2 ((M 15 2) + x3)) fun M_5 =>
          lt (up2 M_5 15 4 x4) fun M_6 =>
          some ((1 : Int32), M_6)
        else
          f_X4_takeNumber_99 M
    else
      f_X4_takeNumber_81 M
set_option maxRecDepth 20000 in
theorem b_X4_takeNumber_71 {out : Int32 × Mem} (X : Bx p s m args meth c RX4 cX4_takeNumber 6 (some .boolean) g)   {x1 : Int32} {x2 : Int32}     (x3 : Int32) (x4 : Int32) (M : Mem) {H : Heap} {locs : List Loc} {ls : Array Slot} (hf : f_X4_takeNumber_71 x1 x2 x3 x4 M = some out) (hP : va_P g.1 vwCl (gW g M) H) (hS : va_S (gA g) s.heap H locs) (hl : lv_has ls 6 [(0, .ref (gz g + 15)), (1, .int x1), (2, .int x2), (3, .int x3), (4, .int x4)]) : W p l e (rM 1 21) s m args below meth c H locs 0 0 (MQ below (qI g out) args s 0 0 (gA g)) (F0 m 71 ls []) := by
  have hx := X.1
  have hb := X.2.1
  refine lv_iload_n hx hb dX4_takeNumber_71 rfl (lv_at hl 3 rfl) ?_
  refine lv_iconst (v := (1 : Int32)) hx hb dX4_takeNumber_72 (by decide) ?_
  refine lv_icmp_lt (tgt := 81) hx hb dX4_takeNumber_73 (by decide) (fun h_1 => ?_) (fun h_1 => ?_)
  · replace hf := it_t hf h_1
    exact b_X4_takeNumber_81 X   M hf hP hS (lv_sub hl [0] rfl)
  · replace hf := it_f hf h_1
    refine lv_iload_n hx hb dX4_takeNumber_76 rfl (lv_at hl 3 rfl) ?_
    refine lv_iconst (v := (2 : Int32)) hx hb dX4_takeNumber_77 (by decide) ?_
    refine lv_icmp_le (tgt := 87) hx hb dX4_takeNumber_78 (by decide) (fun h_2 => ?_) (fun h_2 => ?_)
    · replace hf := it_t hf h_2
      refine lv_iload hx hb dX4_takeNumber_87 (lv_at hl 4 rfl) ?_
      refine lv_iload_n hx hb dX4_takeNumber_89 rfl (lv_at hl 1 rfl) ?_
      refine lv_icmp_lt (tgt := 99) hx hb dX4_takeNumber_90 (by decide) (fun h_3 => ?_) (fun h_3 => ?_)
      · replace hf := it_t hf h_3
        exact b_X4_takeNumber_99 X   M hf hP hS (lv_sub hl [0] rfl)
      · replace hf := it_f hf h_3
        refine lv_iload hx hb dX4_takeNumber_93 (lv_at hl 4 rfl) ?_
        refine lv_iload_n hx hb dX4_takeNumber_95 rfl (lv_at hl 2 rfl) ?_
        refine lv_icmp_le (tgt := 105) hx hb dX4_takeNumber_96 (by decide) (fun h_4 => ?_) (fun h_4 => ?_)
        · replace hf := it_t hf h_4
          refine lv_aload_n hx hb dX4_takeNumber_105 rfl (lv_at hl 0 rfl) ?_
          refine lv_dup hx hb dX4_takeNumber_106 rfl ?_
          refine gf_4_2 X hP kc_15 q1_104 dX4_takeNumber_107 ?_
          refine lv_iload_n hx hb dX4_takeNumber_110 rfl (lv_at hl 3 rfl) ?_
          refine lv_iadd hx hb dX4_takeNumber_111 ?_
          refine gp_4_2 X hP hS kc_15 q1_104 dX4_takeNumber_112 (fun H locs M_5 eM_5 hP hS => ?_)
          replace hf := lt_go hf eM_5
          refine lv_aload_n hx hb dX4_takeNumber_115 rfl (lv_at hl 0 rfl) ?_
          refine lv_iload hx hb dX4_takeNumber_116 (lv_at hl 4 rfl) ?_
          refine gp_4_4 X hP hS kc_15 q1_108 dX4_takeNumber_118 (fun H locs M_6 eM_6 hP hS => ?_)
          replace hf := lt_go hf eM_6
          refine lv_iconst (v := (1 : Int32)) hx hb dX4_takeNumber_121 (by decide) ?_
          exact g_zret X hP hS rfl (sm_i hf) dX4_takeNumber_122
        · replace hf := it_f hf h_4
          exact b_X4_takeNumber_99 X   M hf hP hS (lv_sub hl [0] rfl)
    · replace hf := it_f hf h_2
      exact b_X4_takeNumber_81 X   M hf hP hS (lv_sub hl [0] rfl)
def f_X4_takeNumber_11 (x1 : Int32) (x2 : Int32)  : Nat → Int32 → Int32 → Int32 → Mem → Option (Int32 × Mem)
  | 0, _, _, _, _ => none
  | n + 1, x3, x4, x5, M =>
    if (M 15 1) ≤ x5 then
      f_X4_takeNumber_71 x1 x2 x3 x4 M
    else
      ck x5 100 <|
      if (M (15 + 1) x5.toNatClampNeg) < (48 : Int32) then
        f_X4_takeNumber_71 x1 x2 x3 x4 M
      else
        ck x5 100 <|
        if (57 : Int32) < (M (15 + 1) x5.toNatClampNeg) then
          f_X4_takeNumber_71 x1 x2 x3 x4 M
        else
          ck x5 100 <|
          lt ((((10 : Int32) * x4) + (M (15 + 1) x5.toNatClampNeg)) - (48 : Int32)) fun x4_7 =>
          (f_X4_takeNumber_11 x1 x2 n) (x3 + (1 : Int32)) x4_7 (x5 + (1 : Int32)) M
set_option maxRecDepth 20000 in
theorem b_X4_takeNumber_11 {out : Int32 × Mem} (X : Bx p s m args meth c RX4 cX4_takeNumber 6 (some .boolean) g)   {x1 : Int32} {x2 : Int32}     : ∀ (n : Nat) (x3 : Int32) (x4 : Int32) (x5 : Int32) (M : Mem) (H : Heap) (locs : List Loc) (ls : Array Slot), f_X4_takeNumber_11 x1 x2 n x3 x4 x5 M = some out → va_P g.1 vwCl (gW g M) H → va_S (gA g) s.heap H locs → lv_has ls 6 [(0, .ref (gz g + 15)), (1, .int x1), (2, .int x2), (3, .int x3), (4, .int x4), (5, .int x5)] → W p l e (rM 1 21) s m args below meth c H locs 0 0 (MQ below (qI g out) args s 0 0 (gA g)) (F0 m 11 ls []) := by
  have hx := X.1
  have hb := X.2.1
  intro n
  induction n with
  | zero => intro _ _ _ _ _ _ _ hf; cases hf
  | succ n ih =>
    intro x3 x4 x5 M H locs ls hf hP hS hl
    rw [f_X4_takeNumber_11] at hf
    refine lv_iload hx hb dX4_takeNumber_11 (lv_at hl 5 rfl) ?_
    refine lv_aload_n hx hb dX4_takeNumber_13 rfl (lv_at hl 0 rfl) ?_
    refine gf_4_1 X hP kc_15 q1_102 dX4_takeNumber_14 ?_
    refine lv_icmp_ge (tgt := 71) hx hb dX4_takeNumber_17 (by decide) (fun h_1 => ?_) (fun h_1 => ?_)
    · replace hf := it_t hf h_1
      exact b_X4_takeNumber_71 X  x3 x4 M hf hP hS (lv_sub hl [0, 1, 2, 3, 4] rfl)
    · replace hf := it_f hf h_1
      refine lv_aload_n hx hb dX4_takeNumber_20 rfl (lv_at hl 0 rfl) ?_
      refine gf_4_0 X hP kc_15 q1_101 dX4_takeNumber_21 ?_
      refine lv_iload hx hb dX4_takeNumber_24 (lv_at hl 5 rfl) ?_
      obtain ⟨hi_2, hf⟩ := ck_s hf
      refine ga_ld X hP (iA_11 kc_16) hi_2 dX4_takeNumber_26 ?_
      refine lv_bipush (v := (48 : Int32)) hx hb dX4_takeNumber_27 (by decide) ?_
      refine lv_icmp_lt (tgt := 71) hx hb dX4_takeNumber_29 (by decide) (fun h_3 => ?_) (fun h_3 => ?_)
      · replace hf := it_t hf h_3
        exact b_X4_takeNumber_71 X  x3 x4 M hf hP hS (lv_sub hl [0, 1, 2, 3, 4] rfl)
      · replace hf := it_f hf h_3
        refine lv_aload_n hx hb dX4_takeNumber_32 rfl (lv_at hl 0 rfl) ?_
        refine gf_4_0 X hP kc_15 q1_101 dX4_takeNumber_33 ?_
        refine lv_iload hx hb dX4_takeNumber_36 (lv_at hl 5 rfl) ?_
        obtain ⟨hi_4, hf⟩ := ck_s hf
        refine ga_ld X hP (iA_11 kc_16) hi_4 dX4_takeNumber_38 ?_
        refine lv_bipush (v := (57 : Int32)) hx hb dX4_takeNumber_39 (by decide) ?_
        refine lv_icmp_gt (tgt := 71) hx hb dX4_takeNumber_41 (by decide) (fun h_5 => ?_) (fun h_5 => ?_)
        · replace hf := it_t hf h_5
          exact b_X4_takeNumber_71 X  x3 x4 M hf hP hS (lv_sub hl [0, 1, 2, 3, 4] rfl)
        · replace hf := it_f hf h_5
          refine lv_bipush (v := (10 : Int32)) hx hb dX4_takeNumber_44 (by decide) ?_
          refine lv_iload hx hb dX4_takeNumber_46 (lv_at hl 4 rfl) ?_
          refine lv_imul hx hb dX4_takeNumber_48 ?_
          refine lv_aload_n hx hb dX4_takeNumber_49 rfl (lv_at hl 0 rfl) ?_
          refine gf_4_0 X hP kc_15 q1_101 dX4_takeNumber_50 ?_
          refine lv_iload hx hb dX4_takeNumber_53 (lv_at hl 5 rfl) ?_
          obtain ⟨hi_6, hf⟩ := ck_s hf
          refine ga_ld X hP (iA_11 kc_16) hi_6 dX4_takeNumber_55 ?_
          refine lv_iadd hx hb dX4_takeNumber_56 ?_
          refine lv_bipush (v := (48 : Int32)) hx hb dX4_takeNumber_57 (by decide) ?_
          refine lv_isub hx hb dX4_takeNumber_59 ?_
          refine lv_topi (fun x4_7 ex4_7 => ?_)
          replace hf := lt_go hf ex4_7
          refine lv_istore (lv' := [(4, .int x4_7), (0, .ref (gz g + 15)), (1, .int x1), (2, .int x2), (3, .int x3), (5, .int x5)]) hx hb dX4_takeNumber_60 hl (by decide) rfl (fun ls hl => ?_)
          refine lv_iinc (v := (x3 + (1 : Int32))) (lv' := [(3, .int (x3 + (1 : Int32))), (4, .int x4_7), (0, .ref (gz g + 15)), (1, .int x1), (2, .int x2), (5, .int x5)]) hx hb dX4_takeNumber_62 hl (k := 4) rfl rfl (by decide) rfl (fun ls hl => ?_)
          refine lv_iinc (v := (x5 + (1 : Int32))) (lv' := [(5, .int (x5 + (1 : Int32))), (3, .int (x3 + (1 : Int32))), (4, .int x4_7), (0, .ref (gz g + 15)), (1, .int x1), (2, .int x2)]) hx hb dX4_takeNumber_65 hl (k := 5) rfl rfl (by decide) rfl (fun ls hl => ?_)
          refine lv_goto (tgt := 11) hx hb dX4_takeNumber_68 (by decide) ?_
          exact ih (x3 + (1 : Int32)) x4_7 (x5 + (1 : Int32)) M _ _ _ hf hP hS (lv_sub hl [3, 4, 5, 1, 2, 0] rfl)
def f_X4_takeNumber (x1 : Int32) (x2 : Int32) (M : Mem) : Option (Int32 × Mem) :=
  lt (M 15 2) fun x5_1 =>
  f_X4_takeNumber_11 x1 x2 FU (0 : Int32) (0 : Int32) x5_1 M
set_option maxRecDepth 20000 in
theorem c_X4_takeNumber (l : Launch) (g : GC) {x1 : Int32} {x2 : Int32}  {M : Mem} {out : Int32 × Mem} (hf : f_X4_takeNumber x1 x2 M = some out) : cI l g yX4_takeNumber cX4_takeNumber 6 (some .boolean) (rM 1 21) [.ref (gz g + 15), .int x1, .int x2] M out := by
  refine g_met (by decide) (Nat.le_of_ble_eq_true rfl) ?_
  intro p e s m below meth c X hP hS ls hl
  have X : Bx p s m _ meth c RX4 cX4_takeNumber 6 (some .boolean) g := X
  have hl : lv_has ls 6 [(0, .ref (gz g + 15)), (1, .int x1), (2, .int x2)] := hl
  have hx := X.1
  have hb := X.2.1
  refine lv_iconst (v := (0 : Int32)) hx hb dX4_takeNumber_0 (by decide) ?_
  refine lv_istore_n (lv' := [(3, .int (0 : Int32)), (0, .ref (gz g + 15)), (1, .int x1), (2, .int x2)]) hx hb dX4_takeNumber_1 rfl hl (by decide) rfl (fun ls hl => ?_)
  refine lv_iconst (v := (0 : Int32)) hx hb dX4_takeNumber_2 (by decide) ?_
  refine lv_istore (lv' := [(4, .int (0 : Int32)), (3, .int (0 : Int32)), (0, .ref (gz g + 15)), (1, .int x1), (2, .int x2)]) hx hb dX4_takeNumber_3 hl (by decide) rfl (fun ls hl => ?_)
  refine lv_aload_n hx hb dX4_takeNumber_5 rfl (lv_at hl 2 rfl) ?_
  refine gf_4_2 X hP kc_15 q1_104 dX4_takeNumber_6 ?_
  refine lv_topi (fun x5_1 ex5_1 => ?_)
  replace hf := lt_go hf ex5_1
  refine lv_istore (lv' := [(5, .int x5_1), (4, .int (0 : Int32)), (3, .int (0 : Int32)), (0, .ref (gz g + 15)), (1, .int x1), (2, .int x2)]) hx hb dX4_takeNumber_9 hl (by decide) rfl (fun ls hl => ?_)
  exact b_X4_takeNumber_11 X  FU (0 : Int32) (0 : Int32) x5_1 M _ _ _ hf hP hS (lv_sub hl [3, 4, 5, 2, 1, 0] rfl)
def f_X4_readLaw (o1 : Nat) (M : Mem) : Option (Int32 × Mem) :=
  cb (f_X4_take (109 : Int32) M) fun r_3 M_2 =>
  if r_3 = 0 then
    some ((0 : Int32), M_2)
  else
    cb (f_X4_takeNumber (0 : Int32) (99 : Int32) M_2) fun r_7 M_6 =>
    if r_7 = 0 then
      some ((0 : Int32), M_6)
    else
      lt (up2 M_6 o1 2 (M_6 15 4)) fun M_9 =>
      cb (f_X4_take (44 : Int32) M_9) fun r_12 M_11 =>
      if r_12 = 0 then
        some ((0 : Int32), M_11)
      else
        cb (f_X4_takeNumber (0 : Int32) (3 : Int32) M_11) fun r_16 M_15 =>
        if r_16 = 0 then
          some ((0 : Int32), M_15)
        else
          lt (up2 M_15 o1 3 (M_15 15 4)) fun M_18 =>
          cb (f_X4_take (59 : Int32) M_18) fun r_21 M_20 =>
          cbz r_21 <| some (r_21, M_20)
set_option maxRecDepth 20000 in
theorem c_X4_readLaw (l : Launch) (g : GC) {o1 : Nat} (h1 : kd o1 = 5) {M : Mem} {out : Int32 × Mem} (hf : f_X4_readLaw o1 M = some out) : cI l g yX4_readLaw cX4_readLaw 2 (some .boolean) (rM 2 46) [.ref (gz g + 15), .ref (gz g + o1)] M out := by
  refine g_met (by decide) (Nat.le_of_ble_eq_true rfl) ?_
  intro p e s m below meth c X hP hS ls hl
  have X : Bx p s m _ meth c RX4 cX4_readLaw 2 (some .boolean) g := X
  have hl : lv_has ls 2 [(0, .ref (gz g + 15)), (1, .ref (gz g + o1))] := hl
  have hx := X.1
  have hb := X.2.1
  refine lv_aload_n hx hb dX4_readLaw_0 rfl (lv_at hl 0 rfl) ?_
  refine lv_bipush (v := (109 : Int32)) hx hb dX4_readLaw_1 (by decide) ?_
  obtain ⟨r_3, M_2, hc_1, hf⟩ := cb_s hf
  refine g_goi (g_run X (c_X4_take l g  hc_1) s_X4_take (oB_4 kc_15) q2_72 ⟨Nat.le_of_ble_eq_true rfl, Nat.le_of_ble_eq_true rfl⟩ hP hS rfl hl.1 rfl (Nat.le_of_ble_eq_true rfl) ⟨Nat.le_refl _, Nat.le_refl _⟩ dX4_readLaw_3) hS (fun H locs hP hS => ?_)
  refine lv_if_eq (tgt := 19) hx hb dX4_readLaw_6 (by decide) (fun h_4 => ?_) (fun h_4 => ?_)
  · replace hf := it_t hf h_4
    refine lv_iconst (v := (0 : Int32)) hx hb dX4_readLaw_19 (by decide) ?_
    exact g_zret X hP hS rfl (sm_i hf) dX4_readLaw_20
  · replace hf := it_f hf h_4
    refine lv_aload_n hx hb dX4_readLaw_9 rfl (lv_at hl 0 rfl) ?_
    refine lv_iconst (v := (0 : Int32)) hx hb dX4_readLaw_10 (by decide) ?_
    refine lv_bipush (v := (99 : Int32)) hx hb dX4_readLaw_11 (by decide) ?_
    obtain ⟨r_7, M_6, hc_5, hf⟩ := cb_s hf
    refine g_goi (g_run X (c_X4_takeNumber l g  hc_5) s_X4_takeNumber (oB_4 kc_15) q2_84 ⟨Nat.le_of_ble_eq_true rfl, Nat.le_of_ble_eq_true rfl⟩ hP hS rfl hl.1 rfl (Nat.le_of_ble_eq_true rfl) ⟨Nat.le_refl _, Nat.le_refl _⟩ dX4_readLaw_13) hS (fun H locs hP hS => ?_)
    refine lv_if_ne (tgt := 21) hx hb dX4_readLaw_16 (by decide) (fun h_8 => ?_) (fun h_8 => ?_)
    · replace hf := it_f hf h_8
      refine lv_aload_n hx hb dX4_readLaw_21 rfl (lv_at hl 1 rfl) ?_
      refine lv_aload_n hx hb dX4_readLaw_22 rfl (lv_at hl 0 rfl) ?_
      refine gf_4_4 X hP kc_15 q1_108 dX4_readLaw_23 ?_
      refine gp_5_2 X hP hS h1 q1_39 dX4_readLaw_26 (fun H locs M_9 eM_9 hP hS => ?_)
      replace hf := lt_go hf eM_9
      refine lv_aload_n hx hb dX4_readLaw_29 rfl (lv_at hl 0 rfl) ?_
      refine lv_bipush (v := (44 : Int32)) hx hb dX4_readLaw_30 (by decide) ?_
      obtain ⟨r_12, M_11, hc_10, hf⟩ := cb_s hf
      refine g_goi (g_run X (c_X4_take l g  hc_10) s_X4_take (oB_4 kc_15) q2_72 ⟨Nat.le_of_ble_eq_true rfl, Nat.le_of_ble_eq_true rfl⟩ hP hS rfl hl.1 rfl (Nat.le_of_ble_eq_true rfl) ⟨Nat.le_refl _, Nat.le_refl _⟩ dX4_readLaw_32) hS (fun H locs hP hS => ?_)
      refine lv_if_eq (tgt := 47) hx hb dX4_readLaw_35 (by decide) (fun h_13 => ?_) (fun h_13 => ?_)
      · replace hf := it_t hf h_13
        refine lv_iconst (v := (0 : Int32)) hx hb dX4_readLaw_47 (by decide) ?_
        exact g_zret X hP hS rfl (sm_i hf) dX4_readLaw_48
      · replace hf := it_f hf h_13
        refine lv_aload_n hx hb dX4_readLaw_38 rfl (lv_at hl 0 rfl) ?_
        refine lv_iconst (v := (0 : Int32)) hx hb dX4_readLaw_39 (by decide) ?_
        refine lv_iconst (v := (3 : Int32)) hx hb dX4_readLaw_40 (by decide) ?_
        obtain ⟨r_16, M_15, hc_14, hf⟩ := cb_s hf
        refine g_goi (g_run X (c_X4_takeNumber l g  hc_14) s_X4_takeNumber (oB_4 kc_15) q2_84 ⟨Nat.le_of_ble_eq_true rfl, Nat.le_of_ble_eq_true rfl⟩ hP hS rfl hl.1 rfl (Nat.le_of_ble_eq_true rfl) ⟨Nat.le_refl _, Nat.le_refl _⟩ dX4_readLaw_41) hS (fun H locs hP hS => ?_)
        refine lv_if_ne (tgt := 49) hx hb dX4_readLaw_44 (by decide) (fun h_17 => ?_) (fun h_17 => ?_)
        · replace hf := it_f hf h_17
          refine lv_aload_n hx hb dX4_readLaw_49 rfl (lv_at hl 1 rfl) ?_
          refine lv_aload_n hx hb dX4_readLaw_50 rfl (lv_at hl 0 rfl) ?_
          refine gf_4_4 X hP kc_15 q1_108 dX4_readLaw_51 ?_
          refine gp_5_3 X hP hS h1 q1_44 dX4_readLaw_54 (fun H locs M_18 eM_18 hP hS => ?_)
          replace hf := lt_go hf eM_18
          refine lv_aload_n hx hb dX4_readLaw_57 rfl (lv_at hl 0 rfl) ?_
          refine lv_bipush (v := (59 : Int32)) hx hb dX4_readLaw_58 (by decide) ?_
          obtain ⟨r_21, M_20, hc_19, hf⟩ := cb_s hf
          refine g_goi (g_run X (c_X4_take l g  hc_19) s_X4_take (oB_4 kc_15) q2_72 ⟨Nat.le_of_ble_eq_true rfl, Nat.le_of_ble_eq_true rfl⟩ hP hS rfl hl.1 rfl (Nat.le_of_ble_eq_true rfl) ⟨Nat.le_refl _, Nat.le_refl _⟩ dX4_readLaw_60) hS (fun H locs hP hS => ?_)
          obtain ⟨hbz, hf⟩ := cbz_s hf
          exact g_zret X hP hS hbz (sm_i hf) dX4_readLaw_63
        · replace hf := it_t hf h_17
          refine lv_iconst (v := (0 : Int32)) hx hb dX4_readLaw_47 (by decide) ?_
          exact g_zret X hP hS rfl (sm_i hf) dX4_readLaw_48
    · replace hf := it_t hf h_8
      refine lv_iconst (v := (0 : Int32)) hx hb dX4_readLaw_19 (by decide) ?_
      exact g_zret X hP hS rfl (sm_i hf) dX4_readLaw_20
def f_X4_readColumns_99    (M : Mem) : Option (Int32 × Mem) :=
  some ((1 : Int32), M)
set_option maxRecDepth 20000 in
theorem b_X4_readColumns_99 {out : Int32 × Mem} (X : Bx p s m args meth c RX4 cX4_readColumns 3 (some .boolean) g)         (M : Mem) {H : Heap} {locs : List Loc} {ls : Array Slot} (hf : f_X4_readColumns_99 M = some out) (hP : va_P g.1 vwCl (gW g M) H) (hS : va_S (gA g) s.heap H locs) (hl : lv_has ls 3 []) : W p l e (rM 2 46) s m args below meth c H locs 0 0 (MQ below (qI g out) args s 0 0 (gA g)) (F0 m 99 ls []) := by
  have hx := X.1
  have hb := X.2.1
  refine lv_iconst (v := (1 : Int32)) hx hb dX4_readColumns_99 (by decide) ?_
  refine lv_goto (tgt := 104) hx hb dX4_readColumns_100 (by decide) ?_
  exact g_zret X hP hS rfl (sm_i hf) dX4_readColumns_104
def f_X4_readColumns_83 (o1 : Nat)   (M : Mem) : Option (Int32 × Mem) :=
  if (4 : Int32) ≤ (M o1 0) then
    f_X4_readColumns_99 M
  else
    cb (f_X4_fail (1 : Int32) M) fun r_4 M_3 =>
    if r_4 = 0 then
      some ((0 : Int32), M_3)
    else
      f_X4_readColumns_99 M_3
set_option maxRecDepth 20000 in
theorem b_X4_readColumns_83 {out : Int32 × Mem} (X : Bx p s m args meth c RX4 cX4_readColumns 3 (some .boolean) g)   {o1 : Nat}  (h1 : kd o1 = 5)    (M : Mem) {H : Heap} {locs : List Loc} {ls : Array Slot} (hf : f_X4_readColumns_83 o1 M = some out) (hP : va_P g.1 vwCl (gW g M) H) (hS : va_S (gA g) s.heap H locs) (hl : lv_has ls 3 [(0, .ref (gz g + 15)), (1, .ref (gz g + o1))]) : W p l e (rM 2 46) s m args below meth c H locs 0 0 (MQ below (qI g out) args s 0 0 (gA g)) (F0 m 83 ls []) := by
  have hx := X.1
  have hb := X.2.1
  refine lv_aload_n hx hb dX4_readColumns_83 rfl (lv_at hl 1 rfl) ?_
  refine gf_5_0 X hP h1 q1_31 dX4_readColumns_84 ?_
  refine lv_iconst (v := (4 : Int32)) hx hb dX4_readColumns_87 (by decide) ?_
  refine lv_icmp_ge (tgt := 99) hx hb dX4_readColumns_88 (by decide) (fun h_1 => ?_) (fun h_1 => ?_)
  · replace hf := it_t hf h_1
    exact b_X4_readColumns_99 X   M hf hP hS (lv_sub hl [] rfl)
  · replace hf := it_f hf h_1
    refine lv_aload_n hx hb dX4_readColumns_91 rfl (lv_at hl 0 rfl) ?_
    refine lv_iconst (v := (1 : Int32)) hx hb dX4_readColumns_92 (by decide) ?_
    obtain ⟨r_4, M_3, hc_2, hf⟩ := cb_s hf
    refine g_goi (g_run X (c_X4_fail l g  hc_2) s_X4_fail (oB_4 kc_15) q2_80 ⟨Nat.le_of_ble_eq_true rfl, Nat.le_of_ble_eq_true rfl⟩ hP hS rfl hl.1 rfl (Nat.le_of_ble_eq_true rfl) ⟨Nat.le_refl _, Nat.le_refl _⟩ dX4_readColumns_93) hS (fun H locs hP hS => ?_)
    refine lv_if_eq (tgt := 103) hx hb dX4_readColumns_96 (by decide) (fun h_5 => ?_) (fun h_5 => ?_)
    · replace hf := it_t hf h_5
      refine lv_iconst (v := (0 : Int32)) hx hb dX4_readColumns_103 (by decide) ?_
      exact g_zret X hP hS rfl (sm_i hf) dX4_readColumns_104
    · replace hf := it_f hf h_5
      exact b_X4_readColumns_99 X   M_3 hf hP hS (lv_sub hl [] rfl)
def f_X4_readColumns_2 (o1 : Nat)  : Nat → Int32 → Mem → Option (Int32 × Mem)
  | 0, _, _ => none
  | n + 1, x2, M =>
    if (12 : Int32) < x2 then
      f_X4_readColumns_83 o1 M
    else
      cb (f_X4_coming M) fun r_4 M_3 =>
      if r_4 = (112 : Int32) then
        if x2 = (12 : Int32) then
          cb (f_X4_fail (3 : Int32) M_3) fun r_21 M_20 =>
          cbz r_21 <| some (r_21, M_20)
        else
          lt (up2 M_3 15 2 ((M_3 15 2) + (1 : Int32))) fun M_7 =>
          cb (f_X4_takeNumber (0 : Int32) (63 : Int32) M_7) fun r_10 M_9 =>
          if r_10 = 0 then
            some ((0 : Int32), M_9)
          else
            cb (f_X4_take (59 : Int32) M_9) fun r_14 M_13 =>
            if r_14 = 0 then
              some ((0 : Int32), M_13)
            else
              ck x2 12 <|
              lt (up2 M_13 (o1 + 1) x2.toNatClampNeg (M_13 15 4)) fun M_16 =>
              lt (up2 M_16 o1 0 (x2 + (1 : Int32))) fun M_18 =>
              (f_X4_readColumns_2 o1 n) (x2 + (1 : Int32)) M_18
      else
        f_X4_readColumns_83 o1 M_3
set_option maxRecDepth 20000 in
theorem b_X4_readColumns_2 {out : Int32 × Mem} (X : Bx p s m args meth c RX4 cX4_readColumns 3 (some .boolean) g)   {o1 : Nat}  (h1 : kd o1 = 5)   : ∀ (n : Nat) (x2 : Int32) (M : Mem) (H : Heap) (locs : List Loc) (ls : Array Slot), f_X4_readColumns_2 o1 n x2 M = some out → va_P g.1 vwCl (gW g M) H → va_S (gA g) s.heap H locs → lv_has ls 3 [(0, .ref (gz g + 15)), (1, .ref (gz g + o1)), (2, .int x2)] → W p l e (rM 2 46) s m args below meth c H locs 0 0 (MQ below (qI g out) args s 0 0 (gA g)) (F0 m 2 ls []) := by
  have hx := X.1
  have hb := X.2.1
  intro n
  induction n with
  | zero => intro _ _ _ _ _ hf; cases hf
  | succ n ih =>
    intro x2 M H locs ls hf hP hS hl
    rw [f_X4_readColumns_2] at hf
    refine lv_iload_n hx hb dX4_readColumns_2 rfl (lv_at hl 2 rfl) ?_
    refine lv_bipush (v := (12 : Int32)) hx hb dX4_readColumns_3 (by decide) ?_
    refine lv_icmp_gt (tgt := 83) hx hb dX4_readColumns_5 (by decide) (fun h_1 => ?_) (fun h_1 => ?_)
    · replace hf := it_t hf h_1
      exact b_X4_readColumns_83 X h1  M hf hP hS (lv_sub hl [0, 1] rfl)
    · replace hf := it_f hf h_1
      refine lv_aload_n hx hb dX4_readColumns_8 rfl (lv_at hl 0 rfl) ?_
      obtain ⟨r_4, M_3, hc_2, hf⟩ := cb_s hf
      refine g_goi (g_run X (c_X4_coming l g  hc_2) s_X4_coming (oB_4 kc_15) q2_76 ⟨Nat.le_of_ble_eq_true rfl, Nat.le_of_ble_eq_true rfl⟩ hP hS rfl hl.1 rfl (Nat.le_of_ble_eq_true rfl) ⟨Nat.le_refl _, Nat.le_refl _⟩ dX4_readColumns_9) hS (fun H locs hP hS => ?_)
      refine lv_bipush (v := (112 : Int32)) hx hb dX4_readColumns_12 (by decide) ?_
      refine lv_icmp_ne (tgt := 83) hx hb dX4_readColumns_14 (by decide) (fun h_5 => ?_) (fun h_5 => ?_)
      · replace hf := it_f hf h_5
        exact b_X4_readColumns_83 X h1  M_3 hf hP hS (lv_sub hl [0, 1] rfl)
      · replace hf := it_t hf h_5
        refine lv_iload_n hx hb dX4_readColumns_17 rfl (lv_at hl 2 rfl) ?_
        refine lv_bipush (v := (12 : Int32)) hx hb dX4_readColumns_18 (by decide) ?_
        refine lv_icmp_ne (tgt := 29) hx hb dX4_readColumns_20 (by decide) (fun h_6 => ?_) (fun h_6 => ?_)
        · replace hf := it_f hf h_6
          refine lv_aload_n hx hb dX4_readColumns_29 rfl (lv_at hl 0 rfl) ?_
          refine lv_dup hx hb dX4_readColumns_30 rfl ?_
          refine gf_4_2 X hP kc_15 q1_104 dX4_readColumns_31 ?_
          refine lv_iconst (v := (1 : Int32)) hx hb dX4_readColumns_34 (by decide) ?_
          refine lv_iadd hx hb dX4_readColumns_35 ?_
          refine gp_4_2 X hP hS kc_15 q1_104 dX4_readColumns_36 (fun H locs M_7 eM_7 hP hS => ?_)
          replace hf := lt_go hf eM_7
          refine lv_aload_n hx hb dX4_readColumns_39 rfl (lv_at hl 0 rfl) ?_
          refine lv_iconst (v := (0 : Int32)) hx hb dX4_readColumns_40 (by decide) ?_
          refine lv_bipush (v := (63 : Int32)) hx hb dX4_readColumns_41 (by decide) ?_
          obtain ⟨r_10, M_9, hc_8, hf⟩ := cb_s hf
          refine g_goi (g_run X (c_X4_takeNumber l g  hc_8) s_X4_takeNumber (oB_4 kc_15) q2_84 ⟨Nat.le_of_ble_eq_true rfl, Nat.le_of_ble_eq_true rfl⟩ hP hS rfl hl.1 rfl (Nat.le_of_ble_eq_true rfl) ⟨Nat.le_refl _, Nat.le_refl _⟩ dX4_readColumns_43) hS (fun H locs hP hS => ?_)
          refine lv_if_eq (tgt := 58) hx hb dX4_readColumns_46 (by decide) (fun h_11 => ?_) (fun h_11 => ?_)
          · replace hf := it_t hf h_11
            refine lv_iconst (v := (0 : Int32)) hx hb dX4_readColumns_58 (by decide) ?_
            exact g_zret X hP hS rfl (sm_i hf) dX4_readColumns_59
          · replace hf := it_f hf h_11
            refine lv_aload_n hx hb dX4_readColumns_49 rfl (lv_at hl 0 rfl) ?_
            refine lv_bipush (v := (59 : Int32)) hx hb dX4_readColumns_50 (by decide) ?_
            obtain ⟨r_14, M_13, hc_12, hf⟩ := cb_s hf
            refine g_goi (g_run X (c_X4_take l g  hc_12) s_X4_take (oB_4 kc_15) q2_72 ⟨Nat.le_of_ble_eq_true rfl, Nat.le_of_ble_eq_true rfl⟩ hP hS rfl hl.1 rfl (Nat.le_of_ble_eq_true rfl) ⟨Nat.le_refl _, Nat.le_refl _⟩ dX4_readColumns_52) hS (fun H locs hP hS => ?_)
            refine lv_if_ne (tgt := 60) hx hb dX4_readColumns_55 (by decide) (fun h_15 => ?_) (fun h_15 => ?_)
            · replace hf := it_f hf h_15
              refine lv_aload_n hx hb dX4_readColumns_60 rfl (lv_at hl 1 rfl) ?_
              refine gf_5_6 X hP h1 q1_51 dX4_readColumns_61 ?_
              refine lv_iload_n hx hb dX4_readColumns_64 rfl (lv_at hl 2 rfl) ?_
              refine lv_aload_n hx hb dX4_readColumns_65 rfl (lv_at hl 0 rfl) ?_
              refine gf_4_4 X hP kc_15 q1_108 dX4_readColumns_66 ?_
              obtain ⟨hi_17, hf⟩ := ck_s hf
              refine ga_st X hP hS (iA_9 (kdW1 h1)) hi_17 dX4_readColumns_69 (fun H locs M_16 eM_16 hP hS => ?_)
              replace hf := lt_go hf eM_16
              refine lv_aload_n hx hb dX4_readColumns_70 rfl (lv_at hl 1 rfl) ?_
              refine lv_iload_n hx hb dX4_readColumns_71 rfl (lv_at hl 2 rfl) ?_
              refine lv_iconst (v := (1 : Int32)) hx hb dX4_readColumns_72 (by decide) ?_
              refine lv_iadd hx hb dX4_readColumns_73 ?_
              refine gp_5_0 X hP hS h1 q1_31 dX4_readColumns_74 (fun H locs M_18 eM_18 hP hS => ?_)
              replace hf := lt_go hf eM_18
              refine lv_iinc (v := (x2 + (1 : Int32))) (lv' := [(2, .int (x2 + (1 : Int32))), (0, .ref (gz g + 15)), (1, .ref (gz g + o1))]) hx hb dX4_readColumns_77 hl (k := 2) rfl rfl (by decide) rfl (fun ls hl => ?_)
              refine lv_goto (tgt := 2) hx hb dX4_readColumns_80 (by decide) ?_
              exact ih (x2 + (1 : Int32)) M_18 _ _ _ hf hP hS (lv_sub hl [1, 2, 0] rfl)
            · replace hf := it_t hf h_15
              refine lv_iconst (v := (0 : Int32)) hx hb dX4_readColumns_58 (by decide) ?_
              exact g_zret X hP hS rfl (sm_i hf) dX4_readColumns_59
        · replace hf := it_t hf h_6
          refine lv_aload_n hx hb dX4_readColumns_23 rfl (lv_at hl 0 rfl) ?_
          refine lv_iconst (v := (3 : Int32)) hx hb dX4_readColumns_24 (by decide) ?_
          obtain ⟨r_21, M_20, hc_19, hf⟩ := cb_s hf
          refine g_goi (g_run X (c_X4_fail l g  hc_19) s_X4_fail (oB_4 kc_15) q2_80 ⟨Nat.le_of_ble_eq_true rfl, Nat.le_of_ble_eq_true rfl⟩ hP hS rfl hl.1 rfl (Nat.le_of_ble_eq_true rfl) ⟨Nat.le_refl _, Nat.le_refl _⟩ dX4_readColumns_25) hS (fun H locs hP hS => ?_)
          obtain ⟨hbz, hf⟩ := cbz_s hf
          exact g_zret X hP hS hbz (sm_i hf) dX4_readColumns_28
def f_X4_readColumns (o1 : Nat) (M : Mem) : Option (Int32 × Mem) :=
  f_X4_readColumns_2 o1 FU (0 : Int32) M
set_option maxRecDepth 20000 in
theorem c_X4_readColumns (l : Launch) (g : GC) {o1 : Nat} (h1 : kd o1 = 5) {M : Mem} {out : Int32 × Mem} (hf : f_X4_readColumns o1 M = some out) : cI l g yX4_readColumns cX4_readColumns 3 (some .boolean) (rM 2 46) [.ref (gz g + 15), .ref (gz g + o1)] M out := by
  refine g_met (by decide) (Nat.le_of_ble_eq_true rfl) ?_
  intro p e s m below meth c X hP hS ls hl
  have X : Bx p s m _ meth c RX4 cX4_readColumns 3 (some .boolean) g := X
  have hl : lv_has ls 3 [(0, .ref (gz g + 15)), (1, .ref (gz g + o1))] := hl
  have hx := X.1
  have hb := X.2.1
  refine lv_iconst (v := (0 : Int32)) hx hb dX4_readColumns_0 (by decide) ?_
  refine lv_istore_n (lv' := [(2, .int (0 : Int32)), (0, .ref (gz g + 15)), (1, .ref (gz g + o1))]) hx hb dX4_readColumns_1 rfl hl (by decide) rfl (fun ls hl => ?_)
  exact b_X4_readColumns_2 X h1 FU (0 : Int32) M _ _ _ hf hP hS (lv_sub hl [1, 2, 0] rfl)
def f_X4_kindOf (x0 : Int32) (M : Mem) : Option (Int32 × Mem) :=
  lt x0 fun v_1 =>
  if v_1 = (99 : Int32) then
    some ((5 : Int32), M)
  else
    if v_1 = (100 : Int32) then
      some ((2 : Int32), M)
    else
      if v_1 = (114 : Int32) then
        some ((4 : Int32), M)
      else
        if v_1 = (115 : Int32) then
          some ((1 : Int32), M)
        else
          if v_1 = (116 : Int32) then
            some ((3 : Int32), M)
          else
            some ((0 : Int32), M)
set_option maxRecDepth 20000 in
theorem c_X4_kindOf (l : Launch) (g : GC) {x0 : Int32}  {M : Mem} {out : Int32 × Mem} (hf : f_X4_kindOf x0 M = some out) : cI l g yX4_kindOf cX4_kindOf 1 (some .int) (rM 0 0) [.int x0] M out := by
  refine g_met (by decide) (Nat.le_of_ble_eq_true rfl) ?_
  intro p e s m below meth c X hP hS ls hl
  have X : Bx p s m _ meth c RX4 cX4_kindOf 1 (some .int) g := X
  have hl : lv_has ls 1 [(0, .int x0)] := hl
  have hx := X.1
  have hb := X.2.1
  refine lv_iload_n hx hb dX4_kindOf_0 rfl (lv_at hl 0 rfl) ?_
  refine lv_topi (fun v_1 ev_1 => ?_)
  replace hf := lt_go hf ev_1
  by_cases h_2 : v_1 = (99 : Int32)
  · replace hf := it_t hf h_2
    refine lv_lookup (off := 59) (tgt := 60) hx hb dX4_kindOf_1 (by decide) (by rw [h_2]; rfl) (by decide) ?_
    refine lv_iconst (v := (5 : Int32)) hx hb dX4_kindOf_60 (by decide) ?_
    exact g_iret X hP hS (sm_i hf) dX4_kindOf_61
  · replace hf := it_f hf h_2
    by_cases h_3 : v_1 = (100 : Int32)
    · replace hf := it_t hf h_3
      refine lv_lookup (off := 53) (tgt := 54) hx hb dX4_kindOf_1 (by decide) (by rw [h_3]; rfl) (by decide) ?_
      refine lv_iconst (v := (2 : Int32)) hx hb dX4_kindOf_54 (by decide) ?_
      exact g_iret X hP hS (sm_i hf) dX4_kindOf_55
    · replace hf := it_f hf h_3
      by_cases h_4 : v_1 = (114 : Int32)
      · replace hf := it_t hf h_4
        refine lv_lookup (off := 57) (tgt := 58) hx hb dX4_kindOf_1 (by decide) (by rw [h_4]; rfl) (by decide) ?_
        refine lv_iconst (v := (4 : Int32)) hx hb dX4_kindOf_58 (by decide) ?_
        exact g_iret X hP hS (sm_i hf) dX4_kindOf_59
      · replace hf := it_f hf h_4
        by_cases h_5 : v_1 = (115 : Int32)
        · replace hf := it_t hf h_5
          refine lv_lookup (off := 51) (tgt := 52) hx hb dX4_kindOf_1 (by decide) (by rw [h_5]; rfl) (by decide) ?_
          refine lv_iconst (v := (1 : Int32)) hx hb dX4_kindOf_52 (by decide) ?_
          exact g_iret X hP hS (sm_i hf) dX4_kindOf_53
        · replace hf := it_f hf h_5
          by_cases h_6 : v_1 = (116 : Int32)
          · replace hf := it_t hf h_6
            refine lv_lookup (off := 55) (tgt := 56) hx hb dX4_kindOf_1 (by decide) (by rw [h_6]; rfl) (by decide) ?_
            refine lv_iconst (v := (3 : Int32)) hx hb dX4_kindOf_56 (by decide) ?_
            exact g_iret X hP hS (sm_i hf) dX4_kindOf_57
          · replace hf := it_f hf h_6
            refine lv_lookup (off := 61) (tgt := 62) hx hb dX4_kindOf_1 (by decide) ((lv_osw h_2 rfl).trans ((lv_osw h_3 rfl).trans ((lv_osw h_4 rfl).trans ((lv_osw h_5 rfl).trans ((lv_osw h_6 rfl).trans rfl))))) (by decide) ?_
            refine lv_iconst (v := (0 : Int32)) hx hb dX4_kindOf_62 (by decide) ?_
            exact g_iret X hP hS (sm_i hf) dX4_kindOf_63
def f_X4_readTeeth_125    (M : Mem) : Option (Int32 × Mem) :=
  some ((1 : Int32), M)
set_option maxRecDepth 20000 in
theorem b_X4_readTeeth_125 {out : Int32 × Mem} (X : Bx p s m args meth c RX4 cX4_readTeeth 4 (some .boolean) g)         (M : Mem) {H : Heap} {locs : List Loc} {ls : Array Slot} (hf : f_X4_readTeeth_125 M = some out) (hP : va_P g.1 vwCl (gW g M) H) (hS : va_S (gA g) s.heap H locs) (hl : lv_has ls 4 []) : W p l e (rM 2 46) s m args below meth c H locs 0 0 (MQ below (qI g out) args s 0 0 (gA g)) (F0 m 125 ls []) := by
  have hx := X.1
  have hb := X.2.1
  refine lv_iconst (v := (1 : Int32)) hx hb dX4_readTeeth_125 (by decide) ?_
  refine lv_goto (tgt := 130) hx hb dX4_readTeeth_126 (by decide) ?_
  exact g_zret X hP hS rfl (sm_i hf) dX4_readTeeth_130
def f_X4_readTeeth_110 (o1 : Nat)   (M : Mem) : Option (Int32 × Mem) :=
  if 0 < (M o1 1) then
    f_X4_readTeeth_125 M
  else
    cb (f_X4_fail (1 : Int32) M) fun r_4 M_3 =>
    if r_4 = 0 then
      some ((0 : Int32), M_3)
    else
      f_X4_readTeeth_125 M_3
set_option maxRecDepth 20000 in
theorem b_X4_readTeeth_110 {out : Int32 × Mem} (X : Bx p s m args meth c RX4 cX4_readTeeth 4 (some .boolean) g)   {o1 : Nat}  (h1 : kd o1 = 5)    (M : Mem) {H : Heap} {locs : List Loc} {ls : Array Slot} (hf : f_X4_readTeeth_110 o1 M = some out) (hP : va_P g.1 vwCl (gW g M) H) (hS : va_S (gA g) s.heap H locs) (hl : lv_has ls 4 [(0, .ref (gz g + 15)), (1, .ref (gz g + o1))]) : W p l e (rM 2 46) s m args below meth c H locs 0 0 (MQ below (qI g out) args s 0 0 (gA g)) (F0 m 110 ls []) := by
  have hx := X.1
  have hb := X.2.1
  refine lv_aload_n hx hb dX4_readTeeth_110 rfl (lv_at hl 1 rfl) ?_
  refine gf_5_1 X hP h1 q1_35 dX4_readTeeth_111 ?_
  refine lv_if_gt (tgt := 125) hx hb dX4_readTeeth_114 (by decide) (fun h_1 => ?_) (fun h_1 => ?_)
  · replace hf := it_t hf h_1
    exact b_X4_readTeeth_125 X   M hf hP hS (lv_sub hl [] rfl)
  · replace hf := it_f hf h_1
    refine lv_aload_n hx hb dX4_readTeeth_117 rfl (lv_at hl 0 rfl) ?_
    refine lv_iconst (v := (1 : Int32)) hx hb dX4_readTeeth_118 (by decide) ?_
    obtain ⟨r_4, M_3, hc_2, hf⟩ := cb_s hf
    refine g_goi (g_run X (c_X4_fail l g  hc_2) s_X4_fail (oB_4 kc_15) q2_80 ⟨Nat.le_of_ble_eq_true rfl, Nat.le_of_ble_eq_true rfl⟩ hP hS rfl hl.1 rfl (Nat.le_of_ble_eq_true rfl) ⟨Nat.le_refl _, Nat.le_refl _⟩ dX4_readTeeth_119) hS (fun H locs hP hS => ?_)
    refine lv_if_eq (tgt := 129) hx hb dX4_readTeeth_122 (by decide) (fun h_5 => ?_) (fun h_5 => ?_)
    · replace hf := it_t hf h_5
      refine lv_iconst (v := (0 : Int32)) hx hb dX4_readTeeth_129 (by decide) ?_
      exact g_zret X hP hS rfl (sm_i hf) dX4_readTeeth_130
    · replace hf := it_f hf h_5
      exact b_X4_readTeeth_125 X   M_3 hf hP hS (lv_sub hl [] rfl)
def f_X4_readTeeth_2 (o1 : Nat)  : Nat → Int32 → Mem → Option (Int32 × Mem)
  | 0, _, _ => none
  | n + 1, x2, M =>
    if (6 : Int32) < x2 then
      f_X4_readTeeth_110 o1 M
    else
      if (M 15 1) ≤ (M 15 2) then
        f_X4_readTeeth_110 o1 M
      else
        cb (f_X4_coming M) fun r_5 M_4 =>
        cb (f_X4_kindOf r_5 M_4) fun r_8 M_7 =>
        if r_8 = 0 then
          cb (f_X4_fail (1 : Int32) M_7) fun r_30 M_29 =>
          cbz r_30 <| some (r_30, M_29)
        else
          if x2 = (6 : Int32) then
            cb (f_X4_fail (3 : Int32) M_7) fun r_27 M_26 =>
            cbz r_27 <| some (r_27, M_26)
          else
            lt (up2 M_7 15 2 ((M_7 15 2) + (1 : Int32))) fun M_11 =>
            cb (f_X4_takeNumber (1 : Int32) (9 : Int32) M_11) fun r_14 M_13 =>
            if r_14 = 0 then
              some ((0 : Int32), M_13)
            else
              cb (f_X4_take (59 : Int32) M_13) fun r_18 M_17 =>
              if r_18 = 0 then
                some ((0 : Int32), M_17)
              else
                ck x2 6 <|
                lt (up2 M_17 (o1 + 2) x2.toNatClampNeg r_8) fun M_20 =>
                ck x2 6 <|
                lt (up2 M_20 (o1 + 3) x2.toNatClampNeg (M_20 15 4)) fun M_22 =>
                lt (up2 M_22 o1 1 (x2 + (1 : Int32))) fun M_24 =>
                (f_X4_readTeeth_2 o1 n) (x2 + (1 : Int32)) M_24
set_option maxRecDepth 20000 in
theorem b_X4_readTeeth_2 {out : Int32 × Mem} (X : Bx p s m args meth c RX4 cX4_readTeeth 4 (some .boolean) g)   {o1 : Nat}  (h1 : kd o1 = 5)   : ∀ (n : Nat) (x2 : Int32) (M : Mem) (H : Heap) (locs : List Loc) (ls : Array Slot), f_X4_readTeeth_2 o1 n x2 M = some out → va_P g.1 vwCl (gW g M) H → va_S (gA g) s.heap H locs → lv_has ls 4 [(0, .ref (gz g + 15)), (1, .ref (gz g + o1)), (2, .int x2)] → W p l e (rM 2 46) s m args below meth c H locs 0 0 (MQ below (qI g out) args s 0 0 (gA g)) (F0 m 2 ls []) := by
  have hx := X.1
  have hb := X.2.1
  intro n
  induction n with
  | zero => intro _ _ _ _ _ hf; cases hf
  | succ n ih =>
    intro x2 M H locs ls hf hP hS hl
    rw [f_X4_readTeeth_2] at hf
    refine lv_iload_n hx hb dX4_readTeeth_2 rfl (lv_at hl 2 rfl) ?_
    refine lv_bipush (v := (6 : Int32)) hx hb dX4_readTeeth_3 (by decide) ?_
    refine lv_icmp_gt (tgt := 110) hx hb dX4_readTeeth_5 (by decide) (fun h_1 => ?_) (fun h_1 => ?_)
    · replace hf := it_t hf h_1
      exact b_X4_readTeeth_110 X h1  M hf hP hS (lv_sub hl [0, 1] rfl)
    · replace hf := it_f hf h_1
      refine lv_aload_n hx hb dX4_readTeeth_8 rfl (lv_at hl 0 rfl) ?_
      refine gf_4_2 X hP kc_15 q1_104 dX4_readTeeth_9 ?_
      refine lv_aload_n hx hb dX4_readTeeth_12 rfl (lv_at hl 0 rfl) ?_
      refine gf_4_1 X hP kc_15 q1_102 dX4_readTeeth_13 ?_
      refine lv_icmp_ge (tgt := 110) hx hb dX4_readTeeth_16 (by decide) (fun h_2 => ?_) (fun h_2 => ?_)
      · replace hf := it_t hf h_2
        exact b_X4_readTeeth_110 X h1  M hf hP hS (lv_sub hl [0, 1] rfl)
      · replace hf := it_f hf h_2
        refine lv_aload_n hx hb dX4_readTeeth_19 rfl (lv_at hl 0 rfl) ?_
        obtain ⟨r_5, M_4, hc_3, hf⟩ := cb_s hf
        refine g_goi (g_run X (c_X4_coming l g  hc_3) s_X4_coming (oB_4 kc_15) q2_76 ⟨Nat.le_of_ble_eq_true rfl, Nat.le_of_ble_eq_true rfl⟩ hP hS rfl hl.1 rfl (Nat.le_of_ble_eq_true rfl) ⟨Nat.le_refl _, Nat.le_refl _⟩ dX4_readTeeth_20) hS (fun H locs hP hS => ?_)
        obtain ⟨r_8, M_7, hc_6, hf⟩ := cb_s hf
        refine g_goi (g_runS X (c_X4_kindOf l g  hc_6) s_X4_kindOf q2_96 ⟨Nat.le_of_ble_eq_true rfl, Nat.le_of_ble_eq_true rfl⟩ hP hS rfl hl.1 rfl (Nat.le_of_ble_eq_true rfl) ⟨Nat.le_refl _, Nat.le_refl _⟩ dX4_readTeeth_23) hS (fun H locs hP hS => ?_)
        refine lv_istore_n (lv' := [(3, .int r_8), (0, .ref (gz g + 15)), (1, .ref (gz g + o1)), (2, .int x2)]) hx hb dX4_readTeeth_26 rfl hl (by decide) rfl (fun ls hl => ?_)
        refine lv_iload_n hx hb dX4_readTeeth_27 rfl (lv_at hl 0 rfl) ?_
        refine lv_if_ne (tgt := 37) hx hb dX4_readTeeth_28 (by decide) (fun h_9 => ?_) (fun h_9 => ?_)
        · replace hf := it_f hf h_9
          refine lv_iload_n hx hb dX4_readTeeth_37 rfl (lv_at hl 3 rfl) ?_
          refine lv_bipush (v := (6 : Int32)) hx hb dX4_readTeeth_38 (by decide) ?_
          refine lv_icmp_ne (tgt := 49) hx hb dX4_readTeeth_40 (by decide) (fun h_10 => ?_) (fun h_10 => ?_)
          · replace hf := it_f hf h_10
            refine lv_aload_n hx hb dX4_readTeeth_49 rfl (lv_at hl 1 rfl) ?_
            refine lv_dup hx hb dX4_readTeeth_50 rfl ?_
            refine gf_4_2 X hP kc_15 q1_104 dX4_readTeeth_51 ?_
            refine lv_iconst (v := (1 : Int32)) hx hb dX4_readTeeth_54 (by decide) ?_
            refine lv_iadd hx hb dX4_readTeeth_55 ?_
            refine gp_4_2 X hP hS kc_15 q1_104 dX4_readTeeth_56 (fun H locs M_11 eM_11 hP hS => ?_)
            replace hf := lt_go hf eM_11
            refine lv_aload_n hx hb dX4_readTeeth_59 rfl (lv_at hl 1 rfl) ?_
            refine lv_iconst (v := (1 : Int32)) hx hb dX4_readTeeth_60 (by decide) ?_
            refine lv_bipush (v := (9 : Int32)) hx hb dX4_readTeeth_61 (by decide) ?_
            obtain ⟨r_14, M_13, hc_12, hf⟩ := cb_s hf
            refine g_goi (g_run X (c_X4_takeNumber l g  hc_12) s_X4_takeNumber (oB_4 kc_15) q2_84 ⟨Nat.le_of_ble_eq_true rfl, Nat.le_of_ble_eq_true rfl⟩ hP hS rfl hl.1 rfl (Nat.le_of_ble_eq_true rfl) ⟨Nat.le_refl _, Nat.le_refl _⟩ dX4_readTeeth_63) hS (fun H locs hP hS => ?_)
            refine lv_if_eq (tgt := 78) hx hb dX4_readTeeth_66 (by decide) (fun h_15 => ?_) (fun h_15 => ?_)
            · replace hf := it_t hf h_15
              refine lv_iconst (v := (0 : Int32)) hx hb dX4_readTeeth_78 (by decide) ?_
              exact g_zret X hP hS rfl (sm_i hf) dX4_readTeeth_79
            · replace hf := it_f hf h_15
              refine lv_aload_n hx hb dX4_readTeeth_69 rfl (lv_at hl 1 rfl) ?_
              refine lv_bipush (v := (59 : Int32)) hx hb dX4_readTeeth_70 (by decide) ?_
              obtain ⟨r_18, M_17, hc_16, hf⟩ := cb_s hf
              refine g_goi (g_run X (c_X4_take l g  hc_16) s_X4_take (oB_4 kc_15) q2_72 ⟨Nat.le_of_ble_eq_true rfl, Nat.le_of_ble_eq_true rfl⟩ hP hS rfl hl.1 rfl (Nat.le_of_ble_eq_true rfl) ⟨Nat.le_refl _, Nat.le_refl _⟩ dX4_readTeeth_72) hS (fun H locs hP hS => ?_)
              refine lv_if_ne (tgt := 80) hx hb dX4_readTeeth_75 (by decide) (fun h_19 => ?_) (fun h_19 => ?_)
              · replace hf := it_f hf h_19
                refine lv_aload_n hx hb dX4_readTeeth_80 rfl (lv_at hl 2 rfl) ?_
                refine gf_5_7 X hP h1 q1_56 dX4_readTeeth_81 ?_
                refine lv_iload_n hx hb dX4_readTeeth_84 rfl (lv_at hl 3 rfl) ?_
                refine lv_iload_n hx hb dX4_readTeeth_85 rfl (lv_at hl 0 rfl) ?_
                obtain ⟨hi_21, hf⟩ := ck_s hf
                refine ga_st X hP hS (iA_8 (kdW2 h1)) hi_21 dX4_readTeeth_86 (fun H locs M_20 eM_20 hP hS => ?_)
                replace hf := lt_go hf eM_20
                refine lv_aload_n hx hb dX4_readTeeth_87 rfl (lv_at hl 2 rfl) ?_
                refine gf_5_8 X hP h1 q1_61 dX4_readTeeth_88 ?_
                refine lv_iload_n hx hb dX4_readTeeth_91 rfl (lv_at hl 3 rfl) ?_
                refine lv_aload_n hx hb dX4_readTeeth_92 rfl (lv_at hl 1 rfl) ?_
                refine gf_4_4 X hP kc_15 q1_108 dX4_readTeeth_93 ?_
                obtain ⟨hi_23, hf⟩ := ck_s hf
                refine ga_st X hP hS (iA_8 (kdW3 h1)) hi_23 dX4_readTeeth_96 (fun H locs M_22 eM_22 hP hS => ?_)
                replace hf := lt_go hf eM_22
                refine lv_aload_n hx hb dX4_readTeeth_97 rfl (lv_at hl 2 rfl) ?_
                refine lv_iload_n hx hb dX4_readTeeth_98 rfl (lv_at hl 3 rfl) ?_
                refine lv_iconst (v := (1 : Int32)) hx hb dX4_readTeeth_99 (by decide) ?_
                refine lv_iadd hx hb dX4_readTeeth_100 ?_
                refine gp_5_1 X hP hS h1 q1_35 dX4_readTeeth_101 (fun H locs M_24 eM_24 hP hS => ?_)
                replace hf := lt_go hf eM_24
                refine lv_iinc (v := (x2 + (1 : Int32))) (lv' := [(2, .int (x2 + (1 : Int32))), (3, .int r_8), (0, .ref (gz g + 15)), (1, .ref (gz g + o1))]) hx hb dX4_readTeeth_104 hl (k := 3) rfl rfl (by decide) rfl (fun ls hl => ?_)
                refine lv_goto (tgt := 2) hx hb dX4_readTeeth_107 (by decide) ?_
                exact ih (x2 + (1 : Int32)) M_24 _ _ _ hf hP hS (lv_sub hl [2, 3, 0] rfl)
              · replace hf := it_t hf h_19
                refine lv_iconst (v := (0 : Int32)) hx hb dX4_readTeeth_78 (by decide) ?_
                exact g_zret X hP hS rfl (sm_i hf) dX4_readTeeth_79
          · replace hf := it_t hf h_10
            refine lv_aload_n hx hb dX4_readTeeth_43 rfl (lv_at hl 1 rfl) ?_
            refine lv_iconst (v := (3 : Int32)) hx hb dX4_readTeeth_44 (by decide) ?_
            obtain ⟨r_27, M_26, hc_25, hf⟩ := cb_s hf
            refine g_goi (g_run X (c_X4_fail l g  hc_25) s_X4_fail (oB_4 kc_15) q2_80 ⟨Nat.le_of_ble_eq_true rfl, Nat.le_of_ble_eq_true rfl⟩ hP hS rfl hl.1 rfl (Nat.le_of_ble_eq_true rfl) ⟨Nat.le_refl _, Nat.le_refl _⟩ dX4_readTeeth_45) hS (fun H locs hP hS => ?_)
            obtain ⟨hbz, hf⟩ := cbz_s hf
            exact g_zret X hP hS hbz (sm_i hf) dX4_readTeeth_48
        · replace hf := it_t hf h_9
          refine lv_aload_n hx hb dX4_readTeeth_31 rfl (lv_at hl 1 rfl) ?_
          refine lv_iconst (v := (1 : Int32)) hx hb dX4_readTeeth_32 (by decide) ?_
          obtain ⟨r_30, M_29, hc_28, hf⟩ := cb_s hf
          refine g_goi (g_run X (c_X4_fail l g  hc_28) s_X4_fail (oB_4 kc_15) q2_80 ⟨Nat.le_of_ble_eq_true rfl, Nat.le_of_ble_eq_true rfl⟩ hP hS rfl hl.1 rfl (Nat.le_of_ble_eq_true rfl) ⟨Nat.le_refl _, Nat.le_refl _⟩ dX4_readTeeth_33) hS (fun H locs hP hS => ?_)
          obtain ⟨hbz, hf⟩ := cbz_s hf
          exact g_zret X hP hS hbz (sm_i hf) dX4_readTeeth_36
def f_X4_readTeeth (o1 : Nat) (M : Mem) : Option (Int32 × Mem) :=
  f_X4_readTeeth_2 o1 FU (0 : Int32) M
set_option maxRecDepth 20000 in
theorem c_X4_readTeeth (l : Launch) (g : GC) {o1 : Nat} (h1 : kd o1 = 5) {M : Mem} {out : Int32 × Mem} (hf : f_X4_readTeeth o1 M = some out) : cI l g yX4_readTeeth cX4_readTeeth 4 (some .boolean) (rM 2 46) [.ref (gz g + 15), .ref (gz g + o1)] M out := by
  refine g_met (by decide) (Nat.le_of_ble_eq_true rfl) ?_
  intro p e s m below meth c X hP hS ls hl
  have X : Bx p s m _ meth c RX4 cX4_readTeeth 4 (some .boolean) g := X
  have hl : lv_has ls 4 [(0, .ref (gz g + 15)), (1, .ref (gz g + o1))] := hl
  have hx := X.1
  have hb := X.2.1
  refine lv_iconst (v := (0 : Int32)) hx hb dX4_readTeeth_0 (by decide) ?_
  refine lv_istore_n (lv' := [(2, .int (0 : Int32)), (0, .ref (gz g + 15)), (1, .ref (gz g + o1))]) hx hb dX4_readTeeth_1 rfl hl (by decide) rfl (fun ls hl => ?_)
  exact b_X4_readTeeth_2 X h1 FU (0 : Int32) M _ _ _ hf hP hS (lv_sub hl [1, 2, 0] rfl)
def f_X4_readInto (o1 : Nat) (M : Mem) : Option (Int32 × Mem) :=
  lt (up2 M 15 2 (0 : Int32)) fun M_1 =>
  lt (up2 M_1 15 3 (0 : Int32)) fun M_2 =>
  cv (f_X5_clear o1 M_2) fun M_4 =>
  cb (f_X4_readLaw o1 M_4) fun r_7 M_6 =>
  if r_7 = 0 then
    some ((0 : Int32), M_6)
  else
    cb (f_X4_readColumns o1 M_6) fun r_11 M_10 =>
    if r_11 = 0 then
      some ((0 : Int32), M_10)
    else
      cb (f_X4_readTeeth o1 M_10) fun r_15 M_14 =>
      if r_15 = 0 then
        some ((0 : Int32), M_14)
      else
        some ((1 : Int32), M_14)
set_option maxRecDepth 20000 in
theorem c_X4_readInto (l : Launch) (g : GC) {o1 : Nat} (h1 : kd o1 = 5) {M : Mem} {out : Int32 × Mem} (hf : f_X4_readInto o1 M = some out) : cI l g yX4_readInto cX4_readInto 2 (some .boolean) (rM 3 69) [.ref (gz g + 15), .ref (gz g + o1)] M out := by
  refine g_met (by decide) (Nat.le_of_ble_eq_true rfl) ?_
  intro p e s m below meth c X hP hS ls hl
  have X : Bx p s m _ meth c RX4 cX4_readInto 2 (some .boolean) g := X
  have hl : lv_has ls 2 [(0, .ref (gz g + 15)), (1, .ref (gz g + o1))] := hl
  have hx := X.1
  have hb := X.2.1
  refine lv_aload_n hx hb dX4_readInto_0 rfl (lv_at hl 0 rfl) ?_
  refine lv_iconst (v := (0 : Int32)) hx hb dX4_readInto_1 (by decide) ?_
  refine gp_4_2 X hP hS kc_15 q1_104 dX4_readInto_2 (fun H locs M_1 eM_1 hP hS => ?_)
  replace hf := lt_go hf eM_1
  refine lv_aload_n hx hb dX4_readInto_5 rfl (lv_at hl 0 rfl) ?_
  refine lv_iconst (v := (0 : Int32)) hx hb dX4_readInto_6 (by decide) ?_
  refine gp_4_3 X hP hS kc_15 q1_106 dX4_readInto_7 (fun H locs M_2 eM_2 hP hS => ?_)
  replace hf := lt_go hf eM_2
  refine lv_aload_n hx hb dX4_readInto_10 rfl (lv_at hl 1 rfl) ?_
  obtain ⟨M_4, hc_3, hf⟩ := cv_s hf
  refine g_gov (g_run X (c_X5_clear l g h1 hc_3) s_X5_clear (oB_5 h1) q2_63 ⟨Nat.le_of_ble_eq_true rfl, Nat.le_of_ble_eq_true rfl⟩ hP hS rfl hl.1 rfl (Nat.le_of_ble_eq_true rfl) ⟨Nat.le_refl _, Nat.le_refl _⟩ dX4_readInto_11) hS (fun H locs hP hS => ?_)
  refine lv_aload_n hx hb dX4_readInto_14 rfl (lv_at hl 0 rfl) ?_
  refine lv_aload_n hx hb dX4_readInto_15 rfl (lv_at hl 1 rfl) ?_
  obtain ⟨r_7, M_6, hc_5, hf⟩ := cb_s hf
  refine g_goi (g_run X (c_X4_readLaw l g h1 hc_5) s_X4_readLaw (oB_4 kc_15) q2_68 ⟨Nat.le_of_ble_eq_true rfl, Nat.le_of_ble_eq_true rfl⟩ hP hS rfl hl.1 rfl (Nat.le_of_ble_eq_true rfl) ⟨Nat.le_refl _, Nat.le_refl _⟩ dX4_readInto_16) hS (fun H locs hP hS => ?_)
  refine lv_if_eq (tgt := 42) hx hb dX4_readInto_19 (by decide) (fun h_8 => ?_) (fun h_8 => ?_)
  · replace hf := it_t hf h_8
    refine lv_iconst (v := (0 : Int32)) hx hb dX4_readInto_42 (by decide) ?_
    exact g_zret X hP hS rfl (sm_i hf) dX4_readInto_43
  · replace hf := it_f hf h_8
    refine lv_aload_n hx hb dX4_readInto_22 rfl (lv_at hl 0 rfl) ?_
    refine lv_aload_n hx hb dX4_readInto_23 rfl (lv_at hl 1 rfl) ?_
    obtain ⟨r_11, M_10, hc_9, hf⟩ := cb_s hf
    refine g_goi (g_run X (c_X4_readColumns l g h1 hc_9) s_X4_readColumns (oB_4 kc_15) q2_88 ⟨Nat.le_of_ble_eq_true rfl, Nat.le_of_ble_eq_true rfl⟩ hP hS rfl hl.1 rfl (Nat.le_of_ble_eq_true rfl) ⟨Nat.le_refl _, Nat.le_refl _⟩ dX4_readInto_24) hS (fun H locs hP hS => ?_)
    refine lv_if_eq (tgt := 42) hx hb dX4_readInto_27 (by decide) (fun h_12 => ?_) (fun h_12 => ?_)
    · replace hf := it_t hf h_12
      refine lv_iconst (v := (0 : Int32)) hx hb dX4_readInto_42 (by decide) ?_
      exact g_zret X hP hS rfl (sm_i hf) dX4_readInto_43
    · replace hf := it_f hf h_12
      refine lv_aload_n hx hb dX4_readInto_30 rfl (lv_at hl 0 rfl) ?_
      refine lv_aload_n hx hb dX4_readInto_31 rfl (lv_at hl 1 rfl) ?_
      obtain ⟨r_15, M_14, hc_13, hf⟩ := cb_s hf
      refine g_goi (g_run X (c_X4_readTeeth l g h1 hc_13) s_X4_readTeeth (oB_4 kc_15) q2_92 ⟨Nat.le_of_ble_eq_true rfl, Nat.le_of_ble_eq_true rfl⟩ hP hS rfl hl.1 rfl (Nat.le_of_ble_eq_true rfl) ⟨Nat.le_refl _, Nat.le_refl _⟩ dX4_readInto_32) hS (fun H locs hP hS => ?_)
      refine lv_if_eq (tgt := 42) hx hb dX4_readInto_35 (by decide) (fun h_16 => ?_) (fun h_16 => ?_)
      · replace hf := it_t hf h_16
        refine lv_iconst (v := (0 : Int32)) hx hb dX4_readInto_42 (by decide) ?_
        exact g_zret X hP hS rfl (sm_i hf) dX4_readInto_43
      · replace hf := it_f hf h_16
        refine lv_iconst (v := (1 : Int32)) hx hb dX4_readInto_38 (by decide) ?_
        refine lv_goto (tgt := 43) hx hb dX4_readInto_39 (by decide) ?_
        exact g_zret X hP hS rfl (sm_i hf) dX4_readInto_43
def f_X1_forget  (M : Mem) : Option Mem :=
  lt (up2 M 17 2 (0 : Int32)) fun M_1 =>
  some M_1
set_option maxRecDepth 20000 in
theorem c_X1_forget (l : Launch) (g : GC)   {M : Mem} {out : Mem} (hf : f_X1_forget  M = some out) : cV l g yX1_forget cX1_forget 1 (rM 0 0) [.ref (gz g + 17)] M out := by
  refine g_met (by decide) (Nat.le_of_ble_eq_true rfl) ?_
  intro p e s m below meth c X hP hS ls hl
  have X : Bx p s m _ meth c RX1 cX1_forget 1 none g := X
  have hl : lv_has ls 1 [(0, .ref (gz g + 17))] := hl
  have hx := X.1
  have hb := X.2.1
  refine lv_aload_n hx hb dX1_forget_0 rfl (lv_at hl 0 rfl) ?_
  refine lv_iconst (v := (0 : Int32)) hx hb dX1_forget_1 (by decide) ?_
  refine gp_1_2 X hP hS kc_17 q1_130 dX1_forget_2 (fun H locs M_1 eM_1 hP hS => ?_)
  replace hf := lt_go hf eM_1
  exact g_vret X hP hS (sm_i hf) dX1_forget_5
def f_X1_bringBack_19 (o1 : Nat)  (t1 : Int32) (M : Mem) : Option Mem :=
  lt (up2 M 17 1 t1) fun M_1 =>
  ck (M_1 17 1) 24 <|
  cv (f_X5_takeFrom o1 (19 + 6 * ((M_1 17 1)).toNatClampNeg) M_1) fun M_4 =>
  lt (up2 M_4 17 2 ((M_4 17 2) - (1 : Int32))) fun M_5 =>
  some M_5
set_option maxRecDepth 20000 in
theorem b_X1_bringBack_19 {out : Mem} (X : Bx p s m args meth c RX1 cX1_bringBack 2 none g)   {o1 : Nat}  (h1 : kd o1 = 5)   (t1 : Int32) (M : Mem) {H : Heap} {locs : List Loc} {ls : Array Slot} (hf : f_X1_bringBack_19 o1 t1 M = some out) (hP : va_P g.1 vwCl (gW g M) H) (hS : va_S (gA g) s.heap H locs) (hl : lv_has ls 2 [(0, .ref (gz g + 17)), (1, .ref (gz g + o1))]) : W p l e (rM 2 61) s m args below meth c H locs 0 0 (MQ below (qV g out) args s 0 0 (gA g)) (F0 m 19 ls [.int t1, .ref (gz g + 17)]) := by
  have hx := X.1
  have hb := X.2.1
  refine gp_1_1 X hP hS kc_17 q1_129 dX1_bringBack_19 (fun H locs M_1 eM_1 hP hS => ?_)
  replace hf := lt_go hf eM_1
  refine lv_aload_n hx hb dX1_bringBack_22 rfl (lv_at hl 1 rfl) ?_
  refine lv_aload_n hx hb dX1_bringBack_23 rfl (lv_at hl 0 rfl) ?_
  refine gf_1_0 X hP kc_17 q1_128 dX1_bringBack_24 ?_
  refine lv_aload_n hx hb dX1_bringBack_27 rfl (lv_at hl 0 rfl) ?_
  refine gf_1_1 X hP kc_17 q1_129 dX1_bringBack_28 ?_
  obtain ⟨hi_2, hf⟩ := ck_s hf
  refine gr_kept X hP kc_18 hi_2 dX1_bringBack_31 ?_
  obtain ⟨M_4, hc_3, hf⟩ := cv_s hf
  refine g_gov (g_run X (c_X5_takeFrom l g h1 (kd_kept hi_2) hc_3) s_X5_takeFrom (oB_5 h1) q2_122 ⟨Nat.le_of_ble_eq_true rfl, Nat.le_of_ble_eq_true rfl⟩ hP hS rfl hl.1 rfl (Nat.le_of_ble_eq_true rfl) ⟨Nat.le_refl _, Nat.le_refl _⟩ dX1_bringBack_32) hS (fun H locs hP hS => ?_)
  refine lv_aload_n hx hb dX1_bringBack_35 rfl (lv_at hl 0 rfl) ?_
  refine lv_dup hx hb dX1_bringBack_36 rfl ?_
  refine gf_1_2 X hP kc_17 q1_130 dX1_bringBack_37 ?_
  refine lv_iconst (v := (1 : Int32)) hx hb dX1_bringBack_40 (by decide) ?_
  refine lv_isub hx hb dX1_bringBack_41 ?_
  refine gp_1_2 X hP hS kc_17 q1_130 dX1_bringBack_42 (fun H locs M_5 eM_5 hP hS => ?_)
  replace hf := lt_go hf eM_5
  exact g_vret X hP hS (sm_i hf) dX1_bringBack_45
def f_X1_bringBack (o1 : Nat) (M : Mem) : Option Mem :=
  if (M 17 1) ≤ 0 then
    f_X1_bringBack_19 o1 (23 : Int32) M
  else
    f_X1_bringBack_19 o1 ((M 17 1) - (1 : Int32)) M
set_option maxRecDepth 20000 in
theorem c_X1_bringBack (l : Launch) (g : GC) {o1 : Nat} (h1 : kd o1 = 5) {M : Mem} {out : Mem} (hf : f_X1_bringBack o1 M = some out) : cV l g yX1_bringBack cX1_bringBack 2 (rM 2 61) [.ref (gz g + 17), .ref (gz g + o1)] M out := by
  refine g_met (by decide) (Nat.le_of_ble_eq_true rfl) ?_
  intro p e s m below meth c X hP hS ls hl
  have X : Bx p s m _ meth c RX1 cX1_bringBack 2 none g := X
  have hl : lv_has ls 2 [(0, .ref (gz g + 17)), (1, .ref (gz g + o1))] := hl
  have hx := X.1
  have hb := X.2.1
  refine lv_aload_n hx hb dX1_bringBack_0 rfl (lv_at hl 0 rfl) ?_
  refine lv_aload_n hx hb dX1_bringBack_1 rfl (lv_at hl 0 rfl) ?_
  refine gf_1_1 X hP kc_17 q1_129 dX1_bringBack_2 ?_
  refine lv_if_le (tgt := 17) hx hb dX1_bringBack_5 (by decide) (fun h_1 => ?_) (fun h_1 => ?_)
  · replace hf := it_t hf h_1
    refine lv_bipush (v := (23 : Int32)) hx hb dX1_bringBack_17 (by decide) ?_
    exact b_X1_bringBack_19 X h1 (23 : Int32) M hf hP hS hl
  · replace hf := it_f hf h_1
    refine lv_aload_n hx hb dX1_bringBack_8 rfl (lv_at hl 0 rfl) ?_
    refine gf_1_1 X hP kc_17 q1_129 dX1_bringBack_9 ?_
    refine lv_iconst (v := (1 : Int32)) hx hb dX1_bringBack_12 (by decide) ?_
    refine lv_isub hx hb dX1_bringBack_13 ?_
    refine lv_goto (tgt := 19) hx hb dX1_bringBack_14 (by decide) ?_
    exact b_X1_bringBack_19 X h1 ((M 17 1) - (1 : Int32)) M hf hP hS hl
def f_X1_keep_35   (t1 : Int32) (M : Mem) : Option Mem :=
  lt (up2 M 17 1 t1) fun M_1 =>
  lt (up2 M_1 17 2 (if ((M_1 17 2) + (1 : Int32)) < (24 : Int32) then ((M_1 17 2) + (1 : Int32)) else (24 : Int32))) fun M_2 =>
  some M_2
set_option maxRecDepth 20000 in
theorem b_X1_keep_35 {out : Mem} (X : Bx p s m args meth c RX1 cX1_keep 2 none g)        (t1 : Int32) (M : Mem) {H : Heap} {locs : List Loc} {ls : Array Slot} (hf : f_X1_keep_35 t1 M = some out) (hP : va_P g.1 vwCl (gW g M) H) (hS : va_S (gA g) s.heap H locs) (hl : lv_has ls 2 [(0, .ref (gz g + 17))]) : W p l e (rM 2 61) s m args below meth c H locs 0 0 (MQ below (qV g out) args s 0 0 (gA g)) (F0 m 35 ls [.int t1, .ref (gz g + 17)]) := by
  have hx := X.1
  have hb := X.2.1
  refine gp_1_1 X hP hS kc_17 q1_129 dX1_keep_35 (fun H locs M_1 eM_1 hP hS => ?_)
  replace hf := lt_go hf eM_1
  refine lv_aload_n hx hb dX1_keep_38 rfl (lv_at hl 0 rfl) ?_
  refine lv_bipush (v := (24 : Int32)) hx hb dX1_keep_39 (by decide) ?_
  refine lv_aload_n hx hb dX1_keep_41 rfl (lv_at hl 0 rfl) ?_
  refine gf_1_2 X hP kc_17 q1_130 dX1_keep_42 ?_
  refine lv_iconst (v := (1 : Int32)) hx hb dX1_keep_45 (by decide) ?_
  refine lv_iadd hx hb dX1_keep_46 ?_
  refine va_mmin hx hb (by rw [X.2.2.1, hl.1]) X.2.2.2.1 (X.2.2.2.2.1 _ q2_135) (X.2.2.2.2.1 _ q2_136) (X.2.2.2.2.1 _ q1_11) (X.2.2.2.2.1 _ q2_137) (Nat.le_of_ble_eq_true rfl) (Nat.le_of_ble_eq_true rfl) (Nat.le_refl _) (Nat.le_refl _) dX1_keep_47 ?_
  refine gp_1_2 X hP hS kc_17 q1_130 dX1_keep_50 (fun H locs M_2 eM_2 hP hS => ?_)
  replace hf := lt_go hf eM_2
  exact g_vret X hP hS (sm_i hf) dX1_keep_53
def f_X1_keep (o1 : Nat) (M : Mem) : Option Mem :=
  ck (M 17 1) 24 <|
  cv (f_X5_takeFrom (19 + 6 * ((M 17 1)).toNatClampNeg) o1 M) fun M_3 =>
  if (24 : Int32) ≤ ((M_3 17 1) + (1 : Int32)) then
    f_X1_keep_35 (0 : Int32) M_3
  else
    f_X1_keep_35 ((M_3 17 1) + (1 : Int32)) M_3
set_option maxRecDepth 20000 in
theorem c_X1_keep (l : Launch) (g : GC) {o1 : Nat} (h1 : kd o1 = 5) {M : Mem} {out : Mem} (hf : f_X1_keep o1 M = some out) : cV l g yX1_keep cX1_keep 2 (rM 2 61) [.ref (gz g + 17), .ref (gz g + o1)] M out := by
  refine g_met (by decide) (Nat.le_of_ble_eq_true rfl) ?_
  intro p e s m below meth c X hP hS ls hl
  have X : Bx p s m _ meth c RX1 cX1_keep 2 none g := X
  have hl : lv_has ls 2 [(0, .ref (gz g + 17)), (1, .ref (gz g + o1))] := hl
  have hx := X.1
  have hb := X.2.1
  refine lv_aload_n hx hb dX1_keep_0 rfl (lv_at hl 0 rfl) ?_
  refine gf_1_0 X hP kc_17 q1_128 dX1_keep_1 ?_
  refine lv_aload_n hx hb dX1_keep_4 rfl (lv_at hl 0 rfl) ?_
  refine gf_1_1 X hP kc_17 q1_129 dX1_keep_5 ?_
  obtain ⟨hi_1, hf⟩ := ck_s hf
  refine gr_kept X hP kc_18 hi_1 dX1_keep_8 ?_
  refine lv_aload_n hx hb dX1_keep_9 rfl (lv_at hl 1 rfl) ?_
  obtain ⟨M_3, hc_2, hf⟩ := cv_s hf
  refine g_gov (g_run X (c_X5_takeFrom l g (kd_kept hi_1) h1 hc_2) s_X5_takeFrom (oB_5 (kd_kept hi_1)) q2_122 ⟨Nat.le_of_ble_eq_true rfl, Nat.le_of_ble_eq_true rfl⟩ hP hS rfl hl.1 rfl (Nat.le_of_ble_eq_true rfl) ⟨Nat.le_refl _, Nat.le_refl _⟩ dX1_keep_10) hS (fun H locs hP hS => ?_)
  refine lv_aload_n hx hb dX1_keep_13 rfl (lv_at hl 0 rfl) ?_
  refine lv_aload_n hx hb dX1_keep_14 rfl (lv_at hl 0 rfl) ?_
  refine gf_1_1 X hP kc_17 q1_129 dX1_keep_15 ?_
  refine lv_iconst (v := (1 : Int32)) hx hb dX1_keep_18 (by decide) ?_
  refine lv_iadd hx hb dX1_keep_19 ?_
  refine lv_bipush (v := (24 : Int32)) hx hb dX1_keep_20 (by decide) ?_
  refine lv_icmp_ge (tgt := 34) hx hb dX1_keep_22 (by decide) (fun h_4 => ?_) (fun h_4 => ?_)
  · replace hf := it_t hf h_4
    refine lv_iconst (v := (0 : Int32)) hx hb dX1_keep_34 (by decide) ?_
    exact b_X1_keep_35 X  (0 : Int32) M_3 hf hP hS (lv_sub hl [0] rfl)
  · replace hf := it_f hf h_4
    refine lv_aload_n hx hb dX1_keep_25 rfl (lv_at hl 0 rfl) ?_
    refine gf_1_1 X hP kc_17 q1_129 dX1_keep_26 ?_
    refine lv_iconst (v := (1 : Int32)) hx hb dX1_keep_29 (by decide) ?_
    refine lv_iadd hx hb dX1_keep_30 ?_
    refine lv_goto (tgt := 35) hx hb dX1_keep_31 (by decide) ?_
    exact b_X1_keep_35 X  ((M_3 17 1) + (1 : Int32)) M_3 hf hP hS (lv_sub hl [0] rfl)
def f_X0_leave (x1 : Int32) (M : Mem) : Option Mem :=
  if (16 : Int32) ≤ (M 249 2) then
    some M
  else
    ck (M 249 2) 16 <|
    lt (up2 M (249 + 1) ((M 249 2)).toNatClampNeg x1) fun M_2 =>
    lt (up2 M_2 249 2 ((M_2 249 2) + (1 : Int32))) fun M_4 =>
    some M_4
set_option maxRecDepth 20000 in
theorem c_X0_leave (l : Launch) (g : GC) {x1 : Int32}  {M : Mem} {out : Mem} (hf : f_X0_leave x1 M = some out) : cV l g yX0_leave cX0_leave 2 (rM 0 0) [.ref (gz g + 249), .int x1] M out := by
  refine g_met (by decide) (Nat.le_of_ble_eq_true rfl) ?_
  intro p e s m below meth c X hP hS ls hl
  have X : Bx p s m _ meth c RX0 cX0_leave 2 none g := X
  have hl : lv_has ls 2 [(0, .ref (gz g + 249)), (1, .int x1)] := hl
  have hx := X.1
  have hb := X.2.1
  refine lv_aload_n hx hb dX0_leave_0 rfl (lv_at hl 0 rfl) ?_
  refine gf_0_2 X hP kc_249 q1_166 dX0_leave_1 ?_
  refine lv_bipush (v := (16 : Int32)) hx hb dX0_leave_4 (by decide) ?_
  refine lv_icmp_ge (tgt := 29) hx hb dX0_leave_6 (by decide) (fun h_1 => ?_) (fun h_1 => ?_)
  · replace hf := it_t hf h_1
    exact g_vret X hP hS (sm_i hf) dX0_leave_29
  · replace hf := it_f hf h_1
    refine lv_aload_n hx hb dX0_leave_9 rfl (lv_at hl 0 rfl) ?_
    refine gf_0_1 X hP kc_249 q1_164 dX0_leave_10 ?_
    refine lv_aload_n hx hb dX0_leave_13 rfl (lv_at hl 0 rfl) ?_
    refine gf_0_2 X hP kc_249 q1_166 dX0_leave_14 ?_
    refine lv_iload_n hx hb dX0_leave_17 rfl (lv_at hl 1 rfl) ?_
    obtain ⟨hi_3, hf⟩ := ck_s hf
    refine ga_st X hP hS (iA_12 kc_250) hi_3 dX0_leave_18 (fun H locs M_2 eM_2 hP hS => ?_)
    replace hf := lt_go hf eM_2
    refine lv_aload_n hx hb dX0_leave_19 rfl (lv_at hl 0 rfl) ?_
    refine lv_dup hx hb dX0_leave_20 rfl ?_
    refine gf_0_2 X hP kc_249 q1_166 dX0_leave_21 ?_
    refine lv_iconst (v := (1 : Int32)) hx hb dX0_leave_24 (by decide) ?_
    refine lv_iadd hx hb dX0_leave_25 ?_
    refine gp_0_2 X hP hS kc_249 q1_166 dX0_leave_26 (fun H locs M_4 eM_4 hP hS => ?_)
    replace hf := lt_go hf eM_4
    exact g_vret X hP hS (sm_i hf) dX0_leave_29
def e_X0_body (fr_answer : Int32 → Int32 → Int32 → Mem → Option (Int32 × Mem)) (fr_body : Int32 → Int32 → Int32 → Mem → Option (Int32 × Mem)) (x1 : Int32) (x2 : Int32) (x3 : Int32) (M : Mem) : Option (Int32 × Mem) :=
  if x3 ≤ (20 : Int32) then
    cv (f_X0_leave x1 M) fun M_3 =>
    lt x1 fun v_4 =>
    if v_4 = (10 : Int32) then
      ck x2 6 <|
      some ((M_3 (3 + 3) x2.toNatClampNeg), M_3)
    else
      if v_4 = (11 : Int32) then
        cb (fr_body (10 : Int32) x2 (x3 + (1 : Int32)) M_3) fun r_10 M_9 =>
        cb (fr_answer (1 : Int32) x2 (x3 + (1 : Int32)) M_9) fun r_13 M_12 =>
        some ((r_10 + r_13), M_12)
      else
        if v_4 = (12 : Int32) then
          cb (fr_body (11 : Int32) x2 (x3 + (1 : Int32)) M_3) fun r_17 M_16 =>
          some ((-r_17), M_16)
        else
          if v_4 = (13 : Int32) then
            cb (fr_body (10 : Int32) x2 (x3 + (1 : Int32)) M_3) fun r_21 M_20 =>
            some ((r_21 - (100 : Int32)), M_20)
          else
            if v_4 = (14 : Int32) then
              cb (fr_body (13 : Int32) x2 (x3 + (1 : Int32)) M_3) fun r_25 M_24 =>
              some (((2 : Int32) * r_25), M_24)
            else
              if v_4 = (15 : Int32) then
                some ((0 : Int32), M_3)
              else
                if v_4 = (16 : Int32) then
                  some ((0 : Int32), M_3)
                else
                  if v_4 = (17 : Int32) then
                    some ((0 : Int32), M_3)
                  else
                    if v_4 = (18 : Int32) then
                      some ((0 : Int32), M_3)
                    else
                      if v_4 = (19 : Int32) then
                        some ((0 : Int32), M_3)
                      else
                        if v_4 = (20 : Int32) then
                          some (x2, M_3)
                        else
                          if v_4 = (21 : Int32) then
                            cb (fr_body (20 : Int32) x2 (x3 + (1 : Int32)) M_3) fun r_35 M_34 =>
                            ck x2 6 <|
                            some ((r_35 + (M_34 (3 + 4) x2.toNatClampNeg)), M_34)
                          else
                            if v_4 = (22 : Int32) then
                              cb (fr_body (21 : Int32) x2 (x3 + (1 : Int32)) M_3) fun r_40 M_39 =>
                              some ((r_40 - (1000 : Int32)), M_39)
                            else
                              if v_4 = (23 : Int32) then
                                cb (fr_body (20 : Int32) x2 (x3 + (1 : Int32)) M_3) fun r_44 M_43 =>
                                cb (fr_answer (0 : Int32) x2 (x3 + (1 : Int32)) M_43) fun r_47 M_46 =>
                                some ((r_44 - r_47), M_46)
                              else
                                if v_4 = (24 : Int32) then
                                  cb (fr_body (21 : Int32) x2 (x3 + (1 : Int32)) M_3) fun r_51 M_50 =>
                                  some (((2 : Int32) * r_51), M_50)
                                else
                                  some ((0 : Int32), M_3)
  else
    some ((0 : Int32), M)
set_option maxRecDepth 20000 in
theorem e_X0_body_ok (l : Launch) (g : GC) {d : Nat} {fr_answer : Int32 → Int32 → Int32 → Mem → Option (Int32 × Mem)} {fr_body : Int32 → Int32 → Int32 → Mem → Option (Int32 × Mem)}  (hfr_answer : ∀ (x1 : Int32) (x2 : Int32) (x3 : Int32)  (M : Mem) (out : Int32 × Mem), fr_answer x1 x2 x3 M = some out → cI l g yX0_answer cX0_answer 5 (some .int) (rM (d + 1) (d * 24 + 21)) [.ref (gz g + 249), .int x1, .int x2, .int x3] M out) (hfr_body : ∀ (x1 : Int32) (x2 : Int32) (x3 : Int32)  (M : Mem) (out : Int32 × Mem), fr_body x1 x2 x3 M = some out → cI l g yX0_body cX0_body 4 (some .int) (rM (d + 1) (d * 24 + 21)) [.ref (gz g + 249), .int x1, .int x2, .int x3] M out) {x1 : Int32} {x2 : Int32} {x3 : Int32}  {M : Mem} {out : Int32 × Mem} (hf : e_X0_body fr_answer fr_body x1 x2 x3 M = some out) : cI l g yX0_body cX0_body 4 (some .int) (rM ((d + 1) + 1) ((d + 1) * 24 + 21)) [.ref (gz g + 249), .int x1, .int x2, .int x3] M out := by
  refine g_met (by decide) (Nat.le_of_ble_eq_true rfl) ?_
  intro p e s m below meth c X hP hS ls hl
  have X : Bx p s m _ meth c RX0 cX0_body 4 (some .int) g := X
  have hl : lv_has ls 4 [(0, .ref (gz g + 249)), (1, .int x1), (2, .int x2), (3, .int x3)] := hl
  show W p l e (rM (d + 1 + 1) ((d + 1) * 24 + 21)) s m _ below meth c _ [] 0 0 _ _
  have hx := X.1
  have hb := X.2.1
  refine lv_iload_n hx hb dX0_body_0 rfl (lv_at hl 3 rfl) ?_
  refine lv_bipush (v := (20 : Int32)) hx hb dX0_body_1 (by decide) ?_
  refine lv_icmp_le (tgt := 8) hx hb dX0_body_3 (by decide) (fun h_1 => ?_) (fun h_1 => ?_)
  · replace hf := it_t hf h_1
    refine lv_aload_n hx hb dX0_body_8 rfl (lv_at hl 0 rfl) ?_
    refine lv_iload_n hx hb dX0_body_9 rfl (lv_at hl 1 rfl) ?_
    obtain ⟨M_3, hc_2, hf⟩ := cv_s hf
    refine g_gov (g_run X (c_X0_leave l g  hc_2) s_X0_leave (oB_0 kc_249) q3_234 ⟨show 0 + 1 ≤ d + 1 + 1 by omega, show 8 + (2 + 11) + 0 ≤ (d + 1) * 24 + 21 by omega⟩ hP hS rfl hl.1 rfl (Nat.le_of_ble_eq_true rfl) ⟨Nat.le_refl _, Nat.le_refl _⟩ dX0_body_10) hS (fun H locs hP hS => ?_)
    refine lv_iload_n hx hb dX0_body_13 rfl (lv_at hl 1 rfl) ?_
    refine lv_topi (fun v_4 ev_4 => ?_)
    replace hf := lt_go hf ev_4
    by_cases h_5 : v_4 = (10 : Int32)
    · replace hf := it_t hf h_5
      refine lv_tableIn (off := 74) (tgt := 88) hx hb dX0_body_14 (by rw [h_5]; decide) (by rw [h_5]; decide) (by rw [h_5]; rfl) (by decide) ?_
      refine lv_aload_n hx hb dX0_body_88 rfl (lv_at hl 0 rfl) ?_
      refine gf_0_0 X hP kc_249 q1_163 dX0_body_89 ?_
      refine gf_5_8 X hP kc_3 q1_60 dX0_body_92 ?_
      refine lv_iload_n hx hb dX0_body_95 rfl (lv_at hl 2 rfl) ?_
      obtain ⟨hi_6, hf⟩ := ck_s hf
      refine ga_ld X hP (iA_8 (kdW3 kc_3)) hi_6 dX0_body_96 ?_
      exact g_iret X hP hS (sm_i hf) dX0_body_97
    · replace hf := it_f hf h_5
      by_cases h_7 : v_4 = (11 : Int32)
      · replace hf := it_t hf h_7
        refine lv_tableIn (off := 84) (tgt := 98) hx hb dX0_body_14 (by rw [h_7]; decide) (by rw [h_7]; decide) (by rw [h_7]; rfl) (by decide) ?_
        refine lv_aload_n hx hb dX0_body_98 rfl (lv_at hl 0 rfl) ?_
        refine lv_bipush (v := (10 : Int32)) hx hb dX0_body_99 (by decide) ?_
        refine lv_iload_n hx hb dX0_body_101 rfl (lv_at hl 2 rfl) ?_
        refine lv_iload_n hx hb dX0_body_102 rfl (lv_at hl 3 rfl) ?_
        refine lv_iconst (v := (1 : Int32)) hx hb dX0_body_103 (by decide) ?_
        refine lv_iadd hx hb dX0_body_104 ?_
        obtain ⟨r_10, M_9, hc_8, hf⟩ := cb_s hf
        refine g_goi (g_run X (hfr_body (10 : Int32) x2 (x3 + (1 : Int32)) M_3 _ hc_8) s_X0_body (oB_0 kc_249) q3_230 ⟨show d + 1 + 1 ≤ d + 1 + 1 by omega, show 8 + (4 + 11) + (d * 24 + 21) ≤ (d + 1) * 24 + 21 by omega⟩ hP hS rfl hl.1 rfl (Nat.le_of_ble_eq_true rfl) ⟨Nat.le_refl _, Nat.le_refl _⟩ dX0_body_105) hS (fun H locs hP hS => ?_)
        refine lv_aload_n hx hb dX0_body_108 rfl (lv_at hl 0 rfl) ?_
        refine lv_iconst (v := (1 : Int32)) hx hb dX0_body_109 (by decide) ?_
        refine lv_iload_n hx hb dX0_body_110 rfl (lv_at hl 2 rfl) ?_
        refine lv_iload_n hx hb dX0_body_111 rfl (lv_at hl 3 rfl) ?_
        refine lv_iconst (v := (1 : Int32)) hx hb dX0_body_112 (by decide) ?_
        refine lv_iadd hx hb dX0_body_113 ?_
        obtain ⟨r_13, M_12, hc_11, hf⟩ := cb_s hf
        refine g_goi (g_run X (hfr_answer (1 : Int32) x2 (x3 + (1 : Int32)) M_9 _ hc_11) s_X0_answer (oB_0 kc_249) q3_222 ⟨show d + 1 + 1 ≤ d + 1 + 1 by omega, show 8 + (5 + 11) + (d * 24 + 21) ≤ (d + 1) * 24 + 21 by omega⟩ hP hS rfl hl.1 rfl (Nat.le_of_ble_eq_true rfl) ⟨Nat.le_refl _, Nat.le_refl _⟩ dX0_body_114) hS (fun H locs hP hS => ?_)
        refine lv_iadd hx hb dX0_body_117 ?_
        exact g_iret X hP hS (sm_i hf) dX0_body_118
      · replace hf := it_f hf h_7
        by_cases h_14 : v_4 = (12 : Int32)
        · replace hf := it_t hf h_14
          refine lv_tableIn (off := 105) (tgt := 119) hx hb dX0_body_14 (by rw [h_14]; decide) (by rw [h_14]; decide) (by rw [h_14]; rfl) (by decide) ?_
          refine lv_aload_n hx hb dX0_body_119 rfl (lv_at hl 0 rfl) ?_
          refine lv_bipush (v := (11 : Int32)) hx hb dX0_body_120 (by decide) ?_
          refine lv_iload_n hx hb dX0_body_122 rfl (lv_at hl 2 rfl) ?_
          refine lv_iload_n hx hb dX0_body_123 rfl (lv_at hl 3 rfl) ?_
          refine lv_iconst (v := (1 : Int32)) hx hb dX0_body_124 (by decide) ?_
          refine lv_iadd hx hb dX0_body_125 ?_
          obtain ⟨r_17, M_16, hc_15, hf⟩ := cb_s hf
          refine g_goi (g_run X (hfr_body (11 : Int32) x2 (x3 + (1 : Int32)) M_3 _ hc_15) s_X0_body (oB_0 kc_249) q3_230 ⟨show d + 1 + 1 ≤ d + 1 + 1 by omega, show 8 + (4 + 11) + (d * 24 + 21) ≤ (d + 1) * 24 + 21 by omega⟩ hP hS rfl hl.1 rfl (Nat.le_of_ble_eq_true rfl) ⟨Nat.le_refl _, Nat.le_refl _⟩ dX0_body_126) hS (fun H locs hP hS => ?_)
          refine lv_ineg hx hb dX0_body_129 ?_
          exact g_iret X hP hS (sm_i hf) dX0_body_130
        · replace hf := it_f hf h_14
          by_cases h_18 : v_4 = (13 : Int32)
          · replace hf := it_t hf h_18
            refine lv_tableIn (off := 117) (tgt := 131) hx hb dX0_body_14 (by rw [h_18]; decide) (by rw [h_18]; decide) (by rw [h_18]; rfl) (by decide) ?_
            refine lv_aload_n hx hb dX0_body_131 rfl (lv_at hl 0 rfl) ?_
            refine lv_bipush (v := (10 : Int32)) hx hb dX0_body_132 (by decide) ?_
            refine lv_iload_n hx hb dX0_body_134 rfl (lv_at hl 2 rfl) ?_
            refine lv_iload_n hx hb dX0_body_135 rfl (lv_at hl 3 rfl) ?_
            refine lv_iconst (v := (1 : Int32)) hx hb dX0_body_136 (by decide) ?_
            refine lv_iadd hx hb dX0_body_137 ?_
            obtain ⟨r_21, M_20, hc_19, hf⟩ := cb_s hf
            refine g_goi (g_run X (hfr_body (10 : Int32) x2 (x3 + (1 : Int32)) M_3 _ hc_19) s_X0_body (oB_0 kc_249) q3_230 ⟨show d + 1 + 1 ≤ d + 1 + 1 by omega, show 8 + (4 + 11) + (d * 24 + 21) ≤ (d + 1) * 24 + 21 by omega⟩ hP hS rfl hl.1 rfl (Nat.le_of_ble_eq_true rfl) ⟨Nat.le_refl _, Nat.le_refl _⟩ dX0_body_138) hS (fun H locs hP hS => ?_)
            refine lv_bipush (v := (100 : Int32)) hx hb dX0_body_141 (by decide) ?_
            refine lv_isub hx hb dX0_body_143 ?_
            exact g_iret X hP hS (sm_i hf) dX0_body_144
          · replace hf := it_f hf h_18
            by_cases h_22 : v_4 = (14 : Int32)
            · replace hf := it_t hf h_22
              refine lv_tableIn (off := 131) (tgt := 145) hx hb dX0_body_14 (by rw [h_22]; decide) (by rw [h_22]; decide) (by rw [h_22]; rfl) (by decide) ?_
              refine lv_iconst (v := (2 : Int32)) hx hb dX0_body_145 (by decide) ?_
              refine lv_aload_n hx hb dX0_body_146 rfl (lv_at hl 0 rfl) ?_
              refine lv_bipush (v := (13 : Int32)) hx hb dX0_body_147 (by decide) ?_
              refine lv_iload_n hx hb dX0_body_149 rfl (lv_at hl 2 rfl) ?_
              refine lv_iload_n hx hb dX0_body_150 rfl (lv_at hl 3 rfl) ?_
              refine lv_iconst (v := (1 : Int32)) hx hb dX0_body_151 (by decide) ?_
              refine lv_iadd hx hb dX0_body_152 ?_
              obtain ⟨r_25, M_24, hc_23, hf⟩ := cb_s hf
              refine g_goi (g_run X (hfr_body (13 : Int32) x2 (x3 + (1 : Int32)) M_3 _ hc_23) s_X0_body (oB_0 kc_249) q3_230 ⟨show d + 1 + 1 ≤ d + 1 + 1 by omega, show 8 + (4 + 11) + (d * 24 + 21) ≤ (d + 1) * 24 + 21 by omega⟩ hP hS rfl hl.1 rfl (Nat.le_of_ble_eq_true rfl) ⟨Nat.le_refl _, Nat.le_refl _⟩ dX0_body_153) hS (fun H locs hP hS => ?_)
              refine lv_imul hx hb dX0_body_156 ?_
              exact g_iret X hP hS (sm_i hf) dX0_body_157
            · replace hf := it_f hf h_22
              by_cases h_26 : v_4 = (15 : Int32)
              · replace hf := it_t hf h_26
                refine lv_tableIn (off := 216) (tgt := 230) hx hb dX0_body_14 (by rw [h_26]; decide) (by rw [h_26]; decide) (by rw [h_26]; rfl) (by decide) ?_
                refine lv_iconst (v := (0 : Int32)) hx hb dX0_body_230 (by decide) ?_
                exact g_iret X hP hS (sm_i hf) dX0_body_231
              · replace hf := it_f hf h_26
                by_cases h_27 : v_4 = (16 : Int32)
                · replace hf := it_t hf h_27
                  refine lv_tableIn (off := 216) (tgt := 230) hx hb dX0_body_14 (by rw [h_27]; decide) (by rw [h_27]; decide) (by rw [h_27]; rfl) (by decide) ?_
                  refine lv_iconst (v := (0 : Int32)) hx hb dX0_body_230 (by decide) ?_
                  exact g_iret X hP hS (sm_i hf) dX0_body_231
                · replace hf := it_f hf h_27
                  by_cases h_28 : v_4 = (17 : Int32)
                  · replace hf := it_t hf h_28
                    refine lv_tableIn (off := 216) (tgt := 230) hx hb dX0_body_14 (by rw [h_28]; decide) (by rw [h_28]; decide) (by rw [h_28]; rfl) (by decide) ?_
                    refine lv_iconst (v := (0 : Int32)) hx hb dX0_body_230 (by decide) ?_
                    exact g_iret X hP hS (sm_i hf) dX0_body_231
                  · replace hf := it_f hf h_28
                    by_cases h_29 : v_4 = (18 : Int32)
                    · replace hf := it_t hf h_29
                      refine lv_tableIn (off := 216) (tgt := 230) hx hb dX0_body_14 (by rw [h_29]; decide) (by rw [h_29]; decide) (by rw [h_29]; rfl) (by decide) ?_
                      refine lv_iconst (v := (0 : Int32)) hx hb dX0_body_230 (by decide) ?_
                      exact g_iret X hP hS (sm_i hf) dX0_body_231
                    · replace hf := it_f hf h_29
                      by_cases h_30 : v_4 = (19 : Int32)
                      · replace hf := it_t hf h_30
                        refine lv_tableIn (off := 216) (tgt := 230) hx hb dX0_body_14 (by rw [h_30]; decide) (by rw [h_30]; decide) (by rw [h_30]; rfl) (by decide) ?_
                        refine lv_iconst (v := (0 : Int32)) hx hb dX0_body_230 (by decide) ?_
                        exact g_iret X hP hS (sm_i hf) dX0_body_231
                      · replace hf := it_f hf h_30
                        by_cases h_31 : v_4 = (20 : Int32)
                        · replace hf := it_t hf h_31
                          refine lv_tableIn (off := 144) (tgt := 158) hx hb dX0_body_14 (by rw [h_31]; decide) (by rw [h_31]; decide) (by rw [h_31]; rfl) (by decide) ?_
                          refine lv_iload_n hx hb dX0_body_158 rfl (lv_at hl 2 rfl) ?_
                          exact g_iret X hP hS (sm_i hf) dX0_body_159
                        · replace hf := it_f hf h_31
                          by_cases h_32 : v_4 = (21 : Int32)
                          · replace hf := it_t hf h_32
                            refine lv_tableIn (off := 146) (tgt := 160) hx hb dX0_body_14 (by rw [h_32]; decide) (by rw [h_32]; decide) (by rw [h_32]; rfl) (by decide) ?_
                            refine lv_aload_n hx hb dX0_body_160 rfl (lv_at hl 0 rfl) ?_
                            refine lv_bipush (v := (20 : Int32)) hx hb dX0_body_161 (by decide) ?_
                            refine lv_iload_n hx hb dX0_body_163 rfl (lv_at hl 2 rfl) ?_
                            refine lv_iload_n hx hb dX0_body_164 rfl (lv_at hl 3 rfl) ?_
                            refine lv_iconst (v := (1 : Int32)) hx hb dX0_body_165 (by decide) ?_
                            refine lv_iadd hx hb dX0_body_166 ?_
                            obtain ⟨r_35, M_34, hc_33, hf⟩ := cb_s hf
                            refine g_goi (g_run X (hfr_body (20 : Int32) x2 (x3 + (1 : Int32)) M_3 _ hc_33) s_X0_body (oB_0 kc_249) q3_230 ⟨show d + 1 + 1 ≤ d + 1 + 1 by omega, show 8 + (4 + 11) + (d * 24 + 21) ≤ (d + 1) * 24 + 21 by omega⟩ hP hS rfl hl.1 rfl (Nat.le_of_ble_eq_true rfl) ⟨Nat.le_refl _, Nat.le_refl _⟩ dX0_body_167) hS (fun H locs hP hS => ?_)
                            refine lv_aload_n hx hb dX0_body_170 rfl (lv_at hl 0 rfl) ?_
                            refine gf_0_0 X hP kc_249 q1_163 dX0_body_171 ?_
                            refine gf_5_9 X hP kc_3 q1_66 dX0_body_174 ?_
                            refine lv_iload_n hx hb dX0_body_177 rfl (lv_at hl 2 rfl) ?_
                            obtain ⟨hi_36, hf⟩ := ck_s hf
                            refine ga_ld X hP (iA_8 (kdW4 kc_3)) hi_36 dX0_body_178 ?_
                            refine lv_iadd hx hb dX0_body_179 ?_
                            exact g_iret X hP hS (sm_i hf) dX0_body_180
                          · replace hf := it_f hf h_32
                            by_cases h_37 : v_4 = (22 : Int32)
                            · replace hf := it_t hf h_37
                              refine lv_tableIn (off := 167) (tgt := 181) hx hb dX0_body_14 (by rw [h_37]; decide) (by rw [h_37]; decide) (by rw [h_37]; rfl) (by decide) ?_
                              refine lv_aload_n hx hb dX0_body_181 rfl (lv_at hl 0 rfl) ?_
                              refine lv_bipush (v := (21 : Int32)) hx hb dX0_body_182 (by decide) ?_
                              refine lv_iload_n hx hb dX0_body_184 rfl (lv_at hl 2 rfl) ?_
                              refine lv_iload_n hx hb dX0_body_185 rfl (lv_at hl 3 rfl) ?_
                              refine lv_iconst (v := (1 : Int32)) hx hb dX0_body_186 (by decide) ?_
                              refine lv_iadd hx hb dX0_body_187 ?_
                              obtain ⟨r_40, M_39, hc_38, hf⟩ := cb_s hf
                              refine g_goi (g_run X (hfr_body (21 : Int32) x2 (x3 + (1 : Int32)) M_3 _ hc_38) s_X0_body (oB_0 kc_249) q3_230 ⟨show d + 1 + 1 ≤ d + 1 + 1 by omega, show 8 + (4 + 11) + (d * 24 + 21) ≤ (d + 1) * 24 + 21 by omega⟩ hP hS rfl hl.1 rfl (Nat.le_of_ble_eq_true rfl) ⟨Nat.le_refl _, Nat.le_refl _⟩ dX0_body_188) hS (fun H locs hP hS => ?_)
                              refine lv_sipush (v := (1000 : Int32)) hx hb dX0_body_191 (by decide) ?_
                              refine lv_isub hx hb dX0_body_194 ?_
                              exact g_iret X hP hS (sm_i hf) dX0_body_195
                            · replace hf := it_f hf h_37
                              by_cases h_41 : v_4 = (23 : Int32)
                              · replace hf := it_t hf h_41
                                refine lv_tableIn (off := 182) (tgt := 196) hx hb dX0_body_14 (by rw [h_41]; decide) (by rw [h_41]; decide) (by rw [h_41]; rfl) (by decide) ?_
                                refine lv_aload_n hx hb dX0_body_196 rfl (lv_at hl 0 rfl) ?_
                                refine lv_bipush (v := (20 : Int32)) hx hb dX0_body_197 (by decide) ?_
                                refine lv_iload_n hx hb dX0_body_199 rfl (lv_at hl 2 rfl) ?_
                                refine lv_iload_n hx hb dX0_body_200 rfl (lv_at hl 3 rfl) ?_
                                refine lv_iconst (v := (1 : Int32)) hx hb dX0_body_201 (by decide) ?_
                                refine lv_iadd hx hb dX0_body_202 ?_
                                obtain ⟨r_44, M_43, hc_42, hf⟩ := cb_s hf
                                refine g_goi (g_run X (hfr_body (20 : Int32) x2 (x3 + (1 : Int32)) M_3 _ hc_42) s_X0_body (oB_0 kc_249) q3_230 ⟨show d + 1 + 1 ≤ d + 1 + 1 by omega, show 8 + (4 + 11) + (d * 24 + 21) ≤ (d + 1) * 24 + 21 by omega⟩ hP hS rfl hl.1 rfl (Nat.le_of_ble_eq_true rfl) ⟨Nat.le_refl _, Nat.le_refl _⟩ dX0_body_203) hS (fun H locs hP hS => ?_)
                                refine lv_aload_n hx hb dX0_body_206 rfl (lv_at hl 0 rfl) ?_
                                refine lv_iconst (v := (0 : Int32)) hx hb dX0_body_207 (by decide) ?_
                                refine lv_iload_n hx hb dX0_body_208 rfl (lv_at hl 2 rfl) ?_
                                refine lv_iload_n hx hb dX0_body_209 rfl (lv_at hl 3 rfl) ?_
                                refine lv_iconst (v := (1 : Int32)) hx hb dX0_body_210 (by decide) ?_
                                refine lv_iadd hx hb dX0_body_211 ?_
                                obtain ⟨r_47, M_46, hc_45, hf⟩ := cb_s hf
                                refine g_goi (g_run X (hfr_answer (0 : Int32) x2 (x3 + (1 : Int32)) M_43 _ hc_45) s_X0_answer (oB_0 kc_249) q3_222 ⟨show d + 1 + 1 ≤ d + 1 + 1 by omega, show 8 + (5 + 11) + (d * 24 + 21) ≤ (d + 1) * 24 + 21 by omega⟩ hP hS rfl hl.1 rfl (Nat.le_of_ble_eq_true rfl) ⟨Nat.le_refl _, Nat.le_refl _⟩ dX0_body_212) hS (fun H locs hP hS => ?_)
                                refine lv_isub hx hb dX0_body_215 ?_
                                exact g_iret X hP hS (sm_i hf) dX0_body_216
                              · replace hf := it_f hf h_41
                                by_cases h_48 : v_4 = (24 : Int32)
                                · replace hf := it_t hf h_48
                                  refine lv_tableIn (off := 203) (tgt := 217) hx hb dX0_body_14 (by rw [h_48]; decide) (by rw [h_48]; decide) (by rw [h_48]; rfl) (by decide) ?_
                                  refine lv_iconst (v := (2 : Int32)) hx hb dX0_body_217 (by decide) ?_
                                  refine lv_aload_n hx hb dX0_body_218 rfl (lv_at hl 0 rfl) ?_
                                  refine lv_bipush (v := (21 : Int32)) hx hb dX0_body_219 (by decide) ?_
                                  refine lv_iload_n hx hb dX0_body_221 rfl (lv_at hl 2 rfl) ?_
                                  refine lv_iload_n hx hb dX0_body_222 rfl (lv_at hl 3 rfl) ?_
                                  refine lv_iconst (v := (1 : Int32)) hx hb dX0_body_223 (by decide) ?_
                                  refine lv_iadd hx hb dX0_body_224 ?_
                                  obtain ⟨r_51, M_50, hc_49, hf⟩ := cb_s hf
                                  refine g_goi (g_run X (hfr_body (21 : Int32) x2 (x3 + (1 : Int32)) M_3 _ hc_49) s_X0_body (oB_0 kc_249) q3_230 ⟨show d + 1 + 1 ≤ d + 1 + 1 by omega, show 8 + (4 + 11) + (d * 24 + 21) ≤ (d + 1) * 24 + 21 by omega⟩ hP hS rfl hl.1 rfl (Nat.le_of_ble_eq_true rfl) ⟨Nat.le_refl _, Nat.le_refl _⟩ dX0_body_225) hS (fun H locs hP hS => ?_)
                                  refine lv_imul hx hb dX0_body_228 ?_
                                  exact g_iret X hP hS (sm_i hf) dX0_body_229
                                · replace hf := it_f hf h_48
                                  refine lv_tableOut (tgt := 230) hx hb dX0_body_14 (by have n0 := lv_neT (a := 10) h_5 rfl; have n1 := lv_neT (a := 11) h_7 rfl; have n2 := lv_neT (a := 12) h_14 rfl; have n3 := lv_neT (a := 13) h_18 rfl; have n4 := lv_neT (a := 14) h_22 rfl; have n5 := lv_neT (a := 15) h_26 rfl; have n6 := lv_neT (a := 16) h_27 rfl; have n7 := lv_neT (a := 17) h_28 rfl; have n8 := lv_neT (a := 18) h_29 rfl; have n9 := lv_neT (a := 19) h_30 rfl; have n10 := lv_neT (a := 20) h_31 rfl; have n11 := lv_neT (a := 21) h_32 rfl; have n12 := lv_neT (a := 22) h_37 rfl; have n13 := lv_neT (a := 23) h_41 rfl; have n14 := lv_neT (a := 24) h_48 rfl; omega) (by decide) ?_
                                  refine lv_iconst (v := (0 : Int32)) hx hb dX0_body_230 (by decide) ?_
                                  exact g_iret X hP hS (sm_i hf) dX0_body_231
  · replace hf := it_f hf h_1
    refine lv_iconst (v := (0 : Int32)) hx hb dX0_body_6 (by decide) ?_
    exact g_iret X hP hS (sm_i hf) dX0_body_7
def f_X0_answer_31 (fr_answer : Int32 → Int32 → Int32 → Mem → Option (Int32 × Mem)) (fr_body : Int32 → Int32 → Int32 → Mem → Option (Int32 × Mem)) (x2 : Int32) (x3 : Int32)  (t1 : Int32) (M : Mem) : Option (Int32 × Mem) :=
  cb (fr_body t1 x2 (x3 + (1 : Int32)) M) fun r_3 M_2 =>
  some (r_3, M_2)
set_option maxRecDepth 20000 in
theorem b_X0_answer_31 {out : Int32 × Mem} (X : Bx p s m args meth c RX0 cX0_answer 5 (some .int) g) {d : Nat} {fr_answer : Int32 → Int32 → Int32 → Mem → Option (Int32 × Mem)} {fr_body : Int32 → Int32 → Int32 → Mem → Option (Int32 × Mem)}  (hfr_answer : ∀ (x1 : Int32) (x2 : Int32) (x3 : Int32)  (M : Mem) (out : Int32 × Mem), fr_answer x1 x2 x3 M = some out → cI l g yX0_answer cX0_answer 5 (some .int) (rM (d + 1) (d * 24 + 21)) [.ref (gz g + 249), .int x1, .int x2, .int x3] M out) (hfr_body : ∀ (x1 : Int32) (x2 : Int32) (x3 : Int32)  (M : Mem) (out : Int32 × Mem), fr_body x1 x2 x3 M = some out → cI l g yX0_body cX0_body 4 (some .int) (rM (d + 1) (d * 24 + 21)) [.ref (gz g + 249), .int x1, .int x2, .int x3] M out) {x2 : Int32} {x3 : Int32}     (t1 : Int32) (M : Mem) {H : Heap} {locs : List Loc} {ls : Array Slot} (hf : f_X0_answer_31 fr_answer fr_body x2 x3 t1 M = some out) (hP : va_P g.1 vwCl (gW g M) H) (hS : va_S (gA g) s.heap H locs) (hl : lv_has ls 5 [(2, .int x2), (3, .int x3)]) : W p l e (rM (d + 1 + 1) ((d + 1) * 24 + 21)) s m args below meth c H locs 0 0 (MQ below (qI g out) args s 0 0 (gA g)) (F0 m 31 ls [.int t1, .ref (gz g + 249)]) := by
  have hx := X.1
  have hb := X.2.1
  refine lv_iload_n hx hb dX0_answer_31 rfl (lv_at hl 0 rfl) ?_
  refine lv_iload_n hx hb dX0_answer_32 rfl (lv_at hl 1 rfl) ?_
  refine lv_iconst (v := (1 : Int32)) hx hb dX0_answer_33 (by decide) ?_
  refine lv_iadd hx hb dX0_answer_34 ?_
  obtain ⟨r_3, M_2, hc_1, hf⟩ := cb_s hf
  refine g_goi (g_run X (hfr_body t1 x2 (x3 + (1 : Int32)) M _ hc_1) s_X0_body (oB_0 kc_249) q3_230 ⟨show d + 1 + 1 ≤ d + 1 + 1 by omega, show 8 + (4 + 11) + (d * 24 + 21) ≤ (d + 1) * 24 + 21 by omega⟩ hP hS rfl hl.1 rfl (Nat.le_of_ble_eq_true rfl) ⟨Nat.le_refl _, Nat.le_refl _⟩ dX0_answer_35) hS (fun H locs hP hS => ?_)
  exact g_iret X hP hS (sm_i hf) dX0_answer_38
def e_X0_answer (fr_answer : Int32 → Int32 → Int32 → Mem → Option (Int32 × Mem)) (fr_body : Int32 → Int32 → Int32 → Mem → Option (Int32 × Mem)) (x1 : Int32) (x2 : Int32) (x3 : Int32) (M : Mem) : Option (Int32 × Mem) :=
  ck x2 6 <|
  lt (M (3 + 2) x2.toNatClampNeg) fun x4_2 =>
  if x1 = 0 then
    ck x4_2 6 <|
    f_X0_answer_31 fr_answer fr_body x2 x3 (tb2 x4_2.toNatClampNeg) M
  else
    ck x4_2 6 <|
    f_X0_answer_31 fr_answer fr_body x2 x3 (tb3 x4_2.toNatClampNeg) M
set_option maxRecDepth 20000 in
theorem e_X0_answer_ok (l : Launch) (g : GC) {d : Nat} {fr_answer : Int32 → Int32 → Int32 → Mem → Option (Int32 × Mem)} {fr_body : Int32 → Int32 → Int32 → Mem → Option (Int32 × Mem)}  (hfr_answer : ∀ (x1 : Int32) (x2 : Int32) (x3 : Int32)  (M : Mem) (out : Int32 × Mem), fr_answer x1 x2 x3 M = some out → cI l g yX0_answer cX0_answer 5 (some .int) (rM (d + 1) (d * 24 + 21)) [.ref (gz g + 249), .int x1, .int x2, .int x3] M out) (hfr_body : ∀ (x1 : Int32) (x2 : Int32) (x3 : Int32)  (M : Mem) (out : Int32 × Mem), fr_body x1 x2 x3 M = some out → cI l g yX0_body cX0_body 4 (some .int) (rM (d + 1) (d * 24 + 21)) [.ref (gz g + 249), .int x1, .int x2, .int x3] M out) {x1 : Int32} {x2 : Int32} {x3 : Int32}  {M : Mem} {out : Int32 × Mem} (hf : e_X0_answer fr_answer fr_body x1 x2 x3 M = some out) : cI l g yX0_answer cX0_answer 5 (some .int) (rM ((d + 1) + 1) ((d + 1) * 24 + 21)) [.ref (gz g + 249), .int x1, .int x2, .int x3] M out := by
  refine g_met (by decide) (Nat.le_of_ble_eq_true rfl) ?_
  intro p e s m below meth c X hP hS ls hl
  have X : Bx p s m _ meth c RX0 cX0_answer 5 (some .int) g := X
  have hl : lv_has ls 5 [(0, .ref (gz g + 249)), (1, .int x1), (2, .int x2), (3, .int x3)] := hl
  show W p l e (rM (d + 1 + 1) ((d + 1) * 24 + 21)) s m _ below meth c _ [] 0 0 _ _
  have hx := X.1
  have hb := X.2.1
  refine lv_aload_n hx hb dX0_answer_0 rfl (lv_at hl 0 rfl) ?_
  refine gf_0_0 X hP kc_249 q1_163 dX0_answer_1 ?_
  refine gf_5_7 X hP kc_3 q1_55 dX0_answer_4 ?_
  refine lv_iload_n hx hb dX0_answer_7 rfl (lv_at hl 2 rfl) ?_
  obtain ⟨hi_1, hf⟩ := ck_s hf
  refine ga_ld X hP (iA_8 (kdW2 kc_3)) hi_1 dX0_answer_8 ?_
  refine lv_topi (fun x4_2 ex4_2 => ?_)
  replace hf := lt_go hf ex4_2
  refine lv_istore (lv' := [(4, .int x4_2), (0, .ref (gz g + 249)), (1, .int x1), (2, .int x2), (3, .int x3)]) hx hb dX0_answer_9 hl (by decide) rfl (fun ls hl => ?_)
  refine lv_aload_n hx hb dX0_answer_11 rfl (lv_at hl 1 rfl) ?_
  refine lv_iload_n hx hb dX0_answer_12 rfl (lv_at hl 2 rfl) ?_
  refine lv_if_ne (tgt := 25) hx hb dX0_answer_13 (by decide) (fun h_3 => ?_) (fun h_3 => ?_)
  · replace hf := it_f hf h_3
    refine gs_3 X hS q3_228 dX0_answer_25 ?_
    refine lv_iload hx hb dX0_answer_28 (lv_at hl 0 rfl) ?_
    obtain ⟨hi_4, hf⟩ := ck_s hf
    refine gt_3 X hS hi_4 dX0_answer_30 ?_
    exact b_X0_answer_31 X hfr_answer hfr_body (tb3 x4_2.toNatClampNeg) M hf hP hS (lv_sub hl [3, 4] rfl)
  · replace hf := it_t hf h_3
    refine gs_2 X hS q3_226 dX0_answer_16 ?_
    refine lv_iload hx hb dX0_answer_19 (lv_at hl 0 rfl) ?_
    obtain ⟨hi_5, hf⟩ := ck_s hf
    refine gt_2 X hS hi_5 dX0_answer_21 ?_
    refine lv_goto (tgt := 31) hx hb dX0_answer_22 (by decide) ?_
    exact b_X0_answer_31 X hfr_answer hfr_body (tb2 x4_2.toNatClampNeg) M hf hP hS (lv_sub hl [3, 4] rfl)
def f_X0_answer_X0_body : Nat → (Int32 → Int32 → Int32 → Mem → Option (Int32 × Mem)) × (Int32 → Int32 → Int32 → Mem → Option (Int32 × Mem))
  | 0 => (fun _ _ _ _ => none, fun _ _ _ _ => none)
  | d + 1 => (e_X0_answer (f_X0_answer_X0_body d).1 (f_X0_answer_X0_body d).2, e_X0_body (f_X0_answer_X0_body d).1 (f_X0_answer_X0_body d).2)
def f_X0_answer (d : Nat) (x1 : Int32) (x2 : Int32) (x3 : Int32) (M : Mem) : Option (Int32 × Mem) := (f_X0_answer_X0_body d).1 x1 x2 x3 M
def f_X0_body (d : Nat) (x1 : Int32) (x2 : Int32) (x3 : Int32) (M : Mem) : Option (Int32 × Mem) := (f_X0_answer_X0_body d).2 x1 x2 x3 M
theorem c_f_X0_answer_X0_body_all (l : Launch) (g : GC) : ∀ (d : Nat), (∀ (x1 : Int32) (x2 : Int32) (x3 : Int32) (M : Mem) (out : Int32 × Mem), f_X0_answer d x1 x2 x3 M = some out → cI l g yX0_answer cX0_answer 5 (some .int) (rM (d + 1) (d * 24 + 21)) [.ref (gz g + 249), .int x1, .int x2, .int x3] M out) ∧ (∀ (x1 : Int32) (x2 : Int32) (x3 : Int32) (M : Mem) (out : Int32 × Mem), f_X0_body d x1 x2 x3 M = some out → cI l g yX0_body cX0_body 4 (some .int) (rM (d + 1) (d * 24 + 21)) [.ref (gz g + 249), .int x1, .int x2, .int x3] M out) := by
  intro d
  induction d with
  | zero => exact ⟨fun _ _ _ _ _ hf => (by cases hf), fun _ _ _ _ _ hf => (by cases hf)⟩
  | succ d ih =>
    refine ⟨fun x1 x2 x3 M out hf => e_X0_answer_ok l g ih.1 ih.2 hf, fun x1 x2 x3 M out hf => e_X0_body_ok l g ih.1 ih.2 hf⟩
theorem c_X0_answer (l : Launch) (g : GC) (d : Nat) {x1 : Int32} {x2 : Int32} {x3 : Int32} {M : Mem} {out : Int32 × Mem} (hf : f_X0_answer d x1 x2 x3 M = some out) : cI l g yX0_answer cX0_answer 5 (some .int) (rM (d + 1) (d * 24 + 21)) [.ref (gz g + 249), .int x1, .int x2, .int x3] M out := (c_f_X0_answer_X0_body_all l g d).1 _ _ _ _ _ hf
theorem c_X0_body (l : Launch) (g : GC) (d : Nat) {x1 : Int32} {x2 : Int32} {x3 : Int32} {M : Mem} {out : Int32 × Mem} (hf : f_X0_body d x1 x2 x3 M = some out) : cI l g yX0_body cX0_body 4 (some .int) (rM (d + 1) (d * 24 + 21)) [.ref (gz g + 249), .int x1, .int x2, .int x3] M out := (c_f_X0_answer_X0_body_all l g d).2 _ _ _ _ _ hf
def f_X0_start (x1 : Int32) (x2 : Int32) (M : Mem) : Option (Int32 × Mem) :=
  lt (up2 M 249 2 (0 : Int32)) fun M_1 =>
  cb (f_X0_answer 24 x1 x2 (0 : Int32) M_1) fun r_4 M_3 =>
  some (r_4, M_3)
set_option maxRecDepth 20000 in
theorem c_X0_start (l : Launch) (g : GC) {x1 : Int32} {x2 : Int32}  {M : Mem} {out : Int32 × Mem} (hf : f_X0_start x1 x2 M = some out) : cI l g yX0_start cX0_start 3 (some .int) (rM 26 621) [.ref (gz g + 249), .int x1, .int x2] M out := by
  refine g_met (by decide) (Nat.le_of_ble_eq_true rfl) ?_
  intro p e s m below meth c X hP hS ls hl
  have X : Bx p s m _ meth c RX0 cX0_start 3 (some .int) g := X
  have hl : lv_has ls 3 [(0, .ref (gz g + 249)), (1, .int x1), (2, .int x2)] := hl
  have hx := X.1
  have hb := X.2.1
  refine lv_aload_n hx hb dX0_start_0 rfl (lv_at hl 0 rfl) ?_
  refine lv_iconst (v := (0 : Int32)) hx hb dX0_start_1 (by decide) ?_
  refine gp_0_2 X hP hS kc_249 q1_166 dX0_start_2 (fun H locs M_1 eM_1 hP hS => ?_)
  replace hf := lt_go hf eM_1
  refine lv_aload_n hx hb dX0_start_5 rfl (lv_at hl 0 rfl) ?_
  refine lv_iload_n hx hb dX0_start_6 rfl (lv_at hl 1 rfl) ?_
  refine lv_iload_n hx hb dX0_start_7 rfl (lv_at hl 2 rfl) ?_
  refine lv_iconst (v := (0 : Int32)) hx hb dX0_start_8 (by decide) ?_
  obtain ⟨r_4, M_3, hc_2, hf⟩ := cb_s hf
  refine g_goi (g_run X (c_X0_answer l g 24  hc_2) s_X0_answer (oB_0 kc_249) q3_222 ⟨Nat.le_of_ble_eq_true rfl, Nat.le_of_ble_eq_true rfl⟩ hP hS rfl hl.1 rfl (Nat.le_of_ble_eq_true rfl) ⟨Nat.le_refl _, Nat.le_refl _⟩ dX0_start_9) hS (fun H locs hP hS => ?_)
  exact g_iret X hP hS (sm_i hf) dX0_start_12
