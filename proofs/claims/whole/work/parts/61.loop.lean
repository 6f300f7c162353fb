/-! the law's loop -/
theorem and63 (x : Int32) : ∃ v, v < 64 ∧ x &&& (63 : Int32) = nI v := by
  have e : x = nI x.toBitVec.toNat := by
    apply Int32.toBitVec_inj.1
    show x.toBitVec = BitVec.ofNat 32 x.toBitVec.toNat
    simp
  refine ⟨x.toBitVec.toNat &&& 63, Nat.lt_of_le_of_lt Nat.and_le_right (by decide), ?_⟩
  rw [e, l_63, nand, ← e]
theorem le6 {i L : Nat} (hi : i < 1000000) (hL : L < 1000000) : (nI L - (6 : Int32) < nI i) = ¬ (i + 6 ≤ L) := by
  refine propext ?_
  rw [Int32.lt_iff_toInt_lt, l_6, pk_sub_toInt (by omega) (by omega), nI_toInt (by omega)]
  omega
set_option maxRecDepth 20000 in
theorem law_loop {p : Program} {l : Launch} {e : Env} {s : State} {m : MethodId} {below : List Frame} {meth : Method} {c : Code} {g : GC} {b L : Nat} {xs : Nat → Int32} (hL : L ≤ 3072) (X : Lx p s m meth c g b L xs) (hz : gz g = s.heap.size) :
    ∀ (n i : Nat) (M : Mem) (H : Heap) (locs : List Loc) (ls : Array Slot), L < i + n → i ≤ L → Inv M → va_P g.1 vwCl (gW g M) H → va_S (gA g) s.heap H locs → lv_has ls 4 [(0, .ref b), (1, .ref (gz g + 0)), (2, .ref (gz g + 279)), (3, .int (nI i))] → W p l e room_1 s m #[Value.ref b] below meth c H locs 600000 7302249 (lw_Z below #[Value.ref b] s) (F0 m 18 ls []) := by
  have hx := X.1.1
  have hb := X.1.2.1
  intro n
  induction n with
  | zero => intro i M H locs ls h1 h2; omega
  | succ n ih =>
    intro i M H locs ls hin hi hI hP hS hl
    refine lv_iload_n hx hb dL_law_18 rfl (lv_at hl 3 rfl) ?_
    refine lv_aload_n hx hb dL_law_19 rfl (lv_at hl 0 rfl) ?_
    refine va_slen hx hb X.2.1 X.2.2.1 X.2.2.2 hS dL_law_20 ?_
    refine lv_bipush (v := (6 : Int32)) hx hb dL_law_21 (by decide) ?_
    refine lv_isub hx hb dL_law_23 ?_
    refine lv_icmp_gt (tgt := 1351) hx hb dL_law_24 (by decide) (fun h_1 => ?_) (fun h_1 => ?_)
    · refine lv_iconst (v := 1) hx hb dL_law_1351 (by decide) ?_
      refine va_forget (fun q hq => by rw [← hz]; exact hS.2.2 q hq) ?_
      exact lw_ret hx hb X.1.2.2.2.2.2.2.2.1 X.1.2.2.2.2.2.2.2.2 dL_law_1352
    have h6 : i + 6 ≤ L := by
      have h2 : ¬ (nI L - (6 : Int32) < nI i) := h_1
      rw [le6 (by omega) (by omega)] at h2
      exact Decidable.not_not.mp h2
    have kk : ∀ (M' : Mem) (H : Heap) (locs : List Loc), Inv M' → va_P g.1 vwCl (gW g M') H → va_S (gA g) s.heap H locs → W p l e room_1 s m #[Value.ref b] below meth c H locs 600000 7302249 (lw_Z below #[Value.ref b] s) (F0 m 1345 ls []) := by
      intro M' H locs hI hP hS
      refine lv_iinc (v := nI (i + 6)) (lv' := [(3, .int (nI (i + 6))), (0, .ref b), (1, .ref (gz g + 0)), (2, .ref (gz g + 279))]) hx hb dL_law_1345 hl (k := 3) rfl (by rw [show Int32.ofInt 6 = nI 6 from rfl, nI_add]) (by decide) rfl (fun ls hl => ?_)
      refine lv_goto (tgt := 18) hx hb dL_law_1348 (by decide) ?_
      exact ih (i + 6) M' H locs ls (by omega) (by omega) hI hP hS (lv_sub hl [1, 2, 3, 0] rfl)
    refine lv_aload_n hx hb dL_law_27 rfl (lv_at hl 0 rfl) ?_
    refine lv_iload_n hx hb dL_law_28 rfl (lv_at hl 3 rfl) ?_
    refine va_sld hx hb X.2.1 X.2.2.1 X.2.2.2 hS (vp_in_nI (by omega) (by omega)) dL_law_29 ?_
    refine lv_bipush (v := (63 : Int32)) hx hb dL_law_30 (by decide) ?_
    refine lv_iand hx hb dL_law_32 ?_
    obtain ⟨v, hv, ev⟩ := and63 (xs (nI i).toNatClampNeg)
    rw [ev]
    have hL2 : L < 2147483648 := by omega
    by_cases h38 : 38 ≤ v
    · refine lv_tableOut (tgt := 1345) hx hb dL_law_33 (Or.inr (by rw [nI_toInt (by omega)]; omega)) (by decide) ?_
      exact kk M H locs hI hP hS
    rcases (show v = 0 ∨ v = 1 ∨ v = 2 ∨ v = 3 ∨ v = 4 ∨ v = 5 ∨ v = 6 ∨ v = 7 ∨ v = 8 ∨ v = 9 ∨ v = 10 ∨ v = 11 ∨ v = 12 ∨ v = 13 ∨ v = 14 ∨ v = 15 ∨ v = 16 ∨ v = 17 ∨ v = 18 ∨ v = 19 ∨ v = 20 ∨ v = 21 ∨ v = 22 ∨ v = 23 ∨ v = 24 ∨ v = 25 ∨ v = 26 ∨ v = 27 ∨ v = 28 ∨ v = 29 ∨ v = 30 ∨ v = 31 ∨ v = 32 ∨ v = 33 ∨ v = 34 ∨ v = 35 ∨ v = 36 ∨ v = 37 by omega) with rfl | rfl | rfl | rfl | rfl | rfl | rfl | rfl | rfl | rfl | rfl | rfl | rfl | rfl | rfl | rfl | rfl | rfl | rfl | rfl | rfl | rfl | rfl | rfl | rfl | rfl | rfl | rfl | rfl | rfl | rfl | rfl | rfl | rfl | rfl | rfl | rfl | rfl
    · exact lv_tableIn (off := 167) (tgt := 200) hx hb dL_law_33 (by decide) (by decide) rfl (by decide) (lc_0 X hL2 h6 hI hP hS hl kk)
    · exact lv_tableIn (off := 210) (tgt := 243) hx hb dL_law_33 (by decide) (by decide) rfl (by decide) (lc_1 X hL2 h6 hI hP hS hl kk)
    · exact lv_tableIn (off := 253) (tgt := 286) hx hb dL_law_33 (by decide) (by decide) rfl (by decide) (lc_2 X hL2 h6 hI hP hS hl kk)
    · exact lv_tableIn (off := 316) (tgt := 349) hx hb dL_law_33 (by decide) (by decide) rfl (by decide) (lc_3 X hL2 h6 hI hP hS hl kk)
    · exact lv_tableIn (off := 339) (tgt := 372) hx hb dL_law_33 (by decide) (by decide) rfl (by decide) (lc_4 X hL2 h6 hI hP hS hl kk)
    · exact lv_tableIn (off := 362) (tgt := 395) hx hb dL_law_33 (by decide) (by decide) rfl (by decide) (lc_5 X hL2 h6 hI hP hS hl kk)
    · exact lv_tableIn (off := 375) (tgt := 408) hx hb dL_law_33 (by decide) (by decide) rfl (by decide) (lc_6 X hL2 h6 hI hP hS hl kk)
    · exact lv_tableIn (off := 388) (tgt := 421) hx hb dL_law_33 (by decide) (by decide) rfl (by decide) (lc_7 X hL2 h6 hI hP hS hl kk)
    · exact lv_tableIn (off := 401) (tgt := 434) hx hb dL_law_33 (by decide) (by decide) rfl (by decide) (lc_8 X hL2 h6 hI hP hS hl kk)
    · exact lv_tableIn (off := 424) (tgt := 457) hx hb dL_law_33 (by decide) (by decide) rfl (by decide) (lc_9 X hL2 h6 hI hP hS hl kk)
    · exact lv_tableIn (off := 447) (tgt := 480) hx hb dL_law_33 (by decide) (by decide) rfl (by decide) (lc_10 X hL2 h6 hI hP hS hl kk)
    · exact lv_tableIn (off := 480) (tgt := 513) hx hb dL_law_33 (by decide) (by decide) rfl (by decide) (lc_11 X hL2 h6 hI hP hS hl kk)
    · exact lv_tableIn (off := 503) (tgt := 536) hx hb dL_law_33 (by decide) (by decide) rfl (by decide) (lc_12 X hL2 h6 hI hP hS hl kk)
    · exact lv_tableIn (off := 526) (tgt := 559) hx hb dL_law_33 (by decide) (by decide) rfl (by decide) (lc_13 X hL2 h6 hI hP hS hl kk)
    · exact lv_tableIn (off := 559) (tgt := 592) hx hb dL_law_33 (by decide) (by decide) rfl (by decide) (lc_14 X hL2 h6 hI hP hS hl kk)
    · exact lv_tableIn (off := 582) (tgt := 615) hx hb dL_law_33 (by decide) (by decide) rfl (by decide) (lc_15 X hL2 h6 hI hP hS hl kk)
    · exact lv_tableIn (off := 605) (tgt := 638) hx hb dL_law_33 (by decide) (by decide) rfl (by decide) (lc_16 X hL2 h6 hI hP hS hl kk)
    · exact lv_tableIn (off := 648) (tgt := 681) hx hb dL_law_33 (by decide) (by decide) rfl (by decide) (lc_17 X hL2 h6 hI hP hS hl kk)
    · exact lv_tableIn (off := 681) (tgt := 714) hx hb dL_law_33 (by decide) (by decide) rfl (by decide) (lc_18 X hL2 h6 hI hP hS hl kk)
    · exact lv_tableIn (off := 714) (tgt := 747) hx hb dL_law_33 (by decide) (by decide) rfl (by decide) (lc_19 X hL2 h6 hI hP hS hl kk)
    · exact lv_tableIn (off := 727) (tgt := 760) hx hb dL_law_33 (by decide) (by decide) rfl (by decide) (lc_20 X hL2 h6 hI hP hS hl kk)
    · exact lv_tableIn (off := 760) (tgt := 793) hx hb dL_law_33 (by decide) (by decide) rfl (by decide) (lc_21 X hL2 h6 hI hP hS hl kk)
    · exact lv_tableIn (off := 793) (tgt := 826) hx hb dL_law_33 (by decide) (by decide) rfl (by decide) (lc_22 X hL2 h6 hI hP hS hl kk)
    · exact lv_tableIn (off := 816) (tgt := 849) hx hb dL_law_33 (by decide) (by decide) rfl (by decide) (lc_23 X hL2 h6 hI hP hS hl kk)
    · exact lv_tableIn (off := 859) (tgt := 892) hx hb dL_law_33 (by decide) (by decide) rfl (by decide) (lc_24 X hL2 h6 hI hP hS hl kk)
    · exact lv_tableIn (off := 892) (tgt := 925) hx hb dL_law_33 (by decide) (by decide) rfl (by decide) (lc_25 X hL2 h6 hI hP hS hl kk)
    · exact lv_tableIn (off := 925) (tgt := 958) hx hb dL_law_33 (by decide) (by decide) rfl (by decide) (lc_26 X hL2 h6 hI hP hS hl kk)
    · exact lv_tableIn (off := 958) (tgt := 991) hx hb dL_law_33 (by decide) (by decide) rfl (by decide) (lc_27 X hL2 h6 hI hP hS hl kk)
    · exact lv_tableIn (off := 1021) (tgt := 1054) hx hb dL_law_33 (by decide) (by decide) rfl (by decide) (lc_28 X hL2 h6 hI hP hS hl kk)
    · exact lv_tableIn (off := 1075) (tgt := 1108) hx hb dL_law_33 (by decide) (by decide) rfl (by decide) (lc_29 X hL2 h6 hI hP hS hl kk)
    · exact lv_tableIn (off := 1118) (tgt := 1151) hx hb dL_law_33 (by decide) (by decide) rfl (by decide) (lc_30 X hL2 h6 hI hP hS hl kk)
    · exact lv_tableIn (off := 1141) (tgt := 1174) hx hb dL_law_33 (by decide) (by decide) rfl (by decide) (lc_31 X hL2 h6 hI hP hS hl kk)
    · exact lv_tableIn (off := 1164) (tgt := 1197) hx hb dL_law_33 (by decide) (by decide) rfl (by decide) (lc_32 X hL2 h6 hI hP hS hl kk)
    · exact lv_tableIn (off := 1187) (tgt := 1220) hx hb dL_law_33 (by decide) (by decide) rfl (by decide) (lc_33 X hL2 h6 hI hP hS hl kk)
    · exact lv_tableIn (off := 1220) (tgt := 1253) hx hb dL_law_33 (by decide) (by decide) rfl (by decide) (lc_34 X hL2 h6 hI hP hS hl kk)
    · exact lv_tableIn (off := 1253) (tgt := 1286) hx hb dL_law_33 (by decide) (by decide) rfl (by decide) (lc_35 X hL2 h6 hI hP hS hl kk)
    · exact lv_tableIn (off := 1276) (tgt := 1309) hx hb dL_law_33 (by decide) (by decide) rfl (by decide) (lc_36 X hL2 h6 hI hP hS hl kk)
    · exact lv_tableIn (off := 1299) (tgt := 1332) hx hb dL_law_33 (by decide) (by decide) rfl (by decide) (lc_37 X hL2 h6 hI hP hS hl kk)
