/-! the seer, the reference -/
theorem wE_in {g : GC} {c0 i : Nat} {E : Nat → va_E} (h : c0 ≤ i ∧ i < c0 + 6) : wE g c0 E i = celK g (fun _ => 0) i (kdW.getD (i - c0) 99) := if_pos h
theorem wE_out {g : GC} {c0 i : Nat} {E : Nat → va_E} (h : i < c0 ∨ c0 + 6 ≤ i) : wE g c0 E i = E i := if_neg (by omega)
set_option maxRecDepth 20000 in
theorem b_X3 {p : Program} {l : Launch} {e : Env} {s : State} {m : MethodId} {args : Array Value} {below : List Frame} {meth : Method} {c : Code} {g : GC} {c0 : Nat} {E : Nat → va_E} {Q : State → Prop} (X : Kx p s m args meth c RX3 cX3_init 3 g) (h0 : s.heap.size = gz g + (c0 + 1)) (hE : E (c0) = .inr (3, [.ref (gz g + 3), .ref (gz g + (c0 + 1)), .ref (gz g + (c0 + 7))]))
    (hx9 : ∀ (H : Heap) (locs : List Loc) (ls : Array Slot), va_P g.1 vwCl (kW g (c0 + 8 + 6 * 13) (lE g (c0 + 7) 13 (c0 + 8) 13 E)) H → va_S (gA g) s.heap H locs → lv_has ls 3 [(0, .ref (gz g + c0)), (1, .ref (gz g + 3)), (2, .int (nI 13))] → W p l e (rK 2 60 85 671) s m args below meth c H locs (7 + 6 * 13) (60 + 47 * 13) Q (F0 m 56 ls [])) :
    ∀ (d i : Nat) (H : Heap) (locs : List Loc) (ls : Array Slot), i + d = 13 → va_P g.1 vwCl (kW g (c0 + 8 + 6 * i) (lE g (c0 + 7) 13 (c0 + 8) i E)) H → va_S (gA g) s.heap H locs → lv_has ls 3 [(0, .ref (gz g + c0)), (1, .ref (gz g + 3)), (2, .int (nI i))] → W p l e (rK 2 60 85 671) s m args below meth c H locs (7 + 6 * i) (60 + 47 * i) Q (F0 m 31 ls []) := by
  have hx := X.1.1
  have hb := X.1.2.1
  intro d
  induction d with
  | zero =>
    intro i H locs ls hi hP hS hl
    have hi2 : i = 13 := by omega
    subst hi2
    refine lv_iload_n hx hb dX3_init_31 rfl (lv_at hl 2 rfl) ?_
    refine lv_bipush (v := (12 : Int32)) hx hb dX3_init_32 (by decide) ?_
    refine lv_icmp_gt (tgt := 56) hx hb dX3_init_34 (by decide) (fun h_1 => ?_) (fun h_1 => absurd h_1 (by decide))
    exact hx9 H locs ls hP hS hl
  | succ d ih =>
    intro i H locs ls hi hP hS hl
    refine lv_iload_n hx hb dX3_init_31 rfl (lv_at hl 2 rfl) ?_
    refine lv_bipush (v := (12 : Int32)) hx hb dX3_init_32 (by decide) ?_
    refine lv_icmp_gt (tgt := 56) hx hb dX3_init_34 (by decide) (fun h_1 => ?_) (fun h_1 => ?_)
    · exfalso
      revert h_1
      rw [l_12, nlt (by omega) (by omega)]; omega
    refine lv_aload_n hx hb dX3_init_37 rfl (lv_at hl 0 rfl) ?_
    refine va_get (T := TX3) (N := 3) (ci := 3) (fs := [.ref (gz g + 3), .ref (gz g + (c0 + 1)), .ref (gz g + (c0 + 7))]) hx hb X.1.2.2.2.2.1 inX3 X.1.2.2.2.1 X.1.2.2.2.2.2.1 hP (c0) (by rw [kW_get (by omega), lE_o (by omega) (by omega), hE]) rfl 2 (by decide) (X.1.2.2.2.2.1 _ q1_149) (fun _ h => h) rfl dX3_init_38 ?_
    refine lv_iload_n hx hb dX3_init_41 rfl (lv_at hl 2 rfl) ?_
    refine k_size h0 (by omega) hP (fun hZ => ?_)
    refine k_new (C := RX5) (T := TX5) (N := 11) (ci := 5) (ty := tyX5) (fs := wz) X hP hZ hS inX5 tyX5_ok q1_145 q1_25 q1_2 rfl wz_ok (by show _ ≤ 85; omega) (by show _ ≤ 671; omega) dX3_init_42 (fun H hP hZ hS => ?_)
    refine lv_dup hx hb dX3_init_45 rfl ?_
    refine k_call (As := []) (c := c0 + 8 + 6 * i) (rest := [.ref (gz g + (c0 + 8 + 6 * i)), .int (nI i), .ref (gz g + (c0 + 7))]) X (c_X5_init l g (upE_s _ _ _)) rfl q1_28 q1_2 q1_27 q1_146 d_X5 ⟨Nat.le_of_ble_eq_true rfl, Nat.le_of_ble_eq_true rfl⟩ hP hZ hS rfl hl.1 rfl (Nat.le_of_ble_eq_true rfl) ⟨by show _ ≤ 85; omega, by show _ ≤ 671; omega⟩ dX3_init_46 (fun H locs hP hZ hS => ?_)
    refine k_ast (t0 := 3) (N := 13) (qk := c0 + 8 + 6 * i) (ci := 5) (r := (RX5, TX5, 11)) (vs := [.int 0, .int 0, .int 0, .int 0, .int 0, .int 0, .ref (gz g + (c0 + 8 + 6 * i + 1)), .ref (gz g + (c0 + 8 + 6 * i + 2)), .ref (gz g + (c0 + 8 + 6 * i + 3)), .ref (gz g + (c0 + 8 + 6 * i + 4)), .ref (gz g + (c0 + 8 + 6 * i + 5))]) X hP hS (c := c0 + 7) (by omega) (by unfold wE; rw [if_neg (by omega), upE_n (by omega), lE_a]) rfl (by omega) (by unfold wE; rw [if_pos (by omega), Nat.sub_self]; rfl) rfl (vin (by omega) (by decide)) dX3_init_49 (fun H locs hP hS => ?_)
    rw [kW_ext (fun k hk => lE_s (by omega) (nI_cl (by omega)) (by omega)), show c0 + 8 + 6 * i + 6 = c0 + 8 + 6 * (i + 1) by omega] at hP
    refine lv_iinc (v := nI (i + 1)) (lv' := [(2, .int (nI (i + 1))), (0, .ref (gz g + c0)), (1, .ref (gz g + 3))]) hx hb dX3_init_50 hl (k := 2) rfl (nI_1 i) (by decide) rfl (fun ls hl => ?_)
    refine lv_goto (tgt := 31) hx hb dX3_init_53 (by decide) ?_
    rw [show 7 + 6 * i + 1 + 5 = 7 + 6 * (i + 1) by omega, show 60 + 47 * i + 11 + 36 = 60 + 47 * (i + 1) by omega]
    exact ih (i + 1) H locs ls (by omega) hP hS (lv_sub hl [1, 2, 0] rfl)
def sE (g : GC) (c0 : Nat) (E : Nat → va_E) : Nat → va_E := lE g (c0 + 7) 13 (c0 + 8) 13 (upE (wE g (c0 + 1) E) c0 (.inr (3, [.ref (gz g + 3), .ref (gz g + (c0 + 1)), .ref (gz g + (c0 + 7))])))
set_option maxRecDepth 20000 in
theorem c_X3_init (l : Launch) (g : GC) {c0 : Nat} {E : Nat → va_E} (hE : E c0 = .inr (3, [.null, .null, .null])) : cK l g yX3_init cX3_init 3 (rK 2 60 85 671) [.ref (gz g + c0), .ref (gz g + 3)] (c0 + 1) E (c0 + 86) (sE g c0 E) 85 671 := by
  refine k_met (by decide) rfl (Nat.le_of_ble_eq_true rfl) ?_
  intro p e s m below meth c X hP hZ hS ls hl
  have X : Kx p s m _ meth c RX3 cX3_init 3 g := X
  have hl : lv_has ls 3 [(0, .ref (gz g + c0)), (1, .ref (gz g + 3))] := hl
  have hx := X.1.1
  have hb := X.1.2.1
  have h0 := hZ
  refine lv_aload_n hx hb dX3_init_0 rfl (lv_at hl 0 rfl) ?_
  refine k_obj X q1_144 hl.1 ⟨Nat.le_of_ble_eq_true rfl, Nat.le_of_ble_eq_true rfl⟩ dX3_init_1 ?_
  refine lv_aload_n hx hb dX3_init_4 rfl (lv_at hl 0 rfl) ?_
  refine k_new (C := RX5) (T := TX5) (N := 11) (ci := 5) (ty := tyX5) (fs := wz) X hP hZ hS inX5 tyX5_ok q1_145 q1_25 q1_2 rfl wz_ok (Nat.le_of_ble_eq_true rfl) (Nat.le_of_ble_eq_true rfl) dX3_init_5 (fun H hP hZ hS => ?_)
  refine lv_dup hx hb dX3_init_8 rfl ?_
  refine k_call (As := []) (c := c0 + 1) (rest := [.ref (gz g + (c0 + 1)), .ref (gz g + c0)]) X (c_X5_init l g (upE_s _ _ _)) rfl q1_28 q1_2 q1_27 q1_146 d_X5 ⟨Nat.le_of_ble_eq_true rfl, Nat.le_of_ble_eq_true rfl⟩ hP hZ hS rfl hl.1 rfl (Nat.le_of_ble_eq_true rfl) ⟨Nat.le_of_ble_eq_true rfl, Nat.le_of_ble_eq_true rfl⟩ dX3_init_9 (fun H locs hP hZ hS => ?_)
  refine k_putF (T := TX3) (N := 3) (ty := .object "MusicBox$Works") X hP hS inX3 tyX3_ok nmX3 (ci := 3) (fs := [.null, .null, .null]) (c := c0) (by omega) (by simp (disch := omega) only [upE_s, upE_n, wE_out, hE] <;> rfl) rfl 1 (by decide) q1_148 rfl rfl (by decide +kernel) rfl rfl (Nat.le_of_ble_eq_true rfl) dX3_init_12 (fun H locs hP hS => ?_)
  refine k_size h0 rfl hP (fun hZ => ?_)
  refine lv_aload_n hx hb dX3_init_15 rfl (lv_at hl 0 rfl) ?_
  refine lv_bipush (v := (13 : Int32)) hx hb dX3_init_16 (by decide) ?_
  refine k_anew (C := RX5) (t0 := 3) X hP hZ hS (N := 13) (by decide) rfl (by decide) (Nat.le_of_ble_eq_true rfl) (Nat.le_of_ble_eq_true rfl) q1_145 X.2.1.2 rfl dX3_init_18 (fun H hP hZ hS => ?_)
  refine k_putF (T := TX3) (N := 3) (ty := .array (.object "MusicBox$Works")) X hP hS inX3 tyX3_ok nmX3 (ci := 3) (fs := [.null, .ref (gz g + (c0 + 1)), .null]) (c := c0) (by omega) (by simp (disch := omega) only [upE_s, upE_n, wE_out, hE] <;> rfl) rfl 2 (by decide) q1_149 rfl rfl (by decide +kernel) rfl rfl (Nat.le_of_ble_eq_true rfl) dX3_init_21 (fun H locs hP hS => ?_)
  refine lv_aload_n hx hb dX3_init_24 rfl (lv_at hl 0 rfl) ?_
  refine lv_aload_n hx hb dX3_init_25 rfl (lv_at hl 1 rfl) ?_
  refine k_putF (T := TX3) (N := 3) (ty := .object "MusicBox$Works") X hP hS inX3 tyX3_ok nmX3 (ci := 3) (fs := [.null, .ref (gz g + (c0 + 1)), .ref (gz g + (c0 + 7))]) (c := c0) (by omega) (by simp (disch := omega) only [upE_s, upE_n, wE_out, hE] <;> rfl) rfl 0 (by decide) q1_147 rfl rfl (by decide +kernel) rfl rfl (Nat.le_of_ble_eq_true rfl) dX3_init_26 (fun H locs hP hS => ?_)
  refine lv_iconst (v := (0 : Int32)) hx hb dX3_init_29 (by decide) ?_
  refine lv_istore_n (lv' := [(2, .int (0 : Int32)), (0, .ref (gz g + c0)), (1, .ref (gz g + 3))]) hx hb dX3_init_30 rfl hl (by decide) rfl (fun ls hl => ?_)
  rw [kW_ext (E' := lE g (c0 + 7) 13 (c0 + 8) 0 (upE (wE g (c0 + 1) E) c0 (.inr (3, [.ref (gz g + 3), .ref (gz g + (c0 + 1)), .ref (gz g + (c0 + 7))])))) (fun k hk => by
    rw [← lE_0]
    rcases (show k < c0 ∨ k = c0 ∨ (c0 + 1 ≤ k ∧ k < c0 + 7) ∨ k = c0 + 7 by omega) with h | rfl | h | rfl
    · simp (disch := omega) only [upE_n, wE_out]
    · simp (disch := omega) only [upE_n, upE_s]
      rfl
    · simp (disch := omega) only [upE_n, wE_in]
    · simp (disch := omega) only [upE_n, upE_s, show c0 + 1 + 6 = c0 + 7 from rfl])] at hP
  refine b_X3 X h0 (upE_s _ _ _) (fun H locs ls hP hS hl => ?_) 13 0 H locs ls (by omega) hP hS (lv_sub hl [1, 2, 0] rfl)
  refine k_size h0 (by omega) hP (fun hZ => ?_)
  exact k_vret X hP hZ hS (fun i hi => rfl) dX3_init_56
def mE (g : GC) (c0 : Nat) (E : Nat → va_E) : Nat → va_E := fun i => if i = c0 then .inr (7, [.ref (gz g + (c0 + 1)), .int 0, .ref (gz g + (c0 + 2)), .int 0, .int 0, .int 0, .ref (gz g + (c0 + 3)), .ref (gz g + (c0 + 4)), .ref (gz g + (c0 + 5)), .ref (gz g + (c0 + 6)), .int 0, .int 0, .int 0, .ref (gz g + (c0 + 7)), .ref (gz g + (c0 + 8)), .ref (gz g + (c0 + 9)), .ref (gz g + (c0 + 10)), .int 0]) else if i = c0 + 3 then .inl (g.2.1 0, 8, .inl (fun j => if j < 8 then -1 else 0)) else if c0 < i ∧ i < c0 + 11 then celK g (fun _ => 0) i (([7, 13, 11, 14, 14, 15, 10, 16, 9, 17, 12] : List Nat).getD (i - c0) 99) else E i
def mF (g : GC) (c0 : Nat) (E : Nat → va_E) (u : Nat) : Nat → va_E := fun i => if i = c0 then .inr (7, [.ref (gz g + (c0 + 1)), .int 0, .ref (gz g + (c0 + 2)), .int 0, .int 0, .int 0, .ref (gz g + (c0 + 3)), .ref (gz g + (c0 + 4)), .ref (gz g + (c0 + 5)), .ref (gz g + (c0 + 6)), .int 0, .int 0, .int 0, .ref (gz g + (c0 + 7)), .ref (gz g + (c0 + 8)), .ref (gz g + (c0 + 9)), .ref (gz g + (c0 + 10)), .int 0]) else if i = c0 + 3 then .inl (g.2.1 0, 8, .inl (fun j => if j < u then -1 else 0)) else if c0 < i ∧ i < c0 + 11 then celK g (fun _ => 0) i (([7, 13, 11, 14, 14, 15, 10, 16, 9, 17, 12] : List Nat).getD (i - c0) 99) else E i
set_option maxRecDepth 20000 in
theorem b_X7 {p : Program} {l : Launch} {e : Env} {s : State} {m : MethodId} {args : Array Value} {below : List Frame} {meth : Method} {c : Code} {g : GC} {c0 : Nat} {E : Nat → va_E} (X : Kx p s m args meth c RX7 cX7_init 2 g) (h0 : s.heap.size = gz g + (c0 + 1)) : ∀ (d i : Nat) (H : Heap) (locs : List Loc) (ls : Array Slot), i + d = 8 → va_P g.1 vwCl (kW g (c0 + 11) (mF g c0 E i)) H → va_S (gA g) s.heap H locs → lv_has ls 2 [(0, .ref (gz g + c0)), (1, .int (nI i))] → W p l e (rK 1 40 10 1783) s m args below meth c H locs 10 1783 (MQ below (qK g (c0 + 11) (mE g c0 E)) args s 10 1783 (gA g)) (F0 m 87 ls []) := by
  have hx := X.1.1
  have hb := X.1.2.1
  intro d
  induction d with
  | zero =>
    intro i H locs ls hi hP hS hl
    have hi2 : i = 8 := by omega
    subst hi2
    refine lv_iload_n hx hb dX7_init_87 rfl (lv_at hl 1 rfl) ?_
    refine lv_bipush (v := (8 : Int32)) hx hb dX7_init_88 (by decide) ?_
    refine lv_icmp_ge (tgt := 106) hx hb dX7_init_90 (by decide) (fun h_1 => ?_) (fun h_1 => absurd h_1 (by decide))
    refine k_size h0 (by omega) hP (fun hZ => ?_)
    exact k_vret X hP hZ hS (fun i hi => rfl) dX7_init_106
  | succ d ih =>
    intro i H locs ls hi hP hS hl
    refine lv_iload_n hx hb dX7_init_87 rfl (lv_at hl 1 rfl) ?_
    refine lv_bipush (v := (8 : Int32)) hx hb dX7_init_88 (by decide) ?_
    refine lv_icmp_ge (tgt := 106) hx hb dX7_init_90 (by decide) (fun h_1 => ?_) (fun h_1 => ?_)
    · exfalso
      revert h_1
      rw [l_8, nle (by omega) (by omega)]
      omega
    refine lv_aload_n hx hb dX7_init_93 rfl (lv_at hl 0 rfl) ?_
    refine va_get (T := TX7) (N := 18) (ci := 7) (fs := [.ref (gz g + (c0 + 1)), .int 0, .ref (gz g + (c0 + 2)), .int 0, .int 0, .int 0, .ref (gz g + (c0 + 3)), .ref (gz g + (c0 + 4)), .ref (gz g + (c0 + 5)), .ref (gz g + (c0 + 6)), .int 0, .int 0, .int 0, .ref (gz g + (c0 + 7)), .ref (gz g + (c0 + 8)), .ref (gz g + (c0 + 9)), .ref (gz g + (c0 + 10)), .int 0]) hx hb X.1.2.2.2.2.1 inX7 X.1.2.2.2.1 X.1.2.2.2.2.2.1 hP c0 (by rw [kW_get (by omega)]; unfold mF; rw [if_pos rfl]) rfl 6 (by decide) (X.1.2.2.2.2.1 _ q4_31) (fun _ h => h) rfl dX7_init_94 ?_
    refine lv_iload_n hx hb dX7_init_97 rfl (lv_at hl 1 rfl) ?_
    refine lv_iconst (v := (-1 : Int32)) hx hb dX7_init_98 (by decide) ?_
    refine va_iast hx hb X.1.2.2.2.2.2.1 hP (kW_D _ _ _) hS (c0 + 3) 0 (cA := g.2.1 0) (n := 8) (f := fun j => if j < i then -1 else 0) (by rw [kW_get (by omega)]; unfold mF; rw [if_neg (by omega), if_pos rfl]) rfl (vin (by omega) (by decide)) dX7_init_99 (fun H locs hP _ hS => ?_)
    rw [kW_set (by omega), nI_cl (by omega), kW_ext (E' := mF g c0 E (i + 1)) (fun k hk => by
      unfold mF upE
      by_cases q : k = c0 + 3
      · rw [if_pos q, if_neg (by omega), if_pos q]
        refine congrArg (fun f => (Sum.inl (g.2.1 0, 8, Sum.inl f) : va_E)) ?_
        funext j
        unfold upd
        by_cases q2 : j = i
        · rw [if_pos q2, if_pos (by omega)]
        · rw [if_neg q2]
          dsimp only
          by_cases q3 : j < i
          · rw [if_pos q3, if_pos (by omega)]
          · rw [if_neg q3, if_neg (by omega)]
      · simp only [if_neg q])] at hP
    refine lv_iinc (v := nI (i + 1)) (lv' := [(1, .int (nI (i + 1))), (0, .ref (gz g + c0))]) hx hb dX7_init_100 hl (k := 1) rfl (nI_1 i) (by decide) rfl (fun ls hl => ?_)
    refine lv_goto (tgt := 87) hx hb dX7_init_103 (by decide) ?_
    exact ih (i + 1) H locs ls (by omega) hP hS (lv_sub hl [1, 0] rfl)
set_option maxRecDepth 20000 in
theorem c_X7_init (l : Launch) (g : GC) {c0 : Nat} {E : Nat → va_E} (hE : E c0 = .inr (7, [.null, .int 0, .null, .int 0, .int 0, .int 0, .null, .null, .null, .null, .int 0, .int 0, .int 0, .null, .null, .null, .null, .int 0])) : cK l g yX7_init cX7_init 2 (rK 1 40 10 1783) [.ref (gz g + c0)] (c0 + 1) E (c0 + 11) (mE g c0 E) 10 1783 := by
  refine k_met (by decide) rfl (Nat.le_of_ble_eq_true rfl) ?_
  intro p e s m below meth c X hP hZ hS ls hl
  have X : Kx p s m _ meth c RX7 cX7_init 2 g := X
  have hl : lv_has ls 2 [(0, .ref (gz g + c0))] := hl
  have hx := X.1.1
  have hb := X.1.2.1
  have h0 := hZ
  refine lv_aload_n hx hb dX7_init_0 rfl (lv_at hl 0 rfl) ?_
  refine k_obj X q4_24 hl.1 ⟨Nat.le_of_ble_eq_true rfl, Nat.le_of_ble_eq_true rfl⟩ dX7_init_1 ?_
  refine lv_aload_n hx hb dX7_init_4 rfl (lv_at hl 0 rfl) ?_
  refine lv_sipush (v := (1247 : Int32)) hx hb dX7_init_5 (by decide) ?_
  refine k_newi X hP hZ hS (N := 1247) (by decide) rfl (by decide) (Nat.le_of_ble_eq_true rfl) (Nat.le_of_ble_eq_true rfl) dX7_init_8 (fun H hP hZ hS => ?_)
  refine k_putF (T := TX7) (N := 18) (ty := .array .int) X hP hS inX7 tyX7_ok nmX7 (ci := 7) (fs := [.null, .int 0, .null, .int 0, .int 0, .int 0, .null, .null, .null, .null, .int 0, .int 0, .int 0, .null, .null, .null, .null, .int 0]) (c := c0) (by omega) (by simp (disch := omega) only [upE_s, upE_n, hE] <;> rfl) rfl 0 (by decide) q4_25 rfl rfl (by decide +kernel) rfl rfl (Nat.le_of_ble_eq_true rfl) dX7_init_10 (fun H locs hP hS => ?_)
  refine k_size h0 rfl hP (fun hZ => ?_)
  refine lv_aload_n hx hb dX7_init_13 rfl (lv_at hl 0 rfl) ?_
  refine lv_bipush (v := (100 : Int32)) hx hb dX7_init_14 (by decide) ?_
  refine k_newi X hP hZ hS (N := 100) (by decide) rfl (by decide) (Nat.le_of_ble_eq_true rfl) (Nat.le_of_ble_eq_true rfl) dX7_init_16 (fun H hP hZ hS => ?_)
  refine k_putF (T := TX7) (N := 18) (ty := .array .int) X hP hS inX7 tyX7_ok nmX7 (ci := 7) (fs := [.ref (gz g + (c0 + 1)), .int 0, .null, .int 0, .int 0, .int 0, .null, .null, .null, .null, .int 0, .int 0, .int 0, .null, .null, .null, .null, .int 0]) (c := c0) (by omega) (by simp (disch := omega) only [upE_s, upE_n, hE] <;> rfl) rfl 2 (by decide) q4_27 rfl rfl (by decide +kernel) rfl rfl (Nat.le_of_ble_eq_true rfl) dX7_init_18 (fun H locs hP hS => ?_)
  refine k_size h0 rfl hP (fun hZ => ?_)
  refine lv_aload_n hx hb dX7_init_21 rfl (lv_at hl 0 rfl) ?_
  refine lv_bipush (v := (8 : Int32)) hx hb dX7_init_22 (by decide) ?_
  refine k_newi X hP hZ hS (N := 8) (by decide) rfl (by decide) (Nat.le_of_ble_eq_true rfl) (Nat.le_of_ble_eq_true rfl) dX7_init_24 (fun H hP hZ hS => ?_)
  refine k_putF (T := TX7) (N := 18) (ty := .array .int) X hP hS inX7 tyX7_ok nmX7 (ci := 7) (fs := [.ref (gz g + (c0 + 1)), .int 0, .ref (gz g + (c0 + 2)), .int 0, .int 0, .int 0, .null, .null, .null, .null, .int 0, .int 0, .int 0, .null, .null, .null, .null, .int 0]) (c := c0) (by omega) (by simp (disch := omega) only [upE_s, upE_n, hE] <;> rfl) rfl 6 (by decide) q4_31 rfl rfl (by decide +kernel) rfl rfl (Nat.le_of_ble_eq_true rfl) dX7_init_26 (fun H locs hP hS => ?_)
  refine k_size h0 rfl hP (fun hZ => ?_)
  refine lv_aload_n hx hb dX7_init_29 rfl (lv_at hl 0 rfl) ?_
  refine lv_bipush (v := (8 : Int32)) hx hb dX7_init_30 (by decide) ?_
  refine k_newi X hP hZ hS (N := 8) (by decide) rfl (by decide) (Nat.le_of_ble_eq_true rfl) (Nat.le_of_ble_eq_true rfl) dX7_init_32 (fun H hP hZ hS => ?_)
  refine k_putF (T := TX7) (N := 18) (ty := .array .int) X hP hS inX7 tyX7_ok nmX7 (ci := 7) (fs := [.ref (gz g + (c0 + 1)), .int 0, .ref (gz g + (c0 + 2)), .int 0, .int 0, .int 0, .ref (gz g + (c0 + 3)), .null, .null, .null, .int 0, .int 0, .int 0, .null, .null, .null, .null, .int 0]) (c := c0) (by omega) (by simp (disch := omega) only [upE_s, upE_n, hE] <;> rfl) rfl 7 (by decide) q4_32 rfl rfl (by decide +kernel) rfl rfl (Nat.le_of_ble_eq_true rfl) dX7_init_34 (fun H locs hP hS => ?_)
  refine k_size h0 rfl hP (fun hZ => ?_)
  refine lv_aload_n hx hb dX7_init_37 rfl (lv_at hl 0 rfl) ?_
  refine lv_sipush (v := (320 : Int32)) hx hb dX7_init_38 (by decide) ?_
  refine k_newi X hP hZ hS (N := 320) (by decide) rfl (by decide) (Nat.le_of_ble_eq_true rfl) (Nat.le_of_ble_eq_true rfl) dX7_init_41 (fun H hP hZ hS => ?_)
  refine k_putF (T := TX7) (N := 18) (ty := .array .int) X hP hS inX7 tyX7_ok nmX7 (ci := 7) (fs := [.ref (gz g + (c0 + 1)), .int 0, .ref (gz g + (c0 + 2)), .int 0, .int 0, .int 0, .ref (gz g + (c0 + 3)), .ref (gz g + (c0 + 4)), .null, .null, .int 0, .int 0, .int 0, .null, .null, .null, .null, .int 0]) (c := c0) (by omega) (by simp (disch := omega) only [upE_s, upE_n, hE] <;> rfl) rfl 8 (by decide) q4_33 rfl rfl (by decide +kernel) rfl rfl (Nat.le_of_ble_eq_true rfl) dX7_init_43 (fun H locs hP hS => ?_)
  refine k_size h0 rfl hP (fun hZ => ?_)
  refine lv_aload_n hx hb dX7_init_46 rfl (lv_at hl 0 rfl) ?_
  refine lv_bipush (v := (40 : Int32)) hx hb dX7_init_47 (by decide) ?_
  refine k_newi X hP hZ hS (N := 40) (by decide) rfl (by decide) (Nat.le_of_ble_eq_true rfl) (Nat.le_of_ble_eq_true rfl) dX7_init_49 (fun H hP hZ hS => ?_)
  refine k_putF (T := TX7) (N := 18) (ty := .array .int) X hP hS inX7 tyX7_ok nmX7 (ci := 7) (fs := [.ref (gz g + (c0 + 1)), .int 0, .ref (gz g + (c0 + 2)), .int 0, .int 0, .int 0, .ref (gz g + (c0 + 3)), .ref (gz g + (c0 + 4)), .ref (gz g + (c0 + 5)), .null, .int 0, .int 0, .int 0, .null, .null, .null, .null, .int 0]) (c := c0) (by omega) (by simp (disch := omega) only [upE_s, upE_n, hE] <;> rfl) rfl 9 (by decide) q4_34 rfl rfl (by decide +kernel) rfl rfl (Nat.le_of_ble_eq_true rfl) dX7_init_51 (fun H locs hP hS => ?_)
  refine k_size h0 rfl hP (fun hZ => ?_)
  refine lv_aload_n hx hb dX7_init_54 rfl (lv_at hl 0 rfl) ?_
  refine lv_bipush (v := (30 : Int32)) hx hb dX7_init_55 (by decide) ?_
  refine k_newi X hP hZ hS (N := 30) (by decide) rfl (by decide) (Nat.le_of_ble_eq_true rfl) (Nat.le_of_ble_eq_true rfl) dX7_init_57 (fun H hP hZ hS => ?_)
  refine k_putF (T := TX7) (N := 18) (ty := .array .int) X hP hS inX7 tyX7_ok nmX7 (ci := 7) (fs := [.ref (gz g + (c0 + 1)), .int 0, .ref (gz g + (c0 + 2)), .int 0, .int 0, .int 0, .ref (gz g + (c0 + 3)), .ref (gz g + (c0 + 4)), .ref (gz g + (c0 + 5)), .ref (gz g + (c0 + 6)), .int 0, .int 0, .int 0, .null, .null, .null, .null, .int 0]) (c := c0) (by omega) (by simp (disch := omega) only [upE_s, upE_n, hE] <;> rfl) rfl 13 (by decide) q4_38 rfl rfl (by decide +kernel) rfl rfl (Nat.le_of_ble_eq_true rfl) dX7_init_59 (fun H locs hP hS => ?_)
  refine k_size h0 rfl hP (fun hZ => ?_)
  refine lv_aload_n hx hb dX7_init_62 rfl (lv_at hl 0 rfl) ?_
  refine lv_bipush (v := (12 : Int32)) hx hb dX7_init_63 (by decide) ?_
  refine k_newi X hP hZ hS (N := 12) (by decide) rfl (by decide) (Nat.le_of_ble_eq_true rfl) (Nat.le_of_ble_eq_true rfl) dX7_init_65 (fun H hP hZ hS => ?_)
  refine k_putF (T := TX7) (N := 18) (ty := .array .int) X hP hS inX7 tyX7_ok nmX7 (ci := 7) (fs := [.ref (gz g + (c0 + 1)), .int 0, .ref (gz g + (c0 + 2)), .int 0, .int 0, .int 0, .ref (gz g + (c0 + 3)), .ref (gz g + (c0 + 4)), .ref (gz g + (c0 + 5)), .ref (gz g + (c0 + 6)), .int 0, .int 0, .int 0, .ref (gz g + (c0 + 7)), .null, .null, .null, .int 0]) (c := c0) (by omega) (by simp (disch := omega) only [upE_s, upE_n, hE] <;> rfl) rfl 14 (by decide) q4_39 rfl rfl (by decide +kernel) rfl rfl (Nat.le_of_ble_eq_true rfl) dX7_init_67 (fun H locs hP hS => ?_)
  refine k_size h0 rfl hP (fun hZ => ?_)
  refine lv_aload_n hx hb dX7_init_70 rfl (lv_at hl 0 rfl) ?_
  refine lv_iconst (v := (2 : Int32)) hx hb dX7_init_71 (by decide) ?_
  refine k_newz X hP hZ hS (N := 2) (by decide) rfl (by decide) (Nat.le_of_ble_eq_true rfl) (Nat.le_of_ble_eq_true rfl) dX7_init_72 (fun H hP hZ hS => ?_)
  refine k_putF (T := TX7) (N := 18) (ty := .array .boolean) X hP hS inX7 tyX7_ok nmX7 (ci := 7) (fs := [.ref (gz g + (c0 + 1)), .int 0, .ref (gz g + (c0 + 2)), .int 0, .int 0, .int 0, .ref (gz g + (c0 + 3)), .ref (gz g + (c0 + 4)), .ref (gz g + (c0 + 5)), .ref (gz g + (c0 + 6)), .int 0, .int 0, .int 0, .ref (gz g + (c0 + 7)), .ref (gz g + (c0 + 8)), .null, .null, .int 0]) (c := c0) (by omega) (by simp (disch := omega) only [upE_s, upE_n, hE] <;> rfl) rfl 15 (by decide) q4_40 rfl rfl (by decide +kernel) rfl rfl (Nat.le_of_ble_eq_true rfl) dX7_init_74 (fun H locs hP hS => ?_)
  refine k_size h0 rfl hP (fun hZ => ?_)
  refine lv_aload_n hx hb dX7_init_77 rfl (lv_at hl 0 rfl) ?_
  refine lv_bipush (v := (16 : Int32)) hx hb dX7_init_78 (by decide) ?_
  refine k_newi X hP hZ hS (N := 16) (by decide) rfl (by decide) (Nat.le_of_ble_eq_true rfl) (Nat.le_of_ble_eq_true rfl) dX7_init_80 (fun H hP hZ hS => ?_)
  refine k_putF (T := TX7) (N := 18) (ty := .array .int) X hP hS inX7 tyX7_ok nmX7 (ci := 7) (fs := [.ref (gz g + (c0 + 1)), .int 0, .ref (gz g + (c0 + 2)), .int 0, .int 0, .int 0, .ref (gz g + (c0 + 3)), .ref (gz g + (c0 + 4)), .ref (gz g + (c0 + 5)), .ref (gz g + (c0 + 6)), .int 0, .int 0, .int 0, .ref (gz g + (c0 + 7)), .ref (gz g + (c0 + 8)), .ref (gz g + (c0 + 9)), .null, .int 0]) (c := c0) (by omega) (by simp (disch := omega) only [upE_s, upE_n, hE] <;> rfl) rfl 16 (by decide) q4_41 rfl rfl (by decide +kernel) rfl rfl (Nat.le_of_ble_eq_true rfl) dX7_init_82 (fun H locs hP hS => ?_)
  refine k_size h0 rfl hP (fun hZ => ?_)
  refine lv_iconst (v := (0 : Int32)) hx hb dX7_init_85 (by decide) ?_
  refine lv_istore_n (lv' := [(1, .int (0 : Int32)), (0, .ref (gz g + c0))]) hx hb dX7_init_86 rfl hl (by decide) rfl (fun ls hl => ?_)
  rw [kW_ext (E' := mF g c0 E 0) (fun k hk => by
    unfold mF
    rcases (show k < c0 ∨ k = c0 ∨ k = c0 + 1 ∨ k = c0 + 2 ∨ k = c0 + 3 ∨ k = c0 + 4 ∨ k = c0 + 5 ∨ k = c0 + 6 ∨ k = c0 + 7 ∨ k = c0 + 8 ∨ k = c0 + 9 ∨ k = c0 + 10 by omega) with h | rfl | rfl | rfl | rfl | rfl | rfl | rfl | rfl | rfl | rfl | rfl
    · simp (disch := omega) only [upE_n]
      rw [if_neg (by omega), if_neg (by omega), if_neg (by omega)]
    · simp (disch := omega) only [upE_n, upE_s]
      rw [if_pos trivial]
      rfl
    · simp (disch := omega) only [upE_n, upE_s]
      rw [if_neg (by omega), if_neg (by omega), if_pos (by omega), Nat.add_sub_cancel_left]
      rfl
    · simp (disch := omega) only [upE_n, upE_s]
      rw [if_neg (by omega), if_neg (by omega), if_pos (by omega), Nat.add_sub_cancel_left]
      rfl
    · simp (disch := omega) only [upE_n, upE_s]
      rw [if_neg (by omega), if_pos trivial]
      rfl
    · simp (disch := omega) only [upE_n, upE_s]
      rw [if_neg (by omega), if_neg (by omega), if_pos (by omega), Nat.add_sub_cancel_left]
      rfl
    · simp (disch := omega) only [upE_n, upE_s]
      rw [if_neg (by omega), if_neg (by omega), if_pos (by omega), Nat.add_sub_cancel_left]
      rfl
    · simp (disch := omega) only [upE_n, upE_s]
      rw [if_neg (by omega), if_neg (by omega), if_pos (by omega), Nat.add_sub_cancel_left]
      rfl
    · simp (disch := omega) only [upE_n, upE_s]
      rw [if_neg (by omega), if_neg (by omega), if_pos (by omega), Nat.add_sub_cancel_left]
      rfl
    · simp (disch := omega) only [upE_n, upE_s]
      rw [if_neg (by omega), if_neg (by omega), if_pos (by omega), Nat.add_sub_cancel_left]
      rfl
    · simp (disch := omega) only [upE_n, upE_s]
      rw [if_neg (by omega), if_neg (by omega), if_pos (by omega), Nat.add_sub_cancel_left]
      rfl
    · simp (disch := omega) only [upE_n, upE_s]
      rw [if_neg (by omega), if_neg (by omega), if_pos (by omega), Nat.add_sub_cancel_left]
      rfl)] at hP
  exact b_X7 X h0 8 0 H locs ls (by omega) hP hS (lv_sub hl [1, 0] rfl)
