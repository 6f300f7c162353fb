/-! from the entry -/
section LNEW
variable {p : Program} {l : Launch} {e : Env} {R : Room} {s : State} {m : MethodId} {args : Array Value} {below : List Frame} {meth : Method} {c0 : Code} {H : Heap} {locs : List Loc} {cells slots : Nat} {Q : State → Prop}
variable {pc : Nat} {ls : Array Slot} {rest st0 : List Value} {cc : ByteArray} {nL : Nat} {own : String} {g : GC} {n c idx : Nat} {E : Nat → va_E} {ret0 : Option FieldType}
theorem l_new {C : String} {T : u_T} {N ci : Nat} {ty : Nat → FieldType} {fs : List Value} (X : Bx p s m args meth c0 own cc nL ret0 g) (hP : va_P g.1 vwCl (kW g n E) H) (hZ : H.size = gz g + n) (hS : va_S (gA g) s.heap H locs) (hin : ∀ w ∈ u_ws C T N, w ∈ tbG) (hty : ∀ k, k < N → parseFieldDescriptor (T k).2.2.1 = some (ty k)) (hcl : Cond.classLink own idx C ∈ tbG) (hinst : Cond.instantiable C N ∈ tbG) (hini : Cond.initialized C ∈ tbG) (hci : vwCl[ci]? = some (C, T, N)) (hfs : ∀ j, j < N → defaultValue (ty j) = vp_V fs j) (hc : cells + 1 ≤ R.cells) (hs : slots + N ≤ R.slots) (hdg : decode cc pc = .ok (.new idx, 3))
    (kk : ∀ H1 : Heap, va_P g.1 vwCl (kW g (n + 1) (upE E n (.inr (ci, fs)))) H1 → H1.size = gz g + (n + 1) → va_S (gA g) s.heap H1 locs → W p l e R s m args below meth c0 H1 locs (cells + 1) (slots + N) Q (F0 m (pc + 3) ls (.ref (gz g + n) :: rest))) : W p l e R s m args below meth c0 H locs cells slots Q (F0 m pc ls rest) := by
  have hts := X.2.2.2.2.1
  have hKn := X.2.2.2.2.2.1.1 ci _ hci
  refine W.newcK X.1 X.2.1 X.2.2.2.1 (hts _ hcl) (hts _ hinst) (hts _ hini) rfl hdg hc hs hKn.2.1 hZ (fun H1 kC hkC e1 z1 o1 => ?_)
  obtain ⟨a1, a2, a3⟩ := k_grow (x := .inr (ci, fs)) hP hZ hS (by omega) (fun q hq => o1 q (by omega)) ⟨_, hci, (u_born ty hts hin hKn hkC e1 hty).to hfs⟩
  exact kk H1 a1 a2 a3
theorem l_call {y : MethodName} {b : ByteArray} {maxL na f k n' mc ms : Nat} {As : List Value} {E' : Nat → va_E} (X : Bx p s m args meth c0 own cc nL ret0 g) (hO : va_AO RX2 s ∧ va_AO RX5 s) (hM : cK l g y b maxL (rK f k mc ms) (.ref (gz g + c) :: As) n E n' E' mc ms) (hy : y.name = "<init>") (hcode : Cond.code y b maxL none ∈ tbG) (hi : Cond.initialized y.cls ∈ tbG) (hins : Cond.instanceMethod y ∈ tbG) (hlk : Cond.methodLink own idx y ∈ tbG) (hd : y.cls ≠ "java/lang/invoke/MethodHandle" ∧ y.cls ≠ "java/lang/invoke/VarHandle" ∧ (parseMethodDescriptor y.desc).map (fun d => d.parameters.length) = some na) (hR : f + 1 ≤ R.frames ∧ 8 + (maxL + 11) + k ≤ R.locals)
    (hP : va_P g.1 vwCl (kW g n E) H) (hZ : H.size = gz g + n) (hS : va_S (gA g) s.heap H locs) (hn : As.length = na) (hl : ls.size = nL) (hst : st0 = As.reverse ++ .ref (gz g + c) :: rest) (hrm : (rest.map fun v => v.category).sum ≤ 8) (hf : cells + mc ≤ R.cells ∧ slots + ms ≤ R.slots) (hdg : decode cc pc = .ok (.invokespecial idx, 3))
    (kk : ∀ (H1 : Heap) (locs1 : List Loc), va_P g.1 vwCl (kW g n' E') H1 → H1.size = gz g + n' → va_S (gA g) s.heap H1 locs1 → W p l e R s m args below meth c0 H1 locs1 (cells + mc) (slots + ms) Q (F0 m (pc + 3) ls rest)) : W p l e R s m args below meth c0 H locs cells slots Q (F0 m pc ls st0) := by
  refine va_callv (va_runI (As := As) (rest := rest) (b := gz g + c) ⟨X.1, X.2.1, X.2.2.1, X.2.2.2.1, X.2.2.2.2.1⟩ hM ⟨callB_of na X.2.2.2.2.1 (wG_good hcode) rfl rfl rfl (X.2.2.2.2.1 _ hi) (X.2.2.2.2.1 _ hlk) hd hR, hy, X.2.2.2.2.1 _ hins⟩ ⟨fun a U g mk q => ⟨q.1, kI_blind U g mk a q.2⟩, fun U hU hW => ⟨rfl, kI_at hP hZ X.2.2.2.2.2.1 X.2.2.2.2.2.2.1 hO hS hU hW⟩⟩ rfl hn hl hst (lv_room hrm) hdg hf) hS (fun q _ h => h) (fun q h => h) (fun u t H1 locs1 ht hvm hw hB _ _ hS1 => ?_)
  exact kk H1 locs1 (by rw [← ht]; exact hB.1) (by rw [← ht]; exact hB.2.2.2.2) hS1
end LNEW
theorem d_X6 : yX6_init.cls ≠ "java/lang/invoke/MethodHandle" ∧ yX6_init.cls ≠ "java/lang/invoke/VarHandle" ∧ (parseMethodDescriptor yX6_init.desc).map (fun d => d.parameters.length) = some 0 := ⟨by decide, by decide, by decide +kernel⟩
theorem d_X7 : yX7_init.cls ≠ "java/lang/invoke/MethodHandle" ∧ yX7_init.cls ≠ "java/lang/invoke/VarHandle" ∧ (parseMethodDescriptor yX7_init.desc).map (fun d => d.parameters.length) = some 0 := ⟨by decide, by decide, by decide +kernel⟩
theorem z6_ok : ∀ j, j < 10 → defaultValue (tyX6 j) = vp_V [.null, .null, .null, .null, .null, .null, .null, .null, .int 0, .int 0] j := by
  intro j hj
  rcases (show j = 0 ∨ j = 1 ∨ j = 2 ∨ j = 3 ∨ j = 4 ∨ j = 5 ∨ j = 6 ∨ j = 7 ∨ j = 8 ∨ j = 9 by omega) with rfl | rfl | rfl | rfl | rfl | rfl | rfl | rfl | rfl | rfl <;> rfl
theorem z7_ok : ∀ j, j < 18 → defaultValue (tyX7 j) = vp_V [.null, .int 0, .null, .int 0, .int 0, .int 0, .null, .null, .null, .null, .int 0, .int 0, .int 0, .null, .null, .null, .null, .int 0] j := by
  intro j hj
  rcases (show j = 0 ∨ j = 1 ∨ j = 2 ∨ j = 3 ∨ j = 4 ∨ j = 5 ∨ j = 6 ∨ j = 7 ∨ j = 8 ∨ j = 9 ∨ j = 10 ∨ j = 11 ∨ j = 12 ∨ j = 13 ∨ j = 14 ∨ j = 15 ∨ j = 16 ∨ j = 17 by omega) with rfl | rfl | rfl | rfl | rfl | rfl | rfl | rfl | rfl | rfl | rfl | rfl | rfl | rfl | rfl | rfl | rfl | rfl <;> rfl
theorem begin_g {s : State} {b : Nat} (hts : ∀ w ∈ lw_tbl, w.before #[Value.ref b] s = true) (hgv : (Jvm.Cond.and given_1 narrow_1).before #[Value.ref b] s = true) : ∃ g : GC, gz g = s.heap.size ∧ va_K g.1 vwCl (gTy g) s ∧ gT g s s.heap ∧ va_AO RX2 s ∧ va_AO RX5 s := by
  have htg : ∀ w ∈ tbG, w.before #[Value.ref b] s = true := fun w h => hts w (List.mem_filter.mp h).1
  have hs := flat_of_before _ hgv
  obtain ⟨k0, i0, hk0⟩ := u_known (C := RX0) (T := TX0) (N := 3) (n := 3) htg inX0 (htg _ q1_158)
  obtain ⟨k1, i1, hk1⟩ := u_known (C := RX1) (T := TX1) (N := 3) (n := 3) htg inX1 (htg _ q1_121)
  obtain ⟨k2, i2, hk2⟩ := u_known (C := RX2) (T := TX2) (N := 4) (n := 4) htg inX2 (htg _ q1_175)
  obtain ⟨k3, i3, hk3⟩ := u_known (C := RX3) (T := TX3) (N := 3) (n := 3) htg inX3 (htg _ q1_140)
  obtain ⟨k4, i4, hk4⟩ := u_known (C := RX4) (T := TX4) (N := 5) (n := 5) htg inX4 (htg _ q1_96)
  obtain ⟨k5, i5, hk5⟩ := u_known (C := RX5) (T := TX5) (N := 11) (n := 11) htg inX5 (htg _ q1_25)
  obtain ⟨k6, i6, hk6⟩ := u_known (C := RX6) (T := TX6) (N := 10) (n := 10) htg inX6 (htg _ q1_14)
  obtain ⟨k7, i7, hk7⟩ := u_known (C := RX7) (T := TX7) (N := 18) (n := 18) htg inX7 (htg _ q4_20)
  obtain ⟨dC, dI, hKc⟩ : ∃ (dC : Nat → ClassId) (dI : Nat → Nat → Nat), ∀ (k : Nat) (q : vw_C), vwCl[k]? = some q → u_Kn s q.1 q.2.1 q.2.2 (dC k) (dI k) := by
    refine ⟨fun k => match k with | 0 => k0 | 1 => k1 | 2 => k2 | 3 => k3 | 4 => k4 | 5 => k5 | 6 => k6 | _ => k7, fun k => match k with | 0 => i0 | 1 => i1 | 2 => i2 | 3 => i3 | 4 => i4 | 5 => i5 | 6 => i6 | _ => i7, ?_⟩
    intro k q hq
    match k, hq with
    | 0, hq => cases hq; exact hk0
    | 1, hq => cases hq; exact hk1
    | 2, hq => cases hq; exact hk2
    | 3, hq => cases hq; exact hk3
    | 4, hq => cases hq; exact hk4
    | 5, hq => cases hq; exact hk5
    | 6, hq => cases hq; exact hk6
    | 7, hq => cases hq; exact hk7
    | k + 8, hq => simp [vwCl] at hq
  have hO2 : va_AO RX2 s := va_AO.of (hts (Cond.arrayOver (.object RX2)) (List.mem_append_right _ (List.mem_append_left _ (List.mem_of_getElem? (i := 22) (by decide +kernel)))))
  have hO5 : va_AO RX5 s := va_AO.of (hts (Cond.arrayOver (.object RX5)) (List.mem_append_right _ (List.mem_append_left _ (List.mem_of_getElem? (i := 24) (by decide +kernel)))))
  obtain ⟨cI', kA, cmA, a1, a2, a3⟩ := Cond.arrayClass_spec (htg (Cond.arrayClass .int) (gq1 (List.mem_of_getElem? (i := 94) (by decide +kernel)) rfl))
  obtain ⟨cZ, kZ, cmZ, b1, b2, b3⟩ := Cond.arrayClass_spec (htg (Cond.arrayClass .boolean) (gq4 (List.mem_of_getElem? (i := 80) (by decide +kernel)) rfl))
  obtain ⟨cmR, cR, kR, r1, r2, r3, r4, r5⟩ := Cond.arrayOver_spec hO2
  obtain ⟨cmW, cW, kW', w1, w2, w3, w4, w5⟩ := Cond.arrayOver_spec hO5
  obtain ⟨t1, ht1, hT1⟩ := va_Tof (args := #[Value.ref b]) (s := s) (tm := (Jvm.Term.static "MusicBox" "WIDER_KINDS" "[I")) (ty := .int) (N := 6) (f := gT1) (A := fun q => s.heap.size ≤ q) (by decide) (hs (Cond.arrayOf (Jvm.Term.static "MusicBox" "WIDER_KINDS" "[I") .int) (by decide +kernel)) (Cond.eq_int (hs (Cond.eq (.length (Jvm.Term.static "MusicBox" "WIDER_KINDS" "[I")) (.int 6)) (by decide +kernel)) rfl) (fun j hj => by
    rcases (show j = 0 ∨ j = 1 ∨ j = 2 ∨ j = 3 ∨ j = 4 ∨ j = 5 by omega) with rfl | rfl | rfl | rfl | rfl | rfl
    · exact Cond.eq_int (hs (Cond.eq (.elem (Jvm.Term.static "MusicBox" "WIDER_KINDS" "[I") (.int 0)) (.int 0)) (by decide +kernel)) rfl
    · exact Cond.eq_int (hs (Cond.eq (.elem (Jvm.Term.static "MusicBox" "WIDER_KINDS" "[I") (.int 1)) (.int 0)) (by decide +kernel)) rfl
    · exact Cond.eq_int (hs (Cond.eq (.elem (Jvm.Term.static "MusicBox" "WIDER_KINDS" "[I") (.int 2)) (.int 1)) (by decide +kernel)) rfl
    · exact Cond.eq_int (hs (Cond.eq (.elem (Jvm.Term.static "MusicBox" "WIDER_KINDS" "[I") (.int 3)) (.int 1)) (by decide +kernel)) rfl
    · exact Cond.eq_int (hs (Cond.eq (.elem (Jvm.Term.static "MusicBox" "WIDER_KINDS" "[I") (.int 4)) (.int 0)) (by decide +kernel)) rfl
    · exact Cond.eq_int (hs (Cond.eq (.elem (Jvm.Term.static "MusicBox" "WIDER_KINDS" "[I") (.int 5)) (.int 4)) (by decide +kernel)) rfl) (fun a h => Nat.not_le.mpr h)
  have hZ1 := va_Zref (A := fun q => s.heap.size ≤ q) (hts (Cond.laysStatic "MusicBox" "WIDER_KINDS" "[I") (List.mem_append_right _ (List.mem_append_right _ (List.mem_append_right _ (List.mem_append_left _ (List.mem_of_getElem? (i := 213) (by decide +kernel))))))) (htg _ q1_1) ht1 (fun a h => Nat.not_le.mpr h)
  obtain ⟨t2, ht2, hT2⟩ := va_Tof (args := #[Value.ref b]) (s := s) (tm := (Jvm.Term.static "MusicBox$Asking" "SIZE_BODIES" "[I")) (ty := .int) (N := 6) (f := gT2) (A := fun q => s.heap.size ≤ q) (by decide) (hs (Cond.arrayOf (Jvm.Term.static "MusicBox$Asking" "SIZE_BODIES" "[I") .int) (by decide +kernel)) (Cond.eq_int (hs (Cond.eq (.length (Jvm.Term.static "MusicBox$Asking" "SIZE_BODIES" "[I")) (.int 6)) (by decide +kernel)) rfl) (fun j hj => by
    rcases (show j = 0 ∨ j = 1 ∨ j = 2 ∨ j = 3 ∨ j = 4 ∨ j = 5 by omega) with rfl | rfl | rfl | rfl | rfl | rfl
    · exact Cond.eq_int (hs (Cond.eq (.elem (Jvm.Term.static "MusicBox$Asking" "SIZE_BODIES" "[I") (.int 0)) (.int 10)) (by decide +kernel)) rfl
    · exact Cond.eq_int (hs (Cond.eq (.elem (Jvm.Term.static "MusicBox$Asking" "SIZE_BODIES" "[I") (.int 1)) (.int 11)) (by decide +kernel)) rfl
    · exact Cond.eq_int (hs (Cond.eq (.elem (Jvm.Term.static "MusicBox$Asking" "SIZE_BODIES" "[I") (.int 2)) (.int 12)) (by decide +kernel)) rfl
    · exact Cond.eq_int (hs (Cond.eq (.elem (Jvm.Term.static "MusicBox$Asking" "SIZE_BODIES" "[I") (.int 3)) (.int 11)) (by decide +kernel)) rfl
    · exact Cond.eq_int (hs (Cond.eq (.elem (Jvm.Term.static "MusicBox$Asking" "SIZE_BODIES" "[I") (.int 4)) (.int 13)) (by decide +kernel)) rfl
    · exact Cond.eq_int (hs (Cond.eq (.elem (Jvm.Term.static "MusicBox$Asking" "SIZE_BODIES" "[I") (.int 5)) (.int 14)) (by decide +kernel)) rfl) (fun a h => Nat.not_le.mpr h)
  have hZ2 := va_Zref (A := fun q => s.heap.size ≤ q) (hts (Cond.laysStatic "MusicBox$Asking" "SIZE_BODIES" "[I") (List.mem_append_right _ (List.mem_append_right _ (List.mem_append_right _ (List.mem_append_left _ (List.mem_of_getElem? (i := 227) (by decide +kernel))))))) (htg _ q1_6) ht2 (fun a h => Nat.not_le.mpr h)
  obtain ⟨t3, ht3, hT3⟩ := va_Tof (args := #[Value.ref b]) (s := s) (tm := (Jvm.Term.static "MusicBox$Asking" "MARK_BODIES" "[I")) (ty := .int) (N := 6) (f := gT3) (A := fun q => s.heap.size ≤ q) (by decide) (hs (Cond.arrayOf (Jvm.Term.static "MusicBox$Asking" "MARK_BODIES" "[I") .int) (by decide +kernel)) (Cond.eq_int (hs (Cond.eq (.length (Jvm.Term.static "MusicBox$Asking" "MARK_BODIES" "[I")) (.int 6)) (by decide +kernel)) rfl) (fun j hj => by
    rcases (show j = 0 ∨ j = 1 ∨ j = 2 ∨ j = 3 ∨ j = 4 ∨ j = 5 by omega) with rfl | rfl | rfl | rfl | rfl | rfl
    · exact Cond.eq_int (hs (Cond.eq (.elem (Jvm.Term.static "MusicBox$Asking" "MARK_BODIES" "[I") (.int 0)) (.int 20)) (by decide +kernel)) rfl
    · exact Cond.eq_int (hs (Cond.eq (.elem (Jvm.Term.static "MusicBox$Asking" "MARK_BODIES" "[I") (.int 1)) (.int 21)) (by decide +kernel)) rfl
    · exact Cond.eq_int (hs (Cond.eq (.elem (Jvm.Term.static "MusicBox$Asking" "MARK_BODIES" "[I") (.int 2)) (.int 24)) (by decide +kernel)) rfl
    · exact Cond.eq_int (hs (Cond.eq (.elem (Jvm.Term.static "MusicBox$Asking" "MARK_BODIES" "[I") (.int 3)) (.int 22)) (by decide +kernel)) rfl
    · exact Cond.eq_int (hs (Cond.eq (.elem (Jvm.Term.static "MusicBox$Asking" "MARK_BODIES" "[I") (.int 4)) (.int 23)) (by decide +kernel)) rfl
    · exact Cond.eq_int (hs (Cond.eq (.elem (Jvm.Term.static "MusicBox$Asking" "MARK_BODIES" "[I") (.int 5)) (.int 23)) (by decide +kernel)) rfl) (fun a h => Nat.not_le.mpr h)
  have hZ3 := va_Zref (A := fun q => s.heap.size ≤ q) (hts (Cond.laysStatic "MusicBox$Asking" "MARK_BODIES" "[I") (List.mem_append_right _ (List.mem_append_right _ (List.mem_append_right _ (List.mem_append_left _ (List.mem_of_getElem? (i := 229) (by decide +kernel))))))) (htg _ q1_6) ht3 (fun a h => Nat.not_le.mpr h)
  refine ⟨((dC, dI), (fun k => match k with | 0 => cI' | 1 => cZ | 2 => cR | _ => cW), (fun k => match k with | 0 => s.heap.size | 1 => t1 | 2 => t2 | _ => t3)), rfl, ⟨hKc, fun k q hq => ?_⟩, ⟨⟨hZ1, hT1⟩, ⟨hZ2, hT2⟩, ⟨hZ3, hT3⟩⟩, hO2, hO5⟩
  match k, hq with
  | 0, hq => cases hq; exact ⟨fun n z => ⟨fun k h => (by cases h), kA, a2, cmA, a3⟩, a1⟩
  | 1, hq => cases hq; exact ⟨fun n z => ⟨fun k h => (by cases h), kZ, b2, cmZ, b3⟩, b1⟩
  | 2, hq => cases hq; exact ⟨fun n z => ⟨fun k h => (by cases h), kR, r3, cmR, r4⟩, kR, cmR, r3, r4, r1, r5⟩
  | 3, hq => cases hq; exact ⟨fun n z => ⟨fun k h => (by cases h), kW', w3, cmW, w4⟩, kW', cmW, w3, w4, w1, w5⟩
  | k + 4, hq => simp [gTy] at hq
set_option maxHeartbeats 4000000 in
set_option maxRecDepth 100000 in
theorem whole_start {p : Program} {e : Env} {s : State} {m : MethodId} {below : List Frame} {meth : Method} {c : Code} (l : Launch) (hflags : l.flags = flags0) {b L : Nat} {xs : Nat → Int32} (hL : L ≤ 3072) (C0 : lw_At p s m meth c b L xs) : W p l e room_1 s m #[Value.ref b] below meth c s.heap [] 0 0 (lw_Z below #[Value.ref b] s) (entryFrame m ([Value.ref b] : List Value).toArray 4) := by
  obtain ⟨hx, hb, hr, hml, hown, hts, hX, hbl, hlocks, hgv⟩ := id C0
  obtain ⟨g, hz, hK, hT, hO⟩ := begin_g hts hgv
  have X : Lx p s m meth c g b L xs := ⟨⟨hx, hb, hml, hown, fun w h => hts w (List.mem_filter.mp h).1, hK, hT, hr, hlocks⟩, hX, hbl, by show ¬ gz g ≤ b; omega⟩
  have hl := lv_entry ([.ref b]) (n := 4) (Nat.le_of_ble_eq_true rfl)
  rw [lg_entry_eq]
  generalize (lg_sl ([.ref b]) ++ List.replicate (4 - (lg_sl ([.ref b])).length) Slot.unset).toArray = ls at hl ⊢
  have hl : lv_has ls 4 [(0, .ref b)] := hl
  have hP : va_P g.1 vwCl (kW g 0 (fun _ => .inr (0, []))) s.heap := fun k q h => by simp [kW] at h
  have hZ : s.heap.size = gz g + 0 := by omega
  have hS : va_S (gA g) s.heap s.heap [] := va_S.rf
  refine l_new (C := RX6) (T := TX6) (N := 10) (ci := 6) (ty := tyX6) (fs := [.null, .null, .null, .null, .null, .null, .null, .null, .int 0, .int 0]) X.1 hP hZ hS inX6 tyX6_ok q1_13 q1_14 q1_1 rfl z6_ok (Nat.le_of_ble_eq_true rfl) (Nat.le_of_ble_eq_true rfl) dL_law_0 (fun H hP hZ hS => ?_)
  refine lv_dup hx hb dL_law_3 rfl ?_
  refine l_call (As := []) (c := 0) (rest := [.ref (gz g + 0)]) X.1 hO (c_X6_init l g (upE_s _ _ _)) rfl q1_17 q1_1 q1_16 q1_15 d_X6 ⟨Nat.le_of_ble_eq_true rfl, Nat.le_of_ble_eq_true rfl⟩ hP hZ hS rfl hl.1 rfl (Nat.le_of_ble_eq_true rfl) ⟨Nat.le_of_ble_eq_true rfl, Nat.le_of_ble_eq_true rfl⟩ dL_law_4 (fun H locs hP hZ hS => ?_)
  refine lv_astore_n (lv' := [(1, .ref (gz g + 0)), (0, .ref b)]) hx hb dL_law_7 rfl hl (by decide) rfl (fun ls hl => ?_)
  refine l_new (C := RX7) (T := TX7) (N := 18) (ci := 7) (ty := tyX7) (fs := [.null, .int 0, .null, .int 0, .int 0, .int 0, .null, .null, .null, .null, .int 0, .int 0, .int 0, .null, .null, .null, .null, .int 0]) X.1 hP hZ hS inX7 tyX7_ok q4_19 q4_20 q1_8 rfl z7_ok (Nat.le_of_ble_eq_true rfl) (Nat.le_of_ble_eq_true rfl) dL_law_8 (fun H hP hZ hS => ?_)
  refine lv_dup hx hb dL_law_11 rfl ?_
  refine l_call (As := []) (c := 279) (rest := [.ref (gz g + 279)]) X.1 hO (c_X7_init l g (upE_s _ _ _)) rfl q4_23 q1_8 q4_22 q4_21 d_X7 ⟨Nat.le_of_ble_eq_true rfl, Nat.le_of_ble_eq_true rfl⟩ hP hZ hS rfl hl.1 rfl (Nat.le_of_ble_eq_true rfl) ⟨Nat.le_of_ble_eq_true rfl, Nat.le_of_ble_eq_true rfl⟩ dL_law_12 (fun H locs hP hZ hS => ?_)
  refine lv_astore_n (lv' := [(2, .ref (gz g + 279)), (1, .ref (gz g + 0)), (0, .ref b)]) hx hb dL_law_15 rfl hl (by decide) rfl (fun ls hl => ?_)
  refine lv_iconst (v := (0 : Int32)) hx hb dL_law_16 (by decide) ?_
  refine lv_istore_n (lv' := [(3, .int (0 : Int32)), (2, .ref (gz g + 279)), (1, .ref (gz g + 0)), (0, .ref b)]) hx hb dL_law_17 rfl hl (by decide) rfl (fun ls hl => ?_)
  refine W.widen (k := 600000) (n := 7302249) (Nat.le_of_ble_eq_true rfl) (Nat.le_of_ble_eq_true rfl) ?_
  exact law_loop hL X hz (L + 1) 0 M0 H locs ls (by omega) (Nat.zero_le _) Inv_M0 (fin_P (fun k hk => upE_n (by omega)) hP) hS (lv_sub hl [3, 2, 1, 0] rfl)
