/-! calls that try: the class on its trial box, the reference on its second segment -/
theorem cb_id {α : Type} (o : Option (α × Mem)) : cb o (fun r M' => some (r, M')) = o := by
  cases o <;> rfl
def Rel (P : Mem → Prop) (F G : Mem → Option (Int32 × Mem)) (MC : Mem) : Prop := ∃ r MC', F MC = some (r, MC') ∧ Fr MC MC' ∧ ∀ MM, P MM → ∃ MM', G MM = some (r, MM') ∧ Fr MM MM'
theorem Rel.ret {P : Mem → Prop} {F G : Mem → Option (Int32 × Mem)} {MC : Mem} {x : Int32} (h1 : F MC = some (x, MC)) (h2 : ∀ MM, P MM → G MM = some (x, MM)) : Rel P F G MC := ⟨x, MC, h1, Fr.rf _, fun MM hp => ⟨MM, h2 MM hp, Fr.rf _⟩⟩
theorem Rel.step {P P' : Mem → Prop} {F G F' G' : Mem → Option (Int32 × Mem)} {MC MC2 : Mem} (h : Rel P' F' G' MC2) (h1 : F MC = F' MC2) (f1 : Fr MC MC2) (h2 : ∀ MM, P MM → ∃ MM2, G MM = G' MM2 ∧ Fr MM MM2 ∧ P' MM2) : Rel P F G MC := by
  obtain ⟨r, MC', e, f, k⟩ := h
  refine ⟨r, MC', h1.trans e, f1.tr f, fun MM hp => ?_⟩
  obtain ⟨MM2, e2, f2, p2⟩ := h2 MM hp
  obtain ⟨MM', e3, f3⟩ := k MM2 p2
  exact ⟨MM', e2.trans e3, f2.tr f3⟩
theorem isS.frk {M M' : Mem} {b : Nat → Nat} (s : isS M 0 b) (f : Fr M M') : isS M' 0 b := s.kept (fun j _ h2 => f.2.2.1 j (by omega))
theorem isW.frk {M M' : Mem} {b : Nat → Nat} (s : isW M 3 b) (f : Fr M M') : isW M' 3 b := s.kept (fun c _ h2 => f.1 c (by omega))
theorem Rel.go {F G : Mem → Option (Int32 × Mem)} {M : Mem} {b : Nat → Nat} (h : Inv M) (s : isS M 0 b) (r : Rel (fun MM => isS MM 0 b) F G M) : ∃ r M1 M2, F M = some (r, M1) ∧ G M1 = some (r, M2) ∧ Inv M2 := by
  obtain ⟨r, M1, e, f, k⟩ := r
  obtain ⟨M2, e2, f2⟩ := k M1 (s.frk f)
  exact ⟨r, M1, M2, e, e2, (h.fr f).fr f2⟩
theorem z0 : nI 0 = (0 : Int32) := rfl
theorem z1 : nI 1 = (1 : Int32) := rfl
theorem z2 : nI 2 = (2 : Int32) := rfl
theorem z3 : nI 3 = (3 : Int32) := rfl
section FORE
variable {M : Mem} {b : Nat → Nat}
theorem S_loud43 (h : isS M 43 b) : f_X7_loud (43 : Int32) M = some (nI (loud b), M) := S_loud (o := 43) (by decide) h
theorem S_ringing43 (h : isS M 43 b) (hw : ∀ j, j < b 0 → b (18 + j) < 1000) : f_X7_ringing (43 : Int32) M = some (nI (ringing b), M) := S_ringing (o := 43) (by decide) h hw
theorem S_passes43 (h : isS M 43 b) (hw : WF b) : sV' 43 M (tick b) (f_X7_passes (43 : Int32) M) := S_passes (o := 43) (by decide) h hw
theorem S_mends43 {t : Nat} (h : isS M 43 b) (h5 : b 5 < 64) (ht : t < 6) : sV' 43 M (mend b t) (f_X7_mends (43 : Int32) (nI t) M) := S_mends (o := 43) (by decide) h h5 ht
theorem isS.y (h : isS M 43 b) {k : Nat} (hk : rel (b 0) (b 1) k) : M 280 (43 + k) = nI (b k) := h.2.2 k (Or.inl hk)
theorem T_take (h : isW M 3 b) : dV 164 M b (f_X5_takeFrom 164 3 M) := T_takeFrom h (by omega)
/-- the trial, some ticks on -/
theorem T_tryAhead {n : Nat} (hn : n < 1000) (h : isW M 3 b) (w : WF b) : dV 164 M (ticks b n) (f_X3_tryAhead (nI n) M) := by
  obtain ⟨M1, e1, w1, f1⟩ := T_take h
  obtain ⟨M2, e2, w2, f2⟩ := T_turnTimes (m := n) hn w1 w
  refine ⟨M2, ?_, w2, f1.tr f2⟩
  unfold f_X3_tryAhead
  rw [e1, cv_k, e2, cv_k]
theorem S_tryAhead {n : Nat} (hn : n < 1000) (h : isS M 0 b) (w : WF b) : ∃ M1 M2, f_X7_tries M = some M1 ∧ f_X7_goesOn (nI n) M1 = some M2 ∧ isS M2 43 (ticks b n) ∧ frS 43 M M2 := by
  obtain ⟨M1, e1, w1, f1⟩ := S_tries h
  obtain ⟨M2, e2, w2, f2⟩ := S_goesOn (m := n) hn w1 w
  exact ⟨M1, M2, e1, e2, w2, f1.tr f2⟩
theorem FrW {M' : Mem} (f : fr6 164 M M') : Fr M M' := Fr.c6 f (by omega)
theorem FrM {M' : Mem} (f : frS 43 M M') : Fr M M' := Fr.s f (Or.inl rfl)
end FORE
theorem Sim_ahead (x y z : Int32) : Sim (f_X6_ahead x y z) (f_X7_ahead x y z) := by
  intro M h
  obtain ⟨b, im, H, hn, nt, tl, tn, h1, h2, h3, h4, h5, h6, h7⟩ := id h
  have hl := h1.2.2.lt
  rcases tooth_cases x (n := b 0) (by omega) with ⟨ga0, gb0⟩ | ⟨t, ht, rfl, ga0, gb0⟩
  · exact ⟨_, M, M, by unfold f_X6_ahead; rw [ga0 M h1.1.teeth, cb_k, if_pos rfl], by unfold f_X7_ahead; rw [gb0 M h1.2.1.f0, cb_k, if_pos rfl], h⟩
  rcases W_cases y (lo := 0) (hi := 60) (a := (0 : Int32)) (b := (60 : Int32)) (a' := (0 : Int64)) (b' := (60 : Int64)) rfl rfl (by decide) (by decide) (by decide) (by decide) with ⟨ga1, gb1⟩ | ⟨n, ln, hn, rfl, ga1, gb1⟩
  · exact ⟨_, M, M, by unfold f_X6_ahead; rw [ga0 M h1.1.teeth, cb_k, if_neg (by decide), ga1 M, cb_k, if_pos rfl], by unfold f_X7_ahead; rw [gb0 M h1.2.1.f0, cb_k, if_neg (by decide), gb1 M, cb_k, if_pos rfl], h⟩
  rcases W_cases z (lo := 0) (hi := 2) (a := (0 : Int32)) (b := (2 : Int32)) (a' := (0 : Int64)) (b' := (2 : Int64)) rfl rfl (by decide) (by decide) (by decide) (by decide) with ⟨ga2, gb2⟩ | ⟨k, lk, hk, rfl, ga2, gb2⟩
  · exact ⟨_, M, M, by unfold f_X6_ahead; rw [ga0 M h1.1.teeth, cb_k, if_neg (by decide), ga1 M, cb_k, if_neg (by decide), ga2 M, cb_k, if_pos rfl], by unfold f_X7_ahead; rw [gb0 M h1.2.1.f0, cb_k, if_neg (by decide), gb1 M, cb_k, if_neg (by decide), gb2 M, cb_k, if_pos rfl], h⟩
  obtain ⟨w, _⟩ := h1.2.2.wf (by omega)
  have wn := WF_ticks w n
  have e0 := ticks_n w (i := 0) (by omega) n
  obtain ⟨M2, e2, w2, f2⟩ := T_tryAhead (n := n) (by omega) h1.1 w
  rcases (show k = 0 ∨ k = 1 ∨ k = 2 by omega) with rfl | rfl | rfl
  · refine Rel.go h h1.2.1 ⟨nI (ticks b n (18 + t)), M2, ?_, FrW f2, fun MM s => ?_⟩
    · unfold f_X6_ahead f_X3_toothAhead
      rw [ga0 M h1.1.teeth, cb_k, if_neg (by decide), ga1 M, cb_k, if_neg (by decide), ga2 M, cb_k, if_neg (by decide), cb_id, e2, cv_k, lt_k]
      rw [if_pos z0, nI_ck (by omega) (by decide), nI_cl (by omega), w2.rings (by omega)]
    obtain ⟨Ma, M3, ea, e3, s3, f3⟩ := S_tryAhead (n := n) (by omega) s w
    refine ⟨M3, ?_, FrM f3⟩
    unfold f_X7_ahead
    rw [gb0 MM s.f0, cb_k, if_neg (by decide), gb1 MM, cb_k, if_neg (by decide), gb2 MM, cb_k, if_neg (by decide), ea, cv_k, e3, cv_k]
    rw [if_pos z0]
    simp (disch := omega) only [l_61, nI_add, nI_ck, nI_cl]
    rw [show M3 280 (61 + t) = nI (ticks b n (18 + t)) from s3.rings (by omega)]
  · refine Rel.go h h1.2.1 ⟨nI (ticks b n (24 + t)), M2, ?_, FrW f2, fun MM s => ?_⟩
    · unfold f_X6_ahead f_X3_toothAhead
      rw [ga0 M h1.1.teeth, cb_k, if_neg (by decide), ga1 M, cb_k, if_neg (by decide), ga2 M, cb_k, if_neg (by decide), cb_id, e2, cv_k, lt_k]
      rw [if_neg (by decide), if_pos z1, nI_ck (by omega) (by decide), nI_cl (by omega), w2.plucked (by omega)]
    obtain ⟨Ma, M3, ea, e3, s3, f3⟩ := S_tryAhead (n := n) (by omega) s w
    refine ⟨M3, ?_, FrM f3⟩
    unfold f_X7_ahead
    rw [gb0 MM s.f0, cb_k, if_neg (by decide), gb1 MM, cb_k, if_neg (by decide), gb2 MM, cb_k, if_neg (by decide), ea, cv_k, e3, cv_k]
    rw [if_neg (by decide), if_pos z1]
    simp (disch := omega) only [l_67, nI_add, nI_ck, nI_cl]
    rw [show M3 280 (67 + t) = nI (ticks b n (24 + t)) from s3.plucked (by omega)]
  · refine Rel.go h h1.2.1 ⟨nI (bit (ticks b n 5) t), M2, ?_, FrW f2, fun MM s => ?_⟩
    · unfold f_X6_ahead f_X3_toothAhead
      rw [ga0 M h1.1.teeth, cb_k, if_neg (by decide), ga1 M, cb_k, if_neg (by decide), ga2 M, cb_k, if_neg (by decide), cb_id, e2, cv_k, lt_k]
      rw [if_neg (by decide), if_neg (by decide), T_isBroken w2 wn.2.2.2.2.1 (by omega), cb_k]
      have hb := bit_lt (ticks b n 5) t
      rcases (show bit (ticks b n 5) t = 0 ∨ bit (ticks b n 5) t = 1 by omega) with q | q
      · rw [q]; rfl
      · rw [q]; rfl
    obtain ⟨Ma, M3, ea, e3, s3, f3⟩ := S_tryAhead (n := n) (by omega) s w
    refine ⟨M3, ?_, FrM f3⟩
    unfold f_X7_ahead
    rw [gb0 MM s.f0, cb_k, if_neg (by decide), gb1 MM, cb_k, if_neg (by decide), gb2 MM, cb_k, if_neg (by decide), ea, cv_k, e3, cv_k]
    rw [if_neg (by decide), if_neg (by decide), show M3 280 48 = nI (ticks b n 5) from s3.f (k := 5) (by decide), nhas (by have := wn.2.2.2.2.1; omega) (by omega)]
theorem Sim_heard (x y : Int32) : Sim (f_X6_heard x y) (f_X7_heard x y) := by
  intro M h
  obtain ⟨b, im, H, hn, nt, tl, tn, h1, h2, h3, h4, h5, h6, h7⟩ := id h
  have hl := h1.2.2.lt
  rcases box_cases (n := b 0) (by omega) with ⟨q0, ga0, gb0⟩ | ⟨q0, ga0, gb0⟩
  · exact ⟨_, M, M, by unfold f_X6_heard; rw [ga0 M h1.1.teeth, cb_k, if_pos rfl], by unfold f_X7_heard; rw [gb0 M h1.2.1.f0, cb_k, if_pos rfl], h⟩
  rcases W_cases x (lo := 0) (hi := 60) (a := (0 : Int32)) (b := (60 : Int32)) (a' := (0 : Int64)) (b' := (60 : Int64)) rfl rfl (by decide) (by decide) (by decide) (by decide) with ⟨ga1, gb1⟩ | ⟨n, ln, hn, rfl, ga1, gb1⟩
  · exact ⟨_, M, M, by unfold f_X6_heard; rw [ga0 M h1.1.teeth, cb_k, if_neg (by decide), ga1 M, cb_k, if_pos rfl], by unfold f_X7_heard; rw [gb0 M h1.2.1.f0, cb_k, if_neg (by decide), gb1 M, cb_k, if_pos rfl], h⟩
  rcases W_cases y (lo := 0) (hi := 3) (a := (0 : Int32)) (b := (3 : Int32)) (a' := (0 : Int64)) (b' := (3 : Int64)) rfl rfl (by decide) (by decide) (by decide) (by decide) with ⟨ga2, gb2⟩ | ⟨k, lk, hk, rfl, ga2, gb2⟩
  · exact ⟨_, M, M, by unfold f_X6_heard; rw [ga0 M h1.1.teeth, cb_k, if_neg (by decide), ga1 M, cb_k, if_neg (by decide), ga2 M, cb_k, if_pos rfl], by unfold f_X7_heard; rw [gb0 M h1.2.1.f0, cb_k, if_neg (by decide), gb1 M, cb_k, if_neg (by decide), gb2 M, cb_k, if_pos rfl], h⟩
  obtain ⟨w, _⟩ := h1.2.2.wf (by omega)
  have wn := WF_ticks w n
  have e0 := ticks_n w (i := 0) (by omega) n
  obtain ⟨M2, e2, w2, f2⟩ := T_tryAhead (n := n) (by omega) h1.1 w
  rcases (show k = 0 ∨ k = 1 ∨ k = 2 ∨ k = 3 by omega) with rfl | rfl | rfl | rfl
  · refine Rel.go h h1.2.1 ⟨nI (loud (ticks b n)), M2, ?_, FrW f2, fun MM s => ?_⟩
    · unfold f_X6_heard f_X3_boxAhead
      rw [ga0 M h1.1.teeth, cb_k, if_neg (by decide), ga1 M, cb_k, if_neg (by decide), ga2 M, cb_k, if_neg (by decide), cb_id, e2, cv_k, lt_k]
      rw [if_pos z0, T_loud w2, cb_k]
    obtain ⟨Ma, M3, ea, e3, s3, f3⟩ := S_tryAhead (n := n) (by omega) s w
    refine ⟨M3, ?_, FrM f3⟩
    unfold f_X7_heard
    rw [gb0 MM s.f0, cb_k, if_neg (by decide), gb1 MM, cb_k, if_neg (by decide), gb2 MM, cb_k, if_neg (by decide), ea, cv_k, e3, cv_k]
    rw [if_pos z0, S_loud43 s3, cb_k]
  · refine Rel.go h h1.2.1 ⟨nI (ringing (ticks b n)), M2, ?_, FrW f2, fun MM s => ?_⟩
    · unfold f_X6_heard f_X3_boxAhead
      rw [ga0 M h1.1.teeth, cb_k, if_neg (by decide), ga1 M, cb_k, if_neg (by decide), ga2 M, cb_k, if_neg (by decide), cb_id, e2, cv_k, lt_k]
      rw [if_neg (by decide), if_pos z1, T_ringing w2 wn.r1000, cb_k]
    obtain ⟨Ma, M3, ea, e3, s3, f3⟩ := S_tryAhead (n := n) (by omega) s w
    refine ⟨M3, ?_, FrM f3⟩
    unfold f_X7_heard
    rw [gb0 MM s.f0, cb_k, if_neg (by decide), gb1 MM, cb_k, if_neg (by decide), gb2 MM, cb_k, if_neg (by decide), ea, cv_k, e3, cv_k]
    rw [if_neg (by decide), if_pos z1, S_ringing43 s3 wn.r1000, cb_k]
  · refine Rel.go h h1.2.1 ⟨nI (ticks b n 3), M2, ?_, FrW f2, fun MM s => ?_⟩
    · unfold f_X6_heard f_X3_boxAhead
      rw [ga0 M h1.1.teeth, cb_k, if_neg (by decide), ga1 M, cb_k, if_neg (by decide), ga2 M, cb_k, if_neg (by decide), cb_id, e2, cv_k, lt_k]
      rw [if_neg (by decide), if_neg (by decide), if_pos z2, w2.drum]
    obtain ⟨Ma, M3, ea, e3, s3, f3⟩ := S_tryAhead (n := n) (by omega) s w
    refine ⟨M3, ?_, FrM f3⟩
    unfold f_X7_heard
    rw [gb0 MM s.f0, cb_k, if_neg (by decide), gb1 MM, cb_k, if_neg (by decide), gb2 MM, cb_k, if_neg (by decide), ea, cv_k, e3, cv_k]
    rw [if_neg (by decide), if_neg (by decide), if_pos z2, show M3 280 46 = nI (ticks b n 3) from s3.f (k := 3) (by decide)]
  · refine Rel.go h h1.2.1 ⟨nI (ticks b n 2), M2, ?_, FrW f2, fun MM s => ?_⟩
    · unfold f_X6_heard f_X3_boxAhead
      rw [ga0 M h1.1.teeth, cb_k, if_neg (by decide), ga1 M, cb_k, if_neg (by decide), ga2 M, cb_k, if_neg (by decide), cb_id, e2, cv_k, lt_k]
      rw [if_neg (by decide), if_neg (by decide), if_neg (by decide), w2.spring]
    obtain ⟨Ma, M3, ea, e3, s3, f3⟩ := S_tryAhead (n := n) (by omega) s w
    refine ⟨M3, ?_, FrM f3⟩
    unfold f_X7_heard
    rw [gb0 MM s.f0, cb_k, if_neg (by decide), gb1 MM, cb_k, if_neg (by decide), gb2 MM, cb_k, if_neg (by decide), ea, cv_k, e3, cv_k]
    rw [if_neg (by decide), if_neg (by decide), if_neg (by decide), show M3 280 45 = nI (ticks b n 2) from s3.f (k := 2) (by decide)]
theorem Q_stops {b : Nat → Nat} (w : WF b) : ∀ (c n k : Nat) (MC : Mem), k + c = 61 → c < n → isW MC 164 (ticks b k) → Rel (fun MM => isS MM 43 (ticks b k)) (f_X3_firstStop_13 n (nI k)) (f_X7_stops_16 n (nI k)) MC := by
  intro c
  induction c with
  | zero =>
    intro n k MC hk hn hw
    obtain ⟨n, rfl⟩ : ∃ m, n = m + 1 := ⟨n - 1, by omega⟩
    refine Rel.ret (x := -1000000) ?_ (fun MM _ => ?_)
    · rw [f_X3_firstStop_13]
      simp (disch := omega) only [l_60, nlt]
      rw [if_pos (by omega)]
    · rw [f_X7_stops_16]
      simp (disch := omega) only [l_60, nlt]
      rw [if_pos (by omega)]
  | succ c ih =>
    intro n k MC hk hn hw
    obtain ⟨n, rfl⟩ : ∃ m, n = m + 1 := ⟨n - 1, by omega⟩
    have wk := WF_ticks w k
    have h99 := wk.2.2.1
    by_cases q : ticks b k 2 = 0
    · refine Rel.ret (x := nI k) ?_ (fun MM s => ?_)
      · rw [f_X3_firstStop_13, hw.spring]
        simp (disch := omega) only [l_60, nlt, neq0]
        rw [if_neg (by omega), if_pos q]
      · rw [f_X7_stops_16, show MM 280 45 = nI (ticks b k 2) from isS.f s (k := 2) (by decide)]
        simp (disch := omega) only [l_60, nlt, neq0]
        rw [if_neg (by omega), if_pos q]
    · obtain ⟨M2, e2, w2, f2⟩ := T_turn hw wk
      refine (ih n (k + 1) M2 (by omega) (by omega) w2).step ?_ (FrW f2) (fun MM s => ?_)
      · rw [f_X3_firstStop_13, hw.spring]
        simp (disch := omega) only [l_60, nlt, neq0]
        rw [if_neg (by omega), if_neg q, e2, cb_k, show nI k + (1 : Int32) = nI (k + 1) from nI_1 k]
      · obtain ⟨M3, e3, s3, f3⟩ := S_passes43 s wk
        refine ⟨M3, ?_, FrM f3, s3⟩
        rw [f_X7_stops_16, show MM 280 45 = nI (ticks b k 2) from isS.f s (k := 2) (by decide)]
        simp (disch := omega) only [l_60, nlt, neq0]
        rw [if_neg (by omega), if_neg q, e3, cv_k, show nI k + (1 : Int32) = nI (k + 1) from nI_1 k]
theorem Sim_stops : Sim (f_X6_stops) (f_X7_stops) := by
  intro M h
  obtain ⟨b, im, H, hn, nt, tl, tn, h1, h2, h3, h4, h5, h6, h7⟩ := id h
  have hl := h1.2.2.lt
  rcases box_cases (n := b 0) (by omega) with ⟨q0, ga0, gb0⟩ | ⟨q0, ga0, gb0⟩
  · exact ⟨_, M, M, by unfold f_X6_stops; rw [ga0 M h1.1.teeth, cb_k, if_pos rfl], by unfold f_X7_stops; rw [gb0 M h1.2.1.f0, cb_k, if_pos rfl], h⟩
  obtain ⟨w, _⟩ := h1.2.2.wf (by omega)
  obtain ⟨M2, e2, w2, f2⟩ := T_take h1.1
  refine Rel.go h h1.2.1 ((Q_stops w 61 FU 0 M2 (by omega) (by decide) w2).step ?_ (FrW f2) (fun MM s => ?_))
  · unfold f_X6_stops f_X3_firstStop
    rw [ga0 M h1.1.teeth, cb_k, if_neg (by decide), cb_id, e2, cv_k]
    rfl
  · obtain ⟨M3, e3, s3, f3⟩ := S_tries s
    refine ⟨M3, ?_, FrM f3, s3⟩
    unfold f_X7_stops
    rw [gb0 MM s.f0, cb_k, if_neg (by decide), e3, cv_k]
    rfl
theorem Q_when {b : Nat → Nat} {t how : Nat} (w : WF b) (ht : t < b 0) (hh : how = 0 ∨ how = 1) : ∀ (c n k : Nat) (MC : Mem), k + c = 61 → c < n → isW MC 164 (ticks b k) → Rel (fun MM => isS MM 43 (ticks b k)) (f_X3_firstTick_13 (nI t) (nI how) n (nI k)) (f_X7_when_27 (nI t) (nI how) n (nI k)) MC := by
  have h6 := w.1.2
  intro c
  induction c with
  | zero =>
    intro n k MC hk hn hw
    obtain ⟨n, rfl⟩ : ∃ m, n = m + 1 := ⟨n - 1, by omega⟩
    refine Rel.ret (x := -1000000) ?_ (fun MM _ => ?_)
    · rw [f_X3_firstTick_13]
      simp (disch := omega) only [l_60, nlt]
      rw [if_pos (by omega)]
    · rw [f_X7_when_27]
      simp (disch := omega) only [l_60, nlt]
      rw [if_pos (by omega)]
  | succ c ih =>
    intro n k MC hk hn hw
    obtain ⟨n, rfl⟩ : ∃ m, n = m + 1 := ⟨n - 1, by omega⟩
    have wk := WF_ticks w k
    have e0 := ticks_n w (i := 0) (by omega) k
    have h18 := (wk.2.2.2.2.2.1 t (by omega)).2.2.1
    have h5 := wk.2.2.2.2.1
    have hb := bit_lt (ticks b k 5) t
    obtain ⟨M2, e2, w2, f2⟩ := T_turn hw wk
    have E : nI k + (1 : Int32) = nI (k + 1) := nI_1 k
    rcases hh with rfl | rfl
    · by_cases q : ticks b k (18 + t) = 0
      · refine (ih n (k + 1) M2 (by omega) (by omega) w2).step ?_ (FrW f2) (fun MM s => ?_)
        · rw [f_X3_firstTick_13]
          simp (disch := omega) only [l_60, nlt, nI_ck, nI_cl]
          rw [if_neg (by omega), if_pos z0, hw.rings (by omega)]
          simp (disch := omega) only [nle0]
          rw [if_pos q]
          unfold f_X3_firstTick_51
          rw [if_pos rfl, e2, cb_k, E]
        · obtain ⟨M3, e3, s3, f3⟩ := S_passes43 s wk
          refine ⟨M3, ?_, FrM f3, s3⟩
          rw [f_X7_when_27]
          simp (disch := omega) only [l_60, l_61, nlt, nI_add, nI_ck, nI_cl]
          rw [if_neg (by omega), if_pos z0, show MM 280 (61 + t) = nI (ticks b k (18 + t)) from isS.rings s (by omega)]
          simp (disch := omega) only [nle0]
          rw [if_pos q]
          unfold f_X7_when_68
          rw [e3, cv_k, E]
      · refine Rel.ret (x := nI k) ?_ (fun MM s => ?_)
        · rw [f_X3_firstTick_13]
          simp (disch := omega) only [l_60, nlt, nI_ck, nI_cl]
          rw [if_neg (by omega), if_pos z0, hw.rings (by omega)]
          simp (disch := omega) only [nle0]
          rw [if_neg q]
          unfold f_X3_firstTick_51
          rw [if_neg (by decide)]
        · rw [f_X7_when_27]
          simp (disch := omega) only [l_60, l_61, nlt, nI_add, nI_ck, nI_cl]
          rw [if_neg (by omega), if_pos z0, show MM 280 (61 + t) = nI (ticks b k (18 + t)) from isS.rings s (by omega)]
          simp (disch := omega) only [nle0]
          rw [if_neg q]
    · by_cases q : bit (ticks b k 5) t = 0
      · refine (ih n (k + 1) M2 (by omega) (by omega) w2).step ?_ (FrW f2) (fun MM s => ?_)
        · rw [f_X3_firstTick_13]
          simp (disch := omega) only [l_60, nlt, nI_ck, nI_cl]
          rw [if_neg (by omega), if_neg (by decide), T_isBroken hw h5 (by omega), cb_k, q]
          unfold f_X3_firstTick_51
          rw [if_pos z0, e2, cb_k, E]
        · obtain ⟨M3, e3, s3, f3⟩ := S_passes43 s wk
          refine ⟨M3, ?_, FrM f3, s3⟩
          rw [f_X7_when_27]
          simp (disch := omega) only [l_60, l_61, nlt, nI_add, nI_ck, nI_cl]
          rw [if_neg (by omega), if_neg (by decide), show MM 280 48 = nI (ticks b k 5) from isS.f s (k := 5) (by decide), S_has (by omega) (by omega), cb_k, q, if_pos z0]
          unfold f_X7_when_68
          rw [e3, cv_k, E]
      · have q1 : bit (ticks b k 5) t = 1 := by omega
        refine Rel.ret (x := nI k) ?_ (fun MM s => ?_)
        · rw [f_X3_firstTick_13]
          simp (disch := omega) only [l_60, nlt, nI_ck, nI_cl]
          rw [if_neg (by omega), if_neg (by decide), T_isBroken hw h5 (by omega), cb_k, q1]
          unfold f_X3_firstTick_51
          rw [if_neg (by decide)]
        · rw [f_X7_when_27]
          simp (disch := omega) only [l_60, l_61, nlt, nI_add, nI_ck, nI_cl]
          rw [if_neg (by omega), if_neg (by decide), show MM 280 48 = nI (ticks b k 5) from isS.f s (k := 5) (by decide), S_has (by omega) (by omega), cb_k, q1, if_neg (by decide)]
theorem Sim_when (x y : Int32) : Sim (f_X6_when x y) (f_X7_when x y) := by
  intro M h
  obtain ⟨b, im, H, hn, nt, tl, tn, h1, h2, h3, h4, h5, h6, h7⟩ := id h
  have hl := h1.2.2.lt
  rcases tooth_cases x (n := b 0) (by omega) with ⟨ga0, gb0⟩ | ⟨t, ht, rfl, ga0, gb0⟩
  · exact ⟨_, M, M, by unfold f_X6_when; rw [ga0 M h1.1.teeth, cb_k, if_pos rfl], by unfold f_X7_when; rw [gb0 M h1.2.1.f0, cb_k, if_pos rfl], h⟩
  rcases W_cases y (lo := 0) (hi := 1) (a := (0 : Int32)) (b := (1 : Int32)) (a' := (0 : Int64)) (b' := (1 : Int64)) rfl rfl (by decide) (by decide) (by decide) (by decide) with ⟨ga1, gb1⟩ | ⟨k, lk, hk, rfl, ga1, gb1⟩
  · exact ⟨_, M, M, by unfold f_X6_when; rw [ga0 M h1.1.teeth, cb_k, if_neg (by decide), ga1 M, cb_k, if_pos rfl], by unfold f_X7_when; rw [gb0 M h1.2.1.f0, cb_k, if_neg (by decide), gb1 M, cb_k, if_pos rfl], h⟩
  obtain ⟨w, _⟩ := h1.2.2.wf (by omega)
  obtain ⟨M2, e2, w2, f2⟩ := T_take h1.1
  refine Rel.go h h1.2.1 ((Q_when w ht (how := k) (by omega) 61 FU 0 M2 (by omega) (by decide) w2).step ?_ (FrW f2) (fun MM s => ?_))
  · unfold f_X6_when f_X3_firstTick
    rw [ga0 M h1.1.teeth, cb_k, if_neg (by decide), ga1 M, cb_k, if_neg (by decide), cb_id, e2, cv_k]
    rfl
  · obtain ⟨M3, e3, s3, f3⟩ := S_tries s
    refine ⟨M3, ?_, FrM f3, s3⟩
    unfold f_X7_when
    rw [gb0 MM s.f0, cb_k, if_neg (by decide), gb1 MM, cb_k, if_neg (by decide), e3, cv_k]
    rfl
