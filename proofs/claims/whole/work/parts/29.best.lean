/-! the loudest column, the loudest pin, the least spring -/
section BEST
variable {b : Nat → Nat}
theorem Q_begin {n : Nat} {x2 : Int32} (w : WF b) (hn : n < 1000) : ∀ (c f k : Nat) (x3 x4 : Int32) (MC : Mem), k + c = b 1 → c < f → isW MC 3 b → Rel (fun MM => isS MM 0 b) (f_X3_loudestColumn_8 (nI n) x2 f x3 x4 (nI k)) (f_X7_begin_43 (nI n) x2 f x3 x4 (nI k)) MC := by
  have h12 := w.2.1.2
  intro c
  induction c with
  | zero =>
    intro f k x3 x4 MC hk hf hw
    obtain ⟨f, rfl⟩ : ∃ m, f = m + 1 := ⟨f - 1, by omega⟩
    by_cases q : x2 = 0
    · refine Rel.ret (x := x3) ?_ (fun MM s => ?_)
      · rw [f_X3_loudestColumn_8, hw.cols]
        simp (disch := omega) only [nle]
        rw [if_pos (by omega), if_pos q]
      · rw [f_X7_begin_43, isS.z s (k := 1) (by decide)]
        simp (disch := omega) only [nle]
        rw [if_pos (by omega), if_pos q]
    · refine Rel.ret (x := x4) ?_ (fun MM s => ?_)
      · rw [f_X3_loudestColumn_8, hw.cols]
        simp (disch := omega) only [nle]
        rw [if_pos (by omega), if_neg q]
      · rw [f_X7_begin_43, isS.z s (k := 1) (by decide)]
        simp (disch := omega) only [nle]
        rw [if_pos (by omega), if_neg q]
  | succ c ih =>
    intro f k x3 x4 MC hk hf hw
    obtain ⟨f, rfl⟩ : ∃ m, f = m + 1 := ⟨f - 1, by omega⟩
    have wb : WF (up b 3 k) := WF_up w (by decide) (by decide) (by omega)
    obtain ⟨M1, e1, w1, f1⟩ := T_take hw
    have w2 := w1.setF (k := 3) k (by decide) (by decide)
    obtain ⟨M3, e3, w3, f3⟩ := T_loudOver (m := n) hn w2 wb
    have F : Fr MC M3 := FrW ((f1.u0 3 (nI k)).tr f3)
    have E : nI k + (1 : Int32) = nI (k + 1) := nI_1 k
    have G : ∀ MM, isS MM 0 b → ∃ Ma Mb, f_X7_tries MM = some Ma ∧ f_X7_sumOf (nI n) (up2 Ma 280 46 (nI k)) = some (nI (louds (up b 3 k) n), Mb) ∧ Fr MM Mb ∧ isS Mb 0 b := by
      intro MM s
      obtain ⟨Ma, ea, sa, fa⟩ := S_tries s
      have sb : isS (up2 Ma 280 46 (nI k)) 43 (up b 3 k) := isS.set sa (k := 3) k (by decide)
      obtain ⟨Mb, eb, _, fb⟩ := S_sumOf (m := n) hn sb wb
      have Fm : Fr MM Mb := FrM ((fa.u (k := 46) (by decide) (by decide) (nI k)).tr fb)
      exact ⟨Ma, Mb, ea, eb, Fm, isS.frk s Fm⟩
    by_cases q : nI (louds (up b 3 k) n) ≤ x4
    · refine (ih f (k + 1) x3 x4 M3 (by omega) (by omega) (hw.frk F)).step ?_ F (fun MM s => ?_)
      · rw [f_X3_loudestColumn_8, hw.cols]
        simp (disch := omega) only [nle]
        rw [if_neg (by omega), e1, cv_k, lt_k, e3, cb_k, if_pos q]
        unfold f_X3_loudestColumn_64
        rw [E]
      · obtain ⟨Ma, Mb, ea, eb, Fm, sm⟩ := G MM s
        refine ⟨Mb, ?_, Fm, sm⟩
        rw [f_X7_begin_43, isS.z s (k := 1) (by decide)]
        simp (disch := omega) only [nle]
        rw [if_neg (by omega), ea, cv_k, lt_k, eb, cb_k, if_pos q]
        unfold f_X7_begin_87 f_X7_begin_102
        rw [if_pos q, E]
    · refine (ih f (k + 1) (nI k) (nI (louds (up b 3 k) n)) M3 (by omega) (by omega) (hw.frk F)).step ?_ F (fun MM s => ?_)
      · rw [f_X3_loudestColumn_8, hw.cols]
        simp (disch := omega) only [nle]
        rw [if_neg (by omega), e1, cv_k, lt_k, e3, cb_k, if_neg q]
        unfold f_X3_loudestColumn_64
        rw [E]
      · obtain ⟨Ma, Mb, ea, eb, Fm, sm⟩ := G MM s
        refine ⟨Mb, ?_, Fm, sm⟩
        rw [f_X7_begin_43, isS.z s (k := 1) (by decide)]
        simp (disch := omega) only [nle]
        rw [if_neg (by omega), ea, cv_k, lt_k, eb, cb_k, if_neg q]
        unfold f_X7_begin_87 f_X7_begin_102
        rw [if_neg q, E]
theorem Q_pin_in {n c0 : Nat} {x2 : Int32} (w : WF b) (hn : n < 1000) (hc0 : c0 < b 1) {K8 K43 : Int32 → Int32 → Int32 → Mem → Option (Int32 × Mem)} (hK : ∀ x3 x4 MC, isW MC 3 b → Rel (fun MM => isS MM 0 b) (K8 x3 x4 (nI (c0 + 1))) (K43 x3 x4 (nI (c0 + 1))) MC) : ∀ (c f k : Nat) (x3 x4 : Int32) (MC : Mem), k + c = b 0 → c < f → isW MC 3 b → Rel (fun MM => isS MM 0 b) (f_X3_loudestPin_23 (nI n) x2 K8 f x3 x4 (nI c0) (nI k)) (f_X7_bestPin_57 (nI n) x2 K43 f x3 x4 (nI c0) (nI k)) MC := by
  have h6 := w.1.2
  have h12 := w.2.1.2
  intro c
  induction c with
  | zero =>
    intro f k x3 x4 MC hk hf hw
    obtain ⟨f, rfl⟩ : ∃ m, f = m + 1 := ⟨f - 1, by omega⟩
    refine (hK x3 x4 MC hw).step ?_ (Fr.rf _) (fun MM s => ⟨MM, ?_, Fr.rf _, s⟩)
    · rw [f_X3_loudestPin_23, hw.teeth]
      simp (disch := omega) only [nle]
      rw [if_pos (by omega), show nI c0 + (1 : Int32) = nI (c0 + 1) from nI_1 c0]
    · rw [f_X7_bestPin_57, isS.f0 s]
      simp (disch := omega) only [nle]
      rw [if_pos (by omega), show nI c0 + (1 : Int32) = nI (c0 + 1) from nI_1 c0]
  | succ c ih =>
    intro f k x3 x4 MC hk hf hw
    obtain ⟨f, rfl⟩ : ∃ m, f = m + 1 := ⟨f - 1, by omega⟩
    have hp := w.2.2.2.2.2.2 c0 hc0
    have wb : WF (up b (30 + c0) (b (30 + c0) ^^^ 2 ^ k)) := WF_up w (by omega) (by omega) (by have := xor_lt _ hp k (by omega); omega)
    obtain ⟨M1, e1, w1, f1⟩ := T_take hw
    obtain ⟨M2, e2, w2, f2⟩ := T_togglePin (c := c0) (t := k) w1 hc0 (by omega)
    obtain ⟨M3, e3, w3, f3⟩ := T_loudOver (m := n) hn w2 wb
    have F : Fr MC M3 := FrW ((f1.tr f2).tr f3)
    have E : nI k + (1 : Int32) = nI (k + 1) := nI_1 k
    have G : ∀ MM, isS MM 0 b → ∃ Ma Mb, f_X7_tries MM = some Ma ∧ Ma 280 (73 + c0) = nI (b (30 + c0)) ∧ f_X7_sumOf (nI n) (up2 Ma 280 (73 + c0) (nI (b (30 + c0) ^^^ 2 ^ k))) = some (nI (louds (up b (30 + c0) (b (30 + c0) ^^^ 2 ^ k)) n), Mb) ∧ Fr MM Mb ∧ isS Mb 0 b := by
      intro MM s
      obtain ⟨Ma, ea, sa, fa⟩ := S_tries s
      have sb : isS (up2 Ma 280 (73 + c0) (nI (b (30 + c0) ^^^ 2 ^ k))) 43 (up b (30 + c0) (b (30 + c0) ^^^ 2 ^ k)) := isS.setJ sa (a := 30) (j := c0) _ (by decide)
      obtain ⟨Mb, eb, _, fb⟩ := S_sumOf (m := n) hn sb wb
      have Fm : Fr MM Mb := FrM ((fa.u (k := 73 + c0) (by omega) (by omega) _).tr fb)
      exact ⟨Ma, Mb, ea, isS.pins sa hc0, eb, Fm, isS.frk s Fm⟩
    by_cases q : nI (louds (up b (30 + c0) (b (30 + c0) ^^^ 2 ^ k)) n) ≤ x4
    · refine (ih f (k + 1) x3 x4 M3 (by omega) (by omega) (hw.frk F)).step ?_ F (fun MM s => ?_)
      · rw [f_X3_loudestPin_23, hw.teeth]
        simp (disch := omega) only [nle]
        rw [if_neg (by omega), e1, cv_k, e2, cv_k, e3, cb_k, if_pos q]
        unfold f_X3_loudestPin_87
        rw [E]
      · obtain ⟨Ma, Mb, ea, ep, eb, Fm, sm⟩ := G MM s
        refine ⟨Mb, ?_, Fm, sm⟩
        rw [f_X7_bestPin_57, isS.f0 s]
        simp (disch := omega) only [nle]
        rw [if_neg (by omega), ea, cv_k]
        simp (disch := omega) only [l_73, nI_add, nI_ck, nI_cl]
        rw [ep, nshl1 k (by omega), nxor, lt_k, eb, cb_k, if_pos q]
        unfold f_X7_bestPin_115 f_X7_bestPin_130
        rw [if_pos q, E]
    · refine (ih f (k + 1) (((10 : Int32) * nI c0) + nI k) (nI (louds (up b (30 + c0) (b (30 + c0) ^^^ 2 ^ k)) n)) M3 (by omega) (by omega) (hw.frk F)).step ?_ F (fun MM s => ?_)
      · rw [f_X3_loudestPin_23, hw.teeth]
        simp (disch := omega) only [nle]
        rw [if_neg (by omega), e1, cv_k, e2, cv_k, e3, cb_k, if_neg q, lt_k]
        unfold f_X3_loudestPin_87
        rw [E]
      · obtain ⟨Ma, Mb, ea, ep, eb, Fm, sm⟩ := G MM s
        refine ⟨Mb, ?_, Fm, sm⟩
        rw [f_X7_bestPin_57, isS.f0 s]
        simp (disch := omega) only [nle]
        rw [if_neg (by omega), ea, cv_k]
        simp (disch := omega) only [l_73, nI_add, nI_ck, nI_cl]
        rw [ep, nshl1 k (by omega), nxor, lt_k, eb, cb_k, if_neg q]
        unfold f_X7_bestPin_115 f_X7_bestPin_130
        rw [if_neg q, E]
theorem Q_pin {n : Nat} {x2 : Int32} (w : WF b) (hn : n < 1000) : ∀ (c f k : Nat) (x3 x4 : Int32) (MC : Mem), k + c = b 1 → c < f → isW MC 3 b → Rel (fun MM => isS MM 0 b) (f_X3_loudestPin_8 (nI n) x2 f x3 x4 (nI k)) (f_X7_bestPin_43 (nI n) x2 f x3 x4 (nI k)) MC := by
  have h6 := w.1.2
  have h12 := w.2.1.2
  intro c
  induction c with
  | zero =>
    intro f k x3 x4 MC hk hf hw
    obtain ⟨f, rfl⟩ : ∃ m, f = m + 1 := ⟨f - 1, by omega⟩
    by_cases q : x2 = 0
    · refine Rel.ret (x := x3) ?_ (fun MM s => ?_)
      · rw [f_X3_loudestPin_8, hw.cols]
        simp (disch := omega) only [nle]
        rw [if_pos (by omega), if_pos q]
      · rw [f_X7_bestPin_43, isS.z s (k := 1) (by decide)]
        simp (disch := omega) only [nle]
        rw [if_pos (by omega), if_pos q]
    · refine Rel.ret (x := x4) ?_ (fun MM s => ?_)
      · rw [f_X3_loudestPin_8, hw.cols]
        simp (disch := omega) only [nle]
        rw [if_pos (by omega), if_neg q]
      · rw [f_X7_bestPin_43, isS.z s (k := 1) (by decide)]
        simp (disch := omega) only [nle]
        rw [if_pos (by omega), if_neg q]
  | succ c ih =>
    intro f k x3 x4 MC hk hf hw
    obtain ⟨f, rfl⟩ : ∃ m, f = m + 1 := ⟨f - 1, by omega⟩
    refine (Q_pin_in (x2 := x2) w hn (c0 := k) (by omega) (fun y3 y4 MC' hw' => ih f (k + 1) y3 y4 MC' (by omega) (by omega) hw') (b 0) FU 0 x3 x4 MC (by omega) (by show b 0 < 5000; omega) hw).step ?_ (Fr.rf _) (fun MM s => ⟨MM, ?_, Fr.rf _, s⟩)
    · rw [f_X3_loudestPin_8, hw.cols]
      simp (disch := omega) only [nle]
      rw [if_neg (by omega)]
      rfl
    · rw [f_X7_bestPin_43, isS.z s (k := 1) (by decide)]
      simp (disch := omega) only [nle]
      rw [if_neg (by omega)]
      rfl
theorem tick_2le (h : WF b) : tick b 2 ≤ b 2 := by
  rw [tick_eq h.1.2, up_n (by decide)]
  split
  · have := (mloop_sp (b 0) 0 (turnUp (mfd b (b 0))) (by have := h.1.2; omega)).2
    have e : turnUp (mfd b (b 0)) 2 = mfd b (b 0) 2 - 1 := by unfold turnUp; rw [up_s]
    rw [e, mfd_n (by omega)] at this
    omega
  · rw [mfd_n (by omega)]
    exact Nat.le_refl _
theorem ticks_20 (h : WF b) {k : Nat} (h0 : ticks b k 2 = 0) : ∀ d, ticks b (k + d) 2 = 0
  | 0 => h0
  | d + 1 => by
    have := tick_2le (WF_ticks h (k + d))
    have e := ticks_20 h h0 d
    show tick (ticks b (k + d)) 2 = 0
    omega
theorem Q_least_in {B : Nat → Nat} {n : Nat} {x2 : Int32} {K : Int32 → Mem → Option (Int32 × Mem)} (w : WF B) (hn : n < 1000) : ∀ (c f j : Nat) (M : Mem), j + c = n → c < f → isW M 164 (ticks B j) → ∃ M' s, f_X3_leastSpring_29 (nI n) K f x2 (nI j) M = f_X3_leastSpring_58 (nI n) K x2 M' ∧ fr6 164 M M' ∧ M' 164 2 = nI s ∧ s ≤ 99 ∧ (s = 0 ↔ ticks B n 2 = 0) := by
  intro c
  induction c with
  | zero =>
    intro f j M hj hf hw
    obtain ⟨f, rfl⟩ : ∃ m, f = m + 1 := ⟨f - 1, by omega⟩
    have hjn : j = n := by omega
    subst hjn
    refine ⟨M, ticks B j 2, ?_, fr6.rf _ _, hw.spring, (WF_ticks w j).2.2.1, Iff.rfl⟩
    rw [f_X3_leastSpring_29]
    simp (disch := omega) only [nle]
    rw [if_pos (by omega)]
  | succ c ih =>
    intro f j M hj hf hw
    obtain ⟨f, rfl⟩ : ∃ m, f = m + 1 := ⟨f - 1, by omega⟩
    have wj := WF_ticks w j
    have h99 := wj.2.2.1
    by_cases q : ticks B j 2 = 0
    · have z := ticks_20 w q (n - j)
      rw [show j + (n - j) = n by omega] at z
      refine ⟨M, 0, ?_, fr6.rf _ _, by rw [hw.spring, q], by omega, by omega⟩
      rw [f_X3_leastSpring_29, hw.spring]
      simp (disch := omega) only [nle, nle0]
      rw [if_neg (by omega), if_pos q]
    · obtain ⟨M2, e2, w2, f2⟩ := T_turn hw wj
      obtain ⟨M', s, e, f', r⟩ := ih f (j + 1) M2 (by omega) (by omega) w2
      refine ⟨M', s, ?_, f2.tr f', r⟩
      rw [f_X3_leastSpring_29, hw.spring]
      simp (disch := omega) only [nle, nle0]
      rw [if_neg (by omega), if_neg q, e2, cb_k, show nI j + (1 : Int32) = nI (j + 1) from nI_1 j, e]
theorem Q_least {n : Nat} (w : WF b) (hn : n < 1000) : ∀ (c f k : Nat) (MC : Mem), k + c = 100 → c < f → isW MC 3 b → Rel (fun MM => isS MM 0 b) (f_X3_leastSpring_2 (nI n) f (nI k)) (f_X7_least_27 (nI n) f (nI k)) MC := by
  intro c
  induction c with
  | zero =>
    intro f k MC hk hf hw
    obtain ⟨f, rfl⟩ : ∃ m, f = m + 1 := ⟨f - 1, by omega⟩
    refine Rel.ret (x := -1000000) ?_ (fun MM s => ?_)
    · rw [f_X3_leastSpring_2]
      simp (disch := omega) only [l_99, nlt]
      rw [if_pos (by omega)]
    · rw [f_X7_least_27]
      simp (disch := omega) only [l_99, nlt]
      rw [if_pos (by omega)]
  | succ c ih =>
    intro f k MC hk hf hw
    obtain ⟨f, rfl⟩ : ∃ m, f = m + 1 := ⟨f - 1, by omega⟩
    have wb : WF (up b 2 k) := WF_up w (by decide) (by decide) (by omega)
    obtain ⟨M1, e1, w1, f1⟩ := T_take hw
    have w2 := w1.setF (k := 2) k (by decide) (by decide)
    obtain ⟨M3, v, e3, f3, sp, h99, iv⟩ := Q_least_in (B := up b 2 k) (x2 := nI k) (K := f_X3_leastSpring_2 (nI n) f) wb hn n FU 0 _ (by omega) (by show n < 5000; omega) w2
    have F : Fr MC M3 := FrW ((f1.u0 2 (nI k)).tr f3)
    have E : nI k + (1 : Int32) = nI (k + 1) := nI_1 k
    have hC : f_X3_leastSpring_2 (nI n) (f + 1) (nI k) MC = if v = 0 then f_X3_leastSpring_2 (nI n) f (nI (k + 1)) M3 else some (nI k, M3) := by
      rw [f_X3_leastSpring_2]
      simp (disch := omega) only [l_99, nlt]
      rw [if_neg (by omega), e1, cv_k, lt_k]
      refine Eq.trans e3 ?_
      unfold f_X3_leastSpring_58
      rw [sp]
      simp (disch := omega) only [nle0]
      rw [E]
    have G : ∀ MM, isS MM 0 b → ∃ Mb, f_X7_least_27 (nI n) (f + 1) (nI k) MM = (if ticks (up b 2 k) n 2 = 0 then f_X7_least_27 (nI n) f (nI (k + 1)) Mb else some (nI k, Mb)) ∧ Fr MM Mb ∧ isS Mb 0 b := by
      intro MM s
      obtain ⟨Ma, ea, sa, fa⟩ := S_tries s
      have sb : isS (up2 Ma 280 45 (nI k)) 43 (up b 2 k) := isS.set sa (k := 2) k (by decide)
      obtain ⟨Mb, eb, sc, fb⟩ := S_goesOn (m := n) hn sb wb
      have Fm : Fr MM Mb := FrM ((fa.u (k := 45) (by decide) (by decide) (nI k)).tr fb)
      refine ⟨Mb, ?_, Fm, isS.frk s Fm⟩
      have := (WF_ticks wb n).2.2.1
      rw [f_X7_least_27]
      simp (disch := omega) only [l_99, nlt]
      rw [if_neg (by omega), ea, cv_k, lt_k, eb, cv_k, show Mb 280 45 = nI (ticks (up b 2 k) n 2) from isS.f sc (k := 2) (by decide)]
      simp (disch := omega) only [nle0]
      rw [E]
    by_cases q : v = 0
    · refine (ih f (k + 1) M3 (by omega) (by omega) (hw.frk F)).step ?_ F (fun MM s => ?_)
      · rw [hC, if_pos q]
      · obtain ⟨Mb, e, Fm, sm⟩ := G MM s
        refine ⟨Mb, ?_, Fm, sm⟩
        rw [e, if_pos (iv.1 q)]
    · refine ⟨nI k, M3, ?_, F, fun MM s => ?_⟩
      · rw [hC, if_neg q]
      · obtain ⟨Mb, e, Fm, sm⟩ := G MM s
        refine ⟨Mb, ?_, Fm⟩
        rw [e, if_neg (fun z => q (iv.2 z))]
end BEST
theorem Sim_begin (x y : Int32) : Sim (f_X6_begin x y) (f_X7_begin x y) := by
  intro M h
  obtain ⟨b, im, H, hn, nt, tl, tn, h1, h2, h3, h4, h5, h6, h7⟩ := id h
  have hl := h1.2.2.lt
  rcases box_cases (n := b 0) (by omega) with ⟨q0, ga0, gb0⟩ | ⟨q0, ga0, gb0⟩
  · exact ⟨_, M, M, by unfold f_X6_begin; rw [ga0 M h1.1.teeth, cb_k, if_pos rfl], by unfold f_X7_begin; rw [gb0 M h1.2.1.f0, cb_k, if_pos rfl], h⟩
  rcases W_cases x (lo := 1) (hi := 40) (a := (1 : Int32)) (b := (40 : Int32)) (a' := (1 : Int64)) (b' := (40 : Int64)) rfl rfl (by decide) (by decide) (by decide) (by decide) with ⟨ga1, gb1⟩ | ⟨n, ln, hn, rfl, ga1, gb1⟩
  · exact ⟨_, M, M, by unfold f_X6_begin; rw [ga0 M h1.1.teeth, cb_k, if_neg (by decide), ga1 M, cb_k, if_pos rfl], by unfold f_X7_begin; rw [gb0 M h1.2.1.f0, cb_k, if_neg (by decide), gb1 M, cb_k, if_pos rfl], h⟩
  rcases W_cases y (lo := 0) (hi := 1) (a := (0 : Int32)) (b := (1 : Int32)) (a' := (0 : Int64)) (b' := (1 : Int64)) rfl rfl (by decide) (by decide) (by decide) (by decide) with ⟨ga2, gb2⟩ | ⟨k, lk, hk, rfl, ga2, gb2⟩
  · exact ⟨_, M, M, by unfold f_X6_begin; rw [ga0 M h1.1.teeth, cb_k, if_neg (by decide), ga1 M, cb_k, if_neg (by decide), ga2 M, cb_k, if_pos rfl], by unfold f_X7_begin; rw [gb0 M h1.2.1.f0, cb_k, if_neg (by decide), gb1 M, cb_k, if_neg (by decide), gb2 M, cb_k, if_pos rfl], h⟩
  obtain ⟨w, _⟩ := h1.2.2.wf (by omega)
  refine Rel.go h h1.2.1 ((Q_begin (x2 := nI k) w (n := n) (by omega) (b 1) FU 0 0 (-1) M (by omega) (by show b 1 < 5000; omega) h1.1).step ?_ (Fr.rf _) (fun MM s => ⟨MM, ?_, Fr.rf _, s⟩))
  · unfold f_X6_begin f_X3_loudestColumn
    rw [ga0 M h1.1.teeth, cb_k, if_neg (by decide), ga1 M, cb_k, if_neg (by decide), ga2 M, cb_k, if_neg (by decide), cb_id]
    rfl
  · unfold f_X7_begin
    rw [gb0 MM s.f0, cb_k, if_neg (by decide), gb1 MM, cb_k, if_neg (by decide), gb2 MM, cb_k, if_neg (by decide)]
    rfl
theorem Sim_bestPin (x y : Int32) : Sim (f_X6_bestPin x y) (f_X7_bestPin x y) := by
  intro M h
  obtain ⟨b, im, H, hn, nt, tl, tn, h1, h2, h3, h4, h5, h6, h7⟩ := id h
  have hl := h1.2.2.lt
  rcases box_cases (n := b 0) (by omega) with ⟨q0, ga0, gb0⟩ | ⟨q0, ga0, gb0⟩
  · exact ⟨_, M, M, by unfold f_X6_bestPin; rw [ga0 M h1.1.teeth, cb_k, if_pos rfl], by unfold f_X7_bestPin; rw [gb0 M h1.2.1.f0, cb_k, if_pos rfl], h⟩
  rcases W_cases x (lo := 1) (hi := 20) (a := (1 : Int32)) (b := (20 : Int32)) (a' := (1 : Int64)) (b' := (20 : Int64)) rfl rfl (by decide) (by decide) (by decide) (by decide) with ⟨ga1, gb1⟩ | ⟨n, ln, hn, rfl, ga1, gb1⟩
  · exact ⟨_, M, M, by unfold f_X6_bestPin; rw [ga0 M h1.1.teeth, cb_k, if_neg (by decide), ga1 M, cb_k, if_pos rfl], by unfold f_X7_bestPin; rw [gb0 M h1.2.1.f0, cb_k, if_neg (by decide), gb1 M, cb_k, if_pos rfl], h⟩
  rcases W_cases y (lo := 0) (hi := 1) (a := (0 : Int32)) (b := (1 : Int32)) (a' := (0 : Int64)) (b' := (1 : Int64)) rfl rfl (by decide) (by decide) (by decide) (by decide) with ⟨ga2, gb2⟩ | ⟨k, lk, hk, rfl, ga2, gb2⟩
  · exact ⟨_, M, M, by unfold f_X6_bestPin; rw [ga0 M h1.1.teeth, cb_k, if_neg (by decide), ga1 M, cb_k, if_neg (by decide), ga2 M, cb_k, if_pos rfl], by unfold f_X7_bestPin; rw [gb0 M h1.2.1.f0, cb_k, if_neg (by decide), gb1 M, cb_k, if_neg (by decide), gb2 M, cb_k, if_pos rfl], h⟩
  obtain ⟨w, _⟩ := h1.2.2.wf (by omega)
  refine Rel.go h h1.2.1 ((Q_pin (x2 := nI k) w (n := n) (by omega) (b 1) FU 0 0 (-1) M (by omega) (by show b 1 < 5000; omega) h1.1).step ?_ (Fr.rf _) (fun MM s => ⟨MM, ?_, Fr.rf _, s⟩))
  · unfold f_X6_bestPin f_X3_loudestPin
    rw [ga0 M h1.1.teeth, cb_k, if_neg (by decide), ga1 M, cb_k, if_neg (by decide), ga2 M, cb_k, if_neg (by decide), cb_id]
    rfl
  · unfold f_X7_bestPin
    rw [gb0 MM s.f0, cb_k, if_neg (by decide), gb1 MM, cb_k, if_neg (by decide), gb2 MM, cb_k, if_neg (by decide)]
    rfl
theorem Sim_least (x : Int32) : Sim (f_X6_least x) (f_X7_least x) := by
  intro M h
  obtain ⟨b, im, H, hn, nt, tl, tn, h1, h2, h3, h4, h5, h6, h7⟩ := id h
  have hl := h1.2.2.lt
  rcases box_cases (n := b 0) (by omega) with ⟨q0, ga0, gb0⟩ | ⟨q0, ga0, gb0⟩
  · exact ⟨_, M, M, by unfold f_X6_least; rw [ga0 M h1.1.teeth, cb_k, if_pos rfl], by unfold f_X7_least; rw [gb0 M h1.2.1.f0, cb_k, if_pos rfl], h⟩
  rcases W_cases x (lo := 1) (hi := 40) (a := (1 : Int32)) (b := (40 : Int32)) (a' := (1 : Int64)) (b' := (40 : Int64)) rfl rfl (by decide) (by decide) (by decide) (by decide) with ⟨ga1, gb1⟩ | ⟨n, ln, hn, rfl, ga1, gb1⟩
  · exact ⟨_, M, M, by unfold f_X6_least; rw [ga0 M h1.1.teeth, cb_k, if_neg (by decide), ga1 M, cb_k, if_pos rfl], by unfold f_X7_least; rw [gb0 M h1.2.1.f0, cb_k, if_neg (by decide), gb1 M, cb_k, if_pos rfl], h⟩
  obtain ⟨w, _⟩ := h1.2.2.wf (by omega)
  refine Rel.go h h1.2.1 ((Q_least w (n := n) (by omega) 100 FU 0 M (by omega) (by decide) h1.1).step ?_ (Fr.rf _) (fun MM s => ⟨MM, ?_, Fr.rf _, s⟩))
  · unfold f_X6_least f_X3_leastSpring
    rw [ga0 M h1.1.teeth, cb_k, if_neg (by decide), ga1 M, cb_k, if_neg (by decide), cb_id]
    rfl
  · unfold f_X7_least
    rw [gb0 MM s.f0, cb_k, if_neg (by decide), gb1 MM, cb_k, if_neg (by decide)]
    rfl
