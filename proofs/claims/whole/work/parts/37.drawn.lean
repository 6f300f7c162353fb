/-! long numbers, and days that are drawn -/
abbrev nJ (n : Nat) : Int64 := Int64.ofNat n
theorem jt {n : Nat} (h : n < 9223372036854775808) : (nJ n).toInt = n := lg_ofNat_toInt h
theorem j_w {v : Nat} (h : v < 2147483648) : (nI v).toInt64 = nJ v := Int64.toInt_inj.mp (by rw [Int32.toInt_toInt64, nI_toInt h, jt (by omega)])
theorem j_i {v : Nat} (h : v < 2147483648) : (nJ v).toInt32 = nI v := by rw [← j_w h, lg_l2i_i2l]
theorem j_mul (a b : Nat) : nJ a * nJ b = nJ (a * b) := (Int64.ofNat_mul a b).symm
theorem j_add (a b : Nat) : nJ a + nJ b = nJ (a + b) := (Int64.ofNat_add a b).symm
theorem j_sub {a b : Nat} (h : b ≤ a) : nJ a - nJ b = nJ (a - b) := by
  obtain ⟨c, rfl⟩ : ∃ c, a = c + b := ⟨a - b, by omega⟩
  rw [← j_add, Int64.add_sub_cancel, Nat.add_sub_cancel]
theorem j_div {a d : Nat} (ha : a < 9223372036854775808) (h0 : 0 < d) (hd : d < 9223372036854775808) : nJ a / nJ d = nJ (a / d) := by
  apply Int64.toInt_inj.mp
  rw [lg_ldiv_nonneg (by rw [jt ha]; omega) (by rw [jt hd]; omega), jt ha, jt hd, jt (Nat.lt_of_le_of_lt (Nat.div_le_self a d) ha)]
  first | rfl | exact (Int.natCast_ediv _ _).symm
theorem j_rem {a d : Nat} (ha : a < 9223372036854775808) (h0 : 0 < d) (hd : d < 9223372036854775808) : nJ a - nJ a / nJ d * nJ d = nJ (a % d) := by
  rw [j_div ha h0 hd, j_mul, j_sub (Nat.div_mul_le_self a d)]
  exact congrArg nJ (by have := Nat.div_add_mod' a d; omega)
theorem j_eq {a b : Nat} (ha : a < 9223372036854775808) (hb : b < 9223372036854775808) : (nJ a = nJ b) = (a = b) := propext ⟨fun e => by
  have := congrArg Int64.toInt e
  rw [jt ha, jt hb] at this
  omega, fun e => by rw [e]⟩
theorem j_0 : (0 : Int64) = nJ 0 := rfl
theorem j_1 : (1 : Int64) = nJ 1 := rfl
theorem j_3 : (3 : Int64) = nJ 3 := rfl
theorem j_10 : (10 : Int64) = nJ 10 := rfl
theorem j_30 : (30 : Int64) = nJ 30 := rfl
theorem j_64 : (64 : Int64) = nJ 64 := rfl
theorem j_f : (16807 : Int64) = nJ 16807 := rfl
theorem j_m : (2147483647 : Int64) = nJ 2147483647 := rfl
def dr0 (B : Nat → Nat) (v : Nat) : Nat → Nat := if B 2 = 0 then up B 2 (v % 30) else if v % 3 = 0 then up B (30 + v % B 1) (v % 64) else B
def dr1 (C : Nat → Nat) (v : Nat) : Nat → Nat := if bit (C 5) (v % C 0) = 0 then C else mend C (v % C 0)
section DRAWN
variable {M : Mem} {b B : Nat → Nat} {v : Nat}
theorem WF_mend {t : Nat} (w : WF B) (ht : t < 6) : WF (mend B t) := by
  unfold mend
  have := andn_lt _ w.2.2.2.2.1 (2 ^ t) (pow_lt t ht)
  refine WF_up (WF_up (WF_up w (by omega) (by omega) (by omega)) (by omega) (by omega) (by omega)) (by omega) (by omega) (by omega)
theorem mend_n {t i : Nat} (ht : t < 6) (hi : i < 5 ∨ 42 ≤ i) : mend B t i = B i := by
  unfold mend
  rw [up_n (by omega), up_n (by omega), up_n (by omega)]
theorem WF_dr0 (w : WF B) : WF (dr0 B v) := by
  unfold dr0
  have h12 := w.2.1
  have := Nat.mod_lt v (show 0 < B 1 by omega)
  split
  · exact WF_up w (by omega) (by omega) (by omega)
  · split
    · exact WF_up w (by omega) (by omega) (by omega)
    · exact w
theorem dr0_n (w : WF B) {i : Nat} (hi : i < 2 ∨ i = 42) : dr0 B v i = B i := by
  unfold dr0
  have h12 := w.2.1
  have := Nat.mod_lt v (show 0 < B 1 by omega)
  split
  · exact up_n (by omega)
  · split
    · exact up_n (by omega)
    · rfl
theorem WF_dr1 (w : WF B) : WF (dr1 B v) := by
  unfold dr1
  have h6 := w.1
  have := Nat.mod_lt v (show 0 < B 0 by omega)
  split
  · exact w
  · exact WF_mend w (by omega)
theorem dr1_n (w : WF B) {i : Nat} (hi : i < 2 ∨ i = 42) : dr1 B v i = B i := by
  unfold dr1
  have h6 := w.1
  have := Nat.mod_lt v (show 0 < B 0 by omega)
  split
  · rfl
  · exact mend_n (by omega) (by omega)
theorem n_cz {n : Nat} (h0 : 0 < n) (hn : n < 2147483648) {α : Type} (a : Option α) : cz (nI n) a = a := by
  unfold cz
  rw [if_neg (by rw [neq0 (by omega)]; omega)]
theorem j_cz {n : Nat} (h0 : 0 < n) (hn : n < 9223372036854775808) {α : Type} (a : Option α) : czl (nJ n) a = a := by
  unfold czl
  rw [if_neg (by rw [j_0, j_eq hn (by omega)]; omega)]
theorem T_draw51 (h : isW M 164 B) (w : WF B) (hv : v < 2147483648) : dV 164 M (dr1 B v) (f_X3_draw_51 (nI v) M) := by
  have h6 := w.1
  have hm := Nat.mod_lt v (show 0 < B 0 by omega)
  have hb := bit_lt (B 5) (v % B 0)
  unfold f_X3_draw_51 dr1
  rw [h.teeth, n_cz (by omega) (by omega), nrem hv (by omega) (by omega), lt_k, T_isBroken h w.2.2.2.2.1 (by omega), cb_k]
  simp (disch := omega) only [neq0]
  by_cases q : bit (B 5) (v % B 0) = 0
  · rw [if_pos q, if_pos q]
    exact ⟨M, rfl, h, fr6.rf _ _⟩
  · rw [if_neg q, if_neg q]
    obtain ⟨M', e, w', f⟩ := T_makeWhole (t := v % B 0) h w.2.2.2.2.1 (by omega)
    exact ⟨M', by rw [e, cv_k], w', f⟩
theorem T_draw (h : isW M 164 B) (w : WF B) (hv : v < 2147483648) : dV 164 M (dr1 (dr0 B v) v) (f_X3_draw (nI v) M) := by
  have h12 := w.2.1
  have hm := Nat.mod_lt v (show 0 < B 1 by omega)
  have h99 := w.2.2.1
  have w0 := WF_dr0 (v := v) w
  unfold f_X3_draw
  rw [h.spring, h.cols, l_30, l_3, l_64, nrem hv (by omega) (by omega), nrem hv (by omega) (by omega), nrem hv (by omega) (by omega), nrem hv (by omega) (by omega), n_cz (by omega) (by omega), nI_ck (by omega) (by decide), nI_cl (by omega), lt_k, lt_k]
  simp (disch := omega) only [neq0]
  have tail : ∀ M1, fr6 164 M M1 → isW M1 164 (dr0 B v) → dV 164 M (dr1 (dr0 B v) v) (f_X3_draw_51 (nI v) M1) := by
    intro M1 f1 w1
    obtain ⟨M2, e2, w2, f2⟩ := T_draw51 (v := v) w1 w0 hv
    exact ⟨M2, e2, w2, f1.tr f2⟩
  by_cases q : B 2 = 0
  · rw [if_pos q]
    refine tail _ ((fr6.rf 164 M).u0 2 _) ?_
    unfold dr0
    rw [if_pos q]
    exact h.setF (k := 2) _ (by decide) (by decide)
  · rw [if_neg q]
    by_cases q3 : v % 3 = 0
    · rw [if_pos q3]
      refine tail _ ((fr6.rf 164 M).u (i := 1) (by omega) _ _) ?_
      unfold dr0
      rw [if_neg q, if_pos q3]
      exact h.setN _ (by omega)
    · rw [if_neg q3]
      refine tail _ (fr6.rf _ _) ?_
      unfold dr0
      rw [if_neg q, if_neg q3]
      exact h
theorem S_151 {n : Nat} {x3 x6 x7 : Int32} {K : Int64 → Int32 → Int32 → Mem → Option (Int32 × Mem)} (s0 : isS M 0 b) (s : isS M 43 B) (w : WF B) (e0 : B 0 = b 0) (hv : v < 2147483648) : ∃ M', f_X7_drawn_151 (nI n) x3 K (nJ v) x6 x7 M = f_X7_drawn_187 (nI n) x3 K (nJ v) x6 x7 M' ∧ isS M' 43 (dr1 B v) ∧ frS 43 M M' := by
  have h6 := w.1
  have hm := Nat.mod_lt v (show 0 < B 0 by omega)
  have hb := bit_lt (B 5) (v % B 0)
  have h5 := w.2.2.2.2.1
  unfold f_X7_drawn_151 dr1
  rw [s0.f0, ← e0, j_w (by omega), j_cz (by omega) (by omega), j_rem (by omega) (by omega) (by omega), j_i (by omega), lt_k, show M 280 48 = nI (B 5) from isS.f s (k := 5) (by decide), S_has (by omega) (by omega), cb_k]
  simp (disch := omega) only [neq0]
  by_cases q : bit (B 5) (v % B 0) = 0
  · rw [if_pos q, if_pos q]
    exact ⟨M, rfl, s, frS.rf _ _⟩
  · rw [if_neg q, if_neg q]
    obtain ⟨M', e, s', f⟩ := S_mends43 (t := v % B 0) s h5 (by omega)
    exact ⟨M', by rw [e, cv_k], s', f⟩
theorem tick_42 (h : WF B) : B 42 ≤ tick B 42 := by
  have h6 := h.1
  rw [tick_eq h.1.2, up_n (by decide)]
  split
  · have := mloop_sp (B 0) 0 (turnUp (mfd B (B 0))) (by omega)
    have e : turnUp (mfd B (B 0)) 42 = B 42 := by rw [turnUp_n (by omega) (by omega), mfd_n (by omega)]
    rw [e] at this
    omega
  · rw [mfd_n (by omega)]
    exact Nat.le_refl _
theorem Q_drawn {n k3 : Nat} (hn : n < 1000) (hk3 : k3 = 0 ∨ k3 = 1) : ∀ (c f k v : Nat) (B : Nat → Nat) (x7 : Int32) (MC : Mem), k + c = n → c < f → v < 2147483647 → WF B → B 0 = b 0 → B 1 = b 1 → isW MC 164 B → Rel (fun MM => isS MM 0 b ∧ isS MM 43 B) (f_X3_days_46 (nI n) (nI k3) f (nJ v) (nI (B 42)) x7 (nI k)) (f_X7_drawn_69 (nI n) (nI k3) f (nJ v) x7 (nI k)) MC := by
  intro c
  induction c with
  | zero =>
    intro f k v B x7 MC hk hf hv w e0 e1 hw
    obtain ⟨f, rfl⟩ : ∃ m, f = m + 1 := ⟨f - 1, by omega⟩
    refine Rel.ret (x := if k3 = 0 then nI (B 42) else x7) ?_ (fun MM s => ?_)
    · rw [f_X3_days_46]
      simp (disch := omega) only [nle, neq0]
      rw [if_pos (by omega)]
      rcases hk3 with rfl | rfl
      · rfl
      · rfl
    · have e85 : MM 280 85 = nI (B 42) := isS.l s.2
      rw [f_X7_drawn_69, e85]
      simp (disch := omega) only [nle, neq0]
      rw [if_pos (by omega)]
      rcases hk3 with rfl | rfl
      · rfl
      · rfl
  | succ c ih =>
    intro f k v B x7 MC hk hf hv w e0 e1 hw
    obtain ⟨f, rfl⟩ : ∃ m, f = m + 1 := ⟨f - 1, by omega⟩
    obtain ⟨u, hu⟩ : ∃ u, u = v * 16807 % 2147483647 := ⟨_, rfl⟩
    have hu2 : u < 2147483647 := by rw [hu]; exact Nat.mod_lt _ (by decide)
    have h12 := w.2.1
    have h6 := w.1
    have hm := Nat.mod_lt u (show 0 < B 1 by omega)
    have h99 := w.2.2.1
    have w0 := WF_dr0 (v := u) w
    have w1 := WF_dr1 (v := u) w0
    have d0 : dr1 (dr0 B u) u 0 = b 0 := by rw [dr1_n w0 (by omega), dr0_n w (by omega)]; exact e0
    have d1 : dr1 (dr0 B u) u 1 = b 1 := by rw [dr1_n w0 (by omega), dr0_n w (by omega)]; exact e1
    have d42 : dr1 (dr0 B u) u 42 = B 42 := by rw [dr1_n w0 (by omega), dr0_n w (by omega)]
    have w2 := WF_tick w1
    have t0 := tick_n (b := dr1 (dr0 B u) u) w1.1.2 (i := 0) (by omega)
    have t1 := tick_n (b := dr1 (dr0 B u) u) w1.1.2 (i := 1) (by omega)
    have t42 := tick_42 w1
    obtain ⟨M1, a1, b1, f1⟩ := T_draw (v := u) hw w (by omega)
    obtain ⟨M2, a2, b2, f2⟩ := T_turn b1 w1
    have E : nI k + (1 : Int32) = nI (k + 1) := nI_1 k
    have ey : (nJ v * (16807 : Int64)) - (nJ v * (16807 : Int64)) / (2147483647 : Int64) * (2147483647 : Int64) = nJ u := by rw [j_f, j_m, j_mul, j_rem (by omega) (by omega) (by omega), hu]
    refine (ih f (k + 1) u (tick (dr1 (dr0 B u) u)) (x7 + nI (loud (tick (dr1 (dr0 B u) u)))) M2 (by omega) (by omega) hu2 w2 (by rw [t0, d0]) (by rw [t1, d1]) b2).step ?_ (FrW (f1.tr f2)) (fun MM s => ?_)
    · rw [f_X3_days_46, ey]
      simp (disch := omega) only [nle]
      rw [if_neg (by omega), lt_k, j_i (by omega), a1, cv_k, a2, cb_k, lt_k, T_loud b2, cb_k, lt_k, E, nI_add, d42, show B 42 + (tick (dr1 (dr0 B u) u) 42 - B 42) = tick (dr1 (dr0 B u) u) 42 by omega]
    · obtain ⟨s0, s⟩ := s
      have tail : ∀ Ma, frS 43 MM Ma → isS Ma 43 (dr0 B u) → ∃ MM2, f_X7_drawn_151 (nI n) (nI k3) (f_X7_drawn_69 (nI n) (nI k3) f) (nJ u) x7 (nI k) Ma = f_X7_drawn_69 (nI n) (nI k3) f (nJ u) (x7 + nI (loud (tick (dr1 (dr0 B u) u)))) (nI (k + 1)) MM2 ∧ Fr MM MM2 ∧ (isS MM2 0 b ∧ isS MM2 43 (tick (dr1 (dr0 B u) u))) := by
        intro Ma fa sa
        obtain ⟨Mb, eb, sb, fb⟩ := S_151 (n := n) (x3 := nI k3) (x6 := x7) (x7 := nI k) (K := f_X7_drawn_69 (nI n) (nI k3) f) (v := u) (s0.fr fa (by omega)) sa w0 (by rw [dr0_n w (by omega)]; exact e0) (by omega)
        obtain ⟨Mc, ec, sc, fc⟩ := S_passes43 sb w1
        have F := (fa.tr fb).tr fc
        refine ⟨Mc, ?_, FrM F, s0.fr F (by omega), sc⟩
        rw [eb]
        unfold f_X7_drawn_187
        rw [ec, cv_k, S_loud43 sc, cb_k, lt_k, E]
      rw [f_X7_drawn_69, ey]
      simp (disch := omega) only [nle]
      rw [if_neg (by omega), lt_k, show MM 280 45 = nI (B 2) from isS.f s (k := 2) (by decide), s0.z (k := 1) (by decide), ← e1, j_w (by omega), j_cz (by omega) (by omega), j_30, j_3, j_64, j_rem (by omega) (by omega) (by omega), j_rem (by omega) (by omega) (by omega), j_rem (by omega) (by omega) (by omega), j_rem (by omega) (by omega) (by omega), j_i (by omega), j_i (by omega), j_i (by omega), l_73, nI_add, nI_ck (by omega) (by decide), nI_cl (by omega), lt_k, lt_k]
      simp (disch := omega) only [cmp_eq, j_0, neq0, j_eq]
      by_cases q : B 2 = 0
      · rw [if_pos q]
        refine tail _ ((frS.rf 43 MM).u (k := 45) (by omega) (by omega) _) ?_
        unfold dr0
        rw [if_pos q]
        exact isS.set s (k := 2) _ (by decide)
      · rw [if_neg q]
        by_cases q3 : u % 3 = 0
        · rw [if_pos q3]
          refine tail _ ((frS.rf 43 MM).u (k := 73 + u % B 1) (by omega) (by omega) _) ?_
          unfold dr0
          rw [if_neg q, if_pos q3]
          exact isS.setJ s (a := 30) (j := u % B 1) _ (by decide)
        · rw [if_neg q3]
          refine tail _ (frS.rf _ _) ?_
          unfold dr0
          rw [if_neg q, if_neg q3]
          exact s
end DRAWN
theorem Sim_drawn (x y z : Int32) : Sim (f_X6_drawn x y z) (f_X7_drawn x y z) := by
  intro M h
  obtain ⟨b, im, H, hn, nt, tl, tn, h1, h2, h3, h4, h5, h6, h7⟩ := id h
  have hl := h1.2.2.lt
  rcases box_cases (n := b 0) (by omega) with ⟨q0, ga0, gb0⟩ | ⟨q0, ga0, gb0⟩
  · exact ⟨_, M, M, by unfold f_X6_drawn; rw [ga0 M h1.1.teeth, cb_k, if_pos rfl], by unfold f_X7_drawn; rw [gb0 M h1.2.1.f0, cb_k, if_pos rfl], h⟩
  rcases W_cases x (lo := 0) (hi := 60) (a := (0 : Int32)) (b := (60 : Int32)) (a' := (0 : Int64)) (b' := (60 : Int64)) rfl rfl (by decide) (by decide) (by decide) (by decide) with ⟨ga1, gb1⟩ | ⟨n, ln, hn, rfl, ga1, gb1⟩
  · exact ⟨_, M, M, by unfold f_X6_drawn; rw [ga0 M h1.1.teeth, cb_k, if_neg (by decide), ga1 M, cb_k, if_pos rfl], by unfold f_X7_drawn; rw [gb0 M h1.2.1.f0, cb_k, if_neg (by decide), gb1 M, cb_k, if_pos rfl], h⟩
  rcases W_cases y (lo := 1) (hi := 999999) (a := (1 : Int32)) (b := (999999 : Int32)) (a' := (1 : Int64)) (b' := (999999 : Int64)) rfl rfl (by decide) (by decide) (by decide) (by decide) with ⟨ga2, gb2⟩ | ⟨sd, lsd, hsd, rfl, ga2, gb2⟩
  · exact ⟨_, M, M, by unfold f_X6_drawn; rw [ga0 M h1.1.teeth, cb_k, if_neg (by decide), ga1 M, cb_k, if_neg (by decide), ga2 M, cb_k, if_pos rfl], by unfold f_X7_drawn; rw [gb0 M h1.2.1.f0, cb_k, if_neg (by decide), gb1 M, cb_k, if_neg (by decide), gb2 M, cb_k, if_pos rfl], h⟩
  rcases W_cases z (lo := 0) (hi := 1) (a := (0 : Int32)) (b := (1 : Int32)) (a' := (0 : Int64)) (b' := (1 : Int64)) rfl rfl (by decide) (by decide) (by decide) (by decide) with ⟨ga3, gb3⟩ | ⟨k, lk, hk, rfl, ga3, gb3⟩
  · exact ⟨_, M, M, by unfold f_X6_drawn; rw [ga0 M h1.1.teeth, cb_k, if_neg (by decide), ga1 M, cb_k, if_neg (by decide), ga2 M, cb_k, if_neg (by decide), ga3 M, cb_k, if_pos rfl], by unfold f_X7_drawn; rw [gb0 M h1.2.1.f0, cb_k, if_neg (by decide), gb1 M, cb_k, if_neg (by decide), gb2 M, cb_k, if_neg (by decide), gb3 M, cb_k, if_pos rfl], h⟩
  obtain ⟨w, _⟩ := h1.2.2.wf (by omega)
  have h12 := w.2.1
  have wb : WF (up b 42 0) := WF_up w (by omega) (by omega) (by omega)
  obtain ⟨M2, e2, w2, f2⟩ := T_take h1.1
  refine Rel.go h h1.2.1 ((Q_drawn (b := b) (n := n) (k3 := k) (by omega) (by omega) n FU 0 sd (up b 42 0) 0 M2 (by omega) (by show n < 5000; omega) (by omega) wb (up_n (by omega)) (up_n (by omega)) (w2.a42 0)).step ?_ (FrW f2) (fun MM s => ?_))
  · unfold f_X6_drawn f_X3_days
    rw [ga0 M h1.1.teeth, cb_k, if_neg (by decide), ga1 M, cb_k, if_neg (by decide), ga2 M, cb_k, if_neg (by decide), ga3 M, cb_k, if_neg (by decide), cb_id, h1.1.cols, if_neg (by rw [neq0 (by omega)]; omega), h1.1.teeth, if_neg (by rw [neq0 (by omega)]; omega), e2, cv_k, lt_k, j_w (by omega), up_s]
    rfl
  · obtain ⟨M3, e3, s3, f3⟩ := S_tries s
    have s4 : isS (up2 M3 280 85 (nI 0)) 43 (up b 42 0) := isS.set s3 (k := 42) 0 (by decide)
    have F := f3.u (k := 85) (by omega) (by omega) (nI 0)
    refine ⟨_, ?_, FrM F, isS.fr s F (by omega), s4⟩
    unfold f_X7_drawn
    rw [gb0 MM s.f0, cb_k, if_neg (by decide), gb1 MM, cb_k, if_neg (by decide), gb2 MM, cb_k, if_neg (by decide), gb3 MM, cb_k, if_neg (by decide), e3, cv_k, lt_k, lt_k, j_w (by omega)]
    rfl
