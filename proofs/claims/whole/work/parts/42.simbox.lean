/-! the call that reads a box -/
def fb (B : Nat → Nat) (c t : Nat) : Nat → Nat := fun i => if i = 0 then t else if i = 1 then c else if i = 2 then B 2 else if i = 3 then B 3 else if (6 ≤ i ∧ i < 18) ∨ (30 ≤ i ∧ i < 42) then B i else 0
section FB
variable {B : Nat → Nat} {c t : Nat}
theorem fb0 : fb B c t 0 = t := rfl
theorem fb1 : fb B c t 1 = c := rfl
theorem fb2 : fb B c t 2 = B 2 := rfl
theorem fb3 : fb B c t 3 = B 3 := rfl
theorem fb4 : fb B c t 4 = 0 := rfl
theorem fb5 : fb B c t 5 = 0 := rfl
theorem fb_k {i : Nat} (h : (6 ≤ i ∧ i < 18) ∨ (30 ≤ i ∧ i < 42)) : fb B c t i = B i := by
  unfold fb
  rw [if_neg (by omega), if_neg (by omega), if_neg (by omega), if_neg (by omega), if_pos h]
theorem fb_z {i : Nat} (h : (18 ≤ i ∧ i < 30) ∨ 42 ≤ i) : fb B c t i = 0 := by
  unfold fb
  rw [if_neg (by omega), if_neg (by omega), if_neg (by omega), if_neg (by omega), if_neg (by omega)]
theorem fb_WF (h : okD B c t) (hc : 4 ≤ c) (ht : 1 ≤ t) : WF (fb B c t) := by
  obtain ⟨a1, a2, a3, a4, a5, a6⟩ := h
  refine ⟨by rw [fb0]; omega, by rw [fb1]; omega, by rw [fb2]; omega, by rw [fb3, fb1]; omega, by rw [fb5]; omega, fun j hj => ?_, fun j hj => ?_⟩
  · rw [fb0] at hj
    obtain ⟨b1, b2⟩ := a4 j hj
    rw [fb_k (by omega), fb_k (by omega), fb_z (by omega), fb_z (by omega)]
    exact ⟨b1, b2, by omega, by omega⟩
  · rw [fb1] at hj
    rw [fb_k (by omega)]
    exact a3 j hj
theorem DC.isW {M : Mem} (h : DC M B c t) (hc : c ≤ 12) (ht : t ≤ 6) : isW M 9 (fb B c t) := by
  obtain ⟨a1, a2, a3, a4, a5, a6, a7, a8, a9⟩ := h
  refine ⟨by rw [fb0]; exact ht, by rw [fb1]; exact hc, fun k hk => ?_⟩
  rw [fb0, fb1] at hk
  unfold rel at hk
  rcases hk with hk | hk | hk | hk | hk | hk
  · rcases (show k = 0 ∨ k = 1 ∨ k = 2 ∨ k = 3 ∨ k = 4 ∨ k = 5 by omega) with rfl | rfl | rfl | rfl | rfl | rfl
    · exact a2
    · exact a1
    · exact a3
    · exact a4
    · exact a5
    · exact a6
  · obtain ⟨j, rfl⟩ : ∃ j, k = 6 + j := ⟨k - 6, by omega⟩
    obtain ⟨e1, e2⟩ := lc6 j (by omega)
    rw [e1, e2, fb_k (by omega)]
    exact (a8 j (by omega)).1
  · obtain ⟨j, rfl⟩ : ∃ j, k = 12 + j := ⟨k - 12, by omega⟩
    obtain ⟨e1, e2⟩ := lc12 j (by omega)
    rw [e1, e2, fb_k (by omega)]
    exact (a8 j (by omega)).2
  · obtain ⟨j, rfl⟩ : ∃ j, k = 18 + j := ⟨k - 18, by omega⟩
    obtain ⟨e1, e2⟩ := lc18 j (by omega)
    rw [e1, e2, fb_z (by omega)]
    exact (a9 j (by omega)).1
  · obtain ⟨j, rfl⟩ : ∃ j, k = 24 + j := ⟨k - 24, by omega⟩
    obtain ⟨e1, e2⟩ := lc24 j (by omega)
    rw [e1, e2, fb_z (by omega)]
    exact (a9 j (by omega)).2
  · obtain ⟨j, rfl⟩ : ∃ j, k = 30 + j := ⟨k - 30, by omega⟩
    obtain ⟨e1, e2⟩ := lc30 j (by omega)
    rw [e1, e2, fb_k (by omega)]
    exact a7 j (by omega)
theorem DM.isS {M : Mem} (h : DM M B c t) (hc : c ≤ 12) (ht : t ≤ 6) : isS M 172 (fb B c t) := by
  obtain ⟨a1, a2, a3, a4, a5, a6, a7, a8, a9, a10⟩ := h
  refine ⟨by rw [fb0]; exact ht, by rw [fb1]; exact hc, fun k hk => ?_⟩
  rw [fb0, fb1] at hk
  unfold rel at hk
  rcases hk with (hk | hk | hk | hk | hk | hk) | hk
  · rcases (show k = 0 ∨ k = 1 ∨ k = 2 ∨ k = 3 ∨ k = 4 ∨ k = 5 by omega) with rfl | rfl | rfl | rfl | rfl | rfl
    · exact a1
    · exact a2
    · exact a3
    · exact a4
    · exact a5
    · exact a6
  · rw [fb_k (by omega), show 172 + k = 178 + (k - 6) by omega, (a8 (k - 6) (by omega)).1, show 6 + (k - 6) = k by omega]
  · rw [fb_k (by omega), show 172 + k = 184 + (k - 12) by omega, (a8 (k - 12) (by omega)).2, show 12 + (k - 12) = k by omega]
  · rw [fb_z (by omega), show 172 + k = 190 + (k - 18) by omega, (a9 (k - 18) (by omega)).1]
  · rw [fb_z (by omega), show 172 + k = 196 + (k - 24) by omega, (a9 (k - 24) (by omega)).2]
  · rw [fb_k (by omega), show 172 + k = 202 + (k - 30) by omega, a7 (k - 30) (by omega), show 30 + (k - 30) = k by omega]
  · subst hk
    rw [fb_z (by omega)]
    exact a10
end FB
def bxm (M : Mem) : Option (Int32 × Mem) := cb (f_X7_takesAll M) fun r_5 M_4 => lt (up2 M_4 279 3 (0 : Int32)) fun M_6 => if r_5 = 0 then some (((-1000100 : Int32) - (M_6 279 11)), M_6) else cv (f_X7_copyOf (172 : Int32) (0 : Int32) M_6) fun M_9 => lt (up2 M_9 279 1 (0 : Int32)) fun M_10 => some ((M_10 280 0), M_10)
theorem R_zero : ∀ (c f k : Nat) (M : Mem), k + c = 43 → c < f → (∀ j, j < k → M 280 (172 + j) = 0) → ∃ M', f_X7_box_2 f (nI k) M = bxm (up2 M' 279 10 0) ∧ (∀ j, j < 43 → M' 280 (172 + j) = 0) ∧ frS 172 M M' := by
  intro c
  induction c with
  | zero =>
    intro f k M hk hf hz
    obtain ⟨f, rfl⟩ : ∃ m, f = m + 1 := ⟨f - 1, by omega⟩
    refine ⟨M, ?_, fun j hj => hz j (by omega), frS.rf _ _⟩
    rw [f_X7_box_2]
    simp (disch := omega) only [l_43, nle]
    rw [if_pos (by omega)]
    rfl
  | succ c ih =>
    intro f k M hk hf hz
    obtain ⟨f, rfl⟩ : ∃ m, f = m + 1 := ⟨f - 1, by omega⟩
    obtain ⟨M', e, h1, h2⟩ := ih f (k + 1) (up2 M 280 (172 + k) 0) (by omega) (by omega) (fun j hj => by
      by_cases q : j = k
      · subst q; exact up2_s _ _ _ _
      · rw [up2_n (by omega)]; exact hz j (by omega))
    refine ⟨M', ?_, h1, ((frS.rf 172 M).u (k := 172 + k) (by omega) (by omega) 0).tr h2⟩
    rw [f_X7_box_2]
    simp (disch := omega) only [l_43, l_172, nI_add, nle, nI_ck, nI_cl]
    rw [if_neg (by omega), lt_k, show nI k + (1 : Int32) = nI (k + 1) from nI_1 k, e]
theorem S_copyB {M : Mem} {b : Nat → Nat} (h : isS M 172 b) : sV' 0 M b (f_X7_copyOf (172 : Int32) (0 : Int32) M) := S_copyOf (a := 172) (d := 0) (by omega) (by omega) (by omega) h
theorem T_clear (M : Mem) : ∃ M', f_X5_clear 9 M = some M' ∧ DC M' zB 0 0 ∧ ∀ c, c < 9 ∨ 14 < c → M' c = M c := by
  obtain ⟨Ma, ea, a1, a2⟩ := T_fill (o := 9 + 4) (a := 6) (x := 0) (by decide) (up2 (up2 (up2 (up2 (up2 (up2 M 9 0 0) 9 1 0) 9 2 0) 9 3 0) 9 4 0) 9 5 0)
  obtain ⟨Mb, eb, b1, b2⟩ := T_fill (o := 9 + 5) (a := 6) (x := 0) (by decide) Ma
  have e9 : Mb 9 = up2 (up2 (up2 (up2 (up2 (up2 M 9 0 0) 9 1 0) 9 2 0) 9 3 0) 9 4 0) 9 5 0 9 := by rw [b2 9 (by omega), a2 9 (by omega)]
  refine ⟨Mb, ?_, ⟨?_, ?_, ?_, ?_, ?_, ?_, fun j hj => by omega, fun j hj => by omega, fun j hj => ⟨?_, ?_⟩⟩, fun c hc => ?_⟩
  · unfold f_X5_clear
    simp only [lt_k]
    rw [ea, cv_k, eb, cv_k]
  · rw [e9]; simp (disch := omega) only [up2_n, up2_s]; rfl
  · rw [e9]; simp (disch := omega) only [up2_n, up2_s]; rfl
  · rw [e9]; simp (disch := omega) only [up2_n, up2_s]; rfl
  · rw [e9]; simp (disch := omega) only [up2_n, up2_s]; rfl
  · rw [e9]; simp (disch := omega) only [up2_n, up2_s]; rfl
  · rw [e9]; simp (disch := omega) only [up2_n, up2_s]; rfl
  · rw [b2 13 (by omega)]; exact a1 j hj
  · exact b1 j hj
  · rw [b2 c (by omega), a2 c (by omega), up2_c (by omega), up2_c (by omega), up2_c (by omega), up2_c (by omega), up2_c (by omega), up2_c (by omega)]
theorem Sim_box : Sim f_X6_box f_X7_box := by
  intro M h
  obtain ⟨b, im, H, hn, nt, tl, tn, h1, h2, h3, h4, h5, h6, h7⟩ := id h
  obtain ⟨k1, k2, k3, k4⟩ := h5
  obtain ⟨T, hT⟩ : ∃ T : Nat → Nat, ∀ j, j < tl → T j < 256 ∧ M 16 j = nI (T j) := ⟨fun j => (M 16 j).toNatClampNeg, fun j hj => by
    obtain ⟨_, v, hv, e⟩ := k4 j hj
    show (M 16 j).toNatClampNeg < 256 ∧ M 16 j = nI ((M 16 j).toNatClampNeg)
    rw [e, nI_cl (by omega)]
    exact ⟨hv, rfl⟩⟩
  obtain ⟨Mc, ec, dc, fc⟩ := T_clear (up2 (up2 M 15 2 0) 15 3 0)
  have fM : ∀ c, c < 9 ∨ 15 < c → Mc c = M c := fun c hc => by rw [fc c (by omega), up2_c (by omega), up2_c (by omega)]
  have e15 : Mc 15 1 = nI tl := by rw [fc 15 (by omega), up2_n (by omega), up2_n (by omega)]; exact k2
  have pc : PC Mc T tl 0 := ⟨e15, by rw [fc 15 (by omega), up2_n (by omega), up2_s]; rfl, by omega, k1, fun j hj => (hT j hj).1, fun j hj => by rw [fM 16 (by omega)]; exact (hT j hj).2⟩
  have eR : f_X4_readInto 9 M = tz (cl1 Mc) (fun M => tz (f_X4_readColumns 9 M) (fun M => tz (f_X4_readTeeth 9 M) (fun M => some ((1 : Int32), M)))) := by
    unfold f_X4_readInto
    rw [lt_k, lt_k, ec, cv_k]
    rfl
  -- the reference, from the class's end
  have start : ∀ Mx : Mem, (∀ c, 278 < c → Mx c = M c) → ∃ Mz, f_X7_box Mx = bxm Mz ∧ (PM Mz T tl 0 ∧ DM Mz zB 0 0) ∧ (∀ c, c ≠ 279 → c ≠ 280 → Mz c = Mx c) ∧ (∀ j, j ≠ 10 → Mz 279 j = Mx 279 j) ∧ (∀ j, j < 172 ∨ 214 < j → Mz 280 j = Mx 280 j) := by
    intro Mx hx
    obtain ⟨Mz, ez, z1, z2⟩ := R_zero 43 FU 0 Mx (by omega) (by decide) (fun j hj => by omega)
    have e8 : ∀ s, 172 ≤ s → s < 215 → up2 Mz 279 10 0 280 s = nI 0 := fun s s1 s2 => by
      have := z1 (s - 172) (by omega)
      rw [show 172 + (s - 172) = s by omega] at this
      rw [up2_c (by omega), this]
      rfl
    refine ⟨up2 Mz 279 10 0, ez, ⟨⟨?_, up2_s _ _ _ _, fun j hj => ?_⟩, e8 _ (by omega) (by omega), e8 _ (by omega) (by omega), e8 _ (by omega) (by omega), e8 _ (by omega) (by omega), e8 _ (by omega) (by omega), e8 _ (by omega) (by omega), fun j hj => by omega, fun j hj => by omega, fun j hj => ⟨e8 _ (by omega) (by omega), e8 _ (by omega) (by omega)⟩, e8 _ (by omega) (by omega)⟩, fun c c1 c2 => ?_, fun j hj => ?_, fun j hj => ?_⟩
    · rw [up2_n (by omega), z2.1 279 (by omega), hx 279 (by omega)]; exact k3
    · rw [up2_c (by omega), z2.1 281 (by omega), hx 281 (by omega), ← (k4 j hj).1]; exact (hT j hj).2
    · rw [up2_c c1, z2.1 c c2]
    · rw [up2_n (by omega), z2.1 279 (by omega)]
    · rw [up2_c (by omega), z2.2 j (by omega)]
  have eT : ∀ MM, f_X7_takesAll MM = tz (ml1 MM) (f_X7_takesAll_9 FU) := fun MM => rfl
  rcases Q_law pc dc with ⟨code, q, M', a1, a2, a3, a4, a5⟩ | ⟨B, c, t, q, M', a1, a2, a3, a4, a5, a6, a7, a8⟩
  · -- refused
    have fA : ∀ c, c < 9 ∨ 15 < c → M' c = M c := fun c hc => by rw [a2.1 c hc, fM c hc]
    obtain ⟨Mz, ez, pz, z1, z2, z3⟩ := start (up2 (up2 M' 15 1 0) 0 9 code) (fun c hc => by rw [up2_c (by omega), up2_c (by omega), fA c (by omega)])
    obtain ⟨Me, e1, f1, f2, f3⟩ := a5 Mz pz
    refine ⟨(-1000100 : Int32) - nI q, up2 (up2 M' 15 1 0) 0 9 code, up2 Me 279 3 0, ?_, ?_, ?_⟩
    · unfold f_X6_box
      rw [eR, a1, cb_k, lt_k, if_pos rfl, up2_n (by omega), a4, lt_k, up2_c (by omega), up2_n (by omega), a3]
    · rw [ez]
      unfold bxm
      rw [eT]
      rw [show tz (ml1 Mz) (f_X7_takesAll_9 FU) = some ((0 : Int32), Me) from e1, cb_k, lt_k, if_pos rfl, up2_n (by omega), f3]
    · have E : ∀ c, (1 ≤ c ∧ c < 9) ∨ (15 < c ∧ c ≠ 279 ∧ c ≠ 280) → up2 Me 279 3 0 c = M c := fun c hc => by rw [up2_c (by omega), f1.1 c (by omega) (by omega), z1 c (by omega) (by omega), up2_c (by omega), up2_c (by omega), fA c (by omega)]
      have E9 : ∀ j, j ≠ 3 → j ≠ 4 → j ≠ 10 → j ≠ 11 → j ≠ 12 → up2 Me 279 3 0 279 j = M 279 j := fun j j1 j2 j3 j4 j5 => by rw [up2_n (by omega), f1.2.1 j j2 j3 j4 j5, z2 j j3, up2_c (by omega), up2_c (by omega), fA 279 (by omega)]
      have E8 : ∀ j, j < 172 ∨ 215 ≤ j → up2 Me 279 3 0 280 j = M 280 j := fun j hj => by rw [up2_c (by omega), f1.2.2 j (by omega), z3 j (by omega), up2_c (by omega), up2_c (by omega), fA 280 (by omega)]
      have E0 : ∀ j, up2 Me 279 3 0 0 j = up2 M' 0 9 code 0 j := fun j => by
        rw [up2_c (by omega), f1.1 0 (by omega) (by omega), z1 0 (by omega) (by omega)]
        by_cases qj : j = 9
        · subst qj
          rw [up2_s, up2_s]
        · rw [up2_n (by omega), up2_n (by omega), up2_n (by omega)]
      refine ⟨b, im, H, hn, nt, 0, tn, h1.k (fun c _ _ => E c (by omega)) (fun j _ => E8 j (by omega)), h2.k (fun c _ => E c (by omega)) (fun j _ _ => E8 j (by omega)), h3.k (fun c _ => E c (by omega)) (fun j _ => E8 j (by omega)) (E9 1 (by omega) (by omega) (by omega) (by omega) (by omega)), h4.k (fun c _ => E c (by omega)), ⟨by omega, ?_, ?_, fun j hj => by omega⟩, ⟨?_, ?_⟩, h7.k (E 249 (by omega)) (E 250 (by omega)) (E 289 (by omega)) (E9 17 (by omega) (by omega) (by omega) (by omega) (by omega))⟩
      · rw [up2_c (by omega), f1.1 15 (by omega) (by omega), z1 15 (by omega) (by omega), up2_c (by omega), up2_s]; rfl
      · rw [up2_s]; rfl
      · rw [E0, up2_s, up2_n (by omega), f2]
      · rw [E0, up2_n (by omega), fA 0 (by omega), E9 5 (by omega) (by omega) (by omega) (by omega) (by omega)]
        exact h6.2
  · -- read
    have fA : ∀ c, c < 9 ∨ 15 < c → M' c = M c := fun c hc => by rw [a2.1 c hc, fM c hc]
    have hc12 := a5.2.2.2.2.1
    have ht6 := a5.2.2.2.2.2
    have wB := fb_WF a5 a6 a7
    have w9 : isW (up2 M' 15 1 0) 9 (fb B c t) := (a4.isW hc12 ht6).kept (fun d _ _ => by rw [up2_c (by omega)])
    obtain ⟨Mt, et, wt, ft⟩ := T_takeFrom (r := 3) (o := 9) w9 (by omega)
    obtain ⟨Mz, ez, pz, z1, z2, z3⟩ := start (up2 Mt 17 2 0) (fun c hc => by rw [up2_c (by omega), ft c (by omega), up2_c (by omega), fA c (by omega)])
    obtain ⟨Me, e1, f1, f2, f3⟩ := a8 Mz pz
    obtain ⟨Mf, ef, sf, ff⟩ := S_copyB (M := up2 Me 279 3 0) ((f3.isS hc12 ht6).kept (fun j _ _ => by rw [up2_c (by omega)]))
    refine ⟨nI t, up2 Mt 17 2 0, up2 Mf 279 1 0, ?_, ?_, ?_⟩
    · unfold f_X6_box f_X1_forget
      rw [eR, a1, cb_k, lt_k, if_neg (by decide), et, cv_k, lt_k, cv_k, up2_c (by omega), wt.teeth, fb0]
    · rw [ez]
      unfold bxm
      rw [eT]
      rw [show tz (ml1 Mz) (f_X7_takesAll_9 FU) = some ((1 : Int32), Me) from e1, cb_k, lt_k, if_neg (by decide), ef, cv_k, lt_k, up2_c (by omega), sf.f0, fb0]
    · have E : ∀ c, c < 3 ∨ (15 < c ∧ c ≠ 17 ∧ c ≠ 279 ∧ c ≠ 280) → up2 Mf 279 1 0 c = M c := fun c hc => by rw [up2_c (by omega), ff.1 c (by omega), up2_c (by omega), f1.1 c (by omega) (by omega), z1 c (by omega) (by omega), up2_c (by omega), ft c (by omega), up2_c (by omega), fA c (by omega)]
      have E9 : ∀ j, j ≠ 1 → j ≠ 3 → j ≠ 4 → j ≠ 10 → j ≠ 11 → j ≠ 12 → up2 Mf 279 1 0 279 j = M 279 j := fun j j0 j1 j2 j3 j4 j5 => by rw [up2_n (by omega), ff.1 279 (by omega), up2_n (by omega), f1.2.1 j j2 j3 j4 j5, z2 j j3, up2_c (by omega), ft 279 (by omega), up2_c (by omega), fA 279 (by omega)]
      have E8 : ∀ j, (42 < j ∧ j < 172) ∨ 215 ≤ j → up2 Mf 279 1 0 280 j = M 280 j := fun j hj => by rw [up2_c (by omega), ff.2 j (by omega), up2_c (by omega), f1.2.2 j (by omega), z3 j (by omega), up2_c (by omega), ft 280 (by omega), up2_c (by omega), fA 280 (by omega)]
      refine ⟨fb B c t, im, H, 0, nt, 0, tn, ⟨?_, ?_, Or.inr ⟨wB, by rw [fb4]; omega⟩⟩, h2.k (fun c _ => E c (by omega)) (fun j _ _ => E8 j (by omega)), ⟨by omega, h3.2.1, ?_, ?_, ?_, fun i hi => by omega⟩, h4.k (fun c _ => E c (by omega)), ⟨by omega, ?_, ?_, fun j hj => by omega⟩, ⟨?_, ?_⟩, h7.k (E 249 (by omega)) (E 250 (by omega)) (E 289 (by omega)) (E9 17 (by omega) (by omega) (by omega) (by omega) (by omega) (by omega))⟩
      · exact wt.kept (fun d _ _ => by rw [up2_c (by omega), ff.1 d (by omega), up2_c (by omega), f1.1 d (by omega) (by omega), z1 d (by omega) (by omega), up2_c (by omega)])
      · exact sf.kept (fun j _ _ => by rw [up2_c (by omega)])
      · rw [up2_c (by omega), ff.1 17 (by omega), up2_c (by omega), f1.1 17 (by omega) (by omega), z1 17 (by omega) (by omega), up2_n (by omega), ft 17 (by omega), up2_c (by omega), fA 17 (by omega)]
        exact h3.2.2.1
      · rw [up2_c (by omega), ff.1 17 (by omega), up2_c (by omega), f1.1 17 (by omega) (by omega), z1 17 (by omega) (by omega), up2_s]
        rfl
      · rw [up2_s]; rfl
      · rw [up2_c (by omega), ff.1 15 (by omega), up2_c (by omega), f1.1 15 (by omega) (by omega), z1 15 (by omega) (by omega), up2_c (by omega), ft 15 (by omega), up2_s]; rfl
      · rw [up2_n (by omega), ff.1 279 (by omega), up2_s]; rfl
      · rw [E 0 (by omega), up2_n (by omega), ff.1 279 (by omega), up2_n (by omega), f2, z2 4 (by omega), up2_c (by omega), ft 279 (by omega), up2_c (by omega), fA 279 (by omega)]
        exact h6.1
      · rw [E 0 (by omega), E9 5 (by omega) (by omega) (by omega) (by omega) (by omega) (by omega)]
        exact h6.2
