/-! a box, read from the tape -/
def DC (M : Mem) (B : Nat → Nat) (c t : Nat) : Prop := M 9 0 = nI c ∧ M 9 1 = nI t ∧ M 9 2 = nI (B 2) ∧ M 9 3 = nI (B 3) ∧ M 9 4 = nI 0 ∧ M 9 5 = nI 0 ∧ (∀ j, j < c → M 10 j = nI (B (30 + j))) ∧ (∀ j, j < t → M 11 j = nI (B (6 + j)) ∧ M 12 j = nI (B (12 + j))) ∧ (∀ j, j < 6 → M 13 j = nI 0 ∧ M 14 j = nI 0)
def DM (M : Mem) (B : Nat → Nat) (c t : Nat) : Prop := M 280 172 = nI t ∧ M 280 173 = nI c ∧ M 280 174 = nI (B 2) ∧ M 280 175 = nI (B 3) ∧ M 280 176 = nI 0 ∧ M 280 177 = nI 0 ∧ (∀ j, j < c → M 280 (202 + j) = nI (B (30 + j))) ∧ (∀ j, j < t → M 280 (178 + j) = nI (B (6 + j)) ∧ M 280 (184 + j) = nI (B (12 + j))) ∧ (∀ j, j < 6 → M 280 (190 + j) = nI 0 ∧ M 280 (196 + j) = nI 0) ∧ M 280 214 = nI 0
def okD (B : Nat → Nat) (c t : Nat) : Prop := B 2 ≤ 99 ∧ B 3 ≤ 3 ∧ (∀ j, j < c → B (30 + j) < 64) ∧ (∀ j, j < t → (1 ≤ B (6 + j) ∧ B (6 + j) ≤ 5) ∧ (1 ≤ B (12 + j) ∧ B (12 + j) ≤ 9)) ∧ c ≤ 12 ∧ t ≤ 6
theorem DM.k {M M' : Mem} {B : Nat → Nat} {c t : Nat} (h : DM M B c t) (e : M' 280 = M 280) : DM M' B c t := by
  unfold DM at h ⊢
  rw [e]
  exact h
theorem DC.k {M M' : Mem} {B : Nat → Nat} {c t : Nat} (h : DC M B c t) (e : ∀ d, 9 ≤ d → d ≤ 14 → M' d = M d) : DC M' B c t := by
  unfold DC at h ⊢
  rw [e 9 (by omega) (by omega), e 10 (by omega) (by omega), e 11 (by omega) (by omega), e 12 (by omega) (by omega), e 13 (by omega) (by omega), e 14 (by omega) (by omega)]
  exact h
def Fl (F : Option (Int32 × Mem)) (G : Mem → Option (Int32 × Mem)) (P : Mem → Prop) (M : Mem) : Prop := ∃ (code : Int32) (q : Nat) (M' : Mem), F = some ((0 : Int32), M') ∧ FrT M M' ∧ M' 15 2 = nI q ∧ M' 15 3 = code ∧ ∀ MM, P MM → ∃ MM', G MM = some ((0 : Int32), MM') ∧ FrF MM MM' ∧ MM' 279 4 = code ∧ MM' 279 11 = nI q
def Sc (T : Nat → Nat) (tl : Nat) (F : Option (Int32 × Mem)) (G : Mem → Option (Int32 × Mem)) (P : Mem → Prop) (M : Mem) : Prop := ∃ (B : Nat → Nat) (c t q : Nat) (M' : Mem), F = some ((1 : Int32), M') ∧ FrT M M' ∧ PC M' T tl q ∧ DC M' B c t ∧ okD B c t ∧ 4 ≤ c ∧ 1 ≤ t ∧ ∀ MM, P MM → ∃ MM', G MM = some ((1 : Int32), MM') ∧ FrF MM MM' ∧ MM' 279 4 = MM 279 4 ∧ DM MM' B c t
def Res (T : Nat → Nat) (tl : Nat) (F : Option (Int32 × Mem)) (G : Mem → Option (Int32 × Mem)) (P : Mem → Prop) (M : Mem) : Prop := Fl F G P M ∨ Sc T tl F G P M
theorem Res.step {T : Nat → Nat} {tl : Nat} {F F' : Option (Int32 × Mem)} {G G' : Mem → Option (Int32 × Mem)} {P P' : Mem → Prop} {M M2 : Mem} (h : Res T tl F' G' P' M2) (e : F = F') (f : FrT M M2) (g : ∀ MM, P MM → ∃ MM2, G MM = G' MM2 ∧ FrF MM MM2 ∧ MM2 279 4 = MM 279 4 ∧ P' MM2) : Res T tl F G P M := by
  subst e
  rcases h with ⟨code, q, M', a1, a2, a3, a4, a5⟩ | ⟨B, c, t, q, M', a1, a2, a3, a4, a5, a6, a7, a8⟩
  · refine Or.inl ⟨code, q, M', a1, f.tr a2, a3, a4, fun MM hm => ?_⟩
    obtain ⟨MM2, g1, g2, _, g4⟩ := g MM hm
    obtain ⟨MM', b1, b2, b3⟩ := a5 MM2 g4
    exact ⟨MM', g1.trans b1, g2.tr b2, b3⟩
  · refine Or.inr ⟨B, c, t, q, M', a1, f.tr a2, a3, a4, a5, a6, a7, fun MM hm => ?_⟩
    obtain ⟨MM2, g1, g2, g3, g4⟩ := g MM hm
    obtain ⟨MM', b1, b2, b3, b4⟩ := a8 MM2 g4
    exact ⟨MM', g1.trans b1, g2.tr b2, b3.trans g3, b4⟩
theorem kindOf_k (x : Int32) : ∃ k, k ≤ 5 ∧ (x = -1 → k = 0) ∧ (∀ M, f_X4_kindOf x M = some (nI k, M)) ∧ (∀ M, f_X7_kindOf x M = some (nI k, M)) := by
  unfold f_X4_kindOf f_X7_kindOf
  simp only [lt_k]
  by_cases a : x = 99
  · subst a
    exact ⟨5, by omega, fun q => absurd q (by decide), fun _ => rfl, fun _ => rfl⟩
  by_cases c : x = 100
  · subst c
    exact ⟨2, by omega, fun q => absurd q (by decide), fun _ => rfl, fun _ => rfl⟩
  by_cases d : x = 114
  · subst d
    exact ⟨4, by omega, fun q => absurd q (by decide), fun _ => rfl, fun _ => rfl⟩
  by_cases e : x = 115
  · subst e
    exact ⟨1, by omega, fun q => absurd q (by decide), fun _ => rfl, fun _ => rfl⟩
  by_cases f : x = 116
  · subst f
    exact ⟨3, by omega, fun q => absurd q (by decide), fun _ => rfl, fun _ => rfl⟩
  · exact ⟨0, by omega, fun _ => rfl, fun M => by rw [if_neg a, if_neg c, if_neg d, if_neg e, if_neg f]; rfl, fun M => by rw [if_neg e, if_neg c, if_neg f, if_neg d, if_neg a]; rfl⟩
/-- the end of what is read, in the class -/
def tz (o : Option (Int32 × Mem)) (K : Mem → Option (Int32 × Mem)) : Option (Int32 × Mem) := cb o fun r M => if r = 0 then some ((0 : Int32), M) else K M
theorem tz0 {M : Mem} {K : Mem → Option (Int32 × Mem)} : tz (some ((0 : Int32), M)) K = some ((0 : Int32), M) := rfl
theorem tz1 {M : Mem} {K : Mem → Option (Int32 × Mem)} : tz (some ((1 : Int32), M)) K = K M := rfl
theorem DC.tooth {M : Mem} {B : Nat → Nat} {c t k v : Nat} (h : DC M B c t) (ht : t < 6) : DC (up2 (up2 (up2 M 11 t (nI k)) 12 t (nI v)) 9 1 (nI (t + 1))) (up (up B (6 + t) k) (12 + t) v) c (t + 1) := by
  obtain ⟨a1, a2, a3, a4, a5, a6, a7, a8, a9⟩ := h
  refine ⟨?_, up2_s _ _ _ _, ?_, ?_, ?_, ?_, fun j hj => ?_, fun j hj => ⟨?_, ?_⟩, fun j hj => ⟨?_, ?_⟩⟩
  · rw [up2_n (by omega), up2_c (by omega), up2_c (by omega)]; exact a1
  · rw [up2_n (by omega), up2_c (by omega), up2_c (by omega), up_n (by omega), up_n (by omega)]; exact a3
  · rw [up2_n (by omega), up2_c (by omega), up2_c (by omega), up_n (by omega), up_n (by omega)]; exact a4
  · rw [up2_n (by omega), up2_c (by omega), up2_c (by omega)]; exact a5
  · rw [up2_n (by omega), up2_c (by omega), up2_c (by omega)]; exact a6
  · rw [up2_c (by omega), up2_c (by omega), up2_c (by omega), up_n (by omega), up_n (by omega)]; exact a7 j hj
  · rw [up2_c (by omega), up2_c (by omega)]
    by_cases q : j = t
    · subst q
      rw [up2_s, up_n (by omega), up_s]
    · rw [up2_n (by omega), up_n (by omega), up_n (by omega)]
      exact (a8 j (by omega)).1
  · rw [up2_c (by omega)]
    by_cases q : j = t
    · subst q
      rw [up2_s, up_s]
    · rw [up2_n (by omega), up2_c (by omega), up_n (by omega), up_n (by omega)]
      exact (a8 j (by omega)).2
  · rw [up2_c (by omega), up2_c (by omega), up2_c (by omega)]; exact (a9 j hj).1
  · rw [up2_c (by omega), up2_c (by omega), up2_c (by omega)]; exact (a9 j hj).2
theorem DM.tooth {M M' : Mem} {B : Nat → Nat} {c t k v : Nat} (h : DM M B c t) (ht : t < 6) (e : ∀ s, s ≠ 172 → s ≠ 178 + t → s ≠ 184 + t → M' 280 s = M 280 s) (e1 : M' 280 172 = nI (t + 1)) (e2 : M' 280 (178 + t) = nI k) (e3 : M' 280 (184 + t) = nI v) : DM M' (up (up B (6 + t) k) (12 + t) v) c (t + 1) := by
  obtain ⟨a1, a2, a3, a4, a5, a6, a7, a8, a9, a10⟩ := h
  refine ⟨e1, ?_, ?_, ?_, ?_, ?_, fun j hj => ?_, fun j hj => ⟨?_, ?_⟩, fun j hj => ⟨?_, ?_⟩, ?_⟩
  · rw [e _ (by omega) (by omega) (by omega)]; exact a2
  · rw [e _ (by omega) (by omega) (by omega), up_n (by omega), up_n (by omega)]; exact a3
  · rw [e _ (by omega) (by omega) (by omega), up_n (by omega), up_n (by omega)]; exact a4
  · rw [e _ (by omega) (by omega) (by omega)]; exact a5
  · rw [e _ (by omega) (by omega) (by omega)]; exact a6
  · rw [e _ (by omega) (by omega) (by omega), up_n (by omega), up_n (by omega)]; exact a7 j hj
  · by_cases q : j = t
    · subst q
      rw [e2, up_n (by omega), up_s]
    · rw [e _ (by omega) (by omega) (by omega), up_n (by omega), up_n (by omega)]
      exact (a8 j (by omega)).1
  · by_cases q : j = t
    · subst q
      rw [e3, up_s]
    · rw [e _ (by omega) (by omega) (by omega), up_n (by omega), up_n (by omega)]
      exact (a8 j (by omega)).2
  · rw [e _ (by omega) (by omega) (by omega)]; exact (a9 j hj).1
  · rw [e _ (by omega) (by omega) (by omega)]; exact (a9 j hj).2
  · rw [e _ (by omega) (by omega) (by omega)]; exact a10
theorem okD.tooth {B : Nat → Nat} {c t k v : Nat} (h : okD B c t) (ht : t < 6) (hk : 1 ≤ k ∧ k ≤ 5) (hv : 1 ≤ v ∧ v ≤ 9) : okD (up (up B (6 + t) k) (12 + t) v) c (t + 1) := by
  obtain ⟨a1, a2, a3, a4, a5, a6⟩ := h
  refine ⟨?_, ?_, fun j hj => ?_, fun j hj => ⟨?_, ?_⟩, a5, by omega⟩
  · rw [up_n (by omega), up_n (by omega)]; exact a1
  · rw [up_n (by omega), up_n (by omega)]; exact a2
  · rw [up_n (by omega), up_n (by omega)]; exact a3 j hj
  · by_cases q : j = t
    · subst q
      rw [up_n (by omega), up_s]
      exact hk
    · rw [up_n (by omega), up_n (by omega)]
      exact (a4 j (by omega)).1
  · by_cases q : j = t
    · subst q
      rw [up_s]
      exact hv
    · rw [up_n (by omega), up_n (by omega)]
      exact (a4 j (by omega)).2
section BOX
variable {T : Nat → Nat} {tl : Nat}
theorem Q_teeth {cc : Nat} (hcc : 4 ≤ cc) : ∀ (c f f' t p : Nat) (B : Nat → Nat) (M : Mem), t + c = 7 → c < f → c < f' → t ≤ 6 → PC M T tl p → DC M B cc t → okD B cc t → Res T tl (tz (f_X4_readTeeth_2 9 f (nI t) M) (fun M => some ((1 : Int32), M))) (f_X7_takesAll_39 f') (fun MM => PM MM T tl p ∧ DM MM B cc t) M := by
  intro c
  induction c with
  | zero => intro f f' t p B M h1 h2 h3 h4; omega
  | succ c ih =>
    intro f f' t p B M hc hf hf' ht hP hD hO
    obtain ⟨f, rfl⟩ : ∃ m, f = m + 1 := ⟨f - 1, by omega⟩
    obtain ⟨f', rfl⟩ : ∃ m, f' = m + 1 := ⟨f' - 1, by omega⟩
    have h100 := hP.2.2.2.1
    have hptl := hP.2.2.1
    obtain ⟨k, hk5, hk0, ka, kb⟩ := kindOf_k (cm T tl p)
    -- the reference, in each case: a tooth is taken
    have g61 : ∀ MM, PM MM T tl p → DM MM B cc t → (t = 0 ∨ p < tl) → f_X7_takesAll_39 (f' + 1) MM = f_X7_takesAll_61 (f_X7_takesAll_39 f') MM := by
      intro MM hm hd hh
      rw [f_X7_takesAll_39, hd.1, hm.1, hm.2.1]
      simp (disch := omega) only [neq0, nle]
      by_cases q : t = 0
      · rw [if_pos q]
      · rw [if_neg q, if_neg (by omega)]
    have gfail : ∀ MM (code : Int32), PM MM T tl p → DM MM B cc t → (t = 0 ∨ p < tl) → f_X7_takesTooth MM = some ((0 : Int32), up2 (up2 MM 279 4 code) 279 11 (nI p)) → f_X7_takesAll_39 (f' + 1) MM = some ((0 : Int32), up2 (up2 MM 279 4 code) 279 11 (nI p)) := by
      intro MM code hm hd hh e
      rw [g61 MM hm hd hh]
      unfold f_X7_takesAll_61
      rw [e, cb_k, if_pos rfl]
    have flat : ∀ (code : Int32), (t = 0 ∨ p < tl) → f_X4_readTeeth_2 9 (f + 1) (nI t) M = some ((0 : Int32), up2 M 15 3 code) → (∀ MM, PM MM T tl p → DM MM B cc t → f_X7_takesTooth MM = some ((0 : Int32), up2 (up2 MM 279 4 code) 279 11 (nI p))) → Res T tl (tz (f_X4_readTeeth_2 9 (f + 1) (nI t) M) (fun M => some ((1 : Int32), M))) (f_X7_takesAll_39 (f' + 1)) (fun MM => PM MM T tl p ∧ DM MM B cc t) M := by
      intro code hh e g
      refine Or.inl ⟨code, p, up2 M 15 3 code, by rw [e, tz0], FrT.u _ (by omega), by rw [up2_n (by omega)]; exact hP.2.1, up2_s _ _ _ _, fun MM hm => ⟨_, gfail MM code hm.1 hm.2 hh (g MM hm.1 hm.2), (FrF.u _ (by omega)).tr (FrF.u _ (by omega)), by rw [up2_n (by omega), up2_s], up2_s _ _ _ _⟩⟩
    have hcm : cm T tl p = -1 ∨ p < tl := by
      unfold cm
      by_cases q : p < tl
      · exact Or.inr q
      · exact Or.inl (if_neg q)
    have gkind0 : k = 0 → ∀ MM, PM MM T tl p → f_X7_takesTooth MM = some ((0 : Int32), up2 (up2 MM 279 4 1) 279 11 (nI p)) := by
      intro k0 MM hm
      unfold f_X7_takesTooth
      rw [S_here h100 hptl hm, cb_k, kb, cb_k, if_pos (by rw [k0]; rfl), hm.2.1, fails_k, cb_k, cbz0]
    by_cases qn : ¬ p < tl
    · have k0 : k = 0 := hk0 (by rcases hcm with q | q; exact q; exact absurd q qn)
      by_cases q : t = 0
      · refine flat 1 (Or.inl q) ?_ (fun MM hm _ => gkind0 k0 MM hm)
        rw [f_X4_readTeeth_2, hP.1, hP.2.1]
        simp (disch := omega) only [l_6, nlt, nle]
        rw [if_neg (by omega), if_pos (by omega)]
        unfold f_X4_readTeeth_110
        rw [hD.2.1, if_neg (by rw [n0lt (by omega)]; omega), fail_k, cb_k, if_pos rfl]
      · refine Or.inr ⟨B, cc, t, p, M, ?_, FrT.rf _, hP, hD, hO, hcc, by omega, fun MM hm => ⟨MM, ?_, FrF.rf _, rfl, hm.2⟩⟩
        · rw [f_X4_readTeeth_2, hP.1, hP.2.1]
          simp (disch := omega) only [l_6, nlt, nle]
          rw [if_neg (by omega), if_pos (by omega)]
          unfold f_X4_readTeeth_110 f_X4_readTeeth_125
          rw [hD.2.1, if_pos (by rw [n0lt (by omega)]; omega), tz1]
        · rw [f_X7_takesAll_39, hm.2.1, hm.1.1, hm.1.2.1]
          simp (disch := omega) only [neq0, nle]
          rw [if_neg q, if_pos (by omega)]
    have qp : p < tl := Decidable.not_not.mp qn
    by_cases k0 : k = 0
    · refine flat 1 (Or.inr qp) ?_ (fun MM hm _ => gkind0 k0 MM hm)
      rw [f_X4_readTeeth_2, hP.1, hP.2.1, T_coming hP, cb_k, ka, cb_k]
      simp (disch := omega) only [l_6, nlt, nle, neq0]
      rw [if_neg (by omega), if_neg (by omega), if_pos k0, fail_k, cb_k, cbz0]
    by_cases t6 : t = 6
    · refine flat 3 (Or.inr qp) ?_ (fun MM hm hd => ?_)
      · rw [f_X4_readTeeth_2, hP.1, hP.2.1, T_coming hP, cb_k, ka, cb_k]
        simp (disch := omega) only [l_6, nlt, nle, neq0, neq]
        rw [if_neg (by omega), if_neg (by omega), if_neg k0, if_pos t6, fail_k, cb_k, cbz0]
      · unfold f_X7_takesTooth
        rw [S_here h100 hptl hm, cb_k, kb, cb_k, if_neg (by rw [neq0 (by omega)]; exact k0), hd.1, if_pos (by rw [t6]; rfl), hm.2.1, fails_k, cb_k, cbz0]
    have hP1 := hP.at (q := p + 1) (by omega)
    have eC : f_X4_readTeeth_2 9 (f + 1) (nI t) M = cb (f_X4_takeNumber (nI 1) (nI 9) (up2 M 15 2 (nI (p + 1)))) fun r_14 M_13 => if r_14 = 0 then some ((0 : Int32), M_13) else cb (f_X4_take (59 : Int32) M_13) fun r_18 M_17 => if r_18 = 0 then some ((0 : Int32), M_17) else f_X4_readTeeth_2 9 f (nI (t + 1)) (up2 (up2 (up2 M_17 11 t (nI k)) 12 t (up2 M_17 11 t (nI k) 15 4)) 9 1 (nI (t + 1))) := by
      rw [f_X4_readTeeth_2, hP.1, hP.2.1, T_coming hP, cb_k, ka, cb_k, hP.2.1, show nI p + (1 : Int32) = nI (p + 1) from nI_1 p, show nI t + (1 : Int32) = nI (t + 1) from nI_1 t]
      simp (disch := omega) only [l_6, nlt, nle, neq0, neq, nI_ck, nI_cl]
      rw [if_neg (by omega), if_neg (by omega), if_neg k0, if_neg t6]
      rfl
    have eM : ∀ MM, PM MM T tl p → DM MM B cc t → f_X7_takesTooth MM = cb (f_X7_takesNumber (nI 1) (nI 9) (up2 (up2 MM 279 10 (nI (p + 1))) 280 (178 + t) (nI k))) fun r_14 M_13 => if r_14 = 0 then some ((0 : Int32), M_13) else ck ((184 : Int32) + (M_13 280 172)) 1247 <| lt (up2 M_13 280 (((184 : Int32) + (M_13 280 172))).toNatClampNeg (M_13 279 12)) fun M_16 => lt (up2 M_16 280 172 ((M_16 280 172) + (1 : Int32))) fun M_18 => cb (f_X7_takes (59 : Int32) M_18) fun r_21 M_20 => cbz r_21 <| some (r_21, M_20) := by
      intro MM hm hd
      unfold f_X7_takesTooth
      rw [S_here h100 hptl hm, cb_k, kb, cb_k, if_neg (by rw [neq0 (by omega)]; exact k0), hd.1, if_neg (by rw [l_6, neq (by omega) (by omega)]; exact t6), hm.2.1, show nI p + (1 : Int32) = nI (p + 1) from nI_1 p, lt_k, up2_c (c := 280) (by omega), hd.1, l_178, nI_add, nI_ck (by omega) (by decide), nI_cl (by omega), lt_k]
      rfl
    have hPa : ∀ MM, PM MM T tl p → PM (up2 (up2 MM 279 10 (nI (p + 1))) 280 (178 + t) (nI k)) T tl (p + 1) := fun MM hm => (hm.at (p + 1)).o (by omega)
    rcases L_num (lo := 1) (hi := 9) (by omega) (by omega) hP1 with ⟨code, e1, e2⟩ | ⟨q, v, v1, v9, hq, e1, e2⟩
    · refine Or.inl ⟨code, p + 1, up2 (up2 M 15 2 (nI (p + 1))) 15 3 code, ?_, (FrT.u _ (by omega)).tr (FrT.u _ (by omega)), by rw [up2_n (by omega), up2_s], up2_s _ _ _ _, fun MM hm => ?_⟩
      · rw [eC, e1, cb_k, if_pos rfl, tz0]
      · obtain ⟨MM', g1, g2, g3, g4⟩ := e2 _ (hPa MM hm.1)
        refine ⟨MM', ?_, ((FrF.u _ (by omega)).tr (FrF.u _ (by omega))).tr g2, g3, g4⟩
        rw [g61 MM hm.1 hm.2 (Or.inr qp)]
        unfold f_X7_takesAll_61
        rw [eM MM hm.1 hm.2, g1, cb_k, if_pos rfl, cb_k, if_pos rfl]
    · have hP2 : PC (up2 (up2 (up2 M 15 2 (nI (p + 1))) 15 2 (nI q)) 15 4 (nI v)) T tl q := (hP1.at hq).o (by omega)
      -- the reference up to the mark behind the number
      have gM : ∀ MM, PM MM T tl p → DM MM B cc t → ∃ M3, f_X7_takesTooth MM = (cb (f_X7_takes (59 : Int32) M3) fun r_21 M_20 => cbz r_21 <| some (r_21, M_20)) ∧ PM M3 T tl q ∧ FrF MM M3 ∧ M3 279 4 = MM 279 4 ∧ DM M3 (up (up B (6 + t) k) (12 + t) v) cc (t + 1) := by
        intro MM hm hd
        obtain ⟨MM', g1, g2, g3, g4, g5⟩ := e2 _ (hPa MM hm)
        have e280 : ∀ s, s ≠ 178 + t → MM' 280 s = MM 280 s := fun s hs => by rw [g4 280 (by omega), up2_n (by omega), up2_c (by omega)]
        have e17 : MM' 280 172 = nI t := by rw [e280 _ (by omega)]; exact hd.1
        have e78 : MM' 280 (178 + t) = nI k := by rw [g4 280 (by omega), up2_s]
        refine ⟨up2 (up2 MM' 280 (184 + t) (nI v)) 280 172 (nI (t + 1)), ?_, ⟨?_, ?_, fun j hj => ?_⟩, ?_, ?_, ?_⟩
        · rw [eM MM hm hd, g1, cb_k, if_neg (by decide), e17, l_184, nI_add, nI_ck (by omega) (by decide), nI_cl (by omega), g3, lt_k, up2_n (by omega), e17, show nI t + (1 : Int32) = nI (t + 1) from nI_1 t, lt_k]
        · rw [up2_c (by omega), up2_c (by omega), g5 3 (by omega) (by omega), up2_c (by omega), up2_n (by omega)]; exact hm.1
        · rw [up2_c (by omega), up2_c (by omega)]; exact g2
        · rw [up2_c (by omega), up2_c (by omega), g4 281 (by omega), up2_c (by omega), up2_c (by omega)]; exact hm.2.2 j hj
        · exact (((FrF.u _ (by omega)).tr (FrF.u _ (by omega))).tr (FrF.n g4 g5)).tr ((FrF.u _ (by omega)).tr (FrF.u _ (by omega)))
        · rw [up2_c (by omega), up2_c (by omega), g5 4 (by omega) (by omega), up2_c (by omega), up2_n (by omega)]
        · refine hd.tooth (by omega) (fun s s1 s2 s3 => ?_) ?_ ?_ ?_
          · rw [up2_n (by omega), up2_n (by omega), e280 s s2]
          · rw [up2_s]
          · rw [up2_n (by omega), up2_n (by omega), e78]
          · rw [up2_n (by omega), up2_s]
      rcases L_take (59 : Int32) (by decide) hP2 with ⟨hq1, t1, t2⟩ | ⟨t1, t2⟩
      · have hP3 := hP2.at (q := q + 1) hq1
        refine (ih f f' (t + 1) (q + 1) (up (up B (6 + t) k) (12 + t) v) (up2 (up2 (up2 (up2 (up2 (up2 (up2 M 15 2 (nI (p + 1))) 15 2 (nI q)) 15 4 (nI v)) 15 2 (nI (q + 1))) 11 t (nI k)) 12 t (nI v)) 9 1 (nI (t + 1))) (by omega) (by omega) (by omega) (by omega) (((hP3.o (by omega)).o (by omega)).o (by omega)) ?_ ?_).step ?_ ?_ (fun MM hm => ?_)
        · refine DC.tooth ?_ (by omega)
          exact hD.k (fun d _ _ => by rw [up2_c (by omega), up2_c (by omega), up2_c (by omega), up2_c (by omega)])
        · exact hO.tooth (by omega) (by omega) (by omega)
        · rw [eC, e1, cb_k, if_neg (by decide), t1, cb_k, if_neg (by decide), up2_c (c := 15) (by omega), up2_n (c := 15) (by omega), up2_s]
        · exact ((((((FrT.u _ (by omega)).tr (FrT.u _ (by omega))).tr (FrT.u _ (by omega))).tr (FrT.u _ (by omega))).tr (FrT.u _ (by omega))).tr (FrT.u _ (by omega))).tr (FrT.u _ (by omega))
        · obtain ⟨M3, g1, g2, g3, g4, g5⟩ := gM MM hm.1 hm.2
          refine ⟨up2 M3 279 10 (nI (q + 1)), ?_, g3.tr (FrF.u _ (by omega)), by rw [up2_n (by omega)]; exact g4, g2.at _, g5.k (up2_c (by omega))⟩
          rw [g61 MM hm.1 hm.2 (Or.inr qp)]
          unfold f_X7_takesAll_61
          rw [g1, t2 M3 g2, cb_k, cbz1, cb_k, if_neg (by decide)]
      · refine Or.inl ⟨1, q, up2 (up2 (up2 (up2 M 15 2 (nI (p + 1))) 15 2 (nI q)) 15 4 (nI v)) 15 3 1, ?_, (((FrT.u _ (by omega)).tr (FrT.u _ (by omega))).tr (FrT.u _ (by omega))).tr (FrT.u (c := 15) (j := 3) 1 (by omega)), by rw [up2_n (by omega)]; exact hP2.2.1, up2_s _ _ _ _, fun MM hm => ?_⟩
        · rw [eC, e1, cb_k, if_neg (by decide), t1, cb_k, if_pos rfl, tz0]
        · obtain ⟨M3, g1, g2, g3, g4, g5⟩ := gM MM hm.1 hm.2
          refine ⟨up2 (up2 M3 279 4 1) 279 11 (nI q), ?_, g3.tr ((FrF.u (c := 279) (j := 4) 1 (by omega)).tr (FrF.u (c := 279) (j := 11) (nI q) (by omega))), by rw [up2_n (by omega), up2_s], up2_s _ _ _ _⟩
          rw [g61 MM hm.1 hm.2 (Or.inr qp)]
          unfold f_X7_takesAll_61
          rw [g1, t2 M3 g2, cb_k, cbz0, cb_k, if_pos rfl]
theorem Res.take {p : Nat} {x : Int32} (hx : x ≠ -1) {F : Option (Int32 × Mem)} {G K' : Mem → Option (Int32 × Mem)} {K : Mem → Option (Int32 × Mem)} {P : Mem → Prop} {M : Mem} (h : PC M T tl p) (hP : ∀ MM, P MM → PM MM T tl p) (hF : ∀ r M', (r = 0 ∨ r = 1) → f_X4_take x M = some (r, M') → F = if r = 0 then some ((0 : Int32), M') else K M') (hG : ∀ MM r M', P MM → (r = 0 ∨ r = 1) → f_X7_takes x MM = some (r, M') → G MM = if r = 0 then some ((0 : Int32), M') else K' M') (hK : p + 1 ≤ tl → Res T tl (K (up2 M 15 2 (nI (p + 1)))) K' (fun M2 => ∃ MM, P MM ∧ M2 = up2 MM 279 10 (nI (p + 1))) (up2 M 15 2 (nI (p + 1)))) : Res T tl F G P M := by
  rcases L_take x hx h with ⟨h1, t1, t2⟩ | ⟨t1, t2⟩
  · refine (hK h1).step ((hF 1 _ (Or.inr rfl) t1).trans (if_neg (by decide))) (FrT.u _ (by omega)) (fun MM hm => ⟨up2 MM 279 10 (nI (p + 1)), (hG MM 1 _ hm (Or.inr rfl) (t2 MM (hP MM hm))).trans (if_neg (by decide)), FrF.u _ (by omega), up2_n (by omega), MM, hm, rfl⟩)
  · refine Or.inl ⟨1, p, up2 M 15 3 1, (hF 0 _ (Or.inl rfl) t1).trans (if_pos rfl), FrT.u _ (by omega), by rw [up2_n (by omega)]; exact h.2.1, up2_s _ _ _ _, fun MM hm => ⟨up2 (up2 MM 279 4 1) 279 11 (nI p), (hG MM 0 _ hm (Or.inl rfl) (t2 MM (hP MM hm))).trans (if_pos rfl), (FrF.u _ (by omega)).tr (FrF.u _ (by omega)), by rw [up2_n (by omega), up2_s], up2_s _ _ _ _⟩⟩
theorem Res.num {p lo hi : Nat} (hlo : lo < 1000) (hhi : hi < 1000) {F : Option (Int32 × Mem)} {G K' : Mem → Option (Int32 × Mem)} {K : Mem → Option (Int32 × Mem)} {P : Mem → Prop} {M : Mem} (h : PC M T tl p) (hP : ∀ MM, P MM → PM MM T tl p) (hF : ∀ r M', (r = 0 ∨ r = 1) → f_X4_takeNumber (nI lo) (nI hi) M = some (r, M') → F = if r = 0 then some ((0 : Int32), M') else K M') (hG : ∀ MM r M', P MM → (r = 0 ∨ r = 1) → f_X7_takesNumber (nI lo) (nI hi) MM = some (r, M') → G MM = if r = 0 then some ((0 : Int32), M') else K' M') (hK : ∀ q v, lo ≤ v → v ≤ hi → q ≤ tl → Res T tl (K (up2 (up2 M 15 2 (nI q)) 15 4 (nI v))) K' (fun M2 => ∃ MM, P MM ∧ M2 279 10 = nI q ∧ M2 279 12 = nI v ∧ (∀ c, c ≠ 279 → M2 c = MM c) ∧ ∀ j, j ≠ 10 → j ≠ 12 → M2 279 j = MM 279 j) (up2 (up2 M 15 2 (nI q)) 15 4 (nI v))) : Res T tl F G P M := by
  rcases L_num hlo hhi h with ⟨code, e1, e2⟩ | ⟨q, v, v1, v2, hq, e1, e2⟩
  · refine Or.inl ⟨code, p, up2 M 15 3 code, (hF 0 _ (Or.inl rfl) e1).trans (if_pos rfl), FrT.u _ (by omega), by rw [up2_n (by omega)]; exact h.2.1, up2_s _ _ _ _, fun MM hm => ?_⟩
    obtain ⟨MM', g1, g2, g3, g4⟩ := e2 MM (hP MM hm)
    exact ⟨MM', (hG MM 0 _ hm (Or.inl rfl) g1).trans (if_pos rfl), g2, g3, g4⟩
  · refine (hK q v v1 v2 hq).step ((hF 1 _ (Or.inr rfl) e1).trans (if_neg (by decide))) ((FrT.u _ (by omega)).tr (FrT.u _ (by omega))) (fun MM hm => ?_)
    obtain ⟨MM', g1, g2, g3, g4, g5⟩ := e2 MM (hP MM hm)
    exact ⟨MM', (hG MM 1 _ hm (Or.inr rfl) g1).trans (if_neg (by decide)), FrF.n g4 g5, g5 4 (by omega) (by omega), MM, hm, g2, g3, g4, g5⟩
theorem DC.col {M : Mem} {B : Nat → Nat} {c v : Nat} (h : DC M B c 0) (hc : c < 12) : DC (up2 (up2 M 10 c (nI v)) 9 0 (nI (c + 1))) (up B (30 + c) v) (c + 1) 0 := by
  obtain ⟨a1, a2, a3, a4, a5, a6, a7, a8, a9⟩ := h
  refine ⟨up2_s _ _ _ _, ?_, ?_, ?_, ?_, ?_, fun j hj => ?_, fun j hj => by omega, fun j hj => ⟨?_, ?_⟩⟩
  · rw [up2_n (by omega), up2_c (by omega)]; exact a2
  · rw [up2_n (by omega), up2_c (by omega), up_n (by omega)]; exact a3
  · rw [up2_n (by omega), up2_c (by omega), up_n (by omega)]; exact a4
  · rw [up2_n (by omega), up2_c (by omega)]; exact a5
  · rw [up2_n (by omega), up2_c (by omega)]; exact a6
  · rw [up2_c (by omega)]
    by_cases q : j = c
    · subst q
      rw [up2_s, up_s]
    · rw [up2_n (by omega), up_n (by omega)]
      exact a7 j (by omega)
  · rw [up2_c (by omega), up2_c (by omega)]; exact (a9 j hj).1
  · rw [up2_c (by omega), up2_c (by omega)]; exact (a9 j hj).2
theorem DM.col {M M' : Mem} {B : Nat → Nat} {c v : Nat} (h : DM M B c 0) (hc : c < 12) (e : ∀ s, s ≠ 173 → s ≠ 202 + c → M' 280 s = M 280 s) (e1 : M' 280 173 = nI (c + 1)) (e2 : M' 280 (202 + c) = nI v) : DM M' (up B (30 + c) v) (c + 1) 0 := by
  obtain ⟨a1, a2, a3, a4, a5, a6, a7, a8, a9, a10⟩ := h
  refine ⟨?_, e1, ?_, ?_, ?_, ?_, fun j hj => ?_, fun j hj => by omega, fun j hj => ⟨?_, ?_⟩, ?_⟩
  · rw [e _ (by omega) (by omega)]; exact a1
  · rw [e _ (by omega) (by omega), up_n (by omega)]; exact a3
  · rw [e _ (by omega) (by omega), up_n (by omega)]; exact a4
  · rw [e _ (by omega) (by omega)]; exact a5
  · rw [e _ (by omega) (by omega)]; exact a6
  · by_cases q : j = c
    · subst q
      rw [e2, up_s]
    · rw [e _ (by omega) (by omega), up_n (by omega)]
      exact a7 j (by omega)
  · rw [e _ (by omega) (by omega)]; exact (a9 j hj).1
  · rw [e _ (by omega) (by omega)]; exact (a9 j hj).2
  · rw [e _ (by omega) (by omega)]; exact a10
theorem okD.col {B : Nat → Nat} {c v : Nat} (h : okD B c 0) (hc : c < 12) (hv : v ≤ 63) : okD (up B (30 + c) v) (c + 1) 0 := by
  obtain ⟨a1, a2, a3, a4, a5, a6⟩ := h
  refine ⟨?_, ?_, fun j hj => ?_, fun j hj => by omega, by omega, by omega⟩
  · rw [up_n (by omega)]; exact a1
  · rw [up_n (by omega)]; exact a2
  · by_cases q : j = c
    · subst q
      rw [up_s]
      omega
    · rw [up_n (by omega)]
      exact a3 j (by omega)
theorem Q_cols : ∀ (c f f' k p : Nat) (B : Nat → Nat) (M : Mem), k + c = 13 → c < f → c < f' → k ≤ 12 → PC M T tl p → DC M B k 0 → okD B k 0 → Res T tl (tz (f_X4_readColumns_2 9 f (nI k) M) (fun M => tz (f_X4_readTeeth 9 M) (fun M => some ((1 : Int32), M)))) (f_X7_takesAll_9 f') (fun MM => PM MM T tl p ∧ DM MM B k 0) M := by
  intro c
  induction c with
  | zero => intro f f' k p B M h1 h2 h3 h4; omega
  | succ c ih =>
    intro f f' k p B M hc hf hf' hk hP hD hO
    obtain ⟨f, rfl⟩ : ∃ m, f = m + 1 := ⟨f - 1, by omega⟩
    obtain ⟨f', rfl⟩ : ∃ m, f' = m + 1 := ⟨f' - 1, by omega⟩
    have h100 := hP.2.2.2.1
    have hptl := hP.2.2.1
    have g30 : ∀ MM, PM MM T tl p → DM MM B k 0 → (k < 4 ∨ cm T tl p = 112) → f_X7_takesAll_9 (f' + 1) MM = f_X7_takesAll_30 (f_X7_takesAll_9 f') MM := by
      intro MM hm hd hh
      rw [f_X7_takesAll_9, hd.2.1, S_here h100 hptl hm, cb_k]
      simp (disch := omega) only [l_4, nlt]
      by_cases q : k < 4
      · rw [if_pos q]
      · rw [if_neg q, if_pos (by rcases hh with h | h; exact absurd h q; exact h)]
    have flat : ∀ (code : Int32), (k < 4 ∨ cm T tl p = 112) → f_X4_readColumns_2 9 (f + 1) (nI k) M = some ((0 : Int32), up2 M 15 3 code) → (∀ MM, PM MM T tl p → DM MM B k 0 → f_X7_takesColumn MM = some ((0 : Int32), up2 (up2 MM 279 4 code) 279 11 (nI p))) → Res T tl (tz (f_X4_readColumns_2 9 (f + 1) (nI k) M) (fun M => tz (f_X4_readTeeth 9 M) (fun M => some ((1 : Int32), M)))) (f_X7_takesAll_9 (f' + 1)) (fun MM => PM MM T tl p ∧ DM MM B k 0) M := by
      intro code hh e g
      refine Or.inl ⟨code, p, up2 M 15 3 code, by rw [e, tz0], FrT.u _ (by omega), by rw [up2_n (by omega)]; exact hP.2.1, up2_s _ _ _ _, fun MM hm => ⟨up2 (up2 MM 279 4 code) 279 11 (nI p), ?_, (FrF.u _ (by omega)).tr (FrF.u _ (by omega)), by rw [up2_n (by omega), up2_s], up2_s _ _ _ _⟩⟩
      rw [g30 MM hm.1 hm.2 hh]
      unfold f_X7_takesAll_30
      rw [g MM hm.1 hm.2, cb_k, if_pos rfl]
    by_cases qc : cm T tl p = 112
    · have qp : p < tl := by
        by_cases q : p < tl
        · exact q
        · unfold cm at qc
          rw [if_neg q] at qc
          exact absurd qc (by decide)
      by_cases k12 : k = 12
      · refine flat 3 (Or.inr qc) ?_ (fun MM hm hd => ?_)
        · rw [f_X4_readColumns_2, T_coming hP, cb_k, if_pos qc]
          simp (disch := omega) only [l_12, nlt, neq]
          rw [if_neg (by omega), if_pos k12, fail_k, cb_k, cbz0]
        · unfold f_X7_takesColumn
          rw [S_here h100 hptl hm, cb_k, if_pos qc, hd.2.1, if_pos (by rw [k12]; rfl), hm.2.1, fails_k, cb_k, cbz0]
      refine Res.num (p := p + 1) (lo := 0) (hi := 63) (by omega) (by omega) (M := up2 M 15 2 (nI (p + 1))) (P := fun M2 => ∃ MM, (PM MM T tl p ∧ DM MM B k 0) ∧ M2 = up2 MM 279 10 (nI (p + 1))) (hP.at (by omega)) (fun M2 hm => by obtain ⟨MM, h1, rfl⟩ := hm; exact h1.1.at _) (F := tz (f_X4_readColumns_2 9 (f + 1) (nI k) M) (fun M => tz (f_X4_readTeeth 9 M) (fun M => some ((1 : Int32), M)))) (G := fun M2 => tz (f_X7_takesNumber (nI 0) (nI 63) M2) (fun M_8 => ck ((202 : Int32) + (M_8 280 173)) 1247 <| lt (up2 M_8 280 (((202 : Int32) + (M_8 280 173))).toNatClampNeg (M_8 279 12)) fun M_11 => lt (up2 M_11 280 173 ((M_11 280 173) + (1 : Int32))) fun M_13 => tz (cb (f_X7_takes (59 : Int32) M_13) fun r_16 M_15 => cbz r_16 <| some (r_16, M_15)) (f_X7_takesAll_9 f'))) (K := fun M_9 => tz (f_X4_take (59 : Int32) M_9) (fun M_13 => tz (f_X4_readColumns_2 9 f (nI (k + 1)) (up2 (up2 M_13 10 k (M_13 15 4)) 9 0 (nI (k + 1)))) (fun M => tz (f_X4_readTeeth 9 M) (fun M => some ((1 : Int32), M))))) (K' := fun M_8 => ck ((202 : Int32) + (M_8 280 173)) 1247 <| lt (up2 M_8 280 (((202 : Int32) + (M_8 280 173))).toNatClampNeg (M_8 279 12)) fun M_11 => lt (up2 M_11 280 173 ((M_11 280 173) + (1 : Int32))) fun M_13 => tz (cb (f_X7_takes (59 : Int32) M_13) fun r_16 M_15 => cbz r_16 <| some (r_16, M_15)) (f_X7_takesAll_9 f')) ?_ ?_ ?_ |>.step rfl (FrT.u _ (by omega)) (fun MM hm => ⟨up2 MM 279 10 (nI (p + 1)), ?_, FrF.u _ (by omega), up2_n (by omega), MM, hm, rfl⟩)
      · intro r M' hr e
        have eC : f_X4_readColumns_2 9 (f + 1) (nI k) M = tz (f_X4_takeNumber (nI 0) (nI 63) (up2 M 15 2 (nI (p + 1)))) fun M_9 => tz (f_X4_take (59 : Int32) M_9) fun M_13 => f_X4_readColumns_2 9 f (nI (k + 1)) (up2 (up2 M_13 10 k (M_13 15 4)) 9 0 (nI (k + 1))) := by
          rw [f_X4_readColumns_2, T_coming hP, cb_k, if_pos qc, hP.2.1, show nI p + (1 : Int32) = nI (p + 1) from nI_1 p, show nI k + (1 : Int32) = nI (k + 1) from nI_1 k]
          simp (disch := omega) only [l_12, nlt, neq, nI_ck, nI_cl]
          rw [if_neg (by omega), if_neg k12]
          rfl
        rw [eC, e]
        rcases hr with rfl | rfl
        · rfl
        · rw [tz1, if_neg (by decide)]
          cases f_X4_take (59 : Int32) M' with
          | none => rfl
          | some x =>
            obtain ⟨r, M''⟩ := x
            show tz (if r = 0 then _ else _) _ = if r = 0 then _ else _
            by_cases z : r = 0
            · rw [if_pos z, if_pos z]
              rfl
            · rw [if_neg z, if_neg z]
      · intro MM r M' hm hr e
        show tz (f_X7_takesNumber (nI 0) (nI 63) MM) _ = _
        rw [e]
        rcases hr with rfl | rfl
        · rfl
        · rfl
      · intro q v _ hv hq
        have hP1 : PC (up2 (up2 (up2 M 15 2 (nI (p + 1))) 15 2 (nI q)) 15 4 (nI v)) T tl q := ((hP.at (q := p + 1) (by omega)).at hq).o (by omega)
        refine Res.step (M2 := up2 (up2 (up2 M 15 2 (nI (p + 1))) 15 2 (nI q)) 15 4 (nI v)) (P' := fun M2 => PM M2 T tl q ∧ DM M2 (up B (30 + k) v) (k + 1) 0) (G' := fun M_13 => tz (cb (f_X7_takes (59 : Int32) M_13) fun r_16 M_15 => cbz r_16 <| some (r_16, M_15)) (f_X7_takesAll_9 f')) (Res.take (x := (59 : Int32)) (by decide) (K := fun M_13 => tz (f_X4_readColumns_2 9 f (nI (k + 1)) (up2 (up2 M_13 10 k (M_13 15 4)) 9 0 (nI (k + 1)))) (fun M => tz (f_X4_readTeeth 9 M) (fun M => some ((1 : Int32), M)))) (K' := f_X7_takesAll_9 f') hP1 (fun MM hm => hm.1) (fun r M' hr e => ?_) (fun MM r M' _ hr e => ?_) (fun hq1 => ?_)) rfl (FrT.rf _) (fun M2 hm => ?_)
        · rw [e]
          rfl
        · show tz (cb (f_X7_takes (59 : Int32) MM) _) _ = _
          rw [e, cb_k]
          rcases hr with rfl | rfl
          · rw [cbz0]; rfl
          · rw [cbz1]; rfl
        · have hP2 := hP1.at hq1
          have e4 : up2 (up2 (up2 (up2 M 15 2 (nI (p + 1))) 15 2 (nI q)) 15 4 (nI v)) 15 2 (nI (q + 1)) 15 4 = nI v := by rw [up2_n (by omega), up2_s]
          refine (ih f f' (k + 1) (q + 1) (up B (30 + k) v) (up2 (up2 (up2 (up2 (up2 (up2 M 15 2 (nI (p + 1))) 15 2 (nI q)) 15 4 (nI v)) 15 2 (nI (q + 1))) 10 k (nI v)) 9 0 (nI (k + 1))) (by omega) (by omega) (by omega) (by omega) ((hP2.o (by omega)).o (by omega)) (DC.col (hD.k (fun d _ _ => by rw [up2_c (by omega), up2_c (by omega), up2_c (by omega), up2_c (by omega)])) (by omega)) (hO.col (by omega) hv)).step ?_ ((FrT.u _ (by omega)).tr (FrT.u _ (by omega))) (fun M2 hm => ?_)
          · show tz (f_X4_readColumns_2 9 f (nI (k + 1)) (up2 (up2 _ 10 k _) 9 0 (nI (k + 1)))) _ = _
            rw [e4]
          · obtain ⟨MM, h1, rfl⟩ := hm
            exact ⟨_, rfl, FrF.rf _, rfl, h1.1.at _, h1.2.k (up2_c (by omega))⟩
        · obtain ⟨Ma, ⟨MM, ⟨hm1, hm2⟩, rfl⟩, g2, g3, g4, g5⟩ := hm
          have e280 : ∀ s, M2 280 s = MM 280 s := fun s => by rw [g4 280 (by omega), up2_c (by omega)]
          refine ⟨up2 (up2 M2 280 (202 + k) (nI v)) 280 173 (nI (k + 1)), ?_, (FrF.u _ (by omega)).tr (FrF.u _ (by omega)), by rw [up2_c (by omega), up2_c (by omega)], ⟨?_, ?_, fun j hj => ?_⟩, ?_⟩
          · show (ck ((202 : Int32) + (M2 280 173)) 1247 <| _) = _
            rw [e280, hm2.2.1, l_202, nI_add, nI_ck (by omega) (by decide), nI_cl (by omega), g3, lt_k, up2_n (by omega), e280, hm2.2.1, show nI k + (1 : Int32) = nI (k + 1) from nI_1 k, lt_k]
          · rw [up2_c (by omega), up2_c (by omega), g5 3 (by omega) (by omega), up2_n (by omega)]; exact hm1.1
          · rw [up2_c (by omega), up2_c (by omega)]; exact g2
          · rw [up2_c (by omega), up2_c (by omega), g4 281 (by omega), up2_c (by omega)]; exact hm1.2.2 j hj
          · refine hm2.col (by omega) (fun s s1 s2 => ?_) ?_ ?_
            · rw [up2_n (by omega), up2_n (by omega), e280]
            · rw [up2_s]
            · rw [up2_n (by omega), up2_s]
      · rw [g30 MM hm.1 hm.2 (Or.inr qc)]
        have eM : f_X7_takesColumn MM = tz (f_X7_takesNumber (nI 0) (nI 63) (up2 MM 279 10 (nI (p + 1)))) fun M_8 => ck ((202 : Int32) + (M_8 280 173)) 1247 <| lt (up2 M_8 280 (((202 : Int32) + (M_8 280 173))).toNatClampNeg (M_8 279 12)) fun M_11 => lt (up2 M_11 280 173 ((M_11 280 173) + (1 : Int32))) fun M_13 => cb (f_X7_takes (59 : Int32) M_13) fun r_16 M_15 => cbz r_16 <| some (r_16, M_15) := by
          unfold f_X7_takesColumn
          rw [S_here h100 hptl hm.1, cb_k, if_pos qc, hm.2.2.1, if_neg (by rw [l_12, neq (by omega) (by omega)]; exact k12), hm.1.2.1, show nI p + (1 : Int32) = nI (p + 1) from nI_1 p, lt_k]
          rfl
        unfold f_X7_takesAll_30
        rw [eM]
        show tz (tz _ _) _ = tz _ _
        cases f_X7_takesNumber (nI 0) (nI 63) (up2 MM 279 10 (nI (p + 1))) with
        | none => rfl
        | some x =>
          obtain ⟨r, M''⟩ := x
          show tz (if r = 0 then _ else _) _ = if r = 0 then _ else _
          by_cases z : r = 0
          · rw [if_pos z, if_pos z]
            rfl
          · rw [if_neg z, if_neg z]
            unfold ck
            split
            · rfl
            · rfl
    · by_cases k4 : 4 ≤ k
      · refine (Q_teeth (cc := k) k4 7 FU FU 0 p B M (by omega) (by decide) (by decide) (by omega) hP hD hO).step ?_ (FrT.rf _) (fun MM hm => ⟨MM, ?_, FrF.rf _, rfl, hm⟩)
        · rw [f_X4_readColumns_2, T_coming hP, cb_k, if_neg qc]
          simp (disch := omega) only [l_12, nlt]
          unfold f_X4_readColumns_83 f_X4_readColumns_99
          rw [if_neg (by omega), hD.1, if_pos (by rw [l_4, nle (by omega) (by omega)]; exact k4), tz1]
          rfl
        · rw [f_X7_takesAll_9, hm.2.2.1, S_here h100 hptl hm.1, cb_k, if_neg qc]
          simp (disch := omega) only [l_4, nlt]
          rw [if_neg (by omega)]
      · refine flat 1 (Or.inl (by omega)) ?_ (fun MM hm hd => ?_)
        · rw [f_X4_readColumns_2, T_coming hP, cb_k, if_neg qc]
          simp (disch := omega) only [l_12, nlt]
          unfold f_X4_readColumns_83
          rw [if_neg (by omega), hD.1, if_neg (by rw [l_4, nle (by omega) (by omega)]; exact k4), fail_k, cb_k, if_pos rfl]
        · unfold f_X7_takesColumn
          rw [S_here h100 hptl hm, cb_k, if_neg qc, hm.2.1, fails_k, cb_k, cbz0]
end BOX
