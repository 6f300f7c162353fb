/-! calls that tell of the box as it stands -/
section Z
variable {M : Mem} {b : Nat → Nat}
theorem S_loud0 (h : isS M 0 b) : f_X7_loud (0 : Int32) M = some (nI (loud b), M) := S_loud (o := 0) (by decide) h
theorem S_ringing0 (h : isS M 0 b) (hw : ∀ j, j < b 0 → b (18 + j) < 1000) : f_X7_ringing (0 : Int32) M = some (nI (ringing b), M) := S_ringing (o := 0) (by decide) h hw
theorem S_columnsOf0 {t : Nat} (h : isS M 0 b) (ht : t < 6) (hw : ∀ j, j < b 1 → b (30 + j) < 64) : f_X7_columnsOf (0 : Int32) (nI t) M = some (nI (colsOf b t), M) := S_columnsOf (o := 0) (by decide) h ht hw
theorem isS.z (h : isS M 0 b) {k : Nat} (hk : k < 6) : M 280 k = nI (b k) := by
  have := h.f hk
  rwa [Nat.zero_add] at this
theorem isS.zJ (h : isS M 0 b) {k : Nat} (hk : rel (b 0) (b 1) k) : M 280 k = nI (b k) := by
  have := h.2.2 k (Or.inl hk)
  rwa [Nat.zero_add] at this
theorem WF.r1000 (h : WF b) : ∀ j, j < b 0 → b (18 + j) < 1000 := fun j hj => by
  have := (h.2.2.2.2.2.1 j hj).2.2.1
  omega
end Z
theorem Sim_stand (x : Int32) : Sim (f_X6_stand x) (f_X7_stand x) := by
  intro M h
  obtain ⟨b, im, H, hn, nt, tl, tn, h1, h2, h3, h4, h5, h6, h7⟩ := id h
  have hl := h1.2.2.lt
  refine Two.sim h ?_
  unfold f_X6_stand f_X7_stand
  rcases box_cases (n := b 0) (by omega) with ⟨q, g1, g2⟩ | ⟨q, g1, g2⟩
  · rw [g1 M h1.1.teeth, g2 M h1.2.1.f0, cb_k, cb_k, if_pos rfl, if_pos rfl]
    exact Two.rf M _
  · obtain ⟨w, _⟩ := h1.2.2.wf q
    rw [g1 M h1.1.teeth, g2 M h1.2.1.f0, cb_k, cb_k, if_neg (by decide), if_neg (by decide), lt_k, lt_k, T_loud h1.1, S_loud0 h1.2.1, T_ringing h1.1 w.r1000, S_ringing0 h1.2.1 w.r1000, h1.1.cols, h1.1.drum, h1.1.spring, h1.1.broken, h1.2.1.z (k := 1) (by decide), h1.2.1.z (k := 3) (by decide), h1.2.1.z (k := 2) (by decide), h1.2.1.z (k := 5) (by decide)]
    refine Two.ite (fun _ => Two.rf M _) (fun _ => Two.ite (fun _ => Two.rf M _) (fun _ => Two.ite (fun _ => Two.rf M _) (fun _ => Two.ite (fun _ => Two.rf M _) (fun _ => Two.ite (fun _ => Two.rf M _) (fun _ => Two.ite (fun _ => Two.rf M _) (fun _ => Two.rf M _))))))
theorem Sim_pins (x : Int32) : Sim (f_X6_pins x) (f_X7_pins x) := by
  intro M h
  obtain ⟨b, im, H, hn, nt, tl, tn, h1, h2, h3, h4, h5, h6, h7⟩ := id h
  have hl := h1.2.2.lt
  refine Two.sim h ?_
  unfold f_X6_pins f_X7_pins
  rcases column_cases x (n := b 1) (by omega) with ⟨g1, g2⟩ | ⟨j, hj, rfl, g1, g2⟩
  · rw [g1 M h1.1.cols, g2 M (h1.2.1.z (k := 1) (by decide)), cb_k, cb_k, if_pos rfl, if_pos rfl]
    exact Two.rf M _
  · rw [g1 M h1.1.cols, g2 M (h1.2.1.z (k := 1) (by decide)), cb_k, cb_k, if_neg (by decide), if_neg (by decide)]
    simp (disch := omega) only [nI_ck, nI_cl, l_30, nI_add]
    rw [h1.1.pins hj, h1.2.1.zJ (by unfold rel; omega)]
    exact Two.rf M _
theorem Sim_kind (x : Int32) : Sim (f_X6_kind x) (f_X7_kind x) := by
  intro M h
  obtain ⟨b, im, H, hn, nt, tl, tn, h1, h2, h3, h4, h5, h6, h7⟩ := id h
  have hl := h1.2.2.lt
  refine Two.sim h ?_
  unfold f_X6_kind f_X7_kind
  rcases tooth_cases x (n := b 0) (by omega) with ⟨g1, g2⟩ | ⟨j, hj, rfl, g1, g2⟩
  · rw [g1 M h1.1.teeth, g2 M h1.2.1.f0, cb_k, cb_k, if_pos rfl, if_pos rfl]
    exact Two.rf M _
  · rw [g1 M h1.1.teeth, g2 M h1.2.1.f0, cb_k, cb_k, if_neg (by decide), if_neg (by decide)]
    simp (disch := omega) only [nI_ck, nI_cl, l_6, nI_add]
    rw [h1.1.kind hj, h1.2.1.zJ (by unfold rel; omega)]
    exact Two.rf M _
theorem Sim_tooth (x y : Int32) : Sim (f_X6_tooth x y) (f_X7_tooth x y) := by
  intro M h
  obtain ⟨b, im, H, hn, nt, tl, tn, h1, h2, h3, h4, h5, h6, h7⟩ := id h
  have hl := h1.2.2.lt
  refine Two.sim h ?_
  unfold f_X6_tooth f_X7_tooth
  rcases tooth_cases x (n := b 0) (by omega) with ⟨g1, g2⟩ | ⟨j, hj, rfl, g1, g2⟩
  · rw [g1 M h1.1.teeth, g2 M h1.2.1.f0, cb_k, cb_k, if_pos rfl, if_pos rfl]
    exact Two.rf M _
  · obtain ⟨w, _⟩ := h1.2.2.wf (by omega)
    have w5 := w.2.2.2.2.1
    have hb := bit_lt (b 5) j
    rw [g1 M h1.1.teeth, g2 M h1.2.1.f0, cb_k, cb_k, if_neg (by decide), if_neg (by decide), lt_k, lt_k]
    simp (disch := omega) only [nI_ck, nI_cl, l_12, l_18, l_24, nI_add]
    rw [h1.1.tuned hj, h1.1.rings hj, h1.1.plucked hj, T_isBroken h1.1 w5 (by omega), cb_k, T_columnsOf h1.1 (by omega) w.2.2.2.2.2.2, S_columnsOf0 h1.2.1 (by omega) w.2.2.2.2.2.2, h1.2.1.zJ (k := 12 + j) (by unfold rel; omega), h1.2.1.zJ (k := 18 + j) (by unfold rel; omega), h1.2.1.zJ (k := 24 + j) (by unfold rel; omega), h1.2.1.z (k := 5) (by decide), nhas (by omega) (by omega)]
    refine Two.ite (fun _ => Two.rf M _) (fun _ => Two.ite (fun _ => Two.rf M _) (fun _ => Two.ite (fun _ => Two.rf M _) (fun _ => Two.ite (fun _ => ?_) (fun _ => Two.ite (fun _ => Two.rf M _) (fun _ => Two.rf M _)))))
    simp (disch := omega) only [neq0]
    by_cases q : bit (b 5) j = 0
    · rw [if_pos q, q]
      exact Two.rf M _
    · rw [if_neg q, show bit (b 5) j = 1 by omega]
      exact Two.rf M _
theorem Sim_trace (x : Int32) : Sim (f_X6_trace x) (f_X7_trace x) := by
  intro M h
  obtain ⟨b, im, H, hn, nt, tl, tn, h1, h2, h3, h4, h5, h6, h7⟩ := id h
  obtain ⟨k1, k2, k3, k4⟩ := h7
  refine Two.sim h ?_
  unfold f_X6_trace f_X7_trace
  rw [k2, k3]
  rcases W_cases1 x (n := tn) (by omega) with ⟨g1, g2⟩ | ⟨j, hj, rfl, g1, g2⟩
  · rw [g1 M, g2 M, cb_k, cb_k, if_pos rfl, if_pos rfl]
    exact Two.rf M _
  · rw [g1 M, g2 M, cb_k, cb_k, if_neg (by decide), if_neg (by decide)]
    simp (disch := omega) only [nI_ck, nI_cl]
    rw [show M (249 + 1) j = M 289 j from k4 j hj]
    exact Two.rf M _
/-! findings: both note the same -/
def FrQ (M M' : Mem) : Prop := (∀ c, (1 ≤ c ∧ c < 9) ∨ (16 ≤ c ∧ c < 164) ∨ (249 ≤ c ∧ c < 279) ∨ (281 ≤ c ∧ c < 285) ∨ c = 288 ∨ c = 289 → M' c = M c) ∧ M' 0 9 = M 0 9 ∧ M' 15 1 = M 15 1 ∧ (∀ j, j < 43 ∨ (86 ≤ j ∧ j < 172) ∨ 215 ≤ j → M' 280 j = M 280 j) ∧ (∀ j, j = 1 ∨ j = 3 ∨ j = 4 ∨ j = 17 → M' 279 j = M 279 j)
theorem FrQ.rf (M : Mem) : FrQ M M := ⟨fun _ _ => rfl, rfl, rfl, fun _ _ => rfl, fun _ _ => rfl⟩
theorem FrQ.fr {M M' M'' : Mem} (h : FrQ M M') (f : Fr M' M'') : FrQ M M'' := ⟨fun c hc => (f.1 c (by omega)).trans (h.1 c hc), by rw [f.1 0 (by omega)]; exact h.2.1, f.2.1.trans h.2.2.1, fun j hj => (f.2.2.1 j hj).trans (h.2.2.2.1 j hj), fun j hj => (f.2.2.2 j (by omega)).trans (h.2.2.2.2 j hj)⟩
theorem FrQ.u0 {M M' : Mem} (h : FrQ M M') (x : Int32) : FrQ M (up2 M' 0 8 x) := ⟨fun c hc => (up2_c (by omega)).trans (h.1 c hc), (up2_n (by omega)).trans h.2.1, (up2_n (by omega)).trans h.2.2.1, fun j hj => (up2_n (by omega)).trans (h.2.2.2.1 j hj), fun j hj => (up2_n (by omega)).trans (h.2.2.2.2 j hj)⟩
theorem FrQ.u5 {M M' : Mem} (h : FrQ M M') (x : Int32) : FrQ M (up2 M' 279 5 x) := ⟨fun c hc => (up2_c (by omega)).trans (h.1 c hc), (up2_n (by omega)).trans h.2.1, (up2_n (by omega)).trans h.2.2.1, fun j hj => (up2_n (by omega)).trans (h.2.2.2.1 j hj), fun j hj => (up2_n (by omega)).trans (h.2.2.2.2 j hj)⟩
theorem Inv.frq {M M' : Mem} (h : Inv M) (f : FrQ M M') (e : M' 0 8 = M' 279 5) : Inv M' := by
  obtain ⟨b, im, H, hn, nt, tl, tn, h1, h2, h3, h4, h5, h6, h7⟩ := h
  refine ⟨b, im, H, hn, nt, tl, tn, h1.k (fun c a1 a2 => f.1 c (by omega)) (fun j a => f.2.2.2.1 j (by omega)), h2.k (fun c a => f.1 c (by omega)) (fun j a1 a2 => f.2.2.2.1 j (by omega)), h3.k (fun c a => f.1 c (by omega)) (fun j a => f.2.2.2.1 j (by omega)) (f.2.2.2.2 1 (by omega)), h4.k (fun c a => f.1 c (by omega)), h5.k (f.1 16 (by omega)) (f.1 281 (by omega)) f.2.2.1 (f.2.2.2.2 3 (by omega)), ⟨?_, e⟩, h7.k (f.1 249 (by omega)) (f.1 250 (by omega)) (f.1 289 (by omega)) (f.2.2.2.2 17 (by omega))⟩
  rw [f.2.1, f.2.2.2.2 4 (by omega)]
  exact h6.1
theorem found_k (x : Int32) (M : Mem) : f_X6_found x M = some ((-1000010 : Int32) - x, up2 M 0 8 x) := rfl
theorem finds_k (x : Int32) (M : Mem) : f_X7_finds x M = some ((-1000010 : Int32) - x, up2 M 279 5 x) := rfl
theorem unfound_k (x : Int32) (M : Mem) : f_X6_unfound x M = some (x, up2 M 0 8 0) := rfl
/-- a finding, or none, at the end of both -/
theorem Inv.note {M : Mem} (h : Inv M) (x : Int32) : Inv (up2 (up2 M 0 8 x) 279 5 x) := h.frq (((FrQ.rf M).u0 x).u5 x) (by rw [up2_n (by omega), up2_s, up2_s])
theorem K_as : ∀ k, k < 5 → ∀ a, a < 6 → ∃ v : Int32, (v = 0 ∨ v = 1) ∧ (∀ M, f_X6_isOfKind (nI (k + 1)) (nI a) M = some (v, M)) ∧ (∀ M, f_X7_isA (nI (k + 1)) (nI a) M = some (v, M)) := by
  intro k hk a ha
  rcases (show k = 0 ∨ k = 1 ∨ k = 2 ∨ k = 3 ∨ k = 4 by omega) with rfl | rfl | rfl | rfl | rfl <;>
  rcases (show a = 0 ∨ a = 1 ∨ a = 2 ∨ a = 3 ∨ a = 4 ∨ a = 5 by omega) with rfl | rfl | rfl | rfl | rfl | rfl <;>
  first
  | exact ⟨0, Or.inl rfl, fun _ => rfl, fun _ => rfl⟩
  | exact ⟨1, Or.inr rfl, fun _ => rfl, fun _ => rfl⟩
theorem Sim_as (x y : Int32) : Sim (f_X6_as x y) (f_X7_as x y) := by
  intro M h
  obtain ⟨b, im, H, hn, nt, tl, tn, h1, h2, h3, h4, h5, h6, h7⟩ := id h
  have hl := h1.2.2.lt
  unfold f_X6_as f_X7_as
  rcases tooth_cases x (n := b 0) (by omega) with ⟨g1, g2⟩ | ⟨j, hj, rfl, g1, g2⟩
  · exact ⟨_, M, M, by rw [g1 M h1.1.teeth, cb_k, if_pos rfl], by rw [g2 M h1.2.1.f0, cb_k, if_pos rfl], h⟩
  · rcases W_cases y (lo := 0) (hi := 5) (a := (0 : Int32)) (b := (5 : Int32)) (a' := (0 : Int64)) (b' := (5 : Int64)) rfl rfl (by decide) (by decide) (by decide) (by decide) with ⟨q1, q2⟩ | ⟨i, _, hi, rfl, q1, q2⟩
    · exact ⟨_, M, M, by rw [g1 M h1.1.teeth, cb_k, if_neg (by decide), q1, cb_k, if_pos rfl], by rw [g2 M h1.2.1.f0, cb_k, if_neg (by decide), q2, cb_k, if_pos rfl], h⟩
    · obtain ⟨w, _⟩ := h1.2.2.wf (by omega)
      have hk := (w.2.2.2.2.2.1 j hj).1
      obtain ⟨v, hv, v1, v2⟩ := K_as (b (6 + j) - 1) (by omega) i (by omega)
      rw [show b (6 + j) - 1 + 1 = b (6 + j) by omega] at v1 v2
      rw [g1 M h1.1.teeth, cb_k, if_neg (by decide), q1, cb_k, if_neg (by decide), nI_ck (by omega) (by decide), nI_cl (by omega), h1.1.kind hj, v1, cb_k]
      have key : ∀ M' : Mem, M' 280 = M 280 → f_X7_as (nI j) (nI i) M' = if v = 0 then some ((-1000010 : Int32) - 3, up2 M' 279 5 3) else some (nI j, up2 M' 279 5 0) := by
        intro M' e
        unfold f_X7_as
        rw [g2 M' (by rw [e]; exact h1.2.1.f0), cb_k, if_neg (by decide), q2, cb_k, if_neg (by decide)]
        simp (disch := omega) only [nI_ck, nI_cl, l_6, nI_add]
        rw [e, h1.2.1.zJ (k := 6 + j) (by unfold rel; omega), v2, cb_k]
        rfl
      rcases hv with rfl | rfl
      · rw [if_pos rfl]
        refine ⟨_, _, _, rfl, ?_, h.note 3⟩
        exact (key _ (up2_c (by decide))).trans (if_pos rfl)
      · rw [if_neg (by decide)]
        refine ⟨_, _, _, rfl, ?_, h.note 0⟩
        exact (key _ (up2_c (by decide))).trans (if_neg (by decide))
/-! shares -/
def wear (b : Nat → Nat) (t : Nat) : Nat := if bit (b 5) t = 0 then b (24 + t) else 0
section SHARE
variable {M : Mem} {b : Nat → Nat}
theorem T_wear {t : Nat} (h : isW M 3 b) (w : WF b) (ht : t < b 0) : f_X3_wear (nI t) M = some (nI (wear b t), M) := by
  have h6 := w.1.2
  have hb := bit_lt (b 5) t
  unfold f_X3_wear wear
  rw [T_isBroken h w.2.2.2.2.1 (by omega), cb_k]
  simp (disch := omega) only [neq0, nI_ck, nI_cl]
  rw [show (3 : Nat) + 5 = 3 + 5 from rfl, h.plucked ht]
  by_cases q : bit (b 5) t = 0
  · rw [if_pos q, if_pos q]
  · rw [if_neg q, if_neg q]
    rfl
theorem wear_le {t : Nat} (w : WF b) (ht : t < b 0) : wear b t ≤ 99 := by
  have := (w.2.2.2.2.2.1 t ht).2.2.2
  unfold wear
  split <;> omega
theorem R_share2 {t : Nat} {x2 : Int32} {al : Nat} (h : isW M 3 b) (s : isS M 0 b) (w : WF b) (ht : t < b 0) (ha : 0 < al ∧ al < 1000) (hbr : bit (b 5) t = 0) : ∀ (c n j : Nat) (x4 x5 : Int32), j + c = b 0 → c < n → Two M (f_X3_oilFor_55 (nI t) x2 n (nI al) x4 x5 (nI j) M) (f_X7_share_112 (nI t) x2 n (nI al) x4 x5 (nI j) M) := by
  have h6 := w.1.2
  have w5 := w.2.2.2.2.1
  have hcz : ∀ {α : Type} (a : Option α), cz (nI al) a = a := by
    intro α a
    unfold cz
    rw [if_neg (by rw [neq0 (by omega)]; omega)]
  intro c
  induction c with
  | zero =>
    intro n j x4 x5 hj hn
    obtain ⟨n, rfl⟩ : ∃ m, n = m + 1 := ⟨n - 1, by omega⟩
    rw [f_X3_oilFor_55, f_X7_share_112, h.teeth, s.f0]
    simp (disch := omega) only [nle, nI_ck, nI_cl, l_24, nI_add, hcz]
    simp only [if_pos (show b 0 ≤ j by omega), T_wear h w ht, cb_k, hcz]
    rw [s.zJ (k := 24 + t) (by unfold rel; omega)]
    have : wear b t = b (24 + t) := by unfold wear; rw [if_pos hbr]
    rw [this]
    exact Two.ite (fun _ => Two.rf M _) (fun _ => Two.rf M _)
  | succ c ih =>
    intro n j x4 x5 hj hn
    obtain ⟨n, rfl⟩ : ∃ m, n = m + 1 := ⟨n - 1, by omega⟩
    have hb := bit_lt (b 5) j
    have h99 := wear_le w (t := j) (by omega)
    rw [f_X3_oilFor_55, f_X7_share_112, h.teeth, s.f0, s.z (k := 5) (by decide), S_has (by omega) (by omega), cb_k]
    simp (disch := omega) only [nle, nI_ck, nI_cl, l_24, nI_add, neq0]
    simp only [if_neg (show ¬ b 0 ≤ j by omega), T_wear h w (t := j) (by omega), cb_k, hcz, lt_k]
    rw [s.zJ (k := 24 + j) (by unfold rel; omega)]
    have key : ∀ W, W = wear b j → Two M (if nI t ≤ nI j then f_X3_oilFor_100 (nI t) x2 (f_X3_oilFor_55 (nI t) x2 n) (nI al) (x4 - x2 * nI (wear b j) / nI al) x5 (nI j) M else if nI (wear b j) ≤ 0 then f_X3_oilFor_100 (nI t) x2 (f_X3_oilFor_55 (nI t) x2 n) (nI al) (x4 - x2 * nI (wear b j) / nI al) x5 (nI j) M else f_X3_oilFor_100 (nI t) x2 (f_X3_oilFor_55 (nI t) x2 n) (nI al) (x4 - x2 * nI (wear b j) / nI al) (x5 + (1 : Int32)) (nI j) M) (f_X7_share_151 (nI t) x2 (f_X7_share_112 (nI t) x2 n) (nI al) x4 x5 (nI j) (nI W) M) := by
      intro W hW
      subst hW
      unfold f_X7_share_151 f_X7_share_181 f_X7_share_182 f_X3_oilFor_100
      rw [hcz, lt_k]
      simp only [lt_k, n_a0]
      rw [show nI j + (1 : Int32) = nI (j + 1) from nI_1 j]
      refine Two.ite (fun _ => ih n (j + 1) _ _ (by omega) (by omega)) (fun _ => Two.ite (fun _ => ih n (j + 1) _ _ (by omega) (by omega)) (fun _ => ih n (j + 1) _ _ (by omega) (by omega)))
    simp (disch := omega) only [nle, nle0] at key ⊢
    by_cases q : bit (b 5) j = 0
    · rw [if_pos q]
      exact key _ (by unfold wear; rw [if_pos q])
    · rw [if_neg q]
      exact key 0 (by unfold wear; rw [if_neg q])
theorem mS_pos {f : Nat → Nat} : ∀ (c j t : Nat), j ≤ t → t < j + c → f t ≤ mSum f j c
  | 0, j, t, h1, h2 => by omega
  | c + 1, j, t, h1, h2 => by
    rw [mSum]
    by_cases q : t = j
    · subst q
      omega
    · have := mS_pos (f := f) c (j + 1) t (by omega) (by omega)
      omega
theorem R_share1 {t : Nat} {x2 : Int32} (h : isW M 3 b) (s : isS M 0 b) (w : WF b) (ht : t < b 0) : ∀ (c n j a : Nat), j + c = b 0 → c < n → a + mSum (wear b) j c = mSum (wear b) 0 (b 0) → Two M (f_X3_oilFor_5 (nI t) x2 n (nI a) (nI j) M) (f_X7_share_28 (nI t) x2 n (nI a) (nI j) M) := by
  have h6 := w.1.2
  have w5 := w.2.2.2.2.1
  intro c
  induction c with
  | zero =>
    intro n j a hj hn ha
    obtain ⟨n, rfl⟩ : ∃ m, n = m + 1 := ⟨n - 1, by omega⟩
    have hb := bit_lt (b 5) t
    have h99 := wear_le w ht
    have hall := mSum_le (f := wear b) (m := 99) (b 0) 0 (fun i _ hi => wear_le w (by omega))
    have hpos := mS_pos (f := wear b) (b 0) 0 t (by omega) (by omega)
    rw [mSum, Nat.add_zero] at ha
    have hp := (w.2.2.2.2.2.1 t ht).2.2.2
    rw [f_X3_oilFor_5, f_X7_share_28, h.teeth, s.f0, s.z (k := 5) (by decide), S_has (by omega) (by omega), cb_k, T_wear h w ht, cb_k]
    simp (disch := omega) only [nle, nI_ck, nI_cl, l_24, nI_add, neq0]
    simp only [if_pos (show b 0 ≤ j by omega)]
    rw [s.zJ (k := 24 + t) (by unfold rel; omega)]
    simp (disch := omega) only [neq0]
    by_cases q : bit (b 5) t = 0
    · have e : wear b t = b (24 + t) := by unfold wear; rw [if_pos q]
      simp only [if_pos q, e]
      by_cases q2 : b (24 + t) = 0
      · simp only [if_pos q2]
        by_cases q3 : a = 0
        · simp only [if_pos q3]
          exact Two.rf M _
        · simp only [if_neg q3]
          exact Two.rf M _
      · simp only [if_neg q2, if_neg (show ¬ a = 0 by omega)]
        exact R_share2 h s w ht (by omega) q (b 0) FU 0 x2 0 (by omega) (by show b 0 < 5000; omega)
    · have e : wear b t = 0 := by unfold wear; rw [if_neg q]
      simp only [if_neg q, e, if_true]
      by_cases q3 : a = 0
      · simp only [if_pos q3]
        exact Two.rf M _
      · simp only [if_neg q3]
        exact Two.rf M _
  | succ c ih =>
    intro n j a hj hn ha
    obtain ⟨n, rfl⟩ : ∃ m, n = m + 1 := ⟨n - 1, by omega⟩
    have hb := bit_lt (b 5) j
    rw [mSum] at ha
    rw [f_X3_oilFor_5, f_X7_share_28, h.teeth, s.f0, s.z (k := 5) (by decide), S_has (v := b 5) (t := j) (by omega) (by omega), cb_k, T_wear h w (t := j) (by omega), cb_k, lt_k]
    simp (disch := omega) only [nle, nI_ck, nI_cl, l_24, nI_add, neq0]
    unfold f_X7_share_68
    simp only [if_neg (show ¬ b 0 ≤ j by omega), lt_k]
    rw [s.zJ (k := 24 + j) (by unfold rel; omega)]
    simp only [n_a0, nI_add, show nI j + (1 : Int32) = nI (j + 1) from nI_1 j]
    by_cases q : bit (b 5) j = 0
    · have e : wear b j = b (24 + j) := by unfold wear; rw [if_pos q]
      rw [if_pos q, ← e]
      exact ih n (j + 1) _ (by omega) (by omega) (by omega)
    · have e : wear b j = 0 := by unfold wear; rw [if_neg q]
      rw [if_neg q, e, Nat.add_zero]
      exact ih n (j + 1) _ (by omega) (by omega) (by omega)
end SHARE
theorem Sim_share (x y : Int32) : Sim (f_X6_share x y) (f_X7_share x y) := by
  intro M h
  obtain ⟨b, im, H, hn, nt, tl, tn, h1, h2, h3, h4, h5, h6, h7⟩ := id h
  have hl := h1.2.2.lt
  refine Two.sim h ?_
  unfold f_X6_share f_X7_share
  rcases tooth_cases x (n := b 0) (by omega) with ⟨g1, g2⟩ | ⟨j, hj, rfl, g1, g2⟩
  · rw [g1 M h1.1.teeth, g2 M h1.2.1.f0, cb_k, cb_k, if_pos rfl, if_pos rfl]
    exact Two.rf M _
  · rw [g1 M h1.1.teeth, g2 M h1.2.1.f0, cb_k, cb_k, if_neg (by decide), if_neg (by decide)]
    rcases W_cases y (lo := 0) (hi := 999) (a := (0 : Int32)) (b := (999 : Int32)) (a' := (0 : Int64)) (b' := (999 : Int64)) rfl rfl (by decide) (by decide) (by decide) (by decide) with ⟨q1, q2⟩ | ⟨i, _, hi, rfl, q1, q2⟩
    · rw [q1, q2, cb_k, cb_k, if_pos rfl, if_pos rfl]
      exact Two.rf M _
    · rw [q1, q2, cb_k, cb_k, if_neg (by decide), if_neg (by decide)]
      obtain ⟨w, _⟩ := h1.2.2.wf (by omega)
      obtain ⟨r, e1, e2⟩ := R_share1 (x2 := nI i) h1.1 h1.2.1 w hj (b 0) FU 0 0 (by omega) (by show b 0 < 5000; omega) (by omega)
      unfold f_X3_oilFor
      rw [show (0 : Int32) = nI 0 from rfl, e1, e2]
      exact Two.rf M _
