/-! tunes and what fits: held against a row -/
def rw3 (b : Nat → Nat) (r : Nat) (it : Nat → Int32) (MM : Mem) : Prop := isS MM 0 b ∧ ∀ q, q < 40 → MM 284 (40 * r + q) = it q
theorem rw3.frk {b : Nat → Nat} {r : Nat} {it : Nat → Int32} {M M' : Mem} (h : rw3 b r it M) (f : Fr M M') : rw3 b r it M' := ⟨h.1.frk f, fun q hq => by rw [f.1 284 (by omega)]; exact h.2 q hq⟩
theorem Rel.note {F G : Mem → Option (Int32 × Mem)} {M : Mem} {b : Nat → Nat} {r : Nat} {it : Nat → Int32} (h : Inv M) (s : rw3 b r it M) (R : Rel (rw3 b r it) F G M) : ∃ v M1 Me, F M = some (v, M1) ∧ G (up2 (up2 M1 0 8 0) 279 5 0) = some (v, Me) ∧ Inv Me ∧ M1 282 = M 282 ∧ isS M1 0 b := by
  obtain ⟨v, M1, e, f, k⟩ := R
  have s1 := s.frk f
  obtain ⟨Me, e2, f2⟩ := k (up2 (up2 M1 0 8 0) 279 5 0) ⟨s1.1.kept (fun j _ _ => by rw [up2_c (by omega), up2_c (by omega)]), fun q hq => by rw [up2_c (by omega), up2_c (by omega)]; exact s1.2 q hq⟩
  refine ⟨v, M1, Me, e, e2, h.frq ((((FrQ.rf M).fr f).u0 0).u5 0 |>.fr f2) ?_, f.1 282 (by omega), s1.1⟩
  rw [f2.1 0 (by omega), f2.2.2.2 5 (by omega), up2_s, up2_c (by omega), up2_s]
def st (b : Nat → Nat) (it : Nat → Int32) (c : Nat) : Nat → Nat → Bool
  | _, 0 => true
  | k, d + 1 => if it k = nI (b (30 + (c + k) % b 1) &&& (2 ^ b 0 - 1)) then st b it c (k + 1) d else false
theorem mod_next {x m : Nat} (h : 1 < m) : (if m ≤ x % m + 1 then 0 else x % m + 1) = (x + 1) % m := by
  rw [Nat.add_mod, Nat.mod_eq_of_lt h]
  have := Nat.mod_lt x (show 0 < m by omega)
  by_cases q : m ≤ x % m + 1
  · rw [if_pos q, show x % m + 1 = m by omega, Nat.mod_self]
  · rw [if_neg q]
    exact (Nat.mod_eq_of_lt (by omega)).symm
theorem pw1 : ∀ t, t ≤ 6 → (1 : Int32) <<< (nI t &&& 31) - (1 : Int32) = nI (2 ^ t - 1) := by decide +kernel
section TUNE
variable {b : Nat → Nat} {r : Nat} {it : Nat → Int32}
theorem T_st {M : Mem} {c i n : Nat} (w : WF b) (hw : isW M 3 b) (hit : ∀ q, q < 40 → M (251 + 2 * r + 1) q = it q) (hin : i + n ≤ 40) : ∀ (d f k : Nat), k + d = n → d < f → f_X3_standsFrom_19 (251 + 2 * r) (nI i) (nI n) f (nI (2 ^ b 0 - 1)) (nI ((c + k) % b 1)) (nI (i + k)) M = some (nI (if st b (fun q => it (i + q)) c k d then 1 else 0), M) := by
  have h12 := w.2.1
  intro d
  induction d with
  | zero =>
    intro f k hk hf
    obtain ⟨f, rfl⟩ : ∃ m, f = m + 1 := ⟨f - 1, by omega⟩
    rw [f_X3_standsFrom_19, nI_add]
    simp (disch := omega) only [nle]
    rw [if_pos (by omega)]
    rfl
  | succ d ih =>
    intro f k hk hf
    obtain ⟨f, rfl⟩ : ∃ m, f = m + 1 := ⟨f - 1, by omega⟩
    have hm := Nat.mod_lt (c + k) (show 0 < b 1 by omega)
    rw [f_X3_standsFrom_19, nI_add, nI_ck (by omega) (by decide), nI_ck (by omega) (by decide), nI_cl (by omega), nI_cl (by omega), hit _ (by omega), show M (3 + 1) ((c + k) % b 1) = nI (b (30 + (c + k) % b 1)) from hw.pins hm, nand, hw.cols]
    simp (disch := omega) only [nle]
    rw [if_neg (by omega), st]
    by_cases q : it (i + k) = nI (b (30 + (c + k) % b 1) &&& (2 ^ b 0 - 1))
    · rw [if_pos q.symm, if_pos q]
      unfold f_X3_standsFrom_75
      rw [show nI ((c + k) % b 1) + (1 : Int32) = nI ((c + k) % b 1 + 1) from nI_1 _, show nI (i + k) + (1 : Int32) = nI (i + (k + 1)) from nI_1 _]
      simp (disch := omega) only [nle]
      have z := mod_next (x := c + k) (m := b 1) (by omega)
      rw [← ih f (k + 1) (by omega) (by omega), show c + (k + 1) = c + k + 1 from rfl, ← z]
      by_cases q2 : b 1 ≤ (c + k) % b 1 + 1
      · rw [if_pos q2, if_pos q2, z0]
      · rw [if_neg q2, if_neg q2]
    · rw [if_neg (fun e => q e.symm), if_neg q]
      rfl
theorem T_tune {M : Mem} {i n : Nat} (w : WF b) (hw : isW M 3 b) (hit : ∀ q, q < 40 → M (251 + 2 * r + 1) q = it q) (hin : i + n ≤ 40) : ∀ (d f k a : Nat), k + d = b 1 → d < f → f_X3_columnsOfTune_6 (251 + 2 * r) (nI i) (nI n) f (nI a) (nI k) M = some (nI (mBits (fun c => st b (fun q => it (i + q)) c 0 n) k d a), M) := by
  have h12 := w.2.1
  intro d
  induction d with
  | zero =>
    intro f k a hk hf
    obtain ⟨f, rfl⟩ : ∃ m, f = m + 1 := ⟨f - 1, by omega⟩
    rw [f_X3_columnsOfTune_6, hw.cols]
    simp (disch := omega) only [nle]
    rw [if_pos (by omega)]
    rfl
  | succ d ih =>
    intro f k a hk hf
    obtain ⟨f, rfl⟩ : ∃ m, f = m + 1 := ⟨f - 1, by omega⟩
    have e := T_st (r := r) (c := k) w hw hit hin n FU 0 (by omega) (by show n < 5000; omega)
    rw [Nat.add_zero, Nat.add_zero, Nat.mod_eq_of_lt (by omega)] at e
    rw [f_X3_columnsOfTune_6, hw.cols]
    unfold f_X3_standsFrom
    rw [lt_k, hw.teeth, pw1 _ w.1.2, e, cb_k]
    simp (disch := omega) only [nle]
    unfold f_X3_columnsOfTune_39
    rw [if_neg (by omega), show nI k + (1 : Int32) = nI (k + 1) from nI_1 k, mBits]
    by_cases q : st b (fun q => it (i + q)) k 0 n = true
    · rw [if_pos q, if_neg (by decide), lt_k, nshl1 k (by omega), nor, if_pos q]
      exact ih f (k + 1) _ (by omega) (by omega)
    · rw [if_neg q, if_pos z0, if_neg q]
      exact ih f (k + 1) _ (by omega) (by omega)
theorem S_st0 {M : Mem} {c i n : Nat} {K : Int32 → Int32 → Int32 → Mem → Option (Int32 × Mem)} {x5 x6 : Int32} (hr : r < 8) (hin : i + n ≤ 40) : ∀ (d f k : Nat), k + d = n → d < f → f_X7_tune_93 (nI r) (nI i) (nI n) K f x5 x6 (nI c) (nI 0) (nI k) M = f_X7_tune_172 (nI r) (nI i) (nI n) K x6 (nI c) x5 (0 : Int32) M := by
  intro d
  induction d with
  | zero =>
    intro f k hk hf
    obtain ⟨f, rfl⟩ : ∃ m, f = m + 1 := ⟨f - 1, by omega⟩
    rw [f_X7_tune_93]
    simp (disch := omega) only [nle]
    rw [if_pos (by omega), if_pos z0]
  | succ d ih =>
    intro f k hk hf
    obtain ⟨f, rfl⟩ : ∃ m, f = m + 1 := ⟨f - 1, by omega⟩
    rw [f_X7_tune_93]
    simp (disch := omega) only [nle]
    rw [if_neg (by omega), if_pos z0]
    unfold f_X7_tune_148 f_X7_tune_149
    rw [show nI k + (1 : Int32) = nI (k + 1) from nI_1 k, ← z0]
    exact ih f (k + 1) (by omega) (by omega)
theorem S_st {M : Mem} {c i n : Nat} {K : Int32 → Int32 → Int32 → Mem → Option (Int32 × Mem)} {x5 : Int32} (w : WF b) (hc : c < b 1) (hr : r < 8) (s : rw3 b r it M) (hin : i + n ≤ 40) : ∀ (d f k : Nat), k + d = n → d < f → f_X7_tune_93 (nI r) (nI i) (nI n) K f x5 (nI (2 ^ b 0 - 1)) (nI c) (nI 1) (nI k) M = f_X7_tune_172 (nI r) (nI i) (nI n) K (nI (2 ^ b 0 - 1)) (nI c) x5 (if st b (fun q => it (i + q)) c k d then (1 : Int32) <<< (nI c &&& 31) else (0 : Int32)) M := by
  have h12 := w.2.1
  intro d
  induction d with
  | zero =>
    intro f k hk hf
    obtain ⟨f, rfl⟩ : ∃ m, f = m + 1 := ⟨f - 1, by omega⟩
    rw [f_X7_tune_93]
    simp (disch := omega) only [nle]
    rw [if_pos (by omega), if_neg (by decide)]
    rfl
  | succ d ih =>
    intro f k hk hf
    obtain ⟨f, rfl⟩ : ∃ m, f = m + 1 := ⟨f - 1, by omega⟩
    have hm := Nat.mod_lt (c + k) (show 0 < b 1 by omega)
    have ep : M 280 (30 + (c + k) % b 1) = nI (b (30 + (c + k) % b 1)) := s.1.zJ (by unfold rel; omega)
    rw [f_X7_tune_93, isS.z s.1 (k := 1) (by decide)]
    simp (disch := omega) only [nle, l_40, mul_n, nI_add, nI_ck, nI_cl]
    have hcz : ∀ {α : Type} (a : Option α), cz (nI (b 1)) a = a := by
      intro α a
      unfold cz
      rw [if_neg (by rw [neq0 (by omega)]; omega)]
    rw [if_neg (by omega), if_neg (by decide), hcz, nrem (by omega) (by omega) (by omega), l_30, nI_add, nI_ck (by omega) (by decide), nI_cl (by omega), ep, nand, Nat.add_assoc, s.2 (i + k) (by omega), st]
    unfold f_X7_tune_148 f_X7_tune_149
    rw [show nI k + (1 : Int32) = nI (k + 1) from nI_1 k, ← z0, ← z1]
    by_cases q : it (i + k) = nI (b (30 + (c + k) % b 1) &&& (2 ^ b 0 - 1))
    · rw [if_pos q, if_pos q]
      have := ih f (k + 1) (by omega) (by omega)
      rw [← z0, ← z1] at this
      exact this
    · rw [if_neg q, if_neg q, if_neg (by decide), S_st0 hr hin d f (k + 1) (by omega) (by omega), z0]
theorem S_tune {M : Mem} {i n : Nat} (w : WF b) (hr : r < 8) (s : rw3 b r it M) (hin : i + n ≤ 40) : ∀ (d f k a : Nat), k + d = b 1 → d < f → f_X7_tune_76 (nI r) (nI i) (nI n) f (nI a) (nI (2 ^ b 0 - 1)) (nI k) M = some (nI (mBits (fun c => st b (fun q => it (i + q)) c 0 n) k d a), M) := by
  have h12 := w.2.1
  intro d
  induction d with
  | zero =>
    intro f k a hk hf
    obtain ⟨f, rfl⟩ : ∃ m, f = m + 1 := ⟨f - 1, by omega⟩
    rw [f_X7_tune_76, isS.z s.1 (k := 1) (by decide)]
    simp (disch := omega) only [nle]
    rw [if_pos (by omega)]
    rfl
  | succ d ih =>
    intro f k a hk hf
    obtain ⟨f, rfl⟩ : ∃ m, f = m + 1 := ⟨f - 1, by omega⟩
    have e := S_st (x5 := nI a) (K := f_X7_tune_76 (nI r) (nI i) (nI n) f) (c := k) w (by omega) hr s hin n FU 0 (by omega) (by show n < 5000; omega)
    rw [z0, z1] at e
    rw [f_X7_tune_76, isS.z s.1 (k := 1) (by decide)]
    simp (disch := omega) only [nle]
    rw [if_neg (by omega), e]
    unfold f_X7_tune_172
    rw [lt_k, show nI k + (1 : Int32) = nI (k + 1) from nI_1 k, mBits]
    by_cases q : st b (fun q => it (i + q)) k 0 n = true
    · rw [if_pos q, nshl1 k (by omega), nor, if_pos q]
      exact ih f (k + 1) _ (by omega) (by omega)
    · rw [if_neg q, n_or0, if_neg q]
      exact ih f (k + 1) _ (by omega) (by omega)
end TUNE
theorem Sim_tune (x y z : Int32) : Sim (f_X6_tune x y z) (f_X7_tune x y z) := by
  intro M h
  obtain ⟨b, im, H, hn, nt, tl, tn, h1, h2, h3, h4, h5, h6, h7⟩ := id h
  have hl := h1.2.2.lt
  rcases box_cases (n := b 0) (by omega) with ⟨q0, ga0, gb0⟩ | ⟨q0, ga0, gb0⟩
  · exact ⟨_, M, M, by unfold f_X6_tune; rw [ga0 M h1.1.teeth, cb_k, if_pos rfl], by unfold f_X7_tune; rw [gb0 M h1.2.1.f0, cb_k, if_pos rfl], h⟩
  rcases row_cases x with ⟨ga1, gb1⟩ | ⟨r, hr, rfl, ga1, gb1⟩
  · exact ⟨_, M, M, by unfold f_X6_tune; rw [ga0 M h1.1.teeth, cb_k, if_neg (by decide), ga1 M, cb_k, if_pos rfl], by unfold f_X7_tune; rw [gb0 M h1.2.1.f0, cb_k, if_neg (by decide), gb1 M, cb_k, if_pos rfl], h⟩
  rcases W_cases z (lo := 1) (hi := 12) (a := (1 : Int32)) (b := (12 : Int32)) (a' := (1 : Int64)) (b' := (12 : Int64)) rfl rfl (by decide) (by decide) (by decide) (by decide) with ⟨ga2, gb2⟩ | ⟨n, ln, hn, rfl, ga2, gb2⟩
  · exact ⟨_, M, M, by unfold f_X6_tune; rw [ga0 M h1.1.teeth, cb_k, if_neg (by decide), ga1 M, cb_k, if_neg (by decide), ga2 M, cb_k, if_pos rfl], by unfold f_X7_tune; rw [gb0 M h1.2.1.f0, cb_k, if_neg (by decide), gb1 M, cb_k, if_neg (by decide), gb2 M, cb_k, if_pos rfl], h⟩
  obtain ⟨v, v1, v2, hv⟩ := row_find hr (h4 r hr) y (nI n)
  obtain ⟨w, _⟩ := h1.2.2.wf (by omega)
  have bad : (v = 1 ∨ v = 2) → ∃ r_1 M1 M2, f_X6_tune (nI r) y (nI n) M = some (r_1, M1) ∧ f_X7_tune (nI r) y (nI n) M1 = some (r_1, M2) ∧ Inv M2 := by
    intro hb
    refine ⟨(-1000010 : Int32) - v, up2 M 0 8 v, up2 (up2 M 0 8 v) 279 5 v, ?_, ?_, h.note v⟩
    · unfold f_X6_tune
      rw [ga0 M h1.1.teeth, cb_k, if_neg (by decide), ga1 M, cb_k, if_neg (by decide), ga2 M, cb_k, if_neg (by decide), nI_ck (by omega) (by decide), nI_cl (by omega), v1, cb_k, if_neg (by rcases hb with rfl | rfl <;> decide), found_k, cb_k]
    · have s : isS (up2 M 0 8 v) 0 b := h1.2.1.kept (fun j _ _ => by rw [up2_c (by omega)])
      unfold f_X7_tune
      rw [gb0 (up2 M 0 8 v) s.f0, cb_k, if_neg (by decide), gb1 (up2 M 0 8 v), cb_k, if_neg (by decide), gb2 (up2 M 0 8 v), cb_k, if_neg (by decide), v2 _ (by rw [up2_c (by omega)]), cb_k, if_neg (by rcases hb with rfl | rfl <;> decide), finds_k, cb_k]
  rcases hv with hv | hv | ⟨rfl, i, n', ln, sz, hin, rfl, en, g1, g2, g3, g4, g5, g6, g7, g8⟩
  · exact bad (Or.inl hv)
  · exact bad (Or.inr hv)
  clear bad
  have hnn : n = n' := by
    rw [neq (by omega) (by omega)] at en
    exact en
  subst hnn
  have s3 : rw3 b r (fun q => M (251 + 2 * r + 1) q) M := ⟨h1.2.1, fun q hq => (g8 q hq).symm⟩
  have R : Rel (rw3 b r (fun q => M (251 + 2 * r + 1) q)) (f_X3_columnsOfTune (251 + 2 * r) (nI i) (nI n)) (f_X7_tune_76 (nI r) (nI i) (nI n) FU (nI 0) (nI (2 ^ b 0 - 1)) (nI 0)) M := by
    refine Rel.ret (T_tune w h1.1 (fun q _ => rfl) (by omega) (b 1) FU 0 0 (by omega) (by show b 1 < 5000; omega)) (fun MM s => S_tune w hr s (by omega) (b 1) FU 0 0 (by omega) (by show b 1 < 5000; omega))
  obtain ⟨v, M1, Me, e1, e2, hI, h282, s1⟩ := Rel.note h s3 R
  refine ⟨v, up2 M1 0 8 0, Me, ?_, ?_, hI⟩
  · unfold f_X6_tune
    rw [ga0 M h1.1.teeth, cb_k, if_neg (by decide), ga1 M, cb_k, if_neg (by decide), ga2 M, cb_k, if_neg (by decide), nI_ck (by omega) (by decide), nI_cl (by omega), v1, cb_k, if_pos rfl, nI_ck (by omega) (by decide), e1, cb_k, unfound_k, cb_k]
  · have s : isS (up2 M1 0 8 0) 0 b := s1.kept (fun j _ _ => by rw [up2_c (by omega)])
    unfold f_X7_tune
    rw [gb0 (up2 M1 0 8 0) s.f0, cb_k, if_neg (by decide), gb1 (up2 M1 0 8 0), cb_k, if_neg (by decide), gb2 (up2 M1 0 8 0), cb_k, if_neg (by decide), v2 _ (by rw [up2_c (by omega), h282]), cb_k, if_pos (by decide), lt_k, lt_k, up2_c (c := 280) (by omega), s.f0, pw1 _ w.1.2]
    exact e2
def hd (B : Nat → Nat) (it : Nat → Int32) : Nat → Nat → Bool
  | _, 0 => true
  | k, d + 1 => if nI (loud (ticks B (k + 1))) = it k then hd B it (k + 1) d else false
section WHO
variable {b : Nat → Nat} {r : Nat} {it : Nat → Int32}
theorem T_hd {B : Nat → Nat} {i n : Nat} (w : WF B) (hr : r < 8) (hin : i + n ≤ 40) : ∀ (d f k : Nat) (M : Mem), k + d = n → d < f → isW M 164 (ticks B k) → (∀ q, q < 40 → M (251 + 2 * r + 1) q = it q) → ∃ M', f_X3_trialIsHeardAs_3 (251 + 2 * r) (nI i) (nI n) f (nI (i + k)) M = some (nI (if hd B (fun q => it (i + q)) k d then 1 else 0), M') ∧ fr6 164 M M' := by
  intro d
  induction d with
  | zero =>
    intro f k M hk hf hw hit
    obtain ⟨f, rfl⟩ : ∃ m, f = m + 1 := ⟨f - 1, by omega⟩
    refine ⟨M, ?_, fr6.rf _ _⟩
    rw [f_X3_trialIsHeardAs_3, nI_add]
    simp (disch := omega) only [nle]
    rw [if_pos (by omega)]
    rfl
  | succ d ih =>
    intro f k M hk hf hw hit
    obtain ⟨f, rfl⟩ : ∃ m, f = m + 1 := ⟨f - 1, by omega⟩
    obtain ⟨M2, e2, w2, f2⟩ := T_turn hw (WF_ticks w k)
    have hit2 : ∀ q, q < 40 → M2 (251 + 2 * r + 1) q = it q := fun q hq => by rw [f2 _ (by omega)]; exact hit q hq
    have l2 : f_X5_loud 164 M2 = some (nI (loud (ticks B (k + 1))), M2) := T_loud w2
    by_cases q : nI (loud (ticks B (k + 1))) = it (i + k)
    · obtain ⟨M', e', f'⟩ := ih f (k + 1) M2 (by omega) (by omega) w2 hit2
      refine ⟨M', ?_, f2.tr f'⟩
      rw [f_X3_trialIsHeardAs_3, nI_add]
      simp (disch := omega) only [nle, nI_ck, nI_cl]
      rw [if_neg (by omega), e2, cb_k, l2, cb_k, hit2 _ (by omega), if_pos q, hd, if_pos q, show nI (i + k) + (1 : Int32) = nI (i + (k + 1)) from nI_1 _]
      exact e'
    · refine ⟨M2, ?_, f2⟩
      rw [f_X3_trialIsHeardAs_3, nI_add]
      simp (disch := omega) only [nle, nI_ck, nI_cl]
      rw [if_neg (by omega), e2, cb_k, l2, cb_k, hit2 _ (by omega), if_neg q, hd, if_neg q]
      rfl
theorem S_hd0 {B : Nat → Nat} {i n : Nat} (w : WF B) : ∀ (d f k : Nat) (M : Mem), k + d = n → n < 1000 → d < f → isS M 43 (ticks B k) → ∃ M', f_X7_isSo_5 (nI (40 * r + i)) (nI n) f (nI 0) (nI k) M = some (nI 0, M') ∧ frS 43 M M' := by
  intro d
  induction d with
  | zero =>
    intro f k M hk hn hf hs
    obtain ⟨f, rfl⟩ : ∃ m, f = m + 1 := ⟨f - 1, by omega⟩
    refine ⟨M, ?_, frS.rf _ _⟩
    rw [f_X7_isSo_5]
    simp (disch := omega) only [nle]
    rw [if_pos (by omega)]
    exact cbz0 _
  | succ d ih =>
    intro f k M hk hn hf hs
    obtain ⟨f, rfl⟩ : ∃ m, f = m + 1 := ⟨f - 1, by omega⟩
    obtain ⟨M2, e2, s2, f2⟩ := S_passes43 hs (WF_ticks w k)
    obtain ⟨M', e', f'⟩ := ih f (k + 1) M2 (by omega) hn (by omega) s2
    refine ⟨M', ?_, f2.tr f'⟩
    rw [f_X7_isSo_5]
    simp (disch := omega) only [nle]
    rw [if_neg (by omega), e2, cv_k, if_pos z0]
    unfold f_X7_isSo_43 f_X7_isSo_44
    rw [show nI k + (1 : Int32) = nI (k + 1) from nI_1 _, ← z0]
    exact e'
theorem S_hd {B : Nat → Nat} {i n : Nat} (w : WF B) (hr : r < 8) (hin : i + n ≤ 40) : ∀ (d f k : Nat) (M : Mem), k + d = n → d < f → isS M 43 (ticks B k) → (∀ q, q < 40 → M 284 (40 * r + q) = it q) → ∃ M', f_X7_isSo_5 (nI (40 * r + i)) (nI n) f (nI 1) (nI k) M = some (nI (if hd B (fun q => it (i + q)) k d then 1 else 0), M') ∧ frS 43 M M' := by
  intro d
  induction d with
  | zero =>
    intro f k M hk hf hs hit
    obtain ⟨f, rfl⟩ : ∃ m, f = m + 1 := ⟨f - 1, by omega⟩
    refine ⟨M, ?_, frS.rf _ _⟩
    rw [f_X7_isSo_5]
    simp (disch := omega) only [nle]
    rw [if_pos (by omega)]
    exact cbz1 _
  | succ d ih =>
    intro f k M hk hf hs hit
    obtain ⟨f, rfl⟩ : ∃ m, f = m + 1 := ⟨f - 1, by omega⟩
    obtain ⟨M2, e2, s2, f2⟩ := S_passes43 hs (WF_ticks w k)
    have hit2 : ∀ q, q < 40 → M2 284 (40 * r + q) = it q := fun q hq => by rw [f2.1 _ (by omega)]; exact hit q hq
    have l2 : f_X7_loud (43 : Int32) M2 = some (nI (loud (ticks B (k + 1))), M2) := S_loud43 s2
    by_cases q : nI (loud (ticks B (k + 1))) = it (i + k)
    · obtain ⟨M', e', f'⟩ := ih f (k + 1) M2 (by omega) (by omega) s2 hit2
      refine ⟨M', ?_, f2.tr f'⟩
      rw [f_X7_isSo_5, nI_add]
      simp (disch := omega) only [nle, nI_ck, nI_cl]
      rw [if_neg (by omega), e2, cv_k, if_neg (by decide), l2, cb_k, Nat.add_assoc, hit2 _ (by omega), if_pos q, hd, if_pos q]
      unfold f_X7_isSo_44
      rw [show nI k + (1 : Int32) = nI (k + 1) from nI_1 _, ← z1]
      exact e'
    · obtain ⟨M', e', f'⟩ := S_hd0 (r := r) (i := i) w d f (k + 1) M2 (n := n) (by omega) (by omega) (by omega) s2
      refine ⟨M', ?_, f2.tr f'⟩
      rw [f_X7_isSo_5, nI_add]
      simp (disch := omega) only [nle, nI_ck, nI_cl]
      rw [if_neg (by omega), e2, cv_k, if_neg (by decide), l2, cb_k, Nat.add_assoc, hit2 _ (by omega), if_neg q, hd, if_neg q]
      unfold f_X7_isSo_43 f_X7_isSo_44
      rw [show nI k + (1 : Int32) = nI (k + 1) from nI_1 _, ← z0]
      exact e'
/-- one try, on both sides: the box with its place p set to v -/
theorem C_try {i n p v : Nat} {MC : Mem} (w : WF (up b p v)) (hr : r < 8) (hin : i + n ≤ 40) (h2 : 2 ≤ p) (h42 : p < 42) (hw : isW MC 3 b) (hit : ∀ q, q < 40 → MC (251 + 2 * r + 1) q = it q) : ∃ M1 M', f_X5_takeFrom 164 3 MC = some M1 ∧ f_X3_trialIsHeardAs (251 + 2 * r) (nI i) (nI n) (up2 M1 (164 + lc p) (sl p) (nI v)) = some (nI (if hd (up b p v) (fun q => it (i + q)) 0 n then 1 else 0), M') ∧ Fr MC M' ∧ isW M' 3 b ∧ (∀ q, q < 40 → M' (251 + 2 * r + 1) q = it q) := by
  obtain ⟨M1, e1, w1, f1⟩ := T_take hw
  have hl := lc_le p
  have f2 := f1.u (i := lc p) hl (sl p) (nI v)
  obtain ⟨M', e', f'⟩ := T_hd (it := it) (i := i) (n := n) w hr hin n FU 0 _ (by omega) (by show n < 5000; omega) (w1.set v h2 h42) (fun q hq => by rw [f2 _ (by omega)]; exact hit q hq)
  have F := f2.tr f'
  refine ⟨M1, M', e1, ?_, FrW F, hw.fr F (by omega), fun q hq => by rw [F _ (by omega)]; exact hit q hq⟩
  rw [Nat.add_zero] at e'
  exact e'
theorem G_try {i n p v : Nat} {MM : Mem} (w : WF (up b p v)) (hr : r < 8) (hin : i + n ≤ 40) (h2 : 2 ≤ p) (h42 : p < 42) (s : rw3 b r it MM) : ∃ M1 M', f_X7_tries MM = some M1 ∧ f_X7_isSo (nI (40 * r + i)) (nI n) (up2 M1 280 (43 + p) (nI v)) = some (nI (if hd (up b p v) (fun q => it (i + q)) 0 n then 1 else 0), M') ∧ Fr MM M' ∧ rw3 b r it M' := by
  obtain ⟨M1, e1, s1, f1⟩ := S_tries s.1
  have f2 := f1.u (k := 43 + p) (by omega) (by omega) (nI v)
  obtain ⟨M', e', f'⟩ := S_hd (it := it) (i := i) (n := n) w hr hin n FU 0 _ (by omega) (by show n < 5000; omega) (isS.set s1 v h2) (fun q hq => by rw [f2.1 _ (by omega)]; exact s.2 q hq)
  have F := FrM (f2.tr f')
  exact ⟨M1, M', e1, e', F, s.frk F⟩
theorem Q_kinds {i n t : Nat} (w : WF b) (hr : r < 8) (hin : i + n ≤ 40) (ht : t < b 0) : ∀ (c f k : Nat) (x11 x12 x13 : Int32) (MC : Mem), k + c = 6 → 1 ≤ k → c < f → isW MC 3 b → (∀ q, q < 40 → MC (251 + 2 * r + 1) q = it q) → Rel (rw3 b r it) (f_X3_kindsThatFit_6 (nI t) (251 + 2 * r) (nI i) (nI n) f x11 (nI k)) (f_X7_who_179 (nI 0) (nI n) f (nI (40 * r + i)) (nI (6 - 1)) (nI (6 + t)) x11 x12 x13 (nI k)) MC := by
  have h6 := w.1.2
  have h12 := w.2.1
  intro c
  induction c with
  | zero =>
    intro f k x11 x12 x13 MC hk lk hf hw hit
    obtain ⟨f, rfl⟩ : ∃ m, f = m + 1 := ⟨f - 1, by omega⟩
    refine Rel.ret (x := x11) ?_ (fun MM s => ?_)
    · rw [f_X3_kindsThatFit_6]
      simp (disch := omega) only [l_5, nlt]
      rw [if_pos (by omega)]
    · rw [f_X7_who_179]
      simp (disch := omega) only [nlt]
      rw [if_pos (by omega), if_neg (by decide)]
  | succ c ih =>
    intro f k x11 x12 x13 MC hk lk hf hw hit
    obtain ⟨f, rfl⟩ : ∃ m, f = m + 1 := ⟨f - 1, by omega⟩
    have wb : WF (up b (6 + t) k) := WF_up w (by omega) (by omega) (by omega)
    have E : nI k + (1 : Int32) = nI (k + 1) := nI_1 k
    have L := lc6 t (by omega)
    obtain ⟨M1, M2, e1, e2, F, hw2, hit2⟩ := C_try (it := it) (i := i) (n := n) wb hr hin (by omega) (by omega) hw hit
    rw [L.1, L.2] at e2
    by_cases q : hd (up b (6 + t) k) (fun q => it (i + q)) 0 n = true
    · rw [if_pos q] at e2
      have key := fun x12 x13 => ih f (k + 1) (x11 ||| ((1 : Int32) <<< (nI k &&& 31))) x12 x13 M2 (by omega) (by omega) (by omega) hw2 hit2
      refine ((key (x12 + (1 : Int32)) (if x12 = 0 then nI k else x13))).step ?_ F (fun MM s => ?_)
      · rw [f_X3_kindsThatFit_6]
        simp (disch := omega) only [l_5, nlt]
        rw [if_neg (by omega), e1, cv_k]
        rw [nI_ck (by omega) (by decide), nI_cl (by omega)]
        rw [lt_k, e2, cb_k, if_neg (by decide), lt_k]
        unfold f_X3_kindsThatFit_54
        rw [E]
      · obtain ⟨N1, N2, n1, n2, NF, ns⟩ := G_try (it := it) (i := i) (n := n) wb hr hin (by omega) (by omega) s
        rw [if_pos q] at n2
        refine ⟨N2, ?_, NF, ns⟩
        rw [f_X7_who_179]
        simp (disch := omega) only [nlt]
        rw [if_neg (by omega), n1, cv_k, l_43, nI_add, nI_ck (by omega) (by decide), nI_cl (by omega), lt_k, n2, cb_k, if_neg (by decide), if_neg (by decide)]
        unfold f_X7_who_228 f_X7_who_243 f_X7_who_248
        rw [lt_k, E]
        by_cases z : x12 = 0
        · rw [if_pos z, if_pos z]
        · rw [if_neg z, if_neg z]
    · rw [if_neg q] at e2
      refine (ih f (k + 1) x11 x12 x13 M2 (by omega) (by omega) (by omega) hw2 hit2).step ?_ F (fun MM s => ?_)
      · rw [f_X3_kindsThatFit_6]
        simp (disch := omega) only [l_5, nlt]
        rw [if_neg (by omega), e1, cv_k]
        rw [nI_ck (by omega) (by decide), nI_cl (by omega)]
        rw [lt_k, e2, cb_k, if_pos z0]
        unfold f_X3_kindsThatFit_54
        rw [E]
      · obtain ⟨N1, N2, n1, n2, NF, ns⟩ := G_try (it := it) (i := i) (n := n) wb hr hin (by omega) (by omega) s
        rw [if_neg q] at n2
        refine ⟨N2, ?_, NF, ns⟩
        rw [f_X7_who_179]
        simp (disch := omega) only [nlt]
        rw [if_neg (by omega), n1, cv_k, l_43, nI_add, nI_ck (by omega) (by decide), nI_cl (by omega), lt_k, n2, cb_k, if_pos z0]
        unfold f_X7_who_248
        rw [E]
theorem Q_tunings {i n t : Nat} (w : WF b) (hr : r < 8) (hin : i + n ≤ 40) (ht : t < b 0) : ∀ (c f k : Nat) (x11 x12 x13 : Int32) (MC : Mem), k + c = 10 → 1 ≤ k → c < f → isW MC 3 b → (∀ q, q < 40 → MC (251 + 2 * r + 1) q = it q) → Rel (rw3 b r it) (f_X3_tuningsThatFit_6 (nI t) (251 + 2 * r) (nI i) (nI n) f x11 (nI k)) (f_X7_who_179 (nI 1) (nI n) f (nI (40 * r + i)) (nI (10 - 1)) (nI (12 + t)) x11 x12 x13 (nI k)) MC := by
  have h6 := w.1.2
  have h12 := w.2.1
  intro c
  induction c with
  | zero =>
    intro f k x11 x12 x13 MC hk lk hf hw hit
    obtain ⟨f, rfl⟩ : ∃ m, f = m + 1 := ⟨f - 1, by omega⟩
    refine Rel.ret (x := x11) ?_ (fun MM s => ?_)
    · rw [f_X3_tuningsThatFit_6]
      simp (disch := omega) only [l_9, nlt]
      rw [if_pos (by omega)]
    · rw [f_X7_who_179]
      simp (disch := omega) only [nlt]
      rw [if_pos (by omega), if_neg (by decide)]
  | succ c ih =>
    intro f k x11 x12 x13 MC hk lk hf hw hit
    obtain ⟨f, rfl⟩ : ∃ m, f = m + 1 := ⟨f - 1, by omega⟩
    have wb : WF (up b (12 + t) k) := WF_up w (by omega) (by omega) (by omega)
    have E : nI k + (1 : Int32) = nI (k + 1) := nI_1 k
    have L := lc12 t (by omega)
    obtain ⟨M1, M2, e1, e2, F, hw2, hit2⟩ := C_try (it := it) (i := i) (n := n) wb hr hin (by omega) (by omega) hw hit
    rw [L.1, L.2] at e2
    by_cases q : hd (up b (12 + t) k) (fun q => it (i + q)) 0 n = true
    · rw [if_pos q] at e2
      have key := fun x12 x13 => ih f (k + 1) (x11 ||| ((1 : Int32) <<< (nI k &&& 31))) x12 x13 M2 (by omega) (by omega) (by omega) hw2 hit2
      refine ((key (x12 + (1 : Int32)) (if x12 = 0 then nI k else x13))).step ?_ F (fun MM s => ?_)
      · rw [f_X3_tuningsThatFit_6]
        simp (disch := omega) only [l_9, nlt]
        rw [if_neg (by omega), e1, cv_k]
        rw [nI_ck (by omega) (by decide), nI_cl (by omega)]
        rw [lt_k, e2, cb_k, if_neg (by decide), lt_k]
        unfold f_X3_tuningsThatFit_55
        rw [E]
      · obtain ⟨N1, N2, n1, n2, NF, ns⟩ := G_try (it := it) (i := i) (n := n) wb hr hin (by omega) (by omega) s
        rw [if_pos q] at n2
        refine ⟨N2, ?_, NF, ns⟩
        rw [f_X7_who_179]
        simp (disch := omega) only [nlt]
        rw [if_neg (by omega), n1, cv_k, l_43, nI_add, nI_ck (by omega) (by decide), nI_cl (by omega), lt_k, n2, cb_k, if_neg (by decide), if_neg (by decide)]
        unfold f_X7_who_228 f_X7_who_243 f_X7_who_248
        rw [lt_k, E]
        by_cases z : x12 = 0
        · rw [if_pos z, if_pos z]
        · rw [if_neg z, if_neg z]
    · rw [if_neg q] at e2
      refine (ih f (k + 1) x11 x12 x13 M2 (by omega) (by omega) (by omega) hw2 hit2).step ?_ F (fun MM s => ?_)
      · rw [f_X3_tuningsThatFit_6]
        simp (disch := omega) only [l_9, nlt]
        rw [if_neg (by omega), e1, cv_k]
        rw [nI_ck (by omega) (by decide), nI_cl (by omega)]
        rw [lt_k, e2, cb_k, if_pos z0]
        unfold f_X3_tuningsThatFit_55
        rw [E]
      · obtain ⟨N1, N2, n1, n2, NF, ns⟩ := G_try (it := it) (i := i) (n := n) wb hr hin (by omega) (by omega) s
        rw [if_neg q] at n2
        refine ⟨N2, ?_, NF, ns⟩
        rw [f_X7_who_179]
        simp (disch := omega) only [nlt]
        rw [if_neg (by omega), n1, cv_k, l_43, nI_add, nI_ck (by omega) (by decide), nI_cl (by omega), lt_k, n2, cb_k, if_pos z0]
        unfold f_X7_who_248
        rw [E]
theorem Q_columns {i n t : Nat} (w : WF b) (hr : r < 8) (hin : i + n ≤ 40) (ht : t < b 0) : ∀ (c f k : Nat) (x11 x12 x13 : Int32) (MC : Mem), k + c = b 1 → 0 ≤ k → c < f → isW MC 3 b → (∀ q, q < 40 → MC (251 + 2 * r + 1) q = it q) → Rel (rw3 b r it) (f_X3_columnsThatFit_6 (251 + 2 * r) (nI i) (nI n) f x11 (nI k)) (f_X7_who_179 (nI 2) (nI n) f (nI (40 * r + i)) (nI (b 1 - 1)) (nI (3)) x11 x12 x13 (nI k)) MC := by
  have h6 := w.1.2
  have h12 := w.2.1
  intro c
  induction c with
  | zero =>
    intro f k x11 x12 x13 MC hk lk hf hw hit
    obtain ⟨f, rfl⟩ : ∃ m, f = m + 1 := ⟨f - 1, by omega⟩
    refine Rel.ret (x := x11) ?_ (fun MM s => ?_)
    · rw [f_X3_columnsThatFit_6]
      rw [hw.cols]; simp (disch := omega) only [nle]
      rw [if_pos (by omega)]
    · rw [f_X7_who_179]
      simp (disch := omega) only [nlt]
      rw [if_pos (by omega), if_neg (by decide)]
  | succ c ih =>
    intro f k x11 x12 x13 MC hk lk hf hw hit
    obtain ⟨f, rfl⟩ : ∃ m, f = m + 1 := ⟨f - 1, by omega⟩
    have wb : WF (up b (3) k) := WF_up w (by omega) (by omega) (by omega)
    have E : nI k + (1 : Int32) = nI (k + 1) := nI_1 k
    have L := trivial
    obtain ⟨M1, M2, e1, e2, F, hw2, hit2⟩ := C_try (it := it) (i := i) (n := n) wb hr hin (by omega) (by omega) hw hit
    rw [show 164 + lc 3 = 164 from rfl, show sl 3 = 3 from rfl] at e2
    by_cases q : hd (up b (3) k) (fun q => it (i + q)) 0 n = true
    · rw [if_pos q] at e2
      have key := fun x12 x13 => ih f (k + 1) (x11 ||| ((1 : Int32) <<< (nI k &&& 31))) x12 x13 M2 (by omega) (by omega) (by omega) hw2 hit2
      refine ((key (x12 + (1 : Int32)) (if x12 = 0 then nI k else x13))).step ?_ F (fun MM s => ?_)
      · rw [f_X3_columnsThatFit_6]
        rw [hw.cols]; simp (disch := omega) only [nle]
        rw [if_neg (by omega), e1, cv_k]
        skip
        rw [lt_k, e2, cb_k, if_neg (by decide), lt_k]
        unfold f_X3_columnsThatFit_57
        rw [E]
      · obtain ⟨N1, N2, n1, n2, NF, ns⟩ := G_try (it := it) (i := i) (n := n) wb hr hin (by omega) (by omega) s
        rw [if_pos q] at n2
        refine ⟨N2, ?_, NF, ns⟩
        rw [f_X7_who_179]
        simp (disch := omega) only [nlt]
        rw [if_neg (by omega), n1, cv_k, l_43, nI_add, nI_ck (by omega) (by decide), nI_cl (by omega), lt_k, n2, cb_k, if_neg (by decide), if_neg (by decide)]
        unfold f_X7_who_228 f_X7_who_243 f_X7_who_248
        rw [lt_k, E]
        by_cases z : x12 = 0
        · rw [if_pos z, if_pos z]
        · rw [if_neg z, if_neg z]
    · rw [if_neg q] at e2
      refine (ih f (k + 1) x11 x12 x13 M2 (by omega) (by omega) (by omega) hw2 hit2).step ?_ F (fun MM s => ?_)
      · rw [f_X3_columnsThatFit_6]
        rw [hw.cols]; simp (disch := omega) only [nle]
        rw [if_neg (by omega), e1, cv_k]
        skip
        rw [lt_k, e2, cb_k, if_pos z0]
        unfold f_X3_columnsThatFit_57
        rw [E]
      · obtain ⟨N1, N2, n1, n2, NF, ns⟩ := G_try (it := it) (i := i) (n := n) wb hr hin (by omega) (by omega) s
        rw [if_neg q] at n2
        refine ⟨N2, ?_, NF, ns⟩
        rw [f_X7_who_179]
        simp (disch := omega) only [nlt]
        rw [if_neg (by omega), n1, cv_k, l_43, nI_add, nI_ck (by omega) (by decide), nI_cl (by omega), lt_k, n2, cb_k, if_pos z0]
        unfold f_X7_who_248
        rw [E]
theorem Q_springs {i n wh : Nat} (w : WF b) (hr : r < 8) (hin : i + n ≤ 40) (hwh : wh = 3 ∨ wh = 4) : ∀ (c f k : Nat) (x11 x12 x13 : Int32) (MC : Mem), k + c = 100 → c < f → isW MC 3 b → (∀ q, q < 40 → MC (251 + 2 * r + 1) q = it q) → Rel (rw3 b r it) (f_X3_springsThatFit_10 (nI wh) (251 + 2 * r) (nI i) (nI n) f x12 x13 (nI k)) (f_X7_who_179 (nI wh) (nI n) f (nI (40 * r + i)) (nI 99) (nI 2) x11 x12 x13 (nI k)) MC := by
  have h3 : (3 : Int32) ≤ nI wh := by rcases hwh with rfl | rfl <;> decide
  intro c
  induction c with
  | zero =>
    intro f k x11 x12 x13 MC hk hf hw hit
    obtain ⟨f, rfl⟩ : ∃ m, f = m + 1 := ⟨f - 1, by omega⟩
    refine Rel.ret (x := if nI wh = (3 : Int32) then x12 else x13) ?_ (fun MM s => ?_)
    · rw [f_X3_springsThatFit_10]
      simp (disch := omega) only [l_99, nlt]
      rw [if_pos (by omega)]
      by_cases z : nI wh = (3 : Int32)
      · rw [if_pos z, if_pos z]
      · rw [if_neg z, if_neg z]
    · rw [f_X7_who_179]
      simp (disch := omega) only [nlt]
      rw [if_pos (by omega), if_pos h3]
      by_cases z : nI wh = (3 : Int32)
      · rw [if_pos z, if_pos z]
      · rw [if_neg z, if_neg z]
  | succ c ih =>
    intro f k x11 x12 x13 MC hk hf hw hit
    obtain ⟨f, rfl⟩ : ∃ m, f = m + 1 := ⟨f - 1, by omega⟩
    have wb : WF (up b 2 k) := WF_up w (by omega) (by omega) (by omega)
    have E : nI k + (1 : Int32) = nI (k + 1) := nI_1 k
    obtain ⟨M1, M2, e1, e2, F, hw2, hit2⟩ := C_try (it := it) (i := i) (n := n) wb hr hin (by omega) (by omega) hw hit
    rw [show 164 + lc 2 = 164 from rfl, show sl 2 = 2 from rfl] at e2
    by_cases q : hd (up b 2 k) (fun q => it (i + q)) 0 n = true
    · rw [if_pos q] at e2
      have key := ih f (k + 1) (x11 ||| (0 : Int32)) (x12 + (1 : Int32)) (if x12 = 0 then nI k else x13) M2 (by omega) (by omega) hw2 hit2
      refine key.step ?_ F (fun MM s => ?_)
      · rw [f_X3_springsThatFit_10]
        simp (disch := omega) only [l_99, nlt]
        rw [if_neg (by omega), e1, cv_k, lt_k, e2, cb_k, if_neg (by decide)]
        unfold f_X3_springsThatFit_60 f_X3_springsThatFit_65
        rw [E]
        by_cases z : x12 = 0
        · rw [if_pos z, if_pos z]
        · rw [if_neg z, if_neg z]
      · obtain ⟨N1, N2, n1, n2, NF, ns⟩ := G_try (it := it) (i := i) (n := n) wb hr hin (by omega) (by omega) s
        rw [if_pos q] at n2
        refine ⟨N2, ?_, NF, ns⟩
        rw [f_X7_who_179]
        simp (disch := omega) only [nlt]
        rw [if_neg (by omega), n1, cv_k, l_43, nI_add, nI_ck (by omega) (by decide), nI_cl (by omega), lt_k, n2, cb_k, if_neg (by decide), if_pos h3]
        unfold f_X7_who_228 f_X7_who_243 f_X7_who_248
        rw [lt_k, E]
        by_cases z : x12 = 0
        · rw [if_pos z, if_pos z]
        · rw [if_neg z, if_neg z]
    · rw [if_neg q] at e2
      refine (ih f (k + 1) x11 x12 x13 M2 (by omega) (by omega) hw2 hit2).step ?_ F (fun MM s => ?_)
      · rw [f_X3_springsThatFit_10]
        simp (disch := omega) only [l_99, nlt]
        rw [if_neg (by omega), e1, cv_k, lt_k, e2, cb_k, if_pos z0]
        unfold f_X3_springsThatFit_65
        rw [E]
      · obtain ⟨N1, N2, n1, n2, NF, ns⟩ := G_try (it := it) (i := i) (n := n) wb hr hin (by omega) (by omega) s
        rw [if_neg q] at n2
        refine ⟨N2, ?_, NF, ns⟩
        rw [f_X7_who_179]
        simp (disch := omega) only [nlt]
        rw [if_neg (by omega), n1, cv_k, l_43, nI_add, nI_ck (by omega) (by decide), nI_cl (by omega), lt_k, n2, cb_k, if_pos z0]
        unfold f_X7_who_248
        rw [E]
end WHO
theorem Sim_who (x x2 x3 y z : Int32) : Sim (f_X6_who x x2 x3 y z) (f_X7_who x x2 x3 y z) := by
  intro M h
  obtain ⟨b, im, H, hn, nt, tl, tn, h1, h2, h3, h4, h5, h6, h7⟩ := id h
  have hl := h1.2.2.lt
  rcases tooth_cases x (n := b 0) (by omega) with ⟨ga0, gb0⟩ | ⟨t, ht, rfl, ga0, gb0⟩
  · exact ⟨_, M, M, by unfold f_X6_who; rw [ga0 M h1.1.teeth, cb_k, if_pos rfl], by unfold f_X7_who; rw [gb0 M h1.2.1.f0, cb_k, if_pos rfl], h⟩
  rcases W_cases x2 (lo := 0) (hi := 4) (a := (0 : Int32)) (b := (4 : Int32)) (a' := (0 : Int64)) (b' := (4 : Int64)) rfl rfl (by decide) (by decide) (by decide) (by decide) with ⟨ga1, gb1⟩ | ⟨k, lk, hk, rfl, ga1, gb1⟩
  · exact ⟨_, M, M, by unfold f_X6_who; rw [ga0 M h1.1.teeth, cb_k, if_neg (by decide), ga1 M, cb_k, if_pos rfl], by unfold f_X7_who; rw [gb0 M h1.2.1.f0, cb_k, if_neg (by decide), gb1 M, cb_k, if_pos rfl], h⟩
  rcases row_cases x3 with ⟨ga2, gb2⟩ | ⟨r, hr, rfl, ga2, gb2⟩
  · exact ⟨_, M, M, by unfold f_X6_who; rw [ga0 M h1.1.teeth, cb_k, if_neg (by decide), ga1 M, cb_k, if_neg (by decide), ga2 M, cb_k, if_pos rfl], by unfold f_X7_who; rw [gb0 M h1.2.1.f0, cb_k, if_neg (by decide), gb1 M, cb_k, if_neg (by decide), gb2 M, cb_k, if_pos rfl], h⟩
  rcases W_cases z (lo := 1) (hi := 12) (a := (1 : Int32)) (b := (12 : Int32)) (a' := (1 : Int64)) (b' := (12 : Int64)) rfl rfl (by decide) (by decide) (by decide) (by decide) with ⟨ga3, gb3⟩ | ⟨n, ln, hn, rfl, ga3, gb3⟩
  · exact ⟨_, M, M, by unfold f_X6_who; rw [ga0 M h1.1.teeth, cb_k, if_neg (by decide), ga1 M, cb_k, if_neg (by decide), ga2 M, cb_k, if_neg (by decide), ga3 M, cb_k, if_pos rfl], by unfold f_X7_who; rw [gb0 M h1.2.1.f0, cb_k, if_neg (by decide), gb1 M, cb_k, if_neg (by decide), gb2 M, cb_k, if_neg (by decide), gb3 M, cb_k, if_pos rfl], h⟩
  obtain ⟨v, v1, v2, hv⟩ := row_find hr (h4 r hr) y (nI n)
  obtain ⟨w, _⟩ := h1.2.2.wf (by omega)
  have bad : (v = 1 ∨ v = 2) → ∃ r_1 M1 M2, f_X6_who (nI t) (nI k) (nI r) y (nI n) M = some (r_1, M1) ∧ f_X7_who (nI t) (nI k) (nI r) y (nI n) M1 = some (r_1, M2) ∧ Inv M2 := by
    intro hb
    refine ⟨(-1000010 : Int32) - v, up2 M 0 8 v, up2 (up2 M 0 8 v) 279 5 v, ?_, ?_, h.note v⟩
    · unfold f_X6_who
      rw [ga0 M h1.1.teeth, cb_k, if_neg (by decide), ga1 M, cb_k, if_neg (by decide), ga2 M, cb_k, if_neg (by decide), ga3 M, cb_k, if_neg (by decide), nI_ck (by omega) (by decide), nI_cl (by omega), v1, cb_k, if_neg (by rcases hb with rfl | rfl <;> decide), found_k, cb_k]
    · have s : isS (up2 M 0 8 v) 0 b := h1.2.1.kept (fun j _ _ => by rw [up2_c (by omega)])
      unfold f_X7_who
      rw [gb0 (up2 M 0 8 v) s.f0, cb_k, if_neg (by decide), gb1 (up2 M 0 8 v), cb_k, if_neg (by decide), gb2 (up2 M 0 8 v), cb_k, if_neg (by decide), gb3 (up2 M 0 8 v), cb_k, if_neg (by decide), v2 _ (by rw [up2_c (by omega)]), cb_k, if_neg (by rcases hb with rfl | rfl <;> decide), finds_k, cb_k]
  rcases hv with hv | hv | ⟨rfl, i, n', ln, sz, hin, rfl, en, g1, g2, g3, g4, g5, g6, g7, g8⟩
  · exact bad (Or.inl hv)
  · exact bad (Or.inr hv)
  clear bad
  have hnn : n = n' := by
    rw [neq (by omega) (by omega)] at en
    exact en
  subst hnn
  have s3 : rw3 b r (fun q => M (251 + 2 * r + 1) q) M := ⟨h1.2.1, fun q hq => (g8 q hq).symm⟩
  have fin : ∀ G : Mem → Option (Int32 × Mem), Rel (rw3 b r (fun q => M (251 + 2 * r + 1) q)) (f_X3_whatFits (nI t) (nI k) (251 + 2 * r) (nI i) (nI n)) G M → (∀ A : Mem, A 280 1 = nI (b 1) → (if (2 : Int32) ≤ nI k then f_X7_who_90 (nI t) (nI k) (nI n) (nI (40 * r + i)) (0 : Int32) A else f_X7_who_90 (nI t) (nI k) (nI n) (nI (40 * r + i)) (1 : Int32) A) = G A) → ∃ r_1 M1 M2, f_X6_who (nI t) (nI k) (nI r) (nI i) (nI n) M = some (r_1, M1) ∧ f_X7_who (nI t) (nI k) (nI r) (nI i) (nI n) M1 = some (r_1, M2) ∧ Inv M2 := by
    intro G R hG
    obtain ⟨v, M1, Me, e1, e2, hI, h282, s1⟩ := Rel.note h s3 R
    refine ⟨v, up2 M1 0 8 0, Me, ?_, ?_, hI⟩
    · unfold f_X6_who
      rw [ga0 M h1.1.teeth, cb_k, if_neg (by decide), ga1 M, cb_k, if_neg (by decide), ga2 M, cb_k, if_neg (by decide), ga3 M, cb_k, if_neg (by decide), nI_ck (by omega) (by decide), nI_cl (by omega), v1, cb_k, if_pos rfl, nI_ck (by omega) (by decide), e1, cb_k, unfound_k, cb_k]
    · have s : isS (up2 M1 0 8 0) 0 b := s1.kept (fun j _ _ => by rw [up2_c (by omega)])
      unfold f_X7_who
      rw [gb0 (up2 M1 0 8 0) s.f0, cb_k, if_neg (by decide), gb1 (up2 M1 0 8 0), cb_k, if_neg (by decide), gb2 (up2 M1 0 8 0), cb_k, if_neg (by decide), gb3 (up2 M1 0 8 0), cb_k, if_neg (by decide), v2 _ (by rw [up2_c (by omega), h282]), cb_k, if_pos (by decide), lt_k, l_40, mul_n, nI_add, lt_k, hG _ (by rw [up2_c (by omega)]; exact s.z (k := 1) (by decide))]
      exact e2
  have b1 : 1 ≤ b 1 := by have := w.2.1; omega
  have hin40 : i + n ≤ 40 := by omega
  rcases (show k = 0 ∨ k = 1 ∨ k = 2 ∨ k = 3 ∨ k = 4 by omega) with rfl | rfl | rfl | rfl | rfl
  · refine fin _ ((Q_kinds (it := fun q => M (251 + 2 * r + 1) q) w hr hin40 ht 5 FU 1 0 0 (-1000000) M (by omega) (by omega) (by decide) h1.1 (fun q _ => rfl)).step (F := f_X3_whatFits (nI t) (nI 0) (251 + 2 * r) (nI i) (nI n)) ?_ (Fr.rf _) (fun MM s => ⟨MM, rfl, Fr.rf _, s⟩)) (fun A _ => ?_)
    · unfold f_X3_whatFits
      rw [lt_k, if_pos z0, cb_id]
      rfl
    · unfold f_X7_who_90 f_X7_who_128 f_X7_who_163
      simp only [if_neg (show ¬ (2 : Int32) ≤ nI 0 by decide), if_pos z0, l_6, nI_add]
      rfl
  · refine fin _ ((Q_tunings (it := fun q => M (251 + 2 * r + 1) q) w hr hin40 ht 9 FU 1 0 0 (-1000000) M (by omega) (by omega) (by decide) h1.1 (fun q _ => rfl)).step (F := f_X3_whatFits (nI t) (nI 1) (251 + 2 * r) (nI i) (nI n)) ?_ (Fr.rf _) (fun MM s => ⟨MM, rfl, Fr.rf _, s⟩)) (fun A _ => ?_)
    · unfold f_X3_whatFits
      rw [lt_k, if_neg (by decide), if_pos z1, cb_id]
      rfl
    · unfold f_X7_who_90 f_X7_who_128 f_X7_who_163
      simp only [if_neg (show ¬ (2 : Int32) ≤ nI 1 by decide), if_neg (show ¬ nI 1 = (0 : Int32) by decide), if_pos z1, l_12, nI_add]
      rfl
  · refine fin _ ((Q_columns (it := fun q => M (251 + 2 * r + 1) q) w hr hin40 ht (b 1) FU 0 0 0 (-1000000) M (by omega) (by omega) (by show b 1 < 5000; omega) h1.1 (fun q _ => rfl)).step (F := f_X3_whatFits (nI t) (nI 2) (251 + 2 * r) (nI i) (nI n)) ?_ (Fr.rf _) (fun MM s => ⟨MM, rfl, Fr.rf _, s⟩)) (fun A hA => ?_)
    · unfold f_X3_whatFits
      rw [lt_k, if_neg (by decide), if_neg (by decide), if_pos z2, cb_id]
      rfl
    · unfold f_X7_who_90 f_X7_who_128 f_X7_who_163
      simp only [if_pos (show (2 : Int32) ≤ nI 2 by decide), if_neg (show ¬ nI 2 = (0 : Int32) by decide), if_neg (show ¬ nI 2 = (1 : Int32) by decide), if_pos z2]
      rw [hA, show nI (b 1) - (1 : Int32) = nI (b 1 - 1) from nsub (a := b 1) (b := 1) b1]
      rfl
  · refine fin _ ((Q_springs (it := fun q => M (251 + 2 * r + 1) q) w hr hin40 (Or.inl rfl) 100 FU 0 0 0 (-1000000) M (by omega) (by decide) h1.1 (fun q _ => rfl)).step (F := f_X3_whatFits (nI t) (nI 3) (251 + 2 * r) (nI i) (nI n)) ?_ (Fr.rf _) (fun MM s => ⟨MM, rfl, Fr.rf _, s⟩)) (fun A hA => ?_)
    · unfold f_X3_whatFits
      rw [lt_k, if_neg (by decide), if_neg (by decide), if_neg (by decide), cb_id]
      rfl
    · unfold f_X7_who_90 f_X7_who_128 f_X7_who_163
      simp only [if_pos (show (2 : Int32) ≤ nI 3 by decide), if_neg (show ¬ nI 3 = (0 : Int32) by decide), if_neg (show ¬ nI 3 = (1 : Int32) by decide), if_neg (show ¬ nI 3 = (2 : Int32) by decide)]
      rfl
  · refine fin _ ((Q_springs (it := fun q => M (251 + 2 * r + 1) q) w hr hin40 (Or.inr rfl) 100 FU 0 0 0 (-1000000) M (by omega) (by decide) h1.1 (fun q _ => rfl)).step (F := f_X3_whatFits (nI t) (nI 4) (251 + 2 * r) (nI i) (nI n)) ?_ (Fr.rf _) (fun MM s => ⟨MM, rfl, Fr.rf _, s⟩)) (fun A hA => ?_)
    · unfold f_X3_whatFits
      rw [lt_k, if_neg (by decide), if_neg (by decide), if_neg (by decide), cb_id]
      rfl
    · unfold f_X7_who_90 f_X7_who_128 f_X7_who_163
      simp only [if_pos (show (2 : Int32) ≤ nI 4 by decide), if_neg (show ¬ nI 4 = (0 : Int32) by decide), if_neg (show ¬ nI 4 = (1 : Int32) by decide), if_neg (show ¬ nI 4 = (2 : Int32) by decide)]
      rfl
