/-! reading the tape -/
def cm (T : Nat → Nat) (tl p : Nat) : Int32 := if p < tl then nI (T p) else (-1 : Int32)
def PC (M : Mem) (T : Nat → Nat) (tl p : Nat) : Prop := M 15 1 = nI tl ∧ M 15 2 = nI p ∧ p ≤ tl ∧ tl ≤ 100 ∧ (∀ j, j < tl → T j < 256) ∧ ∀ j, j < tl → M 16 j = nI (T j)
def PM (M : Mem) (T : Nat → Nat) (tl p : Nat) : Prop := M 279 3 = nI tl ∧ M 279 10 = nI p ∧ ∀ j, j < tl → M 281 j = nI (T j)
def FrT (M M' : Mem) : Prop := (∀ c, c < 9 ∨ 15 < c → M' c = M c) ∧ M' 15 1 = M 15 1
def FrF (M M' : Mem) : Prop := (∀ c, c ≠ 279 → c ≠ 280 → M' c = M c) ∧ (∀ j, j ≠ 4 → j ≠ 10 → j ≠ 11 → j ≠ 12 → M' 279 j = M 279 j) ∧ (∀ j, j < 172 ∨ 215 ≤ j → M' 280 j = M 280 j)
theorem FrT.rf (M : Mem) : FrT M M := ⟨fun _ _ => rfl, rfl⟩
theorem FrT.tr {M M' M'' : Mem} (h : FrT M M') (h' : FrT M' M'') : FrT M M'' := ⟨fun c hc => (h'.1 c hc).trans (h.1 c hc), h'.2.trans h.2⟩
theorem FrF.rf (M : Mem) : FrF M M := ⟨fun _ _ _ => rfl, fun _ _ _ _ _ => rfl, fun _ _ => rfl⟩
theorem FrF.tr {M M' M'' : Mem} (h : FrF M M') (h' : FrF M' M'') : FrF M M'' := ⟨fun c a b => (h'.1 c a b).trans (h.1 c a b), fun j a b c d => (h'.2.1 j a b c d).trans (h.2.1 j a b c d), fun j a => (h'.2.2 j a).trans (h.2.2 j a)⟩
theorem FrT.u {M : Mem} {c j : Nat} (x : Int32) (hc : (9 ≤ c ∧ c ≤ 14) ∨ (c = 15 ∧ j ≠ 1)) : FrT M (up2 M c j x) := ⟨fun d hd => up2_c (by omega), up2_n (by omega)⟩
theorem FrF.u {M : Mem} {c j : Nat} (x : Int32) (hc : (c = 279 ∧ (j = 4 ∨ j = 10 ∨ j = 11 ∨ j = 12)) ∨ (c = 280 ∧ 172 ≤ j ∧ j < 215)) : FrF M (up2 M c j x) := ⟨fun d h1 h2 => up2_c (by omega), fun k a b c d => up2_n (by omega), fun k hk => up2_n (by omega)⟩
section TAPE
variable {T : Nat → Nat} {tl p : Nat} {M MM : Mem}
theorem PC.at (h : PC M T tl p) {q : Nat} (hq : q ≤ tl) : PC (up2 M 15 2 (nI q)) T tl q := ⟨by rw [up2_n (by omega)]; exact h.1, up2_s _ _ _ _, hq, h.2.2.2.1, h.2.2.2.2.1, fun j hj => by rw [up2_c (by omega)]; exact h.2.2.2.2.2 j hj⟩
theorem PM.at (h : PM M T tl p) (q : Nat) : PM (up2 M 279 10 (nI q)) T tl q := ⟨by rw [up2_n (by omega)]; exact h.1, up2_s _ _ _ _, fun j hj => by rw [up2_c (by omega)]; exact h.2.2 j hj⟩
theorem PC.o (h : PC M T tl p) {c j : Nat} {x : Int32} (hc : (c ≠ 15 ∧ c ≠ 16) ∨ (c = 15 ∧ j ≠ 1 ∧ j ≠ 2)) : PC (up2 M c j x) T tl p := ⟨by rw [up2_n (by omega)]; exact h.1, by rw [up2_n (by omega)]; exact h.2.1, h.2.2.1, h.2.2.2.1, h.2.2.2.2.1, fun k hk => by rw [up2_c (by omega)]; exact h.2.2.2.2.2 k hk⟩
theorem PM.o (h : PM M T tl p) {c j : Nat} {x : Int32} (hc : (c ≠ 279 ∧ c ≠ 281) ∨ (c = 279 ∧ j ≠ 3 ∧ j ≠ 10)) : PM (up2 M c j x) T tl p := ⟨by rw [up2_n (by omega)]; exact h.1, by rw [up2_n (by omega)]; exact h.2.1, fun k hk => by rw [up2_c (by omega)]; exact h.2.2 k hk⟩
theorem T_coming (h : PC M T tl p) : f_X4_coming M = some (cm T tl p, M) := by
  obtain ⟨h1, h2, h3, h4, h5, h6⟩ := h
  unfold f_X4_coming cm
  rw [h1, h2]
  simp (disch := omega) only [nle]
  by_cases q : p < tl
  · rw [if_neg (by omega), if_pos q, nI_ck (by omega) (by decide), nI_cl (by omega), show M (15 + 1) p = nI (T p) from h6 p q]
  · rw [if_pos (by omega), if_neg q]
theorem S_here (h4 : tl ≤ 100) (hp : p ≤ tl) (h : PM M T tl p) : f_X7_here M = some (cm T tl p, M) := by
  obtain ⟨h1, h2, h3⟩ := h
  unfold f_X7_here cm
  rw [h1, h2]
  simp (disch := omega) only [nle]
  by_cases q : p < tl
  · rw [if_neg (by omega), if_pos q, nI_ck (by omega) (by decide), nI_cl (by omega), h3 p q]
  · rw [if_pos (by omega), if_neg q]
theorem fail_k (x : Int32) (M : Mem) : f_X4_fail x M = some ((0 : Int32), up2 M 15 3 x) := rfl
theorem fails_k (x y : Int32) (M : Mem) : f_X7_fails x y M = some ((0 : Int32), up2 (up2 M 279 4 x) 279 11 y) := rfl
theorem L_take (x : Int32) (hx : x ≠ -1) (h : PC M T tl p) : (p + 1 ≤ tl ∧ f_X4_take x M = some ((1 : Int32), up2 M 15 2 (nI (p + 1))) ∧ ∀ MM, PM MM T tl p → f_X7_takes x MM = some ((1 : Int32), up2 MM 279 10 (nI (p + 1)))) ∨ (f_X4_take x M = some ((0 : Int32), up2 M 15 3 1) ∧ ∀ MM, PM MM T tl p → f_X7_takes x MM = some ((0 : Int32), up2 (up2 MM 279 4 1) 279 11 (nI p))) := by
  have hc := T_coming h
  have h4 := h.2.2.2.1
  have hp := h.2.2.1
  by_cases q : cm T tl p = x
  · left
    have hlt : p < tl := by
      by_cases q2 : p < tl
      · exact q2
      · unfold cm at q
        rw [if_neg q2] at q
        exact absurd q.symm hx
    refine ⟨hlt, ?_, fun MM hm => ?_⟩
    · unfold f_X4_take
      rw [hc, cb_k, if_pos q, h.2.1, show nI p + (1 : Int32) = nI (p + 1) from nI_1 p, lt_k]
    · unfold f_X7_takes
      rw [S_here h4 hp hm, cb_k, if_pos q, hm.2.1, show nI p + (1 : Int32) = nI (p + 1) from nI_1 p, lt_k]
  · right
    refine ⟨?_, fun MM hm => ?_⟩
    · unfold f_X4_take
      rw [hc, cb_k, if_neg q, fail_k, cb_k, cbz0]
    · unfold f_X7_takes
      rw [S_here h4 hp hm, cb_k, if_neg q, hm.2.1, fails_k, cb_k, cbz0]
theorem in48 {v : Nat} (hv : v < 256) : f_X7_in (nI v).toInt64 (48 : Int64) (57 : Int64) M = some ((if 48 ≤ v ∧ v ≤ 57 then 1 else 0 : Int32), M) := by
  rw [show (48 : Int64) = (48 : Int32).toInt64 from by decide, show (57 : Int64) = (57 : Int32).toInt64 from by decide, in_within]
  unfold f_X6_within
  rw [l_48, show (57 : Int32) = nI 57 from rfl]
  simp (disch := omega) only [nlt]
  by_cases q1 : v < 48
  · rw [if_pos q1, if_neg (by omega)]
  · rw [if_neg q1]
    by_cases q2 : 57 < v
    · rw [if_pos q2, if_neg (by omega)]
    · rw [if_neg q2, if_pos (by omega)]
theorem inN {v lo hi : Nat} (hv : v < 2147483648) (hl : lo < 2147483648) (hh : hi < 2147483648) : f_X7_in (nI v).toInt64 (nI lo).toInt64 (nI hi).toInt64 M = some ((if lo ≤ v ∧ v ≤ hi then 1 else 0 : Int32), M) := by
  rw [in_within]
  unfold f_X6_within
  simp (disch := omega) only [nlt]
  by_cases q1 : v < lo
  · rw [if_pos q1, if_neg (by omega)]
  · rw [if_neg q1]
    by_cases q2 : hi < v
    · rw [if_pos q2, if_neg (by omega)]
    · rw [if_neg q2, if_pos (by omega)]
/-- a number, read by both -/
def TN (T : Nat → Nat) (tl p lo hi : Nat) (F : Option (Int32 × Mem)) (G : Mem → Option (Int32 × Mem)) (P : Mem → Prop) (M : Mem) : Prop :=
  (∃ code : Int32, F = some ((0 : Int32), up2 M 15 3 code) ∧ ∀ MM, P MM → ∃ MM', G MM = some ((0 : Int32), MM') ∧ FrF MM MM' ∧ MM' 279 4 = code ∧ MM' 279 11 = nI p) ∨
  (∃ q v, lo ≤ v ∧ v ≤ hi ∧ q ≤ tl ∧ F = some ((1 : Int32), up2 (up2 M 15 2 (nI q)) 15 4 (nI v)) ∧ ∀ MM, P MM → ∃ MM', G MM = some ((1 : Int32), MM') ∧ MM' 279 10 = nI q ∧ MM' 279 12 = nI v ∧ (∀ c, c ≠ 279 → MM' c = MM c) ∧ ∀ j, j ≠ 10 → j ≠ 12 → MM' 279 j = MM 279 j)
theorem FrF.n {M M' : Mem} (h1 : ∀ c, c ≠ 279 → M' c = M c) (h2 : ∀ j, j ≠ 10 → j ≠ 12 → M' 279 j = M 279 j) : FrF M M' := ⟨fun c a _ => h1 c a, fun j _ a _ b => h2 j a b, fun j _ => by rw [h1 280 (by omega)]⟩
theorem TN_end {d lo hi : Nat} {x4 y : Int32} (hlo : lo < 1000) (hhi : hi < 1000) (h : PC M T tl p) (hd : p + d ≤ tl) (hx : d ≤ 2 → ∃ num, x4 = nI num ∧ y = nI num ∧ num < 10 ^ d) {f : Nat} (hG : ∀ MM, PM MM T tl (p + d) → MM 279 12 = y → f_X7_takesNumber_10 (nI lo) (nI hi) f (nI p) MM = (cb (f_X7_in (((nI d)).toInt64) (1 : Int64) (2 : Int64) MM) fun r_10 M_9 => if r_10 = 0 then cb (f_X7_fails (1 : Int32) (nI p) M_9) fun r_21 M_20 => cbz r_21 <| some (r_21, M_20) else cb (f_X7_in (((M_9 279 12)).toInt64) ((nI lo).toInt64) ((nI hi).toInt64) M_9) fun r_14 M_13 => if r_14 = 0 then cb (f_X7_fails (2 : Int32) (nI p) M_13) fun r_18 M_17 => cbz r_18 <| some (r_18, M_17) else some ((1 : Int32), M_13))) : TN T tl p lo hi (f_X4_takeNumber_71 (nI lo) (nI hi) (nI d) x4 M) (fun MM => f_X7_takesNumber_10 (nI lo) (nI hi) f (nI p) MM) (fun MM => PM MM T tl (p + d) ∧ MM 279 12 = y) M := by
  have h4 := h.2.2.2.1
  have i12 : ∀ MM : Mem, f_X7_in (nI d).toInt64 (1 : Int64) (2 : Int64) MM = some ((if 1 ≤ d ∧ d ≤ 2 then 1 else 0 : Int32), MM) := fun MM => by
    rw [show (1 : Int64) = (nI 1).toInt64 from by decide, show (2 : Int64) = (nI 2).toInt64 from by decide]
    exact inN (by omega) (by omega) (by omega)
  unfold f_X4_takeNumber_71 f_X4_takeNumber_81 f_X4_takeNumber_99
  rw [l_1, l_2, fail_k, fail_k, cb_k, cb_k, cbz0, cbz0]
  simp (disch := omega) only [nlt, nle]
  by_cases q : 1 ≤ d ∧ d ≤ 2
  · obtain ⟨num, rfl, ey, hnum⟩ := hx q.2
    have hnum' : num < 100 := by
      rcases (show d = 1 ∨ d = 2 by omega) with rfl | rfl <;> omega
    rw [if_neg (by omega), if_pos q.2]
    simp (disch := omega) only [nlt, nle]
    by_cases q2 : lo ≤ num ∧ num ≤ hi
    · rw [if_neg (by omega), if_pos q2.2]
      right
      refine ⟨p + d, num, q2.1, q2.2, hd, ?_, fun MM hm => ⟨MM, ?_, hm.1.2.1, hm.2.trans ey, fun _ _ => rfl, fun _ _ _ => rfl⟩⟩
      · rw [lt_k, lt_k, h.2.1, nI_add]
        rfl
      · show f_X7_takesNumber_10 (nI lo) (nI hi) f (nI p) MM = _
        rw [hG MM hm.1 hm.2, i12, cb_k, if_pos q, if_neg (by decide), hm.2, ey, inN (by omega) (by omega) (by omega), cb_k, if_pos q2, if_neg (by decide)]
    · left
      refine ⟨nI 2, ?_, fun MM hm => ⟨up2 (up2 MM 279 4 2) 279 11 (nI p), ?_, (FrF.u _ (by omega)).tr (FrF.u _ (by omega)), ?_, up2_s _ _ _ _⟩⟩
      · by_cases q3 : num < lo
        · rw [if_pos q3]
        · rw [if_neg q3, if_neg (by omega)]
      · show f_X7_takesNumber_10 (nI lo) (nI hi) f (nI p) MM = _
        rw [hG MM hm.1 hm.2, i12, cb_k, if_pos q, if_neg (by decide), hm.2, ey, inN (by omega) (by omega) (by omega), cb_k, if_neg q2, if_pos rfl, fails_k, cb_k, cbz0]
      · rw [up2_n (by omega), up2_s]
        rfl
  · left
    refine ⟨nI 1, ?_, fun MM hm => ⟨up2 (up2 MM 279 4 1) 279 11 (nI p), ?_, (FrF.u _ (by omega)).tr (FrF.u _ (by omega)), ?_, up2_s _ _ _ _⟩⟩
    · by_cases q3 : d < 1
      · rw [if_pos q3]
      · rw [if_neg q3, if_neg (by omega)]
    · show f_X7_takesNumber_10 (nI lo) (nI hi) f (nI p) MM = _
      rw [hG MM hm.1 hm.2, i12, cb_k, if_neg q, if_pos rfl, fails_k, cb_k, cbz0]
    · rw [up2_n (by omega), up2_s]
      rfl
theorem TN_loop {lo hi : Nat} (hlo : lo < 1000) (hhi : hi < 1000) (h : PC M T tl p) : ∀ (c f d : Nat) (x4 y : Int32), p + d + c = tl → c < f → (d ≤ 2 → ∃ num, x4 = nI num ∧ y = nI num ∧ num < 10 ^ d) → TN T tl p lo hi (f_X4_takeNumber_11 (nI lo) (nI hi) f (nI d) x4 (nI (p + d)) M) (fun MM => f_X7_takesNumber_10 (nI lo) (nI hi) f (nI p) MM) (fun MM => PM MM T tl (p + d) ∧ MM 279 12 = y) M := by
  have h4 := h.2.2.2.1
  have hT := h.2.2.2.2.1
  have hB := h.2.2.2.2.2
  have ed : ∀ d, nI (p + d) - nI p = nI d := fun d => by
    rw [nsub (by omega), show p + d - p = d by omega]
  intro c
  induction c with
  | zero =>
    intro f d x4 y hd hf hx
    obtain ⟨f, rfl⟩ : ∃ m, f = m + 1 := ⟨f - 1, by omega⟩
    rw [f_X4_takeNumber_11, h.1]
    simp (disch := omega) only [nle]
    rw [if_pos (by omega)]
    refine TN_end hlo hhi h (by omega) hx (fun MM hm h12 => ?_)
    have ec : cm T tl (p + d) = -1 := by unfold cm; rw [if_neg (by omega)]
    rw [f_X7_takesNumber_10, S_here h4 (by omega) hm, cb_k, ec, show f_X7_in (-1 : Int32).toInt64 (48 : Int64) (57 : Int64) MM = some ((0 : Int32), MM) from rfl, cb_k, if_pos rfl, hm.2.1, ed]
  | succ c ih =>
    intro f d x4 y hd hf hx
    obtain ⟨f, rfl⟩ : ∃ m, f = m + 1 := ⟨f - 1, by omega⟩
    have ec : cm T tl (p + d) = nI (T (p + d)) := by unfold cm; rw [if_pos (by omega)]
    have hv := hT (p + d) (by omega)
    rw [f_X4_takeNumber_11, h.1]
    simp (disch := omega) only [nle, nI_ck, nI_cl]
    rw [if_neg (by omega), show M (15 + 1) (p + d) = nI (T (p + d)) from hB _ (by omega), l_48, show (57 : Int32) = nI 57 from rfl]
    simp (disch := omega) only [nlt]
    by_cases q : 48 ≤ T (p + d) ∧ T (p + d) ≤ 57
    · rw [if_neg (by omega), if_neg (by omega), lt_k, show nI d + (1 : Int32) = nI (d + 1) from nI_1 d, show nI (p + d) + (1 : Int32) = nI (p + (d + 1)) from nI_1 _]
      have key := ih f (d + 1) ((((10 : Int32) * x4) + nI (T (p + d))) - nI 48) (if 2 ≤ d then y else (((10 : Int32) * y) + nI (T (p + d))) - nI 48) (by omega) (by omega) (fun hd2 => by
        obtain ⟨num, e1, e2, e3⟩ := hx (by omega)
        refine ⟨10 * num + T (p + d) - 48, ?_, ?_, ?_⟩
        · rw [e1, l_10, mul_n, nI_add, nsub (by omega)]
        · rw [if_neg (by omega), e2, l_10, mul_n, nI_add, nsub (by omega)]
        · rcases (show d = 0 ∨ d = 1 by omega) with rfl | rfl <;> omega)
      have tr : ∀ MM, (PM MM T tl (p + d) ∧ MM 279 12 = y) → ∃ MM2, f_X7_takesNumber_10 (nI lo) (nI hi) (f + 1) (nI p) MM = f_X7_takesNumber_10 (nI lo) (nI hi) f (nI p) MM2 ∧ (PM MM2 T tl (p + (d + 1)) ∧ MM2 279 12 = (if 2 ≤ d then y else (((10 : Int32) * y) + nI (T (p + d))) - nI 48)) ∧ (∀ c, c ≠ 279 → MM2 c = MM c) ∧ ∀ j, j ≠ 10 → j ≠ 12 → MM2 279 j = MM 279 j := by
        intro MM hm
        refine ⟨up2 (up2 MM 279 12 (if 2 ≤ d then y else (((10 : Int32) * y) + nI (T (p + d))) - nI 48)) 279 10 (nI (p + (d + 1))), ?_, ⟨(hm.1.o (by omega)).at _, ?_⟩, fun c hc => by rw [up2_c hc, up2_c hc], fun j h1 h2 => by rw [up2_n (by omega), up2_n (by omega)]⟩
        · rw [f_X7_takesNumber_10, S_here h4 (by omega) hm.1, cb_k, ec, in48 hv, cb_k, if_pos q, if_neg (by decide), hm.1.2.1, ed, l_2]
          simp (disch := omega) only [nle]
          unfold f_X7_takesNumber_60
          by_cases q2 : 2 ≤ d
          · rw [if_pos q2, if_pos q2, hm.2, lt_k, up2_n (by omega), hm.1.2.1, show nI (p + d) + (1 : Int32) = nI (p + (d + 1)) from nI_1 _, lt_k]
          · rw [if_neg q2, if_neg q2, S_here h4 (by omega) hm.1, cb_k, ec, hm.2, lt_k, up2_n (by omega), hm.1.2.1, show nI (p + d) + (1 : Int32) = nI (p + (d + 1)) from nI_1 _, lt_k, l_48]
        · rw [up2_n (by omega), up2_s]
      rcases key with ⟨code, e1, e2⟩ | ⟨q', v, a1, a2, a3, e1, e2⟩
      · refine Or.inl ⟨code, e1, fun MM hm => ?_⟩
        obtain ⟨MM2, t1, t2, t3, t4⟩ := tr MM hm
        obtain ⟨MM', g1, g2, g3⟩ := e2 MM2 t2
        exact ⟨MM', t1.trans g1, (FrF.n t3 t4).tr g2, g3⟩
      · refine Or.inr ⟨q', v, a1, a2, a3, e1, fun MM hm => ?_⟩
        obtain ⟨MM2, t1, t2, t3, t4⟩ := tr MM hm
        obtain ⟨MM', g1, g2, g3, g4, g5⟩ := e2 MM2 t2
        exact ⟨MM', t1.trans g1, g2, g3, fun c hc => (g4 c hc).trans (t3 c hc), fun j j1 j2 => (g5 j j1 j2).trans (t4 j j1 j2)⟩
    · have hend : TN T tl p lo hi (f_X4_takeNumber_71 (nI lo) (nI hi) (nI d) x4 M) (fun MM => f_X7_takesNumber_10 (nI lo) (nI hi) (f + 1) (nI p) MM) (fun MM => PM MM T tl (p + d) ∧ MM 279 12 = y) M := by
        refine TN_end hlo hhi h (by omega) hx (fun MM hm h12 => ?_)
        rw [f_X7_takesNumber_10, S_here h4 (by omega) hm, cb_k, ec, in48 hv, cb_k, if_neg q, if_pos rfl, hm.2.1, ed]
      by_cases q1 : T (p + d) < 48
      · rw [if_pos q1]
        exact hend
      · rw [if_neg q1, if_pos (by omega)]
        exact hend
theorem L_num {lo hi : Nat} (hlo : lo < 1000) (hhi : hi < 1000) (h : PC M T tl p) : TN T tl p lo hi (f_X4_takeNumber (nI lo) (nI hi) M) (f_X7_takesNumber (nI lo) (nI hi)) (fun MM => PM MM T tl p) M := by
  have key := TN_loop hlo hhi h (tl - p) FU 0 (nI 0) (nI 0) (by have := h.2.2.1; omega) (by have := h.2.2.2.1; show tl - p < 5000; omega) (fun _ => ⟨0, rfl, rfl, by decide⟩)
  have tr : ∀ MM, PM MM T tl p → f_X7_takesNumber (nI lo) (nI hi) MM = f_X7_takesNumber_10 (nI lo) (nI hi) FU (nI p) (up2 MM 279 12 (nI 0)) ∧ (PM (up2 MM 279 12 (nI 0)) T tl (p + 0) ∧ up2 MM 279 12 (nI 0) 279 12 = nI 0) := fun MM hm => by
    refine ⟨?_, hm.o (by omega), up2_s _ _ _ _⟩
    unfold f_X7_takesNumber
    rw [lt_k, lt_k, hm.2.1]
    rfl
  have eF : f_X4_takeNumber (nI lo) (nI hi) M = f_X4_takeNumber_11 (nI lo) (nI hi) FU (nI 0) (nI 0) (nI (p + 0)) M := by
    unfold f_X4_takeNumber
    rw [lt_k, h.2.1]
    rfl
  rw [eF]
  rcases key with ⟨code, e1, e2⟩ | ⟨q', v, a1, a2, a3, e1, e2⟩
  · refine Or.inl ⟨code, e1, fun MM hm => ?_⟩
    obtain ⟨t1, t2⟩ := tr MM hm
    obtain ⟨MM', g1, g2, g3⟩ := e2 _ t2
    exact ⟨MM', t1.trans g1, (FrF.u _ (by omega)).tr g2, g3⟩
  · refine Or.inr ⟨q', v, a1, a2, a3, e1, fun MM hm => ?_⟩
    obtain ⟨t1, t2⟩ := tr MM hm
    obtain ⟨MM', g1, g2, g3, g4, g5⟩ := e2 _ t2
    exact ⟨MM', t1.trans g1, g2, g3, fun c hc => (g4 c hc).trans (up2_c hc), fun j j1 j2 => (g5 j j1 j2).trans (up2_n (by omega))⟩
end TAPE
