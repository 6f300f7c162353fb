/-! sets of ringing teeth -/
theorem mBits_lt {p : Nat → Bool} : ∀ (c j a : Nat), a < 2 ^ j → mBits p j c a < 2 ^ (j + c)
  | 0, j, a, h => h
  | c + 1, j, a, h => by
    rw [mBits, show j + (c + 1) = (j + 1) + c by omega]
    refine mBits_lt c (j + 1) _ ?_
    have h1 : 2 ^ j < 2 ^ (j + 1) := Nat.pow_lt_pow_right (by decide) (by omega)
    split
    · exact Nat.or_lt_two_pow (by omega) h1
    · omega
theorem ringing_lt {b : Nat → Nat} (h : b 0 ≤ 6) : ringing b < 64 := by
  have := mBits_lt (p := fun j => decide (0 < b (18 + j))) (b 0) 0 0 (by decide)
  have h2 : 2 ^ (0 + b 0) ≤ 2 ^ 6 := Nat.pow_le_pow_right (by decide) (by omega)
  unfold ringing
  omega
theorem sub_and : ∀ k, k < 64 → ∀ R, R < 64 → k &&& (63 ^^^ R) = 0 → R &&& k = k := by decide +kernel
theorem all_and : ∀ N, N ≤ 6 → ∀ k, k < 64 → k < 2 ^ N → (2 ^ N - 1) &&& k = k := by decide +kernel
theorem p64 : ∀ N, N ≤ 6 → 1 ≤ 2 ^ N ∧ 2 ^ N ≤ 64 := by decide +kernel
def lo (b : Nat → Nat) (k : Nat) : Nat → Nat := fun t => if bit k t = 1 then b (18 + t) else 0
section SETS
variable {M : Mem} {b : Nat → Nat}
theorem T_loudOf {k : Nat} (w : WF b) (h : isW M 3 b) (hk : k < 64) : ∀ (c f j a : Nat), j + c = b 0 → c < f → f_X3_loudOf_4 (nI k) f (nI a) (nI j) M = some (nI (a + mSum (lo b k) j c), M) := by
  have h6 := w.1.2
  intro c
  induction c with
  | zero =>
    intro f j a hj hf
    obtain ⟨f, rfl⟩ : ∃ m, f = m + 1 := ⟨f - 1, by omega⟩
    rw [f_X3_loudOf_4, h.teeth]
    simp (disch := omega) only [nle]
    rw [if_pos (by omega)]
    rfl
  | succ c ih =>
    intro f j a hj hf
    obtain ⟨f, rfl⟩ : ∃ m, f = m + 1 := ⟨f - 1, by omega⟩
    have hb := bit_lt k j
    rw [f_X3_loudOf_4, h.teeth, nhas (by omega) (by omega), mSum]
    simp (disch := omega) only [nle, nI_ck, nI_cl]
    unfold f_X3_loudOf_36
    rw [if_neg (by omega), show nI j + (1 : Int32) = nI (j + 1) from nI_1 j]
    by_cases q : bit k j = 1
    · rw [if_pos (by rw [q]; rfl), show M (3 + 4) j = nI (b (18 + j)) from h.rings (by omega), nI_add, lt_k, ih f (j + 1) _ (by omega) (by omega)]
      unfold lo
      rw [if_pos q, Nat.add_assoc]
    · rw [if_neg (by rw [show bit k j = 0 by omega]; decide), ih f (j + 1) _ (by omega) (by omega)]
      unfold lo
      rw [if_neg q, Nat.zero_add]
theorem S_loudOf {k v : Nat} {x2 x3 x4 x5 : Int32} {K : Int32 → Int32 → Int32 → Int32 → Mem → Option (Int32 × Mem)} (w : WF b) (s : isS M 0 b) (hk : k < 64) : ∀ (c f j a : Nat), j + c = b 0 → c < f → f_X7_sets_76 (nI v) x2 K f x3 x4 x5 (nI k) (nI a) (nI j) M = if nI (a + mSum (lo b k) j c) = nI v then (if k &&& (63 ^^^ ringing b) = 0 then f_X7_sets_158 (nI v) x2 K (x3 + (1 : Int32)) (x4 &&& nI k) (x5 ||| nI k) (nI k) M else f_X7_sets_158 (nI v) x2 K x3 x4 x5 (nI k) M) else f_X7_sets_158 (nI v) x2 K x3 x4 x5 (nI k) M := by
  have h6 := w.1.2
  have hR := ringing_lt h6
  intro c
  induction c with
  | zero =>
    intro f j a hj hf
    obtain ⟨f, rfl⟩ : ∃ m, f = m + 1 := ⟨f - 1, by omega⟩
    have := andn_lt k hk _ hR
    rw [f_X7_sets_76, s.f0]
    simp (disch := omega) only [nle]
    rw [if_pos (by omega), mSum, Nat.add_zero, S_ringing0 s w.r1000, cb_k, nandn k hk _ hR]
    simp (disch := omega) only [neq0, lt_k]
  | succ c ih =>
    intro f j a hj hf
    obtain ⟨f, rfl⟩ : ∃ m, f = m + 1 := ⟨f - 1, by omega⟩
    have hb := bit_lt k j
    rw [f_X7_sets_76, s.f0, S_has (by omega) (by omega), cb_k, mSum]
    simp (disch := omega) only [nle, l_18, nI_add, nI_ck, nI_cl, neq0]
    unfold f_X7_sets_113
    rw [if_neg (by omega), show nI j + (1 : Int32) = nI (j + 1) from nI_1 j, s.zJ (k := 18 + j) (by unfold rel; omega)]
    by_cases q : bit k j = 0
    · have el : lo b k j = 0 := by unfold lo; exact if_neg (by omega)
      rw [if_pos q, lt_k, n_a0, ih f (j + 1) _ (by omega) (by omega), el, Nat.zero_add]
    · have el : lo b k j = b (18 + j) := by unfold lo; exact if_pos (by omega)
      rw [if_neg q, nI_add, lt_k, ih f (j + 1) _ (by omega) (by omega), el, Nat.add_assoc]
theorem Q_sets {v : Nat} {x2 : Int32} (hx : x2 = 0 ∨ x2 = 1 ∨ x2 = 2) (w : WF b) (h : isW M 3 b) (s : isS M 0 b) : ∀ (c f k m A B : Nat) (y : Int32), k + c = 2 ^ b 0 → c < f → m ≤ k → ((m = 0 ∧ A = ringing b ∧ B = 2 ^ b 0 - 1) ∨ (0 < m ∧ A = B)) → Two M (f_X3_setsThatRing_20 (nI v) x2 f (nI (ringing b)) (nI m) (nI A) y (nI k) M) (f_X7_sets_57 (nI v) x2 f (nI m) (nI B) y (nI k) M) := by
  have h6 := w.1.2
  have hR := ringing_lt h6
  have hp := p64 (b 0) h6
  have hsh : (1 : Int32) <<< (nI (b 0) &&& 31) = nI (2 ^ b 0) := nshl1 _ (by omega)
  intro c
  induction c with
  | zero =>
    intro f k m A B y hk hf hm hJ
    obtain ⟨f, rfl⟩ : ∃ m, f = m + 1 := ⟨f - 1, by omega⟩
    rw [f_X3_setsThatRing_20, f_X7_sets_57, h.teeth, s.f0, hsh]
    simp (disch := omega) only [nle, lt_k, neq0]
    simp only [if_pos (show 2 ^ b 0 ≤ k by omega)]
    rcases hx with rfl | rfl | rfl
    · simp only [if_true]
      exact Two.rf M _
    · simp only [if_neg (show ¬ (1 : Int32) = 0 by decide), if_true, if_neg (show ¬ (1 : Int32) = 2 by decide)]
      rcases hJ with ⟨j1, _⟩ | ⟨j1, j2⟩
      · simp only [if_pos j1]
        exact Two.rf M _
      · simp only [if_neg (show ¬ m = 0 by omega), j2]
        exact Two.rf M _
    · simp only [if_neg (show ¬ (2 : Int32) = 0 by decide), if_true, if_neg (show ¬ (2 : Int32) = 1 by decide)]
      exact Two.rf M _
  | succ c ih =>
    intro f k m A B y hk hf hm hJ
    obtain ⟨f, rfl⟩ : ∃ m, f = m + 1 := ⟨f - 1, by omega⟩
    have hk64 : k < 64 := by omega
    have e1 : f_X3_loudOf (nI k) M = some (nI (0 + mSum (lo b k) 0 (b 0)), M) := T_loudOf w h hk64 (b 0) FU 0 0 (by omega) (by show b 0 < 5000; omega)
    have e2 := S_loudOf (x2 := x2) (x3 := nI m) (x4 := nI B) (x5 := y) (v := v) (K := f_X7_sets_57 (nI v) x2 f) w s hk64 (b 0) FU 0 0 (by omega) (by show b 0 < 5000; omega)
    rw [z0] at e2
    have hand := andn_lt k hk64 _ hR
    have E : nI k + (1 : Int32) = nI (k + 1) := nI_1 k
    rw [f_X3_setsThatRing_20, f_X7_sets_57, h.teeth, s.f0, hsh, nandn k hk64 _ hR, e1, cb_k, e2]
    simp (disch := omega) only [nle, neq0]
    simp only [if_neg (show ¬ 2 ^ b 0 ≤ k by omega)]
    unfold f_X3_setsThatRing_70 f_X7_sets_158
    simp only [E, lt_k, nand]
    by_cases qa : k &&& (63 ^^^ ringing b) = 0
    · simp only [if_pos qa]
      by_cases qs : nI (0 + mSum (lo b k) 0 (b 0)) = nI v
      · simp only [if_pos qs]
        rw [show nI m + (1 : Int32) = nI (m + 1) from nI_1 m]
        refine ih f (k + 1) (m + 1) _ _ _ (by omega) (by omega) (by omega) (Or.inr ⟨by omega, ?_⟩)
        rcases hJ with ⟨j1, j2, j3⟩ | ⟨j1, j2⟩
        · rw [j2, j3, sub_and k hk64 _ hR qa, all_and (b 0) h6 k hk64 (by omega)]
        · rw [j2]
      · simp only [if_neg qs]
        exact ih f (k + 1) m A B y (by omega) (by omega) (by omega) hJ
    · simp only [if_neg qa]
      have : (if nI (0 + mSum (lo b k) 0 (b 0)) = nI v then f_X7_sets_57 (nI v) x2 f (nI m) (nI B) y (nI (k + 1)) M else f_X7_sets_57 (nI v) x2 f (nI m) (nI B) y (nI (k + 1)) M) = f_X7_sets_57 (nI v) x2 f (nI m) (nI B) y (nI (k + 1)) M := by
        split <;> rfl
      rw [this]
      exact ih f (k + 1) m A B y (by omega) (by omega) (by omega) hJ
end SETS
theorem Sim_sets (x y : Int32) : Sim (f_X6_sets x y) (f_X7_sets x y) := by
  intro M h
  obtain ⟨b, im, H, hn, nt, tl, tn, h1, h2, h3, h4, h5, h6, h7⟩ := id h
  have hl := h1.2.2.lt
  rcases box_cases (n := b 0) (by omega) with ⟨q0, ga0, gb0⟩ | ⟨q0, ga0, gb0⟩
  · exact ⟨_, M, M, by unfold f_X6_sets; rw [ga0 M h1.1.teeth, cb_k, if_pos rfl], by unfold f_X7_sets; rw [gb0 M h1.2.1.f0, cb_k, if_pos rfl], h⟩
  rcases W_cases x (lo := 0) (hi := 99) (a := (0 : Int32)) (b := (99 : Int32)) (a' := (0 : Int64)) (b' := (99 : Int64)) rfl rfl (by decide) (by decide) (by decide) (by decide) with ⟨ga1, gb1⟩ | ⟨v, lv, hv, rfl, ga1, gb1⟩
  · exact ⟨_, M, M, by unfold f_X6_sets; rw [ga0 M h1.1.teeth, cb_k, if_neg (by decide), ga1 M, cb_k, if_pos rfl], by unfold f_X7_sets; rw [gb0 M h1.2.1.f0, cb_k, if_neg (by decide), gb1 M, cb_k, if_pos rfl], h⟩
  rcases W_cases y (lo := 0) (hi := 2) (a := (0 : Int32)) (b := (2 : Int32)) (a' := (0 : Int64)) (b' := (2 : Int64)) rfl rfl (by decide) (by decide) (by decide) (by decide) with ⟨ga2, gb2⟩ | ⟨k, lk, hk, rfl, ga2, gb2⟩
  · exact ⟨_, M, M, by unfold f_X6_sets; rw [ga0 M h1.1.teeth, cb_k, if_neg (by decide), ga1 M, cb_k, if_neg (by decide), ga2 M, cb_k, if_pos rfl], by unfold f_X7_sets; rw [gb0 M h1.2.1.f0, cb_k, if_neg (by decide), gb1 M, cb_k, if_neg (by decide), gb2 M, cb_k, if_pos rfl], h⟩
  obtain ⟨w, _⟩ := h1.2.2.wf (by omega)
  have hp := p64 (b 0) w.1.2
  obtain ⟨x, a1, a2⟩ := Q_sets (v := v) (x2 := nI k) (by rcases (show k = 0 ∨ k = 1 ∨ k = 2 by omega) with rfl | rfl | rfl <;> decide) w h1.1 h1.2.1 (2 ^ b 0) FU 0 0 (ringing b) (2 ^ b 0 - 1) 0 (by omega) (by show 2 ^ b 0 < 5000; omega) (by omega) (Or.inl ⟨rfl, rfl, rfl⟩)
  refine ⟨x, M, M, ?_, ?_, h⟩
  · unfold f_X6_sets f_X3_setsThatRing
    rw [ga0 M h1.1.teeth, cb_k, if_neg (by decide), ga1 M, cb_k, if_neg (by decide), ga2 M, cb_k, if_neg (by decide), cb_id, T_ringing h1.1 w.r1000, cb_k]
    exact a1
  · unfold f_X7_sets
    rw [gb0 M h1.2.1.f0, cb_k, if_neg (by decide), gb1 M, cb_k, if_neg (by decide), gb2 M, cb_k, if_neg (by decide), h1.2.1.f0, pw1 _ w.1.2, lt_k]
    exact a2
