/-! what the reference reads off its row, copies -/
section READ
variable {M : Mem} {o : Nat} {b : Nat → Nat}
theorem S_loud_4 (ho : o ≤ 1204) (h : isS M o b) : ∀ (c n j a : Nat), j + c = b 0 → c < n → f_X7_loud_4 (nI o) n (nI a) (nI j) M = some (nI (a + mSum (fun i => b (18 + i)) j c), M) := by
  have h6 := h.1
  intro c
  induction c with
  | zero =>
    intro n j a hj hn
    obtain ⟨n, rfl⟩ : ∃ m, n = m + 1 := ⟨n - 1, by omega⟩
    rw [f_X7_loud_4, n_a0]
    simp (disch := omega) only [nI_ck, nI_cl]
    rw [h.f0]
    simp (disch := omega) only [nle]
    rw [if_pos (by omega)]
    rfl
  | succ c ih =>
    intro n j a hj hn
    obtain ⟨n, rfl⟩ : ∃ m, n = m + 1 := ⟨n - 1, by omega⟩
    rw [f_X7_loud_4, n_a0]
    simp (disch := omega) only [nI_ck, nI_cl, l_18, nI_add, lt_k]
    rw [h.f0]
    simp (disch := omega) only [nle]
    rw [if_neg (by omega), h.rings (by omega), nI_add, show nI j + (1 : Int32) = nI (j + 1) from nI_1 j, ih n (j + 1) _ (by omega) (by omega), mSum, Nat.add_assoc]
theorem S_loud (ho : o ≤ 1204) (h : isS M o b) : f_X7_loud (nI o) M = some (nI (loud b), M) := by
  have h6 := h.1
  unfold f_X7_loud loud
  have := S_loud_4 ho h (b 0) FU 0 0 (by omega) (by show b 0 < 5000; omega)
  rw [Nat.zero_add] at this
  exact this
theorem S_pluckedAll_4 (h : isS M 0 b) : ∀ (c n j a : Nat), j + c = b 0 → c < n → f_X7_pluckedAll_4 n (nI a) (nI j) M = some (nI (a + mSum (fun i => b (24 + i)) j c), M) := by
  have h6 := h.1
  intro c
  induction c with
  | zero =>
    intro n j a hj hn
    obtain ⟨n, rfl⟩ : ∃ m, n = m + 1 := ⟨n - 1, by omega⟩
    rw [f_X7_pluckedAll_4, h.f0]
    simp (disch := omega) only [nle]
    rw [if_pos (by omega)]
    rfl
  | succ c ih =>
    intro n j a hj hn
    obtain ⟨n, rfl⟩ : ∃ m, n = m + 1 := ⟨n - 1, by omega⟩
    rw [f_X7_pluckedAll_4, h.f0]
    simp (disch := omega) only [nI_ck, nI_cl, l_24, nI_add, lt_k, nle]
    have e : M 280 (24 + j) = nI (b (24 + j)) := by
      have := h.plucked (j := j) (by omega)
      rwa [Nat.zero_add] at this
    rw [if_neg (by omega), e, nI_add, show nI j + (1 : Int32) = nI (j + 1) from nI_1 j, ih n (j + 1) _ (by omega) (by omega), mSum, Nat.add_assoc]
theorem S_pluckedAll (h : isS M 0 b) : f_X7_pluckedAll M = some (nI (mSum (fun i => b (24 + i)) 0 (b 0)), M) := by
  have h6 := h.1
  unfold f_X7_pluckedAll
  have := S_pluckedAll_4 h (b 0) FU 0 0 (by omega) (by show b 0 < 5000; omega)
  rw [Nat.zero_add] at this
  exact this
theorem S_ringing_4 (ho : o ≤ 1204) (h : isS M o b) (hw : ∀ j, j < b 0 → b (18 + j) < 1000) : ∀ (c n j a : Nat), j + c = b 0 → c < n → f_X7_ringing_4 (nI o) n (nI a) (nI j) M = some (nI (mBits (fun j => decide (0 < b (18 + j))) j c a), M) := by
  have h6 := h.1
  intro c
  induction c with
  | zero =>
    intro n j a hj hn
    obtain ⟨n, rfl⟩ : ∃ m, n = m + 1 := ⟨n - 1, by omega⟩
    rw [f_X7_ringing_4, n_a0]
    simp (disch := omega) only [nI_ck, nI_cl]
    rw [h.f0]
    simp (disch := omega) only [nle]
    rw [if_pos (by omega)]
    rfl
  | succ c ih =>
    intro n j a hj hn
    obtain ⟨n, rfl⟩ : ∃ m, n = m + 1 := ⟨n - 1, by omega⟩
    have hj2 := hw j (by omega)
    rw [f_X7_ringing_4, n_a0]
    simp (disch := omega) only [nI_ck, nI_cl, l_18, nI_add]
    rw [h.f0, h.rings (by omega)]
    unfold f_X7_ringing_38
    simp (disch := omega) only [nle, nle0, lt_k]
    rw [if_neg (by omega), nshl1 j (by omega), nor, n_or0, show nI j + (1 : Int32) = nI (j + 1) from nI_1 j, ih n (j + 1) _ (by omega) (by omega), ih n (j + 1) _ (by omega) (by omega), mBits]
    by_cases q : b (18 + j) = 0
    · rw [if_pos q, if_neg (by simp [q])]
    · rw [if_neg q, if_pos (by simp; omega)]
theorem S_ringing (ho : o ≤ 1204) (h : isS M o b) (hw : ∀ j, j < b 0 → b (18 + j) < 1000) : f_X7_ringing (nI o) M = some (nI (ringing b), M) := by
  have h6 := h.1
  unfold f_X7_ringing ringing
  exact S_ringing_4 ho h hw (b 0) FU 0 0 (by omega) (by show b 0 < 5000; omega)
theorem S_columnsOf_5 {t : Nat} (ho : o ≤ 1204) (h : isS M o b) (ht : t < 6) (hw : ∀ j, j < b 1 → b (30 + j) < 64) : ∀ (c n j a : Nat), j + c = b 1 → c < n → f_X7_columnsOf_5 (nI o) (nI t) n (nI a) (nI j) M = some (nI (mBits (fun c => decide (bit (b (30 + c)) t = 1)) j c a), M) := by
  have h6 := h.2.1
  intro c
  induction c with
  | zero =>
    intro n j a hj hn
    obtain ⟨n, rfl⟩ : ∃ m, n = m + 1 := ⟨n - 1, by omega⟩
    rw [f_X7_columnsOf_5]
    simp (disch := omega) only [nI_ck, nI_cl, l_1, nI_add]
    rw [h.f (k := 1) (by decide)]
    simp (disch := omega) only [nle]
    rw [if_pos (by omega)]
    rfl
  | succ c ih =>
    intro n j a hj hn
    obtain ⟨n, rfl⟩ : ∃ m, n = m + 1 := ⟨n - 1, by omega⟩
    have hj2 := hw j (by omega)
    rw [f_X7_columnsOf_5]
    simp (disch := omega) only [nI_ck, nI_cl, show ∀ x : Int32, x + (1 : Int32) = x + nI 1 from fun _ => rfl, l_30, nI_add]
    rw [h.f (k := 1) (by decide), h.pins (by omega), S_has (by omega) (by omega), cb_k]
    have hb := bit_lt (b (30 + j)) t
    unfold f_X7_columnsOf_46
    simp (disch := omega) only [nle, neq0, lt_k]
    rw [if_neg (by omega), nshl1 j (by omega), nor, n_or0, show nI j + (1 : Int32) = nI (j + 1) from nI_1 j, ih n (j + 1) _ (by omega) (by omega), ih n (j + 1) _ (by omega) (by omega), mBits]
    by_cases q : bit (b (30 + j)) t = 0
    · rw [if_pos q, if_neg (by simp [q])]
    · rw [if_neg q, if_pos (by simp; omega)]
theorem S_columnsOf {t : Nat} (ho : o ≤ 1204) (h : isS M o b) (ht : t < 6) (hw : ∀ j, j < b 1 → b (30 + j) < 64) : f_X7_columnsOf (nI o) (nI t) M = some (nI (colsOf b t), M) := by
  have h6 := h.2.1
  unfold f_X7_columnsOf colsOf
  exact S_columnsOf_5 ho h ht hw (b 1) FU 0 0 (by omega) (by show b 1 < 5000; omega)
theorem S_mends {t : Nat} (ho : o ≤ 1204) (h : isS M o b) (h5 : b 5 < 64) (ht : t < 6) : sV' o M (mend b t) (f_X7_mends (nI o) (nI t) M) := by
  unfold f_X7_mends
  simp (disch := omega) only [nI_ck, nI_cl, l_5, l_24, l_18, nI_add, lt_k]
  rw [h.f (k := 5) (by decide), nshl1 t (by omega), nandn _ h5 _ (pow_lt t ht)]
  exact ⟨_, rfl, ((h.set (k := 5) _ (by decide)).setJ 0 (by decide)).setJ 0 (by decide), (((frS.rf o M).u (by omega) (by omega) _).u (by omega) (by omega) _).u (by omega) (by omega) _⟩
theorem S_copyOf_2 {a d : Nat} (ha : a ≤ 1204) (hd : d ≤ 1204) (hx : a + 42 < d ∨ d + 42 < a) (M : Mem) : ∀ (c n k : Nat) (Mk : Mem), k + c = 43 → c < n → (∀ i, i < k → Mk 280 (d + i) = M 280 (a + i)) → frS d M Mk → ∃ M', f_X7_copyOf_2 (nI a) (nI d) n (nI k) Mk = some M' ∧ (∀ i, i < 43 → M' 280 (d + i) = M 280 (a + i)) ∧ frS d M M' := by
  intro c
  induction c with
  | zero =>
    intro n k Mk hk hn h f
    obtain ⟨n, rfl⟩ : ∃ m, n = m + 1 := ⟨n - 1, by omega⟩
    rw [f_X7_copyOf_2]
    simp (disch := omega) only [l_43, nle]
    rw [if_pos (by omega)]
    exact ⟨Mk, rfl, fun i hi => h i (by omega), f⟩
  | succ c ih =>
    intro n k Mk hk hn h f
    obtain ⟨n, rfl⟩ : ∃ m, n = m + 1 := ⟨n - 1, by omega⟩
    rw [f_X7_copyOf_2]
    simp (disch := omega) only [l_43, nle, nI_ck, nI_cl, nI_add, lt_k]
    rw [if_neg (by omega), show nI k + (1 : Int32) = nI (k + 1) from nI_1 k, f.2 (a + k) (by omega)]
    refine ih n (k + 1) _ (by omega) (by omega) (fun i hi => ?_) (f.u (by omega) (by omega) _)
    by_cases q : i = k
    · subst q
      rw [up2_s]
    · rw [up2_n (by omega)]
      exact h i (by omega)
theorem S_copyOf {a d : Nat} (ha : a ≤ 1204) (hd : d ≤ 1204) (hx : a + 42 < d ∨ d + 42 < a) (h : isS M a b) : sV' d M b (f_X7_copyOf (nI a) (nI d) M) := by
  unfold f_X7_copyOf
  obtain ⟨M', e, g, f⟩ := S_copyOf_2 ha hd hx M 43 FU 0 M (by omega) (by decide) (fun i hi => by omega) (frS.rf d M)
  refine ⟨M', e, ⟨h.1, h.2.1, fun k hk => ?_⟩, f⟩
  have : k < 43 := by
    rcases hk with hk | hk
    · have := rel_lt h.1 h.2.1 hk
      omega
    · omega
  rw [g k this]
  exact h.2.2 k hk
theorem S_tries (h : isS M 0 b) : sV' 43 M b (f_X7_tries M) := by
  unfold f_X7_tries
  obtain ⟨M', e, i, f⟩ := S_copyOf (M := M) (a := 0) (d := 43) (by decide) (by decide) (by decide) h
  rw [show (0 : Int32) = nI 0 from rfl, show (43 : Int32) = nI 43 from rfl, e]
  exact ⟨M', rfl, i, f⟩
theorem S_goesOn_2 {m : Nat} (hm : m < 1000) (hw : WF b) : ∀ (c n k : Nat) (M : Mem), k + c = m → c < n → isS M 43 (ticks b k) → sV' 43 M (ticks b m) (f_X7_goesOn_2 (nI m) n (nI k) M) := by
  intro c
  induction c with
  | zero =>
    intro n k M hk hn h
    obtain ⟨n, rfl⟩ : ∃ m, n = m + 1 := ⟨n - 1, by omega⟩
    rw [f_X7_goesOn_2]
    simp (disch := omega) only [nle]
    rw [if_pos (by omega)]
    have : k = m := by omega
    subst this
    exact ⟨M, rfl, h, frS.rf 43 M⟩
  | succ c ih =>
    intro n k M hk hn h
    obtain ⟨n, rfl⟩ : ∃ m, n = m + 1 := ⟨n - 1, by omega⟩
    rw [f_X7_goesOn_2]
    simp (disch := omega) only [nle]
    rw [if_neg (by omega)]
    obtain ⟨M1, e1, i1, f1⟩ := S_passes (o := 43) (by decide) h (WF_ticks hw k)
    rw [show (43 : Int32) = nI 43 from rfl, e1, cv_k, show nI k + (1 : Int32) = nI (k + 1) from nI_1 k]
    obtain ⟨M', e, i, f⟩ := ih n (k + 1) M1 (by omega) (by omega) i1
    exact ⟨M', e, i, f1.tr f⟩
theorem S_goesOn {m : Nat} (hm : m < 1000) (h : isS M 43 b) (hw : WF b) : sV' 43 M (ticks b m) (f_X7_goesOn (nI m) M) := by
  unfold f_X7_goesOn
  exact S_goesOn_2 hm hw m FU 0 M (by omega) (by show m < 5000; omega) h
theorem S_sumOf_4 {m : Nat} (hm : m < 1000) (hw : WF b) : ∀ (c n k : Nat) (M : Mem), k + c = m → c < n → isS M 43 (ticks b k) → ∃ M', f_X7_sumOf_4 (nI m) n (nI (louds b k)) (nI k) M = some (nI (louds b m), M') ∧ isS M' 43 (ticks b m) ∧ frS 43 M M' := by
  intro c
  induction c with
  | zero =>
    intro n k M hk hn h
    obtain ⟨n, rfl⟩ : ∃ m, n = m + 1 := ⟨n - 1, by omega⟩
    rw [f_X7_sumOf_4]
    simp (disch := omega) only [nle]
    rw [if_pos (by omega)]
    have : k = m := by omega
    subst this
    exact ⟨M, rfl, h, frS.rf 43 M⟩
  | succ c ih =>
    intro n k M hk hn h
    obtain ⟨n, rfl⟩ : ∃ m, n = m + 1 := ⟨n - 1, by omega⟩
    rw [f_X7_sumOf_4]
    simp (disch := omega) only [nle]
    rw [if_neg (by omega)]
    obtain ⟨M1, e1, i1, f1⟩ := S_passes (o := 43) (by decide) h (WF_ticks hw k)
    rw [show (43 : Int32) = nI 43 from rfl, e1, cv_k, S_loud (by decide) i1, cb_k, lt_k, nI_add, show nI k + (1 : Int32) = nI (k + 1) from nI_1 k]
    obtain ⟨M', e, i, f⟩ := ih n (k + 1) M1 (by omega) (by omega) i1
    exact ⟨M', e, i, f1.tr f⟩
theorem S_sumOf {m : Nat} (hm : m < 1000) (h : isS M 43 b) (hw : WF b) : ∃ M', f_X7_sumOf (nI m) M = some (nI (louds b m), M') ∧ isS M' 43 (ticks b m) ∧ frS 43 M M' := by
  unfold f_X7_sumOf
  exact S_sumOf_4 hm hw m FU 0 M (by omega) (by show m < 5000; omega) h
end READ
/-! the guards -/
theorem cmp_lt (a b : Int64) : (lg_cmp a b < 0) = (a < b) := by
  unfold lg_cmp
  by_cases h : a > b
  · rw [if_pos h]
    have h' := Int64.lt_iff_toInt_lt.mp h
    exact propext ⟨fun q => absurd q (by decide), fun q => by have := Int64.lt_iff_toInt_lt.mp q; omega⟩
  · rw [if_neg h]
    by_cases e : a = b
    · rw [if_pos e]
      subst e
      exact propext ⟨fun q => absurd q (by decide), fun q => by have := Int64.lt_iff_toInt_lt.mp q; omega⟩
    · rw [if_neg e]
      refine propext ⟨fun _ => ?_, fun _ => by decide⟩
      have h1 : ¬ b.toInt < a.toInt := fun q => h (Int64.lt_iff_toInt_lt.mpr q)
      have h2 : a.toInt ≠ b.toInt := fun q => e (Int64.toInt_inj.mp q)
      exact Int64.lt_iff_toInt_lt.mpr (by omega)
theorem cmp_gt (a b : Int64) : (0 < lg_cmp a b) = (b < a) := by
  unfold lg_cmp
  by_cases h : a > b
  · rw [if_pos h]
    exact propext ⟨fun _ => h, fun _ => by decide⟩
  · rw [if_neg h]
    refine propext ⟨fun q => ?_, fun q => absurd q h⟩
    split at q
    · exact absurd q (by decide)
    · exact absurd q (by decide)
theorem cmp_eq (a b : Int64) : (lg_cmp a b = 0) = (a = b) := by
  unfold lg_cmp
  by_cases h : a > b
  · rw [if_pos h]
    refine propext ⟨fun q => absurd q (by decide), fun q => ?_⟩
    subst q
    have := Int64.lt_iff_toInt_lt.mp h
    omega
  · rw [if_neg h]
    by_cases e : a = b
    · rw [if_pos e]
      exact propext ⟨fun _ => e, fun _ => rfl⟩
    · rw [if_neg e]
      exact propext ⟨fun q => absurd q (by decide), fun q => absurd q e⟩
theorem cmp_le (a b : Int64) : (lg_cmp a b ≤ 0) = (a ≤ b) := by
  have h1 : (lg_cmp a b ≤ 0) = ¬ (0 < lg_cmp a b) := by
    refine propext ⟨fun h q => ?_, fun h => ?_⟩
    · have := Int32.le_iff_toInt_le.mp h
      have := Int32.lt_iff_toInt_lt.mp q
      omega
    · refine Int32.le_iff_toInt_le.mpr ?_
      have : ¬ (0 : Int32).toInt < (lg_cmp a b).toInt := fun q => h (Int32.lt_iff_toInt_lt.mpr q)
      omega
  rw [h1, cmp_gt]
  refine propext ⟨fun h => ?_, fun h q => ?_⟩
  · refine Int64.le_iff_toInt_le.mpr ?_
    have : ¬ b.toInt < a.toInt := fun q => h (Int64.lt_iff_toInt_lt.mpr q)
    omega
  · have := Int64.le_iff_toInt_le.mp h
    have := Int64.lt_iff_toInt_lt.mp q
    omega
theorem wide_lt (a b : Int32) : (a.toInt64 < b.toInt64) = (a < b) := by
  rw [Int64.lt_iff_toInt_lt, Int32.lt_iff_toInt_lt, Int32.toInt_toInt64, Int32.toInt_toInt64]
theorem in_within (x lo hi : Int32) (M : Mem) : f_X7_in x.toInt64 lo.toInt64 hi.toInt64 M = f_X6_within x lo hi M := by
  unfold f_X7_in f_X6_within
  simp only [cmp_lt, cmp_gt, wide_lt]
/-- within or not, for both -/
theorem W_cases (x : Int32) {lo hi : Nat} {a b : Int32} {a' b' : Int64} (ha : a = nI lo) (hb : b = nI hi) (ha' : a' = a.toInt64) (hb' : b' = b.toInt64) (hh : hi < 2147483648) (hl : lo < 2147483648) :
    ((∀ M, f_X6_within x a b M = some ((0 : Int32), M)) ∧ (∀ M, f_X7_in x.toInt64 a' b' M = some ((0 : Int32), M))) ∨
    (∃ j, lo ≤ j ∧ j ≤ hi ∧ x = nI j ∧ (∀ M, f_X6_within x a b M = some ((1 : Int32), M)) ∧ (∀ M, f_X7_in x.toInt64 a' b' M = some ((1 : Int32), M))) := by
  subst ha'
  subst hb'
  simp only [in_within]
  unfold f_X6_within
  by_cases h1 : x < a
  · left
    simp only [h1, if_true, implies_true, and_self]
  · by_cases h2 : b < x
    · left
      simp only [h2, if_true, if_neg h1, implies_true, and_self]
    · right
      subst ha
      subst hb
      have q1 : (lo : Int) ≤ x.toInt := by
        have : ¬ x.toInt < (nI lo).toInt := fun q => h1 (Int32.lt_iff_toInt_lt.mpr q)
        rw [nI_toInt hl] at this
        omega
      have q2 : x.toInt ≤ (hi : Int) := by
        have : ¬ (nI hi).toInt < x.toInt := fun q => h2 (Int32.lt_iff_toInt_lt.mpr q)
        rw [nI_toInt hh] at this
        omega
      refine ⟨x.toInt.toNat, by omega, by omega, ?_, ?_⟩
      · apply Int32.toInt_inj.mp
        rw [nI_toInt (by omega)]
        omega
      · simp only [if_neg h1, if_neg h2, implies_true, and_self]
/-- the same against a number that stands in both -/
theorem W_cases1 (x : Int32) {n : Nat} (hn : n < 2147483648) :
    ((∀ M, f_X6_within x (0 : Int32) (nI n - (1 : Int32)) M = some ((0 : Int32), M)) ∧ (∀ M, f_X7_in x.toInt64 (0 : Int64) (nI n - (1 : Int32)).toInt64 M = some ((0 : Int32), M))) ∨
    (∃ j, j < n ∧ x = nI j ∧ (∀ M, f_X6_within x (0 : Int32) (nI n - (1 : Int32)) M = some ((1 : Int32), M)) ∧ (∀ M, f_X7_in x.toInt64 (0 : Int64) (nI n - (1 : Int32)).toInt64 M = some ((1 : Int32), M))) := by
  by_cases h0 : n = 0
  · subst h0
    left
    have key : ∀ M, f_X6_within x (0 : Int32) (nI 0 - (1 : Int32)) M = some ((0 : Int32), M) := by
      intro M
      unfold f_X6_within
      by_cases h1 : x < 0
      · rw [if_pos h1]
      · rw [if_neg h1, if_pos]
        rw [show nI 0 - (1 : Int32) = (-1 : Int32) from by decide]
        refine Int32.lt_iff_toInt_lt.mpr ?_
        have : ¬ x.toInt < (0 : Int32).toInt := fun q => h1 (Int32.lt_iff_toInt_lt.mpr q)
        rw [show (0 : Int32).toInt = 0 from by decide] at this
        rw [show (-1 : Int32).toInt = -1 from by decide]
        omega
    refine ⟨key, fun M => ?_⟩
    rw [show (0 : Int64) = (0 : Int32).toInt64 from by decide, in_within]
    exact key M
  · rw [show nI n - (1 : Int32) = nI (n - 1) from nsub (a := n) (b := 1) (by omega)]
    rcases W_cases x (lo := 0) (hi := n - 1) (a := (0 : Int32)) (b := nI (n - 1)) (a' := (0 : Int64)) (b' := (nI (n - 1)).toInt64) rfl rfl (by decide) rfl (by omega) (by decide) with h | ⟨j, h1, h2, h3, h4⟩
    · exact Or.inl h
    · exact Or.inr ⟨j, by omega, h3, h4⟩
theorem cbz0 {α : Type} (a : Option α) : cbz (0 : Int32) a = a := by unfold cbz; rw [if_pos (Or.inl rfl)]
theorem cbz1 {α : Type} (a : Option α) : cbz (1 : Int32) a = a := by unfold cbz; rw [if_pos (Or.inr rfl)]
theorem i10 : ((1 : Int32) = 0) = False := by decide
theorem tooth_cases (x : Int32) {n : Nat} (hn : n < 2147483648) :
    ((∀ M : Mem, M 3 1 = nI n → f_X6_hasTooth x M = some ((0 : Int32), M)) ∧ (∀ M : Mem, M 280 0 = nI n → f_X7_isTooth x M = some ((0 : Int32), M))) ∨
    (∃ j, j < n ∧ x = nI j ∧ (∀ M : Mem, M 3 1 = nI n → f_X6_hasTooth x M = some ((1 : Int32), M)) ∧ (∀ M : Mem, M 280 0 = nI n → f_X7_isTooth x M = some ((1 : Int32), M))) := by
  unfold f_X6_hasTooth f_X7_isTooth
  rcases W_cases1 x hn with ⟨h1, h2⟩ | ⟨j, h1, h2, h3, h4⟩
  · exact Or.inl ⟨fun M e => by rw [e, h1, cb_k, cbz0], fun M e => by rw [e, h2, cb_k, cbz0]⟩
  · exact Or.inr ⟨j, h1, h2, fun M e => by rw [e, h3, cb_k, cbz1], fun M e => by rw [e, h4, cb_k, cbz1]⟩
theorem column_cases (x : Int32) {n : Nat} (hn : n < 2147483648) :
    ((∀ M : Mem, M 3 0 = nI n → f_X6_hasColumn x M = some ((0 : Int32), M)) ∧ (∀ M : Mem, M 280 1 = nI n → f_X7_isColumn x M = some ((0 : Int32), M))) ∨
    (∃ j, j < n ∧ x = nI j ∧ (∀ M : Mem, M 3 0 = nI n → f_X6_hasColumn x M = some ((1 : Int32), M)) ∧ (∀ M : Mem, M 280 1 = nI n → f_X7_isColumn x M = some ((1 : Int32), M))) := by
  unfold f_X6_hasColumn f_X7_isColumn
  rcases W_cases1 x hn with ⟨h1, h2⟩ | ⟨j, h1, h2, h3, h4⟩
  · exact Or.inl ⟨fun M e => by rw [e, h1, cb_k, cbz0], fun M e => by rw [e, h2, cb_k, cbz0]⟩
  · exact Or.inr ⟨j, h1, h2, fun M e => by rw [e, h3, cb_k, cbz1], fun M e => by rw [e, h4, cb_k, cbz1]⟩
theorem box_cases {n : Nat} (hn : n < 2147483648) :
    (n = 0 ∧ (∀ M : Mem, M 3 1 = nI n → f_X6_hasBox M = some ((0 : Int32), M)) ∧ (∀ M : Mem, M 280 0 = nI n → f_X7_isBox M = some ((0 : Int32), M))) ∨
    (0 < n ∧ (∀ M : Mem, M 3 1 = nI n → f_X6_hasBox M = some ((1 : Int32), M)) ∧ (∀ M : Mem, M 280 0 = nI n → f_X7_isBox M = some ((1 : Int32), M))) := by
  unfold f_X6_hasBox f_X7_isBox
  by_cases h : n = 0
  · refine Or.inl ⟨h, fun M e => ?_, fun M e => ?_⟩ <;> rw [e, if_pos (by rw [nle0 hn]; exact h)]
  · refine Or.inr ⟨by omega, fun M e => ?_, fun M e => ?_⟩ <;> rw [e, if_neg (by rw [nle0 hn]; exact h)]
theorem row_cases (x : Int32) :
    ((∀ M, f_X6_isRow x M = some ((0 : Int32), M)) ∧ (∀ M, f_X7_isRow x M = some ((0 : Int32), M))) ∨
    (∃ j, j < 8 ∧ x = nI j ∧ (∀ M, f_X6_isRow x M = some ((1 : Int32), M)) ∧ (∀ M, f_X7_isRow x M = some ((1 : Int32), M))) := by
  unfold f_X6_isRow f_X7_isRow
  rcases W_cases x (lo := 0) (hi := 7) (a := (0 : Int32)) (b := (7 : Int32)) (a' := (0 : Int64)) (b' := (7 : Int64)) rfl rfl (by decide) (by decide) (by decide) (by decide) with ⟨h1, h2⟩ | ⟨j, h0, h1, h2, h3, h4⟩
  · exact Or.inl ⟨fun M => by rw [h1, cb_k, cbz0], fun M => by rw [h2, cb_k, cbz0]⟩
  · exact Or.inr ⟨j, by omega, h2, fun M => by rw [h3, cb_k, cbz1], fun M => by rw [h4, cb_k, cbz1]⟩
