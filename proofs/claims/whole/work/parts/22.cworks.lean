/-! a box in six cells of the class -/
theorem up2_s (M : Mem) (c j : Nat) (x : Int32) : up2 M c j x c j = x := by simp [up2, va_up, upd]
theorem up2_n {M : Mem} {a s : Nat} {x : Int32} {c j : Nat} (h : c ≠ a ∨ j ≠ s) : up2 M a s x c j = M c j := by
  unfold up2 va_up upd
  by_cases h1 : c = a
  · subst h1
    have h2 : j ≠ s := by
      rcases h with h | h
      · exact absurd rfl h
      · exact h
    simp [h2]
  · simp [h1]
theorem up2_c {M : Mem} {a s : Nat} {x : Int32} {c : Nat} (h : c ≠ a) : up2 M a s x c = M c := by
  funext j
  exact up2_n (Or.inl h)
def lc (k : Nat) : Nat := if k < 6 then 0 else if k < 12 then 2 else if k < 18 then 3 else if k < 24 then 4 else if k < 30 then 5 else 1
def sl (k : Nat) : Nat := if k = 0 then 1 else if k = 1 then 0 else if k < 6 then k else if k < 12 then k - 6 else if k < 18 then k - 12 else if k < 24 then k - 18 else if k < 30 then k - 24 else k - 30
def rel (n c k : Nat) : Prop := k < 6 ∨ (6 ≤ k ∧ k < 6 + n) ∨ (12 ≤ k ∧ k < 12 + n) ∨ (18 ≤ k ∧ k < 18 + n) ∨ (24 ≤ k ∧ k < 24 + n) ∨ (30 ≤ k ∧ k < 30 + c)
theorem lc_inj : ∀ q, q < 42 → ∀ k, k < 42 → q ≠ k → lc q ≠ lc k ∨ sl q ≠ sl k := by decide +kernel
theorem lc_le : ∀ k, lc k ≤ 5 := by
  intro k
  unfold lc
  repeat' split
  all_goals omega
theorem lc6 : ∀ j, j < 6 → lc (6 + j) = 2 ∧ sl (6 + j) = j := by decide +kernel
theorem lc12 : ∀ j, j < 6 → lc (12 + j) = 3 ∧ sl (12 + j) = j := by decide +kernel
theorem lc18 : ∀ j, j < 6 → lc (18 + j) = 4 ∧ sl (18 + j) = j := by decide +kernel
theorem lc24 : ∀ j, j < 6 → lc (24 + j) = 5 ∧ sl (24 + j) = j := by decide +kernel
theorem lc30 : ∀ j, j < 12 → lc (30 + j) = 1 ∧ sl (30 + j) = j := by decide +kernel
def isW (M : Mem) (r : Nat) (b : Nat → Nat) : Prop := b 0 ≤ 6 ∧ b 1 ≤ 12 ∧ ∀ k, rel (b 0) (b 1) k → M (r + lc k) (sl k) = nI (b k)
theorem rel_lt {n c k : Nat} (hn : n ≤ 6) (hc : c ≤ 12) (h : rel n c k) : k < 42 := by
  unfold rel at h
  omega
section GET
variable {M : Mem} {r : Nat} {b : Nat → Nat}
theorem isW.cols (h : isW M r b) : M r 0 = nI (b 1) := h.2.2 1 (Or.inl (by decide))
theorem isW.teeth (h : isW M r b) : M r 1 = nI (b 0) := h.2.2 0 (Or.inl (by decide))
theorem isW.spring (h : isW M r b) : M r 2 = nI (b 2) := h.2.2 2 (Or.inl (by decide))
theorem isW.drum (h : isW M r b) : M r 3 = nI (b 3) := h.2.2 3 (Or.inl (by decide))
theorem isW.tk (h : isW M r b) : M r 4 = nI (b 4) := h.2.2 4 (Or.inl (by decide))
theorem isW.broken (h : isW M r b) : M r 5 = nI (b 5) := h.2.2 5 (Or.inl (by decide))
theorem isW.kind (h : isW M r b) {j : Nat} (hj : j < b 0) : M (r + 2) j = nI (b (6 + j)) := by
  have e := lc6 j (by have := h.1; omega)
  have := h.2.2 (6 + j) (by unfold rel; omega)
  rwa [e.1, e.2] at this
theorem isW.tuned (h : isW M r b) {j : Nat} (hj : j < b 0) : M (r + 3) j = nI (b (12 + j)) := by
  have e := lc12 j (by have := h.1; omega)
  have := h.2.2 (12 + j) (by unfold rel; omega)
  rwa [e.1, e.2] at this
theorem isW.rings (h : isW M r b) {j : Nat} (hj : j < b 0) : M (r + 4) j = nI (b (18 + j)) := by
  have e := lc18 j (by have := h.1; omega)
  have := h.2.2 (18 + j) (by unfold rel; omega)
  rwa [e.1, e.2] at this
theorem isW.plucked (h : isW M r b) {j : Nat} (hj : j < b 0) : M (r + 5) j = nI (b (24 + j)) := by
  have e := lc24 j (by have := h.1; omega)
  have := h.2.2 (24 + j) (by unfold rel; omega)
  rwa [e.1, e.2] at this
theorem isW.pins (h : isW M r b) {j : Nat} (hj : j < b 1) : M (r + 1) j = nI (b (30 + j)) := by
  have e := lc30 j (by have := h.2.1; omega)
  have := h.2.2 (30 + j) (by unfold rel; omega)
  rwa [e.1, e.2] at this
theorem isW.set (h : isW M r b) {k : Nat} (v : Nat) (h2 : 2 ≤ k) (h42 : k < 42) : isW (up2 M (r + lc k) (sl k) (nI v)) r (up b k v) := by
  have e0 : up b k v 0 = b 0 := up_n (by omega)
  have e1 : up b k v 1 = b 1 := up_n (by omega)
  refine ⟨by rw [e0]; exact h.1, by rw [e1]; exact h.2.1, fun q hq => ?_⟩
  rw [e0, e1] at hq
  have hl := rel_lt h.1 h.2.1 hq
  by_cases hqk : q = k
  · subst hqk
    rw [up2_s, up_s]
  · rw [up2_n (by have := lc_inj q hl k h42 hqk; omega), up_n hqk]
    exact h.2.2 q hq
theorem isW.setF (h : isW M r b) {k : Nat} (v : Nat) (h2 : 2 ≤ k) (h6 : k < 6) : isW (up2 M r k (nI v)) r (up b k v) := by
  have e1 : lc k = 0 := by unfold lc; rw [if_pos h6]
  have e2 : sl k = k := by unfold sl; rw [if_neg (by omega), if_neg (by omega), if_pos h6]
  have := h.set (k := k) v h2 (by omega)
  rwa [e1, e2] at this
theorem isW.setK (h : isW M r b) {j : Nat} (v : Nat) (hj : j < 6) : isW (up2 M (r + 2) j (nI v)) r (up b (6 + j) v) := by
  have := h.set (k := 6 + j) v (by omega) (by omega)
  rwa [(lc6 j hj).1, (lc6 j hj).2] at this
theorem isW.setT (h : isW M r b) {j : Nat} (v : Nat) (hj : j < 6) : isW (up2 M (r + 3) j (nI v)) r (up b (12 + j) v) := by
  have := h.set (k := 12 + j) v (by omega) (by omega)
  rwa [(lc12 j hj).1, (lc12 j hj).2] at this
theorem isW.setR (h : isW M r b) {j : Nat} (v : Nat) (hj : j < 6) : isW (up2 M (r + 4) j (nI v)) r (up b (18 + j) v) := by
  have := h.set (k := 18 + j) v (by omega) (by omega)
  rwa [(lc18 j hj).1, (lc18 j hj).2] at this
theorem isW.setP (h : isW M r b) {j : Nat} (v : Nat) (hj : j < 6) : isW (up2 M (r + 5) j (nI v)) r (up b (24 + j) v) := by
  have := h.set (k := 24 + j) v (by omega) (by omega)
  rwa [(lc24 j hj).1, (lc24 j hj).2] at this
theorem isW.setN (h : isW M r b) {j : Nat} (v : Nat) (hj : j < 12) : isW (up2 M (r + 1) j (nI v)) r (up b (30 + j) v) := by
  have := h.set (k := 30 + j) v (by omega) (by omega)
  rwa [(lc30 j hj).1, (lc30 j hj).2] at this
theorem isW.a42 (h : isW M r b) (v : Nat) : isW M r (up b 42 v) := by
  refine ⟨h.1, h.2.1, fun q hq => ?_⟩
  have hl : q < 42 := rel_lt h.1 h.2.1 hq
  rw [up_n (by omega)]
  exact h.2.2 q hq
theorem isW.cong (h : isW M r b) {b' : Nat → Nat} (h0 : b' 0 = b 0) (h1 : b' 1 = b 1) (e : ∀ k, rel (b 0) (b 1) k → b' k = b k) : isW M r b' := by
  refine ⟨by rw [h0]; exact h.1, by rw [h1]; exact h.2.1, fun q hq => ?_⟩
  rw [h0, h1] at hq
  rw [e q hq]
  exact h.2.2 q hq
end GET
/-- outside the six cells nothing changes -/
def fr6 (r : Nat) (M M' : Mem) : Prop := ∀ c, (c < r ∨ r + 5 < c) → M' c = M c
theorem fr6.rf (r : Nat) (M : Mem) : fr6 r M M := fun _ _ => rfl
theorem fr6.tr {r : Nat} {M M' M'' : Mem} (h : fr6 r M M') (h' : fr6 r M' M'') : fr6 r M M'' := fun c hc => (h' c hc).trans (h c hc)
theorem fr6.u {r : Nat} {M M' : Mem} (h : fr6 r M M') {i : Nat} (hi : i ≤ 5) (s : Nat) (x : Int32) : fr6 r M (up2 M' (r + i) s x) := fun c hc => (up2_c (by omega)).trans (h c hc)
theorem fr6.u0 {r : Nat} {M M' : Mem} (h : fr6 r M M') (s : Nat) (x : Int32) : fr6 r M (up2 M' r s x) := fun c hc => (up2_c (by omega)).trans (h c hc)
theorem isW.kept {M M' : Mem} {r : Nat} {b : Nat → Nat} (h : isW M r b) (e : ∀ c, r ≤ c → c ≤ r + 5 → M' c = M c) : isW M' r b := by
  refine ⟨h.1, h.2.1, fun k hk => ?_⟩
  rw [e (r + lc k) (by omega) (by have := lc_le k; omega)]
  exact h.2.2 k hk
theorem isW.fr {M M' : Mem} {r o : Nat} {b : Nat → Nat} (h : isW M o b) (f : fr6 r M M') (hd : o + 5 < r ∨ r + 5 < o) : isW M' o b := h.kept (fun c h1 h2 => f c (by omega))
/-- answers -/
def dV (r : Nat) (M : Mem) (b : Nat → Nat) (o : Option Mem) : Prop := ∃ M', o = some M' ∧ isW M' r b ∧ fr6 r M M'
def dI (r : Nat) (M : Mem) (x : Int32) (b : Nat → Nat) (o : Option (Int32 × Mem)) : Prop := ∃ M', o = some (x, M') ∧ isW M' r b ∧ fr6 r M M'
theorem max0 {v c : Nat} (hv : v < 1073741824) (hc : c < 1073741824) : (if (0 : Int32) < nI v - nI c then nI v - nI c else (0 : Int32)) = nI (v - c) := by
  by_cases h : c ≤ v
  · rw [nsub h]
    by_cases h0 : v - c = 0
    · rw [h0, if_neg (by rw [n0lt (by decide)]; decide)]
      rfl
    · rw [if_pos (by rw [n0lt (by omega)]; omega)]
  · have h1 := pk_sneg (a := v) (b := c) hc (by omega)
    rw [if_neg (fun q => ?_), show v - c = 0 by omega]
    · rfl
    · have a1 := Int32.lt_iff_toInt_lt.mp h1
      have a2 := Int32.lt_iff_toInt_lt.mp q
      omega
section WORKS
variable {M : Mem} {r : Nat} {b : Nat → Nat}
theorem T_columnBehind (h : isW M r b) (hd : b 3 < 1000) : f_X5_columnBehind r M = some (nI (nx b), M) := by
  have h1 := h.2.1
  unfold f_X5_columnBehind nx
  rw [h.cols, h.drum, nI_1]
  simp (disch := omega) only [nle]
  by_cases q : b 3 + 1 < b 1
  · rw [if_neg (by omega), if_pos q]
  · rw [if_pos (by omega), if_neg q]
    rfl
theorem T_faded {k v : Nat} (hk : k < 1000) (hv : v < 1000) : f_X5_faded (nI k) (nI v) M = some (nI (fd k v), M) := by
  unfold f_X5_faded f_X5_faded_46 fd
  have m1 := max0 (v := v) (c := 1) (by omega) (by decide)
  have m2 := max0 (v := v) (c := 2) (by omega) (by decide)
  rw [show nI 1 = (1 : Int32) from rfl] at m1
  rw [show nI 2 = (2 : Int32) from rfl] at m2
  simp only [lt_k, m1, m2]
  simp (disch := omega) only [l_2, l_3, l_4, l_5, ndiv, neq]
  by_cases q2 : k = 2
  · simp only [q2, if_true]
    rfl
  · by_cases q3 : k = 3
    · simp [q3]
    · by_cases q4 : k = 4
      · simp [q4]
      · by_cases q5 : k = 5
        · simp [q5]
        · simp [q2, q3, q4, q5]
theorem T_stir {k t : Nat} (h : isW M r b) (hw : WF b) (hk : k ≤ 6) (ht : t ≤ 18) : dV r M (stir b k t) (f_X5_stir r (nI k) (nI t) M) := by
  have h0 := h.1
  unfold f_X5_stir stir
  have h5 := hw.2.2.2.2.1
  have hb := bit_lt (b 5) k
  rw [h.teeth, h.broken, nhas (by omega) (by omega)]
  simp (disch := omega) only [nle, neq0]
  by_cases q : b 0 ≤ k
  · rw [if_pos q, if_neg (by omega)]
    exact ⟨M, rfl, h, fr6.rf r M⟩
  · have hr := (hw.2.2.2.2.2.1 k (by omega)).2.2.1
    rw [if_neg q, nI_ck (by omega) (by decide), nI_ck (by omega) (by decide), nI_cl (by omega), h.rings (by omega)]
    simp (disch := omega) only [nle]
    by_cases q5 : bit (b 5) k = 0
    · rw [if_pos q5]
      by_cases qr : t ≤ b (18 + k)
      · rw [if_pos qr, if_neg (by omega)]
        exact ⟨M, rfl, h, fr6.rf r M⟩
      · rw [if_neg qr, if_pos (by omega)]
        exact ⟨_, rfl, h.setR t (by omega), (fr6.rf r M).u (by decide) _ _⟩
    · rw [if_neg q5, if_neg (by omega)]
      exact ⟨M, rfl, h, fr6.rf r M⟩
theorem pluck_of1 {k : Nat} (h3 : b (6 + k) ≠ 3) (h5 : b (6 + k) ≠ 5) : pluck b k = pk1 b k := by
  unfold pluck pk2
  rw [if_neg (by omega), if_neg h3]
def pk0 (b : Nat → Nat) (k : Nat) : Nat → Nat := up (up (up b 2 (b 2 - 1)) 42 (b 42 + 1)) (24 + k) (if b (24 + k) < 99 then b (24 + k) + 1 else b (24 + k))
theorem pk1_of (b : Nat → Nat) (k : Nat) : pk1 b k = up (pk0 b k) (18 + k) (ringOf b k) := rfl
theorem pk0_n {k i : Nat} (h2 : i ≠ 2) (h4 : i ≠ 42) (h24 : i ≠ 24 + k) : pk0 b k i = b i := by
  unfold pk0
  rw [up_n h24, up_n h4, up_n h2]
theorem T_pluck {k : Nat} (h : isW M r b) (hw : WF b) (hk : k < b 0) (hs : 0 < b 2) : dV r M (pluck b k) (f_X5_pluck r (nI k) M) := by
  have h6 : k < 6 := by have := hw.1.2; omega
  have h99 := hw.2.2.1
  obtain ⟨g1, g2, g3, g4⟩ := hw.2.2.2.2.2.1 k hk
  unfold f_X5_pluck
  simp only [lt_k]
  simp (disch := omega) only [nI_ck, nI_cl]
  rw [h.spring, show nI (b 2) - 1 = nI (b 2 - 1) from nsub (a := b 2) (b := 1) (by omega)]
  have i1 : isW (up2 M r 2 (nI (b 2 - 1))) r (up (up b 2 (b 2 - 1)) 42 (b 42 + 1)) := (h.setF (k := 2) _ (by decide) (by decide)).a42 _
  have f1 : fr6 r M (up2 M r 2 (nI (b 2 - 1))) := (fr6.rf r M).u0 _ _
  generalize up2 M r 2 (nI (b 2 - 1)) = M1 at i1 f1 ⊢
  have e1 : M1 (r + 5) k = nI (b (24 + k)) := by
    rw [i1.plucked (by rw [up_n (by omega), up_n (by omega)]; exact hk), up_n (by omega), up_n (by omega)]
  have e2 : (if M1 (r + 5) k + 1 < (99 : Int32) then M1 (r + 5) k + 1 else (99 : Int32)) = nI (if b (24 + k) < 99 then b (24 + k) + 1 else b (24 + k)) := by
    rw [e1, nI_1]
    simp (disch := omega) only [l_99, nlt]
    by_cases q : b (24 + k) + 1 < 99
    · rw [if_pos q, if_pos (by omega)]
    · rw [if_neg q]
      by_cases q2 : b (24 + k) < 99
      · rw [if_pos q2, show b (24 + k) + 1 = 99 by omega]
      · rw [if_neg q2, show b (24 + k) = 99 by omega]
  rw [e2]
  have i2 : isW (up2 M1 (r + 5) k (nI (if b (24 + k) < 99 then b (24 + k) + 1 else b (24 + k)))) r (pk0 b k) := i1.setP _ h6
  have f2 := f1.u (i := 5) (by decide) k (nI (if b (24 + k) < 99 then b (24 + k) + 1 else b (24 + k)))
  generalize up2 M1 (r + 5) k (nI (if b (24 + k) < 99 then b (24 + k) + 1 else b (24 + k))) = M3 at i2 f2 ⊢
  have t0 : pk0 b k 0 = b 0 := pk0_n (by omega) (by omega) (by omega)
  have hk' : k < pk0 b k 0 := by rw [t0]; exact hk
  have eK : M3 (r + 2) k = nI (b (6 + k)) := by rw [i2.kind hk', pk0_n (by omega) (by omega) (by omega)]
  have eT : M3 (r + 3) k = nI (b (12 + k)) := by rw [i2.tuned hk', pk0_n (by omega) (by omega) (by omega)]
  have eS : M3 r 2 = nI (b 2 - 1) := by
    rw [i2.spring]
    unfold pk0
    rw [up_n (by omega), up_n (by omega), up_s]
  have eP : pk0 b k (24 + k) = (if b (24 + k) < 99 then b (24 + k) + 1 else b (24 + k)) := up_s _ _ _
  rw [eK, eT, eS]
  simp (disch := omega) only [l_2, l_3, l_4, l_5, l_10, neq, mul_n, ndiv, nI_add]
  have w1 := WF_pk1 hw hk
  by_cases q2 : b (6 + k) = 2
  · rw [if_pos q2]
    refine ⟨_, rfl, ?_, f2.u (i := 4) (by decide) _ _⟩
    rw [pluck_of1 (by omega) (by omega), pk1_of, show ringOf b k = b (12 + k) by unfold ringOf; rw [if_pos q2]]
    exact i2.setR _ h6
  · rw [if_neg q2]
    by_cases q3 : b (6 + k) = 3
    · have hr : ringOf b k = 2 * b (12 + k) := by unfold ringOf; rw [if_neg q2, if_pos (by omega)]
      rw [if_pos q3]
      have i3 : isW (up2 M3 (r + 4) k (nI (2 * b (12 + k)))) r (pk1 b k) := by rw [pk1_of, hr]; exact i2.setR _ h6
      have f3 := f2.u (i := 4) (by decide) k (nI (2 * b (12 + k)))
      generalize up2 M3 (r + 4) k (nI (2 * b (12 + k))) = M13 at i3 f3 ⊢
      have s0 : pk1 b k 0 = b 0 := pk1_n (by omega) (by omega) (by omega) (by omega)
      have eT2 : M13 (r + 3) k = nI (b (12 + k)) := by rw [i3.tuned (by rw [s0]; exact hk), pk1_n (by omega) (by omega) (by omega) (by omega)]
      rw [eT2, nI_1]
      obtain ⟨M4, e4, i4, f4⟩ := T_stir (k := k + 1) (t := b (12 + k)) i3 w1 (by omega) (by omega)
      rw [e4, cv_k]
      refine ⟨M4, rfl, ?_, f3.tr f4⟩
      have : pluck b k = stir (pk1 b k) (k + 1) (b (12 + k)) := by
        unfold pluck pk2
        rw [if_neg (by omega), if_pos q3]
      rw [this]
      exact i4
    · rw [if_neg q3]
      by_cases q4 : b (6 + k) = 4
      · rw [if_pos q4]
        refine ⟨_, rfl, ?_, f2.u (i := 4) (by decide) _ _⟩
        rw [pluck_of1 (by omega) (by omega), pk1_of, show ringOf b k = b (12 + k) + (b 2 - 1) / 10 by unfold ringOf; rw [if_neg q2, if_neg (by omega)]]
        exact i2.setR _ h6
      · rw [if_neg q4]
        by_cases q5 : b (6 + k) = 5
        · have hr : ringOf b k = b (12 + k) + (b 2 - 1) / 10 := by unfold ringOf; rw [if_neg q2, if_neg (by omega)]
          rw [if_pos q5]
          have i3 : isW (up2 M3 (r + 4) k (nI (b (12 + k) + (b 2 - 1) / 10))) r (pk1 b k) := by rw [pk1_of, hr]; exact i2.setR _ h6
          have f3 := f2.u (i := 4) (by decide) k (nI (b (12 + k) + (b 2 - 1) / 10))
          generalize up2 M3 (r + 4) k (nI (b (12 + k) + (b 2 - 1) / 10)) = M24 at i3 f3 ⊢
          have s0 : pk1 b k 0 = b 0 := pk1_n (by omega) (by omega) (by omega) (by omega)
          have eP2 : M24 (r + 5) k = nI (pk1 b k (24 + k)) := i3.plucked (by rw [s0]; exact hk)
          have e24 : pk1 b k (24 + k) ≤ 99 := (w1.2.2.2.2.2.1 k (by rw [s0]; exact hk)).2.2.2
          have s5 : pk1 b k 5 = b 5 := pk1_n (by omega) (by omega) (by omega) (by omega)
          have ep : pk2 b k = pk1 b k := by unfold pk2; rw [if_neg q3]
          rw [eP2, i3.broken, s5, nshl1 k (by omega), nor]
          simp (disch := omega) only [nlt]
          by_cases q6 : pk1 b k (24 + k) < 3
          · rw [if_pos q6]
            refine ⟨_, rfl, ?_, f3⟩
            have : pluck b k = pk1 b k := by unfold pluck; rw [if_neg (by omega), ep]
            rw [this]
            exact i3
          · rw [if_neg q6]
            refine ⟨_, rfl, ?_, f3.u0 _ _⟩
            have : pluck b k = up (pk1 b k) 5 (b 5 ||| 2 ^ k) := by unfold pluck; rw [if_pos (by omega), ep]
            rw [this]
            exact i3.setF (k := 5) _ (by decide) (by decide)
        · rw [if_neg q5]
          refine ⟨_, rfl, ?_, f2.u (i := 4) (by decide) _ _⟩
          rw [pluck_of1 (by omega) (by omega), pk1_of, show ringOf b k = 2 * b (12 + k) by unfold ringOf; rw [if_neg q2, if_pos (by omega)]]
          exact i2.setR _ h6
end WORKS
