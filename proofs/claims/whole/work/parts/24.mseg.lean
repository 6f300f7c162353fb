/-! a box in the reference's row of numbers -/
theorem up_same (b : Nat → Nat) (k : Nat) : up b k (b k) = b := by
  funext i
  unfold up
  split
  · rename_i h
    rw [h]
  · rfl
theorem n_a0 (x : Int32) : x + (0 : Int32) = x := Int32.add_zero x
theorem n_or0 (v : Nat) : nI v ||| (0 : Int32) = nI v := by
  rw [show (0 : Int32) = nI 0 from rfl, nor, Nat.or_zero]
def isS (M : Mem) (o : Nat) (b : Nat → Nat) : Prop := b 0 ≤ 6 ∧ b 1 ≤ 12 ∧ ∀ k, (rel (b 0) (b 1) k ∨ k = 42) → M 280 (o + k) = nI (b k)
section GETS
variable {M : Mem} {o : Nat} {b : Nat → Nat}
theorem isS.f (h : isS M o b) {k : Nat} (hk : k < 6) : M 280 (o + k) = nI (b k) := h.2.2 k (Or.inl (Or.inl hk))
theorem isS.f0 (h : isS M o b) : M 280 o = nI (b 0) := h.2.2 0 (Or.inl (Or.inl (by decide)))
theorem isS.l (h : isS M o b) : M 280 (o + 42) = nI (b 42) := h.2.2 42 (Or.inr rfl)
theorem isS.kind (h : isS M o b) {j : Nat} (hj : j < b 0) : M 280 (o + 6 + j) = nI (b (6 + j)) := by
  rw [Nat.add_assoc]
  exact h.2.2 (6 + j) (Or.inl (by unfold rel; omega))
theorem isS.tuned (h : isS M o b) {j : Nat} (hj : j < b 0) : M 280 (o + 12 + j) = nI (b (12 + j)) := by
  rw [Nat.add_assoc]
  exact h.2.2 (12 + j) (Or.inl (by unfold rel; omega))
theorem isS.rings (h : isS M o b) {j : Nat} (hj : j < b 0) : M 280 (o + 18 + j) = nI (b (18 + j)) := by
  rw [Nat.add_assoc]
  exact h.2.2 (18 + j) (Or.inl (by unfold rel; omega))
theorem isS.plucked (h : isS M o b) {j : Nat} (hj : j < b 0) : M 280 (o + 24 + j) = nI (b (24 + j)) := by
  rw [Nat.add_assoc]
  exact h.2.2 (24 + j) (Or.inl (by unfold rel; omega))
theorem isS.pins (h : isS M o b) {j : Nat} (hj : j < b 1) : M 280 (o + 30 + j) = nI (b (30 + j)) := by
  rw [Nat.add_assoc]
  exact h.2.2 (30 + j) (Or.inl (by unfold rel; omega))
theorem isS.set (h : isS M o b) {k : Nat} (v : Nat) (h2 : 2 ≤ k) : isS (up2 M 280 (o + k) (nI v)) o (up b k v) := by
  have e0 : up b k v 0 = b 0 := up_n (by omega)
  have e1 : up b k v 1 = b 1 := up_n (by omega)
  refine ⟨by rw [e0]; exact h.1, by rw [e1]; exact h.2.1, fun q hq => ?_⟩
  rw [e0, e1] at hq
  by_cases hqk : q = k
  · subst hqk
    rw [up2_s, up_s]
  · rw [up2_n (by omega), up_n hqk]
    exact h.2.2 q hq
theorem isS.setJ (h : isS M o b) {a j : Nat} (v : Nat) (h2 : 2 ≤ a) : isS (up2 M 280 (o + a + j) (nI v)) o (up b (a + j) v) := by
  rw [Nat.add_assoc]
  exact h.set v (by omega)
end GETS
def frS (o : Nat) (M M' : Mem) : Prop := (∀ c, c ≠ 280 → M' c = M c) ∧ ∀ j, (j < o ∨ o + 42 < j) → M' 280 j = M 280 j
theorem frS.rf (o : Nat) (M : Mem) : frS o M M := ⟨fun _ _ => rfl, fun _ _ => rfl⟩
theorem frS.tr {o : Nat} {M M' M'' : Mem} (h : frS o M M') (h' : frS o M' M'') : frS o M M'' := ⟨fun c hc => (h'.1 c hc).trans (h.1 c hc), fun j hj => (h'.2 j hj).trans (h.2 j hj)⟩
theorem frS.u {o : Nat} {M M' : Mem} (h : frS o M M') {k : Nat} (h1 : o ≤ k) (h2 : k ≤ o + 42) (x : Int32) : frS o M (up2 M' 280 k x) := ⟨fun c hc => (up2_c hc).trans (h.1 c hc), fun j hj => (up2_n (by omega)).trans (h.2 j hj)⟩
theorem isS.kept {M M' : Mem} {o : Nat} {b : Nat → Nat} (h : isS M o b) (e : ∀ j, o ≤ j → j ≤ o + 42 → M' 280 j = M 280 j) : isS M' o b := by
  refine ⟨h.1, h.2.1, fun k hk => ?_⟩
  have : k ≤ 42 := by
    rcases hk with hk | hk
    · have := rel_lt h.1 h.2.1 hk
      omega
    · omega
  rw [e (o + k) (by omega) (by omega)]
  exact h.2.2 k hk
theorem isS.fr {M M' : Mem} {o p : Nat} {b : Nat → Nat} (h : isS M p b) (f : frS o M M') (hd : p + 42 < o ∨ o + 42 < p) : isS M' p b := h.kept (fun j h1 h2 => f.2 j (by omega))
def sV' (o : Nat) (M : Mem) (b : Nat → Nat) (x : Option Mem) : Prop := ∃ M', x = some M' ∧ isS M' o b ∧ frS o M M'
section SEG
variable {M : Mem} {o : Nat} {b : Nat → Nat}
theorem S_has {v t : Nat} (hv : v < 2147483648) (ht : t < 32) : f_X7_has (nI v) (nI t) M = some (nI (bit v t), M) := by
  have hb := bit_lt v t
  unfold f_X7_has
  rw [nhas hv ht]
  simp (disch := omega) only [l_1, neq]
  by_cases q : bit v t = 1
  · rw [if_pos q, q]
  · rw [if_neg q, show bit v t = 0 by omega]
    rfl
theorem S_76 {x1 x2 : Int32} {K : Int32 → Mem → Option Mem} {v c : Nat} (hv : v < 1000) (hc : c < 1000) : f_X7_fades_76 x1 K x2 (nI v - nI c) M = f_X7_fades_99 x1 K x2 ((x1 + (18 : Int32)) + x2) (nI (v - c)) M := by
  unfold f_X7_fades_76
  by_cases h : c ≤ v
  · rw [nsub h]
    simp (disch := omega) only [n0le, if_true]
  · have h1 := pk_sneg (a := v) (b := c) (by omega) (by omega)
    rw [if_neg (fun q => ?_), show v - c = 0 by omega]
    · rfl
    · have a1 := Int32.lt_iff_toInt_lt.mp h1
      have a2 := Int32.le_iff_toInt_le.mp q
      omega
theorem S_76n {x1 x2 : Int32} {K : Int32 → Mem → Option Mem} {v : Nat} (hv : v < 1000) : f_X7_fades_76 x1 K x2 (nI v) M = f_X7_fades_99 x1 K x2 ((x1 + (18 : Int32)) + x2) (nI v) M := by
  unfold f_X7_fades_76
  simp (disch := omega) only [n0le, if_true]
theorem S_fades_2 (ho : o ≤ 1204) (hw : WF b) : ∀ (c n k : Nat) (M : Mem), k + c = b 0 → c < n → isS M o (mfd b k) → sV' o M (mfd b (b 0)) (f_X7_fades_2 (nI o) n (nI k) M) := by
  have h6 := hw.1.2
  intro c
  induction c with
  | zero =>
    intro n k M hk hn h
    obtain ⟨n, rfl⟩ : ∃ m, n = m + 1 := ⟨n - 1, by omega⟩
    have e0 : mfd b k 0 = b 0 := mfd_n (by omega)
    rw [f_X7_fades_2, n_a0]
    simp (disch := omega) only [nI_ck, nI_cl]
    rw [h.f0, e0]
    simp (disch := omega) only [nle]
    rw [if_pos (by omega)]
    have : k = b 0 := by omega
    subst this
    exact ⟨M, rfl, h, frS.rf o M⟩
  | succ c ih =>
    intro n k M hk hn h
    obtain ⟨n, rfl⟩ : ∃ m, n = m + 1 := ⟨n - 1, by omega⟩
    have e0 : mfd b k 0 = b 0 := mfd_n (by omega)
    obtain ⟨g1, g2, g3, g4⟩ := hw.2.2.2.2.2.1 k (by omega)
    have eR : M 280 (o + 18 + k) = nI (b (18 + k)) := by rw [h.rings (by rw [e0]; omega), mfd_n (by omega)]
    have eK : M 280 (o + 6 + k) = nI (b (6 + k)) := by rw [h.kind (by rw [e0]; omega), mfd_n (by omega)]
    rw [f_X7_fades_2, n_a0]
    simp (disch := omega) only [nI_ck, nI_cl, l_18, l_6, nI_add, lt_k]
    rw [h.f0, e0, eR, eK]
    simp (disch := omega) only [nle]
    rw [if_neg (by omega)]
    have key : ∀ v, v = fd (b (6 + k)) (b (18 + k)) → sV' o M (mfd b (b 0)) (f_X7_fades_99 (nI o) (f_X7_fades_2 (nI o) n) (nI k) ((nI o + (18 : Int32)) + nI k) (nI v) M) := by
      intro v hv
      unfold f_X7_fades_99
      simp (disch := omega) only [nI_ck, nI_cl, l_18, nI_add, lt_k]
      rw [show nI k + (1 : Int32) = nI (k + 1) from nI_1 k]
      have i2 : isS (up2 M 280 (o + 18 + k) (nI v)) o (mfd b (k + 1)) := by
        rw [← mfd_s, hv]
        exact h.setJ _ (by decide)
      obtain ⟨M', e, i, f⟩ := ih n (k + 1) _ (by omega) (by omega) i2
      exact ⟨M', e, i, ((frS.rf o M).u (by omega) (by omega) _).tr f⟩
    simp (disch := omega) only [l_2, l_4, l_5, l_1, neq]
    by_cases q2 : b (6 + k) = 2
    · rw [if_pos q2, show (0 : Int32) = nI 0 from rfl, S_76n (by decide)]
      exact key _ (by unfold fd; rw [if_pos q2])
    · rw [if_neg q2]
      by_cases q4 : b (6 + k) = 4
      · rw [if_pos q4, S_76 (by omega) (by decide)]
        exact key _ (by unfold fd; rw [if_neg q2, if_pos q4])
      · rw [if_neg q4]
        by_cases q5 : b (6 + k) = 5
        · rw [if_pos q5, ndiv (by omega) (by decide) (by decide), S_76n (by omega)]
          exact key _ (by unfold fd; rw [if_neg q2, if_neg q4, if_pos q5])
        · rw [if_neg q5, S_76 (by omega) (by decide)]
          exact key _ (by unfold fd; rw [if_neg q2, if_neg q4, if_neg q5])
theorem S_fades (ho : o ≤ 1204) (h : isS M o b) (hw : WF b) : sV' o M (mfd b (b 0)) (f_X7_fades (nI o) M) := by
  have h6 := hw.1.2
  unfold f_X7_fades
  exact S_fades_2 ho hw (b 0) FU 0 M (by omega) (by show b 0 < 5000; omega) (by rw [mfd_0]; exact h)
theorem S_201 {k d : Nat} (ho : o ≤ 1204) (h : isS M o b) (hw : WF b) (hk : k < b 0) (hd : d ≤ 5) : sV' o M (if d = 5 ∧ 3 ≤ b (24 + k) then up b 5 (b 5 ||| 2 ^ k) else b) (f_X7_plucks_201 (nI o) (nI k) (nI d) M) := by
  have h6 := hw.1.2
  obtain ⟨g1, g2, g3, g4⟩ := hw.2.2.2.2.2.1 k hk
  unfold f_X7_plucks_201 f_X7_plucks_236 f_X7_plucks_237
  simp (disch := omega) only [nI_ck, nI_cl, l_5, l_24, nI_add, lt_k]
  rw [h.f (k := 5) (by decide), h.plucked hk, nshl1 k (by omega), nor, n_or0]
  simp (disch := omega) only [neq, l_3, nlt]
  have hz : sV' o M b (some (up2 M 280 (o + 5) (nI (b 5)))) := by
    refine ⟨_, rfl, ?_, (frS.rf o M).u (by omega) (by omega) _⟩
    have := h.set (k := 5) (b 5) (by decide)
    rwa [up_same] at this
  by_cases q5 : d = 5
  · rw [if_pos q5]
    by_cases q3 : b (24 + k) < 3
    · rw [if_pos q3, if_neg (by omega)]
      exact hz
    · rw [if_neg q3, if_pos (by omega)]
      exact ⟨_, rfl, h.set (k := 5) _ (by decide), (frS.rf o M).u (by omega) (by omega) _⟩
  · rw [if_neg q5, if_neg (by omega)]
    exact hz
theorem S_131 {k : Nat} (ho : o ≤ 1204) (h : isS M o (pk0 b k)) (hw : WF b) (hk : k < b 0) {t2 : Int32} (ht : t2 = nI (ringOf b k)) : sV' o M (pluck b k) (f_X7_plucks_131 (nI o) (nI k) (nI (b (6 + k))) (nI (b (12 + k))) ((nI o + (18 : Int32)) + nI k) t2 M) := by
  have h6 := hw.1.2
  obtain ⟨g1, g2, g3, g4⟩ := hw.2.2.2.2.2.1 k hk
  have w1 := WF_pk1 hw hk
  have s0 : pk1 b k 0 = b 0 := pk1_n (by omega) (by omega) (by omega) (by omega)
  have s5 : pk1 b k 5 = b 5 := pk1_n (by omega) (by omega) (by omega) (by omega)
  subst ht
  unfold f_X7_plucks_131
  simp (disch := omega) only [nI_ck, nI_cl, l_5, l_18, nI_add, lt_k, n_a0, l_1]
  have i1 : isS (up2 M 280 (o + 18 + k) (nI (ringOf b k))) o (pk1 b k) := by
    rw [pk1_of]
    exact h.setJ _ (by decide)
  have f1 : frS o M (up2 M 280 (o + 18 + k) (nI (ringOf b k))) := (frS.rf o M).u (by omega) (by omega) _
  generalize up2 M 280 (o + 18 + k) (nI (ringOf b k)) = M1 at i1 f1 ⊢
  rw [i1.f0, s0, i1.f (k := 5) (by decide), s5, S_has (by have := hw.2.2.2.2.1; omega) (by omega), cb_k]
  have hb := bit_lt (b 5) (k + 1)
  simp (disch := omega) only [l_3, neq, nle, neq0]
  have fin : ∀ (B : Nat → Nat) (M2 : Mem), isS M2 o B → WF B → frS o M M2 → B 0 = b 0 → B 5 = b 5 → B (24 + k) = pk1 b k (24 + k) → B = pk2 b k → sV' o M (pluck b k) (f_X7_plucks_201 (nI o) (nI k) (nI (b (6 + k))) M2) := by
    intro B M2 i2 w2 f2 b0 b5 b24 hB
    obtain ⟨M3, e3, i3, f3⟩ := S_201 ho i2 w2 (k := k) (d := b (6 + k)) (by omega) (by omega)
    refine ⟨M3, e3, ?_, f2.tr f3⟩
    rw [b24, b5, hB] at i3
    exact i3
  by_cases q3 : b (6 + k) = 3
  · have hp2 : pk2 b k = stir (pk1 b k) (k + 1) (b (12 + k)) := by unfold pk2; rw [if_pos q3]
    rw [if_pos q3]
    by_cases qN : b 0 ≤ k + 1
    · rw [if_pos qN]
      refine fin (pk1 b k) M1 i1 w1 f1 s0 s5 rfl ?_
      rw [hp2]
      unfold stir
      rw [if_neg (by rw [s0]; omega)]
    · rw [if_neg qN]
      have eR : M1 280 (o + 18 + k + 1) = nI (pk1 b k (18 + (k + 1))) := by
        rw [Nat.add_assoc (o + 18)]
        exact i1.rings (by rw [s0]; omega)
      have r18 : pk1 b k (18 + (k + 1)) ≤ 18 := (w1.2.2.2.2.2.1 (k + 1) (by rw [s0]; omega)).2.2.1
      rw [eR]
      simp (disch := omega) only [nle]
      by_cases qb : bit (b 5) (k + 1) = 0
      · rw [if_pos qb]
        by_cases qr : b (12 + k) ≤ pk1 b k (18 + (k + 1))
        · rw [if_pos qr]
          refine fin (pk1 b k) M1 i1 w1 f1 s0 s5 rfl ?_
          rw [hp2]
          unfold stir
          rw [if_neg (by omega)]
        · rw [if_neg qr]
          have hst : stir (pk1 b k) (k + 1) (b (12 + k)) = up (pk1 b k) (18 + (k + 1)) (b (12 + k)) := by
            unfold stir
            rw [if_pos (by rw [s0, s5]; omega)]
          refine fin (up (pk1 b k) (18 + (k + 1)) (b (12 + k))) _ ?_ ?_ (f1.u (by omega) (by omega) _) ?_ ?_ ?_ ?_
          · rw [Nat.add_assoc (o + 18)]
            exact i1.setJ _ (by decide)
          · rw [← hst]
            exact WF_stir w1 (by omega)
          · rw [up_n (by omega)]; exact s0
          · rw [up_n (by omega)]; exact s5
          · rw [up_n (by omega)]
          · rw [hp2, hst]
      · rw [if_neg qb]
        refine fin (pk1 b k) M1 i1 w1 f1 s0 s5 rfl ?_
        rw [hp2]
        unfold stir
        rw [if_neg (by rw [s5]; omega)]
  · rw [if_neg q3]
    refine fin (pk1 b k) M1 i1 w1 f1 s0 s5 rfl ?_
    unfold pk2
    rw [if_neg q3]
theorem S_58 {k : Nat} (ho : o ≤ 1204) (h : isS M o (up (up b 2 (b 2 - 1)) 42 (b 42 + 1))) (hw : WF b) (hk : k < b 0) {t2 t3 : Int32} (ht : t2 + t3 = nI (if b (24 + k) < 99 then b (24 + k) + 1 else b (24 + k))) : sV' o M (pluck b k) (f_X7_plucks_58 (nI o) (nI k) ((nI o + (24 : Int32)) + nI k) t2 t3 M) := by
  have h6 := hw.1.2
  have h99 := hw.2.2.1
  obtain ⟨g1, g2, g3, g4⟩ := hw.2.2.2.2.2.1 k hk
  unfold f_X7_plucks_58
  rw [ht]
  simp (disch := omega) only [nI_ck, nI_cl, l_24, l_6, l_12, nI_add, lt_k]
  have i1 : isS (up2 M 280 (o + 24 + k) (nI (if b (24 + k) < 99 then b (24 + k) + 1 else b (24 + k)))) o (pk0 b k) := h.setJ _ (by decide)
  have f1 : frS o M (up2 M 280 (o + 24 + k) (nI (if b (24 + k) < 99 then b (24 + k) + 1 else b (24 + k)))) := (frS.rf o M).u (by omega) (by omega) _
  generalize up2 M 280 (o + 24 + k) (nI (if b (24 + k) < 99 then b (24 + k) + 1 else b (24 + k))) = M1 at i1 f1 ⊢
  have t0 : pk0 b k 0 = b 0 := pk0_n (by omega) (by omega) (by omega)
  have eK : M1 280 (o + 6 + k) = nI (b (6 + k)) := by rw [i1.kind (by rw [t0]; exact hk), pk0_n (by omega) (by omega) (by omega)]
  have eT : M1 280 (o + 12 + k) = nI (b (12 + k)) := by rw [i1.tuned (by rw [t0]; exact hk), pk0_n (by omega) (by omega) (by omega)]
  have eS : M1 280 (o + 2) = nI (b 2 - 1) := by
    rw [i1.f (k := 2) (by decide)]
    unfold pk0
    rw [up_n (by omega), up_n (by omega), up_s]
  rw [eK, eT]
  have hc : ((nI o + (18 : Int32)) + nI k) = nI (o + 18 + k) := by simp only [l_18, nI_add]
  have fin : ∀ t2 : Int32, t2 = nI (ringOf b k) → sV' o M (pluck b k) (f_X7_plucks_131 (nI o) (nI k) (nI (b (6 + k))) (nI (b (12 + k))) ((nI o + (18 : Int32)) + nI k) t2 M1) := by
    intro t2 ht2
    obtain ⟨M', e, i, f⟩ := S_131 ho i1 hw hk ht2
    exact ⟨M', e, i, f1.tr f⟩
  rw [hc] at fin
  simp (disch := omega) only [l_2, l_4, l_18, l_10, neq, nlt, nI_add, nI_ck, nI_cl]
  by_cases q2 : b (6 + k) = 2
  · rw [if_pos q2]
    exact fin _ (by unfold ringOf; rw [if_pos q2])
  · rw [if_neg q2]
    by_cases q4 : b (6 + k) < 4
    · rw [if_pos q4]
      exact fin _ (by unfold ringOf; rw [if_neg q2, if_pos q4, mul_n])
    · rw [if_neg q4, eS]
      exact fin _ (by unfold ringOf; rw [if_neg q2, if_neg q4, ndiv (by omega) (by decide) (by decide), nI_add])
theorem S_plucks {k : Nat} (ho : o ≤ 1204) (h : isS M o b) (hw : WF b) (hk : k < b 0) (hs : 0 < b 2) : sV' o M (pluck b k) (f_X7_plucks (nI o) (nI k) M) := by
  have h6 := hw.1.2
  have h99 := hw.2.2.1
  obtain ⟨g1, g2, g3, g4⟩ := hw.2.2.2.2.2.1 k hk
  unfold f_X7_plucks
  have hc : ((nI o + (24 : Int32)) + nI k) = nI (o + 24 + k) := by simp only [l_24, nI_add]
  simp (disch := omega) only [nI_ck, nI_cl, l_2, l_42, l_24, nI_add, lt_k]
  rw [h.f (k := 2) (by decide), show nI (b 2) - (1 : Int32) = nI (b 2 - 1) from nsub (a := b 2) (b := 1) (by omega)]
  have i1 : isS (up2 M 280 (o + 2) (nI (b 2 - 1))) o (up b 2 (b 2 - 1)) := h.set _ (by decide)
  have f1 : frS o M (up2 M 280 (o + 2) (nI (b 2 - 1))) := (frS.rf o M).u (by omega) (by omega) _
  generalize up2 M 280 (o + 2) (nI (b 2 - 1)) = M2 at i1 f1 ⊢
  rw [i1.l, up_n (by omega), show nI (b 42) + (1 : Int32) = nI (b 42 + 1) from nI_1 _]
  have i2 : isS (up2 M2 280 (o + 42) (nI (b 42 + 1))) o (up (up b 2 (b 2 - 1)) 42 (b 42 + 1)) := i1.set _ (by decide)
  have f2 := f1.u (k := o + 42) (by omega) (by omega) (nI (b 42 + 1))
  generalize up2 M2 280 (o + 42) (nI (b 42 + 1)) = M5 at i2 f2 ⊢
  have eP : M5 280 (o + 24 + k) = nI (b (24 + k)) := by rw [i2.plucked (by rw [up_n (by omega), up_n (by omega)]; exact hk), up_n (by omega), up_n (by omega)]
  rw [eP]
  have fin : ∀ t3 : Int32, nI (b (24 + k)) + t3 = nI (if b (24 + k) < 99 then b (24 + k) + 1 else b (24 + k)) → sV' o M (pluck b k) (f_X7_plucks_58 (nI o) (nI k) ((nI o + (24 : Int32)) + nI k) (nI (b (24 + k))) t3 M5) := by
    intro t3 ht3
    obtain ⟨M', e, i, f⟩ := S_58 ho i2 hw hk ht3
    exact ⟨M', e, i, f2.tr f⟩
  rw [hc] at fin
  simp (disch := omega) only [l_99, nle]
  by_cases q : 99 ≤ b (24 + k)
  · rw [if_pos q]
    exact fin _ (by rw [if_neg (by omega), n_a0])
  · rw [if_neg q]
    exact fin _ (by rw [if_pos (by omega)]; exact nI_1 _)
theorem S_132 (ho : o ≤ 1204) (h : isS M o b) : sV' o M (up b 4 (b 4 + 1)) (f_X7_passes_132 (nI o) M) := by
  unfold f_X7_passes_132
  simp (disch := omega) only [nI_ck, nI_cl, l_4, nI_add, lt_k]
  rw [h.f (k := 4) (by decide), show nI (b 4) + (1 : Int32) = nI (b 4 + 1) from nI_1 _]
  exact ⟨_, rfl, h.set _ (by decide), (frS.rf o M).u (by omega) (by omega) _⟩
theorem S_57 (ho : o ≤ 1204) : ∀ (c n k : Nat) (B : Nat → Nat) (M : Mem), k + c = B 0 → c < n → isS M o B → WF B → sV' o M (up (mloop c k B) 4 (B 4 + 1)) (f_X7_passes_57 (nI o) n (nI k) M) := by
  intro c
  induction c with
  | zero =>
    intro n k B M hk hn h hw
    obtain ⟨n, rfl⟩ : ∃ m, n = m + 1 := ⟨n - 1, by omega⟩
    have h6 := h.1
    rw [f_X7_passes_57, n_a0]
    simp (disch := omega) only [nI_ck, nI_cl]
    rw [h.f0]
    simp (disch := omega) only [nle]
    rw [if_pos (by omega)]
    exact S_132 ho h
  | succ c ih =>
    intro n k B M hk hn h hw
    obtain ⟨n, rfl⟩ : ∃ m, n = m + 1 := ⟨n - 1, by omega⟩
    have h6 := h.1
    have h12 := h.2.1
    have h3 := hw.2.2.2.1
    have h99 := hw.2.2.1
    have hp := hw.2.2.2.2.2.2 _ h3
    have h5 := hw.2.2.2.2.1
    rw [f_X7_passes_57, n_a0]
    simp (disch := omega) only [nI_ck, nI_cl, l_3, l_30, nI_add]
    rw [h.f0, h.f (k := 3) (by decide)]
    simp (disch := omega) only [nI_ck, nI_cl, nI_add, nle]
    rw [if_neg (by omega), h.pins h3, S_has (by omega) (by omega), cb_k]
    simp (disch := omega) only [nI_ck, nI_cl, l_5, l_2, nI_add]
    rw [h.f (k := 5) (by decide), S_has (by omega) (by omega), cb_k, h.f (k := 2) (by decide)]
    have b1 := bit_lt (B (30 + B 3)) k
    have b2 := bit_lt (B 5) k
    simp (disch := omega) only [neq0, nle0]
    unfold f_X7_passes_126
    rw [show nI k + (1 : Int32) = nI (k + 1) from nI_1 k, mloop]
    have no : step B k = B → sV' o M (up (mloop c (k + 1) (step B k)) 4 (B 4 + 1)) (f_X7_passes_57 (nI o) n (nI (k + 1)) M) := by
      intro hst
      rw [hst]
      exact ih n (k + 1) B M (by omega) (by omega) h hw
    by_cases qp : bit (B (30 + B 3)) k = 0
    · rw [if_pos qp]
      exact no (by unfold step; rw [if_neg (by omega)])
    · rw [if_neg qp]
      by_cases qb : bit (B 5) k = 0
      · rw [if_pos qb]
        by_cases qs : B 2 = 0
        · rw [if_pos qs]
          exact no (by unfold step; rw [if_neg (by omega)])
        · rw [if_neg qs]
          obtain ⟨M1, e1, i1, f1⟩ := S_plucks ho h hw (k := k) (by omega) (by omega)
          rw [e1, cv_k]
          have hst : step B k = pluck B k := by unfold step; rw [if_pos (by omega)]
          rw [hst]
          obtain ⟨M', e, i, f⟩ := ih n (k + 1) (pluck B k) M1 (by rw [pluck_n (by omega) (by omega)]; omega) (by omega) i1 (WF_pluck hw (by omega))
          rw [pluck_n (i := 4) (by omega) (by omega)] at i
          exact ⟨M', e, i, f1.tr f⟩
      · rw [if_neg qb]
        exact no (by unfold step; rw [if_neg (by omega)])
theorem S_passes (ho : o ≤ 1204) (h : isS M o b) (hw : WF b) : sV' o M (tick b) (f_X7_passes (nI o) M) := by
  have h6 := hw.1.2
  have h99 := hw.2.2.1
  unfold f_X7_passes
  obtain ⟨M1, e1, i1, f1⟩ := S_fades ho h hw
  rw [e1, cv_k]
  have w1 := WF_mfd hw (b 0) h6
  have e2 : mfd b (b 0) 2 = b 2 := mfd_n (by omega)
  have e4 : mfd b (b 0) 4 = b 4 := mfd_n (by omega)
  have e0 : mfd b (b 0) 0 = b 0 := mfd_n (by omega)
  have htk := tick_eq h6
  generalize mfd b (b 0) = F at i1 w1 e2 e4 e0 htk
  simp (disch := omega) only [nI_ck, nI_cl, l_1, l_2, l_3, nI_add, lt_k]
  rw [i1.f (k := 2) (by decide), e2]
  simp (disch := omega) only [nle0]
  by_cases q : b 2 = 0
  · rw [if_pos q]
    rw [if_neg (by omega)] at htk
    obtain ⟨M', e, i, f⟩ := S_132 ho i1
    refine ⟨M', e, ?_, f1.tr f⟩
    rw [htk, ← e4]
    exact i
  · rw [if_neg q]
    rw [if_pos (by omega)] at htk
    have h1 := w1.2.1
    have h3 := w1.2.2.2.1
    rw [i1.f (k := 1) (by decide), i1.f (k := 3) (by decide), nI_add, nrem (by omega) (by omega) (by omega)]
    have hnx : (F 3 + 1) % F 1 = nx F := by
      unfold nx
      by_cases q3 : F 3 + 1 < F 1
      · rw [if_pos q3, Nat.mod_eq_of_lt q3]
      · rw [if_neg q3, show F 3 + 1 = F 1 by omega, Nat.mod_self]
    unfold cz
    rw [hnx, if_neg (by rw [neq0 (by omega)]; omega)]
    have i2 : isS (up2 M1 280 (o + 3) (nI (nx F))) o (up F 3 (nx F)) := i1.set _ (by decide)
    have f2 := f1.u (k := o + 3) (by omega) (by omega) (nI (nx F))
    generalize up2 M1 280 (o + 3) (nI (nx F)) = M8 at i2 f2 ⊢
    rw [i2.f (k := 2) (by decide), up_n (by omega), e2, nsub (by omega)]
    have i3 : isS (up2 M8 280 (o + 2) (nI (b 2 - 1))) o (turnUp F) := by
      unfold turnUp
      rw [e2]
      exact i2.set _ (by decide)
    have f3 := f2.u (k := o + 2) (by omega) (by omega) (nI (b 2 - 1))
    generalize up2 M8 280 (o + 2) (nI (b 2 - 1)) = M11 at i3 f3 ⊢
    have g0 : turnUp F 0 = b 0 := by rw [turnUp_n (by omega) (by omega), e0]
    have g4 : turnUp F 4 = b 4 := by rw [turnUp_n (by omega) (by omega), e4]
    obtain ⟨M', e, i, f⟩ := S_57 ho (b 0) FU 0 (turnUp F) M11 (by rw [g0]; omega) (by show b 0 < 5000; omega) i3 (WF_turnUp w1)
    refine ⟨M', e, ?_, f3.tr f⟩
    rw [htk, ← g4]
    exact i
end SEG
