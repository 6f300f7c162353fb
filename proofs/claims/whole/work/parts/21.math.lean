/-! a box as numbers: 0 teeth, 1 columns, 2 spring, 3 drum, 4 tick, 5 broken, 6 kinds, 12 tuned, 18 rings, 24 plucked, 30 pins, 42 how often lately -/
def up (b : Nat → Nat) (k v : Nat) : Nat → Nat := fun i => if i = k then v else b i
theorem up_s (b : Nat → Nat) (k v : Nat) : up b k v k = v := by simp [up]
theorem up_n {b : Nat → Nat} {k v i : Nat} (h : i ≠ k) : up b k v i = b i := by simp [up, h]
theorem up_c {b : Nat → Nat} {i j x y : Nat} (h : i ≠ j) : up (up b i x) j y = up (up b j y) i x := by
  funext q
  simp only [up]
  by_cases h1 : q = i
  · subst h1
    simp [h]
  · simp [h1]
def nx (b : Nat → Nat) : Nat := if b 3 + 1 < b 1 then b 3 + 1 else 0
def fd (k v : Nat) : Nat := if k = 2 then 0 else if k = 4 then v - 1 else if k = 5 then v / 2 else v - 2
def mfd (b : Nat → Nat) (k : Nat) : Nat → Nat := fun i => if 18 ≤ i ∧ i < 18 + k then fd (b (i - 12)) (b i) else b i
def ringOf (b : Nat → Nat) (k : Nat) : Nat := if b (6 + k) = 2 then b (12 + k) else if b (6 + k) < 4 then 2 * b (12 + k) else b (12 + k) + (b 2 - 1) / 10
def pk1 (b : Nat → Nat) (k : Nat) : Nat → Nat := up (up (up (up b 2 (b 2 - 1)) 42 (b 42 + 1)) (24 + k) (if b (24 + k) < 99 then b (24 + k) + 1 else b (24 + k))) (18 + k) (ringOf b k)
def stir (b : Nat → Nat) (k t : Nat) : Nat → Nat := if k < b 0 ∧ bit (b 5) k = 0 ∧ b (18 + k) < t then up b (18 + k) t else b
def pk2 (b : Nat → Nat) (k : Nat) : Nat → Nat := if b (6 + k) = 3 then stir (pk1 b k) (k + 1) (b (12 + k)) else pk1 b k
def pluck (b : Nat → Nat) (k : Nat) : Nat → Nat := if b (6 + k) = 5 ∧ 3 ≤ pk1 b k (24 + k) then up (pk2 b k) 5 (b 5 ||| 2 ^ k) else pk2 b k
def step (b : Nat → Nat) (k : Nat) : Nat → Nat := if bit (b (30 + b 3)) k = 1 ∧ bit (b 5) k = 0 ∧ 0 < b 2 then pluck b k else b
def mloop : Nat → Nat → (Nat → Nat) → Nat → Nat
  | 0, _, b => b
  | c + 1, k, b => mloop c (k + 1) (step b k)
def turnUp (b : Nat → Nat) : Nat → Nat := up (up b 3 (nx b)) 2 (b 2 - 1)
def tick (b : Nat → Nat) : Nat → Nat := if 0 < b 2 then mloop (b 0) 0 (turnUp (up (mfd b (b 0)) 4 (b 4 + 1))) else up (mfd b (b 0)) 4 (b 4 + 1)
def ticks (b : Nat → Nat) : Nat → Nat → Nat
  | 0 => b
  | n + 1 => tick (ticks b n)
def mSum (f : Nat → Nat) : Nat → Nat → Nat
  | _, 0 => 0
  | j, c + 1 => f j + mSum f (j + 1) c
def loud (b : Nat → Nat) : Nat := mSum (fun i => b (18 + i)) 0 (b 0)
/-- in order -/
def WF (b : Nat → Nat) : Prop := (1 ≤ b 0 ∧ b 0 ≤ 6) ∧ (4 ≤ b 1 ∧ b 1 ≤ 12) ∧ b 2 ≤ 99 ∧ b 3 < b 1 ∧ b 5 < 64 ∧ (∀ j, j < b 0 → (1 ≤ b (6 + j) ∧ b (6 + j) ≤ 5) ∧ (1 ≤ b (12 + j) ∧ b (12 + j) ≤ 9) ∧ b (18 + j) ≤ 18 ∧ b (24 + j) ≤ 99) ∧ (∀ j, j < b 1 → b (30 + j) < 64)
theorem WF_up {b : Nat → Nat} {k v : Nat} (h : WF b) (h0 : k ≠ 0) (h1 : k ≠ 1) (hv : (k = 2 → v ≤ 99) ∧ (k = 3 → v < b 1) ∧ (k = 5 → v < 64) ∧ (6 ≤ k ∧ k < 12 → 1 ≤ v ∧ v ≤ 5) ∧ (12 ≤ k ∧ k < 18 → 1 ≤ v ∧ v ≤ 9) ∧ (18 ≤ k ∧ k < 24 → v ≤ 18) ∧ (24 ≤ k ∧ k < 30 → v ≤ 99) ∧ (30 ≤ k ∧ k < 42 → v < 64)) : WF (up b k v) := by
  obtain ⟨a0, a1, a2, a3, a5, aj, ap⟩ := h
  obtain ⟨v2, v3, v5, v6, v12, v18, v24, v30⟩ := hv
  have e0 : up b k v 0 = b 0 := up_n (Ne.symm h0)
  have e1 : up b k v 1 = b 1 := up_n (Ne.symm h1)
  refine ⟨by rw [e0]; exact a0, by rw [e1]; exact a1, ?_, ?_, ?_, fun j hj => ?_, fun j hj => ?_⟩
  · simp only [up]; split <;> omega
  · rw [e1]; simp only [up]; split <;> omega
  · simp only [up]; split <;> omega
  · rw [e0] at hj
    obtain ⟨b1, b2, b3, b4⟩ := aj j hj
    refine ⟨?_, ?_, ?_, ?_⟩
    · simp only [up]; split <;> omega
    · simp only [up]; split <;> omega
    · simp only [up]; split <;> omega
    · simp only [up]; split <;> omega
  · rw [e1] at hj
    have := ap j hj
    simp only [up]; split <;> omega
theorem fd_le (k v : Nat) : fd k v ≤ v := by
  unfold fd
  split
  · omega
  · split
    · omega
    · split <;> omega
theorem mfd_n {b : Nat → Nat} {k i : Nat} (h : i < 18 ∨ 18 + k ≤ i) : mfd b k i = b i := by
  unfold mfd
  rw [if_neg (by omega)]
theorem mfd_s {b : Nat → Nat} {k : Nat} : up (mfd b k) (18 + k) (fd (b (6 + k)) (b (18 + k))) = mfd b (k + 1) := by
  funext i
  by_cases h : i = 18 + k
  · subst h
    rw [up_s]
    unfold mfd
    rw [if_pos (by omega), show 18 + k - 12 = 6 + k by omega]
  · rw [up_n h]
    unfold mfd
    by_cases q : 18 ≤ i ∧ i < 18 + k
    · rw [if_pos q, if_pos (by omega)]
    · rw [if_neg q, if_neg (by omega)]
theorem mfd_0 (b : Nat → Nat) : mfd b 0 = b := by
  funext i
  exact mfd_n (by omega)
theorem WF_mfd {b : Nat → Nat} (h : WF b) (k : Nat) (hk : k ≤ 6) : WF (mfd b k) := by
  obtain ⟨a0, a1, a2, a3, a5, aj, ap⟩ := h
  have e0 : mfd b k 0 = b 0 := mfd_n (by omega)
  have e1 : mfd b k 1 = b 1 := mfd_n (by omega)
  refine ⟨by rw [e0]; exact a0, by rw [e1]; exact a1, by rw [mfd_n (by omega)]; exact a2, by rw [e1, mfd_n (by omega)]; exact a3, by rw [mfd_n (by omega)]; exact a5, fun j hj => ?_, fun j hj => ?_⟩
  · rw [e0] at hj
    obtain ⟨b1, b2, b3, b4⟩ := aj j hj
    rw [mfd_n (i := 6 + j) (by omega), mfd_n (i := 12 + j) (by omega), mfd_n (i := 24 + j) (by omega)]
    refine ⟨b1, b2, ?_, b4⟩
    unfold mfd
    split
    · exact Nat.le_trans (fd_le _ _) b3
    · exact b3
  · rw [e1] at hj
    rw [mfd_n (by omega)]
    exact ap j hj
theorem ring_le {b : Nat → Nat} {k : Nat} (h : WF b) (hk : k < b 0) : ringOf b k ≤ 18 := by
  obtain ⟨a0, a1, a2, a3, a5, aj, ap⟩ := h
  obtain ⟨b1, b2, b3, b4⟩ := aj k hk
  unfold ringOf
  split
  · omega
  · split
    · omega
    · have : (b 2 - 1) / 10 ≤ 9 := by omega
      omega
theorem WF_pk1 {b : Nat → Nat} {k : Nat} (h : WF b) (hk : k < b 0) : WF (pk1 b k) := by
  have h6 : k < 6 := by have := h.1.2; omega
  have hr := ring_le h hk
  have h2 := h.2.2.1
  have hp := (h.2.2.2.2.2.1 k hk).2.2.2
  unfold pk1
  refine WF_up (WF_up (WF_up (WF_up h (by omega) (by omega) (by omega)) (by omega) (by omega) (by omega)) (by omega) (by omega) ?_) (by omega) (by omega) (by omega)
  split <;> omega
theorem pk1_n {b : Nat → Nat} {k i : Nat} (h2 : i ≠ 2) (h4 : i ≠ 42) (h24 : i ≠ 24 + k) (h18 : i ≠ 18 + k) : pk1 b k i = b i := by
  unfold pk1
  rw [up_n h18, up_n h24, up_n h4, up_n h2]
theorem WF_stir {b : Nat → Nat} {k t : Nat} (h : WF b) (ht : t ≤ 18) : WF (stir b k t) := by
  unfold stir
  split
  · rename_i q
    have := h.1.2
    exact WF_up h (by omega) (by omega) (by omega)
  · exact h
theorem WF_pk2 {b : Nat → Nat} {k : Nat} (h : WF b) (hk : k < b 0) : WF (pk2 b k) := by
  have := (h.2.2.2.2.2.1 k hk).2.1.2
  unfold pk2
  split
  · exact WF_stir (WF_pk1 h hk) (by omega)
  · exact WF_pk1 h hk
theorem WF_pluck {b : Nat → Nat} {k : Nat} (h : WF b) (hk : k < b 0) : WF (pluck b k) := by
  have h6 : k < 6 := by have := h.1.2; omega
  unfold pluck
  split
  · have := or_lt (b 5) h.2.2.2.2.1 k h6
    exact WF_up (WF_pk2 h hk) (by omega) (by omega) (by omega)
  · exact WF_pk2 h hk
theorem stir_n {b : Nat → Nat} {k t i : Nat} (h : i ≠ 18 + k) : stir b k t i = b i := by
  unfold stir
  split
  · exact up_n h
  · rfl
theorem pk2_n {b : Nat → Nat} {k i : Nat} (h2 : i ≠ 2) (h4 : i ≠ 42) (h24 : i ≠ 24 + k) (h18 : i < 18 ∨ 24 ≤ i) (hk : k < 6) (hq : k = 5 → i ≠ 24) : pk2 b k i = b i := by
  unfold pk2
  split
  · rw [stir_n (by omega), pk1_n h2 h4 h24 (by omega)]
  · exact pk1_n h2 h4 h24 (by omega)
theorem pluck_n {b : Nat → Nat} {k i : Nat} (hi : i < 2 ∨ i = 3 ∨ i = 4 ∨ (6 ≤ i ∧ i < 18) ∨ (30 ≤ i ∧ i < 42)) (hk : k < 6) : pluck b k i = b i := by
  have e : pk2 b k i = b i := pk2_n (by omega) (by omega) (by omega) (by omega) hk (by omega)
  unfold pluck
  split
  · rw [up_n (by omega)]; exact e
  · exact e
theorem pluck_sp {b : Nat → Nat} {k : Nat} (hk : k < 6) : pluck b k 2 = b 2 - 1 ∧ pluck b k 42 = b 42 + 1 := by
  have e1 : pk1 b k 2 = b 2 - 1 := by
    unfold pk1
    rw [up_n (by omega), up_n (by omega), up_n (by omega), up_s]
  have e2 : pk1 b k 42 = b 42 + 1 := by
    unfold pk1
    rw [up_n (by omega), up_n (by omega), up_s]
  have f1 : pk2 b k 2 = b 2 - 1 := by
    unfold pk2
    split
    · rw [stir_n (by omega)]; exact e1
    · exact e1
  have f2 : pk2 b k 42 = b 42 + 1 := by
    unfold pk2
    split
    · rw [stir_n (by omega)]; exact e2
    · exact e2
  unfold pluck
  split
  · rw [up_n (by omega), up_n (by omega)]; exact ⟨f1, f2⟩
  · exact ⟨f1, f2⟩
/-- of the broken ones only the plucked may change -/
theorem pluck_5 {b : Nat → Nat} {k j : Nat} (hk : k < 6) (hj : j ≠ k) : bit (pluck b k 5) j = bit (b 5) j := by
  have e : pk2 b k 5 = b 5 := pk2_n (by omega) (by omega) (by omega) (by omega) hk (by omega)
  unfold pluck
  split
  · rw [up_s, bit_or_pow hj]
  · rw [e]
theorem WF_step {b : Nat → Nat} {k : Nat} (h : WF b) (hk : k < b 0) : WF (step b k) := by
  unfold step
  split
  · exact WF_pluck h hk
  · exact h
theorem step_n {b : Nat → Nat} {k i : Nat} (hi : i < 2 ∨ i = 3 ∨ i = 4 ∨ (6 ≤ i ∧ i < 18) ∨ (30 ≤ i ∧ i < 42)) (hk : k < 6) : step b k i = b i := by
  unfold step
  split
  · exact pluck_n hi hk
  · rfl
theorem step_sp {b : Nat → Nat} {k : Nat} (hk : k < 6) : step b k 2 + step b k 42 = b 2 + b 42 ∧ step b k 2 ≤ b 2 := by
  unfold step
  split
  · rename_i q
    have := pluck_sp (b := b) hk
    omega
  · omega
theorem mloop_n {i : Nat} (hi : i < 2 ∨ i = 3 ∨ i = 4 ∨ (6 ≤ i ∧ i < 18) ∨ (30 ≤ i ∧ i < 42)) : ∀ (c k : Nat) (b : Nat → Nat), k + c ≤ 6 → mloop c k b i = b i
  | 0, k, b, _ => rfl
  | c + 1, k, b, h => by
    rw [mloop, mloop_n hi c (k + 1) _ (by omega), step_n hi (by omega)]
theorem WF_mloop : ∀ (c k : Nat) (b : Nat → Nat), WF b → k + c ≤ b 0 → WF (mloop c k b)
  | 0, k, b, h, _ => h
  | c + 1, k, b, h, hk => by
    have := h.1.2
    rw [mloop]
    exact WF_mloop c (k + 1) _ (WF_step h (by omega)) (by rw [step_n (by omega) (by omega)]; omega)
theorem mloop_sp : ∀ (c k : Nat) (b : Nat → Nat), k + c ≤ 6 → mloop c k b 2 + mloop c k b 42 = b 2 + b 42 ∧ mloop c k b 2 ≤ b 2
  | 0, k, b, _ => ⟨rfl, Nat.le_refl _⟩
  | c + 1, k, b, h => by
    have h1 := mloop_sp c (k + 1) (step b k) (by omega)
    have h2 := step_sp (b := b) (k := k) (by omega)
    rw [mloop]
    omega
/-- the tick's own number goes along -/
theorem pk1_4 {b : Nat → Nat} {k v : Nat} (hk : k < 6) : pk1 (up b 4 v) k = up (pk1 b k) 4 v := by
  unfold pk1 ringOf
  simp (disch := omega) only [up_n]
  rw [up_c (i := 4) (j := 2) (by omega), up_c (i := 4) (j := 42) (by omega), up_c (i := 4) (j := 24 + k) (by omega), up_c (i := 4) (j := 18 + k) (by omega)]
theorem stir_4 {b : Nat → Nat} {k t v : Nat} : stir (up b 4 v) k t = up (stir b k t) 4 v := by
  unfold stir
  simp (disch := omega) only [up_n]
  split
  · rw [up_c (by omega)]
  · rfl
theorem pk2_4 {b : Nat → Nat} {k v : Nat} (hk : k < 6) : pk2 (up b 4 v) k = up (pk2 b k) 4 v := by
  unfold pk2
  simp (disch := omega) only [up_n, pk1_4, stir_4]
  split <;> rfl
theorem pluck_4 {b : Nat → Nat} {k v : Nat} (hk : k < 6) : pluck (up b 4 v) k = up (pluck b k) 4 v := by
  unfold pluck
  simp (disch := omega) only [up_n, pk1_4, pk2_4]
  split
  · rw [up_c (by omega)]
  · rfl
theorem step_4 {b : Nat → Nat} {k v : Nat} (hk : k < 6) : step (up b 4 v) k = up (step b k) 4 v := by
  unfold step
  simp (disch := omega) only [up_n, pluck_4]
  split <;> rfl
theorem mloop_4 {v : Nat} : ∀ (c k : Nat) (b : Nat → Nat), k + c ≤ 6 → mloop c k (up b 4 v) = up (mloop c k b) 4 v
  | 0, k, b, _ => rfl
  | c + 1, k, b, h => by
    rw [mloop, mloop, step_4 (by omega), mloop_4 c (k + 1) _ (by omega)]
theorem turnUp_4 {b : Nat → Nat} {v : Nat} : turnUp (up b 4 v) = up (turnUp b) 4 v := by
  unfold turnUp nx
  simp (disch := omega) only [up_n]
  rw [up_c (i := 4) (j := 3) (by omega), up_c (i := 4) (j := 2) (by omega)]
theorem tick_eq {b : Nat → Nat} (h : b 0 ≤ 6) : tick b = up (if 0 < b 2 then mloop (b 0) 0 (turnUp (mfd b (b 0))) else mfd b (b 0)) 4 (b 4 + 1) := by
  unfold tick
  split
  · rw [turnUp_4, mloop_4 _ _ _ (by omega)]
  · rfl
theorem WF_turnUp {b : Nat → Nat} (h : WF b) : WF (turnUp b) := by
  have h1 := h.2.1
  have h2 := h.2.2.1
  have h3 : nx b < b 1 := by
    unfold nx
    split <;> omega
  unfold turnUp
  exact WF_up (WF_up h (by omega) (by omega) (by omega)) (by omega) (by omega) (by omega)
theorem turnUp_n {b : Nat → Nat} {i : Nat} (h2 : i ≠ 2) (h3 : i ≠ 3) : turnUp b i = b i := by
  unfold turnUp
  rw [up_n h2, up_n h3]
theorem WF_tick {b : Nat → Nat} (h : WF b) : WF (tick b) := by
  have h6 := h.1.2
  rw [tick_eq h6]
  refine WF_up ?_ (by omega) (by omega) (by omega)
  split
  · refine WF_mloop _ _ _ (WF_turnUp (WF_mfd h _ h6)) ?_
    rw [turnUp_n (by omega) (by omega), mfd_n (by omega)]
    omega
  · exact WF_mfd h _ h6
theorem tick_n {b : Nat → Nat} {i : Nat} (h : b 0 ≤ 6) (hi : i < 2 ∨ (6 ≤ i ∧ i < 18) ∨ (30 ≤ i ∧ i < 42)) : tick b i = b i := by
  rw [tick_eq h, up_n (by omega)]
  split
  · rw [mloop_n (by omega) _ _ _ (by omega), turnUp_n (by omega) (by omega), mfd_n (by omega)]
  · rw [mfd_n (by omega)]
theorem tick_tk {b : Nat → Nat} (h : b 0 ≤ 6) : tick b 4 = b 4 + 1 := by
  rw [tick_eq h, up_s]
theorem WF_ticks {b : Nat → Nat} (h : WF b) : ∀ n, WF (ticks b n)
  | 0 => h
  | n + 1 => WF_tick (WF_ticks h n)
theorem ticks_n {b : Nat → Nat} (h : WF b) {i : Nat} (hi : i < 2 ∨ (6 ≤ i ∧ i < 18) ∨ (30 ≤ i ∧ i < 42)) : ∀ n, ticks b n i = b i
  | 0 => rfl
  | n + 1 => by rw [ticks, tick_n (WF_ticks h n).1.2 hi, ticks_n h hi n]
theorem ticks_tick (b : Nat → Nat) : ∀ n, ticks (tick b) n = ticks b (n + 1)
  | 0 => rfl
  | n + 1 => by rw [ticks, ticks_tick b n]; rfl
theorem mSum_le {f : Nat → Nat} {m : Nat} : ∀ (c j : Nat), (∀ i, j ≤ i → i < j + c → f i ≤ m) → mSum f j c ≤ c * m
  | 0, j, _ => by simp [mSum]
  | c + 1, j, h => by
    have h1 := mSum_le c (j + 1) (fun i h1 h2 => h i (by omega) (by omega))
    have h2 := h j (Nat.le_refl _) (by omega)
    rw [mSum, Nat.succ_mul]
    omega
theorem mSum_c {f g : Nat → Nat} : ∀ (c j : Nat), (∀ i, j ≤ i → i < j + c → f i = g i) → mSum f j c = mSum g j c
  | 0, j, _ => rfl
  | c + 1, j, h => by
    rw [mSum, mSum, h j (Nat.le_refl _) (by omega), mSum_c c (j + 1) (fun i h1 h2 => h i (by omega) (by omega))]
theorem loud_le {b : Nat → Nat} (h : WF b) : loud b ≤ 108 := by
  have h1 := mSum_le (f := fun i => b (18 + i)) (m := 18) (b 0) 0 (fun i _ h2 => (h.2.2.2.2.2.1 i (by omega)).2.2.1)
  have h2 := h.1.2
  unfold loud
  omega
