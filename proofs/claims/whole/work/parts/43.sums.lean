/-! pins that may be lost: the sums -/
section PINP
variable {b : Nat → Nat} {i v : Nat}
theorem pk1_p {k : Nat} (hk : k < 6) (hi : 30 ≤ i ∧ i < 42) : pk1 (up b i v) k = up (pk1 b k) i v := by
  unfold pk1 ringOf
  simp (disch := omega) only [up_n]
  rw [up_c (i := i) (j := 2) (by omega), up_c (i := i) (j := 42) (by omega), up_c (i := i) (j := 24 + k) (by omega), up_c (i := i) (j := 18 + k) (by omega)]
theorem stir_p {k t : Nat} (hk : k ≤ 6) (hi : 30 ≤ i ∧ i < 42) : stir (up b i v) k t = up (stir b k t) i v := by
  unfold stir
  simp (disch := omega) only [up_n]
  split
  · rw [up_c (by omega)]
  · rfl
theorem pk2_p {k : Nat} (hk : k < 6) (hi : 30 ≤ i ∧ i < 42) : pk2 (up b i v) k = up (pk2 b k) i v := by
  unfold pk2
  simp (disch := omega) only [up_n, pk1_p, stir_p]
  split <;> rfl
theorem pluck_p {k : Nat} (hk : k < 6) (hi : 30 ≤ i ∧ i < 42) : pluck (up b i v) k = up (pluck b k) i v := by
  unfold pluck
  simp (disch := omega) only [up_n, pk1_p, pk2_p]
  split
  · rw [up_c (by omega)]
  · rfl
theorem step_p {k : Nat} (hk : k < 6) (hi : 30 ≤ i ∧ i < 42) (h3 : 30 + b 3 ≠ i) : step (up b i v) k = up (step b k) i v := by
  unfold step
  simp (disch := omega) only [up_n, pluck_p]
  split <;> rfl
theorem mloop_p (hi : 30 ≤ i ∧ i < 42) : ∀ (c k : Nat) (b : Nat → Nat), k + c ≤ 6 → 30 + b 3 ≠ i → mloop c k (up b i v) = up (mloop c k b) i v
  | 0, k, b, _, _ => rfl
  | c + 1, k, b, h, h3 => by
    rw [mloop, mloop, step_p (by omega) hi h3, mloop_p hi c (k + 1) _ (by omega) (by rw [step_n (by omega) (by omega)]; exact h3)]
theorem nx_p (hi : 30 ≤ i) : nx (up b i v) = nx b := by
  unfold nx
  simp (disch := omega) only [up_n]
theorem turnUp_p (hi : 30 ≤ i ∧ i < 42) : turnUp (up b i v) = up (turnUp b) i v := by
  unfold turnUp
  rw [nx_p hi.1]
  simp (disch := omega) only [up_n]
  rw [up_c (i := i) (j := 3) (by omega), up_c (i := i) (j := 2) (by omega)]
theorem mfd_p {k : Nat} (hi : 30 ≤ i ∧ i < 42) (hk : k ≤ 6) : mfd (up b i v) k = up (mfd b k) i v := by
  funext j
  unfold mfd
  by_cases q : j = i
  · subst q
    rw [up_s, if_neg (by omega), up_s]
  · rw [up_n q, up_n q]
    by_cases q2 : 18 ≤ j ∧ j < 18 + k
    · rw [if_pos q2, if_pos q2, up_n (by omega)]
    · rw [if_neg q2, if_neg q2]
theorem tick_p (h6 : b 0 ≤ 6) (hi : 30 ≤ i ∧ i < 42) (h : b 2 = 0 ∨ 30 + nx b ≠ i) : tick (up b i v) = up (tick b) i v := by
  rw [tick_eq (b := up b i v) (by rw [up_n (by omega)]; exact h6), tick_eq h6, up_n (by omega), up_n (by omega), up_n (by omega), mfd_p hi h6, turnUp_p hi]
  by_cases q : 0 < b 2
  · rw [if_pos q, if_pos q, mloop_p hi _ _ _ (by omega) ?_, up_c (by omega)]
    have e : turnUp (mfd b (b 0)) 3 = nx b := by
      unfold turnUp
      rw [up_n (by omega), up_s]
      unfold nx
      rw [mfd_n (by omega), mfd_n (by omega)]
    rw [e]
    omega
  · rw [if_neg q, if_neg q, up_c (by omega)]
end PINP
def rm1 (t : Nat) (B : Nat → Nat) (c : Nat) : Nat → Nat := up B (30 + c) (B (30 + c) &&& (63 ^^^ 2 ^ t))
def SS (f : (Nat → Nat) → Nat) (p t S : Nat) : Nat → Nat → (Nat → Nat) → Nat
  | 0, _, B => f B
  | c + 1, j, B => if bit S j = 1 then (10 - p) * SS f p t S c (j + 1) B + p * SS f p t S c (j + 1) (rm1 t B j) else SS f p t S c (j + 1) B
def cnt (S : Nat) : Nat → Nat → Nat
  | 0, _ => 0
  | c + 1, j => bit S j + cnt S c (j + 1)
def ind (n t : Nat) (X : Nat → Nat) : Nat := if 0 < ticks X n (18 + t) then 1 else 0
theorem rm_comm {t c d : Nat} {B : Nat → Nat} (h : c ≠ d) : rm1 t (rm1 t B c) d = rm1 t (rm1 t B d) c := by
  unfold rm1
  rw [up_n (by omega), up_n (by omega), up_c (by omega)]
theorem rm_n {t c i : Nat} {B : Nat → Nat} (h : i ≠ 30 + c) : rm1 t B c i = B i := up_n h
theorem WF_rm {t c : Nat} {B : Nat → Nat} (w : WF B) (ht : t < 6) (hc : c < B 1) : WF (rm1 t B c) := by
  have h12 := w.2.1
  have := andn_lt _ (w.2.2.2.2.2.2 c hc) (2 ^ t) (pow_lt t ht)
  unfold rm1
  exact WF_up w (by omega) (by omega) (by omega)
theorem tick_rm {t c : Nat} {B : Nat → Nat} (w : WF B) (hc : c < 12) (h : B 2 = 0 ∨ nx B ≠ c) : tick (rm1 t B c) = rm1 t (tick B) c := by
  unfold rm1
  rw [tick_p w.1.2 (by omega) (by omega), tick_n w.1.2 (by omega)]
section SUMS
variable {f : (Nat → Nat) → Nat} {p t : Nat}
theorem SS_congr {S S' : Nat} : ∀ (c j : Nat) (B : Nat → Nat), (∀ i, j ≤ i → i < j + c → bit S i = bit S' i) → SS f p t S c j B = SS f p t S' c j B
  | 0, _, _, _ => rfl
  | c + 1, j, B, h => by
    rw [SS, SS, h j (by omega) (by omega), SS_congr c (j + 1) B (fun i a b => h i (by omega) (by omega)), SS_congr c (j + 1) (rm1 t B j) (fun i a b => h i (by omega) (by omega))]
theorem SS_swap {S S' c0 : Nat} (h0 : bit S c0 = 1) (hs : ∀ i, i < 12 → bit S' i = if i = c0 then 0 else bit S i) : ∀ (c j : Nat) (B : Nat → Nat), j ≤ c0 → c0 < j + c → j + c ≤ 12 → SS f p t S c j B = (10 - p) * SS f p t S' c j B + p * SS f p t S' c j (rm1 t B c0)
  | 0, j, B, h1, h2, _ => by omega
  | c + 1, j, B, h1, h2, h3 => by
    by_cases q : j = c0
    · subst q
      have e : bit S' j = 0 := by rw [hs j (by omega), if_pos rfl]
      have cg : ∀ B, SS f p t S c (j + 1) B = SS f p t S' c (j + 1) B := fun B => SS_congr c (j + 1) B (fun i a b => by rw [hs i (by omega), if_neg (by omega)])
      rw [SS, if_pos h0, cg, cg, SS, if_neg (by omega), SS, if_neg (by omega)]
    · have e : bit S' j = bit S j := by rw [hs j (by omega), if_neg q]
      have I := SS_swap h0 hs c (j + 1) B (by omega) (by omega) (by omega)
      have I2 := SS_swap h0 hs c (j + 1) (rm1 t B j) (by omega) (by omega) (by omega)
      rw [SS, SS, SS, e, I, I2, rm_comm (c := c0) (d := j) (by omega)]
      by_cases q1 : bit S j = 1
      · rw [if_pos q1, if_pos q1, if_pos q1]
        simp only [Nat.mul_add]
        ac_rfl
      · rw [if_neg q1, if_neg q1, if_neg q1]
theorem mul10 (hp : p ≤ 10) (x : Nat) : (10 - p) * x + p * x = 10 * x := by
  rw [← Nat.add_mul, show 10 - p + p = 10 by omega]
theorem SS_const {S : Nat} (hp : p ≤ 10) (hf : ∀ B j, f (rm1 t B j) = f B) : ∀ (c j : Nat) (B : Nat → Nat), SS f p t S c j B = 10 ^ cnt S c j * f B
  | 0, _, B => by rw [SS, cnt, Nat.pow_zero, Nat.one_mul]
  | c + 1, j, B => by
    rw [SS, cnt, SS_const hp hf c (j + 1) B, SS_const hp hf c (j + 1) (rm1 t B j), hf]
    have hb := bit_lt S j
    by_cases q : bit S j = 1
    · rw [if_pos q, mul10 hp, q, Nat.add_comm 1, Nat.pow_succ, Nat.mul_comm (10 ^ cnt S c (j + 1)) 10, Nat.mul_assoc]
    · rw [if_neg q, show bit S j = 0 by omega, Nat.zero_add]
theorem SS_le {S : Nat} (hp : p ≤ 10) (hf : ∀ B, f B ≤ 1) : ∀ (c j : Nat) (B : Nat → Nat), SS f p t S c j B ≤ 10 ^ cnt S c j
  | 0, _, B => by rw [SS, cnt, Nat.pow_zero]; exact hf B
  | c + 1, j, B => by
    have h1 := SS_le (S := S) hp hf c (j + 1) B
    have h2 := SS_le (S := S) hp hf c (j + 1) (rm1 t B j)
    have hb := bit_lt S j
    rw [SS, cnt]
    by_cases q : bit S j = 1
    · rw [if_pos q, q, Nat.add_comm 1, Nat.pow_succ]
      have := Nat.mul_le_mul_left (10 - p) h1
      have := Nat.mul_le_mul_left p h2
      have := mul10 hp (10 ^ cnt S c (j + 1))
      omega
    · rw [if_neg q, show bit S j = 0 by omega, Nat.zero_add]
      exact h1
theorem SS_tick {S n : Nat} (ht : t < 6) (hS : ∀ i, i < 12 → bit S i = 1 → True) : ∀ (c j : Nat) (B : Nat → Nat), WF B → (B 2 = 0 ∨ bit S (nx B) = 0) → (∀ i, bit S i = 1 → i < B 1) → j + c ≤ 12 → SS (ind (n + 1) t) p t S c j B = SS (ind n t) p t S c j (tick B)
  | 0, j, B, w, _, _, _ => by
    rw [SS, SS]
    unfold ind
    rw [ticks_tick]
  | c + 1, j, B, w, h, hb, hc => by
    rw [SS, SS, SS_tick ht hS c (j + 1) B w h hb (by omega)]
    by_cases q : bit S j = 1
    · rw [if_pos q, if_pos q]
      have hj := hb j q
      have ne : B 2 = 0 ∨ nx B ≠ j := by
        rcases h with h | h
        · exact Or.inl h
        · refine Or.inr (fun e => ?_)
          rw [e, q] at h
          omega
      rw [SS_tick ht hS c (j + 1) (rm1 t B j) (WF_rm w ht hj) (by rw [rm_n (by omega), show nx (rm1 t B j) = nx B from nx_p (by omega)]; exact h) (by rw [rm_n (by omega)]; exact hb) (by omega), tick_rm w (by omega) ne]
    · rw [if_neg q, if_neg q]
end SUMS
theorem cnt_clear {S S' c0 : Nat} (h0 : bit S c0 = 1) (hs : ∀ i, i < 12 → bit S' i = if i = c0 then 0 else bit S i) : ∀ (c j : Nat), j + c ≤ 12 → cnt S c j = cnt S' c j + (if j ≤ c0 ∧ c0 < j + c then 1 else 0)
  | 0, j, _ => by rw [cnt, cnt, if_neg (by omega)]
  | c + 1, j, h => by
    rw [cnt, cnt, cnt_clear h0 hs c (j + 1) (by omega), hs j (by omega)]
    by_cases q : j = c0
    · subst q
      rw [if_pos rfl, h0, if_neg (by omega), if_pos (by omega)]
      omega
    · rw [if_neg q]
      by_cases q2 : j ≤ c0 ∧ c0 < j + (c + 1)
      · rw [if_pos q2, if_pos (by omega)]
        omega
      · rw [if_neg q2, if_neg (by omega)]
        omega
theorem cnt_pos {S c0 : Nat} (h0 : bit S c0 = 1) : ∀ (c j : Nat), j ≤ c0 → c0 < j + c → 1 ≤ cnt S c j
  | 0, j, h1, h2 => by omega
  | c + 1, j, h1, h2 => by
    rw [cnt]
    by_cases q : j = c0
    · subst q
      omega
    · have := cnt_pos h0 c (j + 1) (by omega) (by omega)
      omega
theorem tb4095 : ∀ i, i < 12 → (4095 : Nat).testBit i = true := by decide +kernel
theorem tb32 : ∀ i, i < 12 → (4294967295 : Nat).testBit i = true := by decide +kernel
theorem nandn12' {S c : Nat} (hS : S < 4096) (hc : c < 12) : nI S &&& (nI (2 ^ c) ^^^ (-1 : Int32)) = nI (S &&& (4095 ^^^ 2 ^ c)) := by
  rw [show (-1 : Int32) = nI 4294967295 from rfl, nxor, nand]
  refine congrArg nI (Nat.eq_of_testBit_eq (fun i => ?_))
  rw [Nat.testBit_and, Nat.testBit_and, Nat.testBit_xor, Nat.testBit_xor]
  by_cases q : i < 12
  · rw [tb32 i q, tb4095 i q, Bool.xor_comm]
  · have h : S.testBit i = false := Nat.testBit_lt_two_pow (Nat.lt_of_lt_of_le (show S < 2 ^ 12 from hS) (Nat.pow_le_pow_right (by decide) (by omega)))
    rw [h, Bool.false_and, Bool.false_and]
theorem bit_clear {S c i : Nat} (hi : i < 12) : bit (S &&& (4095 ^^^ 2 ^ c)) i = if i = c then 0 else bit S i := by
  have h1 := bit_lt (S &&& (4095 ^^^ 2 ^ c)) i
  have h2 := bit_lt S i
  have key : (bit (S &&& (4095 ^^^ 2 ^ c)) i = 1) = (bit S i = 1 ∧ i ≠ c) := by
    rw [bit_tb, bit_tb, Nat.testBit_and, Nat.testBit_xor, tb4095 i hi, Nat.testBit_two_pow]
    by_cases q : c = i
    · subst q
      simp
    · have q' : ¬ i = c := fun e => q e.symm
      simp [q, q']
  by_cases q : i = c
  · rw [if_pos q]
    have : ¬ bit (S &&& (4095 ^^^ 2 ^ c)) i = 1 := by rw [key]; exact fun z => z.2 q
    omega
  · rw [if_neg q]
    by_cases q2 : bit S i = 1
    · rw [q2, key]
      exact ⟨q2, q⟩
    · have : ¬ bit (S &&& (4095 ^^^ 2 ^ c)) i = 1 := by rw [key]; exact fun z => q2 z.1
      omega
def bc0 (x : Int32) : Int32 := match f_J6_bitCount_0f7a4 x (fun _ _ => 0) with
  | some r => r.1
  | none => 0
theorem bc_k (x : Int32) (M : Mem) : f_J6_bitCount_0f7a4 x M = some (bc0 x, M) := rfl
theorem bc_n : ∀ a, a < 64 → ∀ b, b < 64 → bc0 (nI (64 * a + b)) = nI (cnt (64 * a + b) 12 0) := by decide +kernel
theorem T_bc {S : Nat} (hS : S < 4096) (M : Mem) : f_J6_bitCount_0f7a4 (nI S) M = some (nI (cnt S 12 0), M) := by
  have := bc_n (S / 64) (by omega) (S % 64) (by omega)
  rw [show 64 * (S / 64) + S % 64 = S by omega] at this
  rw [bc_k, this]
theorem cnt_le {S : Nat} : ∀ (c j : Nat), cnt S c j ≤ c
  | 0, _ => Nat.le_refl _
  | c + 1, j => by
    have := cnt_le (S := S) c (j + 1)
    have := bit_lt S j
    rw [cnt]
    omega
theorem T_ten {m : Nat} (hm : m < 1000) (M : Mem) : ∀ (c f k : Nat), k + c = m → c < f → f_X3_tenToThe_4 (nI m) f (nJ (10 ^ k)) (nI k) M = some (nJ (10 ^ m), M) := by
  intro c
  induction c with
  | zero =>
    intro f k hk hf
    obtain ⟨f, rfl⟩ : ∃ m, f = m + 1 := ⟨f - 1, by omega⟩
    rw [f_X3_tenToThe_4]
    simp (disch := omega) only [nle]
    rw [if_pos (by omega), show k = m by omega]
  | succ c ih =>
    intro f k hk hf
    obtain ⟨f, rfl⟩ : ∃ m, f = m + 1 := ⟨f - 1, by omega⟩
    rw [f_X3_tenToThe_4]
    simp (disch := omega) only [nle]
    rw [if_neg (by omega), lt_k, j_10, j_mul, ← Nat.pow_succ, show nI k + (1 : Int32) = nI (k + 1) from nI_1 k]
    exact ih f (k + 1) (by omega) (by omega)
theorem T_tenTo {m : Nat} (hm : m < 1000) (M : Mem) : f_X3_tenToThe (nI m) M = some (nJ (10 ^ m), M) := T_ten hm M m FU 0 (by omega) (by show m < 5000; omega)
theorem xor_rm : ∀ v, v < 64 → ∀ t, t < 6 → bit v t = 1 → v ^^^ 2 ^ t = v &&& (63 ^^^ 2 ^ t) := by decide +kernel
