/-! pins that may be lost: the class -/
theorem ind_le (n t : Nat) (X : Nat → Nat) : ind n t X ≤ 1 := by
  unfold ind
  split <;> omega
section LOSTC
variable {p t : Nat}
theorem T_48 {S i : Nat} {B : Nat → Nat} {M : Mem} {fr : Int32 → Int32 → Int32 → Int32 → Int32 → Mem → Option (Int64 × Mem)} (hp : p ≤ 10) (ht : t < 6) (hS : S < 4096) (w : WF B) (htB : t < B 0) (h : isW M (171 + 6 * i) B) : f_X3_weightOfRinging_48 fr (nI S) (nI t) (171 + 6 * i) M = some (nJ (SS (ind 0 t) p t S 12 0 B), M) := by
  have h18 := (w.2.2.2.2.2.1 t htB).2.2.1
  have hc := cnt_le (S := S) 12 0
  unfold f_X3_weightOfRinging_48
  rw [nI_ck ht (by decide), nI_cl (by omega), h.rings htB, T_bc hS, cb_k, T_tenTo (by omega), cb_k, SS_const hp (fun B j => by unfold ind ticks; rw [rm_n (by omega)])]
  simp (disch := omega) only [nle0]
  unfold ind ticks
  by_cases q : B (18 + t) = 0
  · rw [if_pos q, if_neg (by omega), Nat.mul_zero]
    rfl
  · rw [if_neg q, if_pos (by omega), Nat.mul_one]
theorem T_W (hp : p ≤ 10) (ht : t < 6) : ∀ (m d i n S : Nat) (B : Nat → Nat) (M : Mem), cnt S 12 0 = m → i + m ≤ 12 → m < d → S < 4096 → n ≤ 20 → WF B → t < B 0 → (∀ c, bit S c = 1 → c < B 1 ∧ bit (B (30 + c)) t = 1) → isW M (171 + 6 * i) B → ∃ M', f_X3_weightOfRinging d (nI i) (nI n) (nI S) (nI t) (nI p) M = some (nJ (SS (ind n t) p t S 12 0 B), M') ∧ (∀ c, c < 171 + 6 * i ∨ 248 < c → M' c = M c) := by
  intro m
  induction m with
  | zero =>
    intro d i n S B M hm him hd hS hn w htB hpin hw
    obtain ⟨d, rfl⟩ : ∃ m, d = m + 1 := ⟨d - 1, by omega⟩
    have hz : ∀ c, c < 12 → bit S c = 0 := fun c hc => by
      have := bit_lt S c
      by_cases q : bit S c = 1
      · have := cnt_pos q 12 0 (by omega) (by omega)
        omega
      · omega
    have loop : ∀ (n f : Nat) (B : Nat → Nat) (M : Mem), n ≤ 20 → n < f → WF B → t < B 0 → isW M (171 + 6 * i) B → (∀ c, bit S c = 1 → c < B 1) → ∃ M', f_X3_weightOfRinging_11 (f_X3_weightOfRinging d) (nI i) (nI S) (nI t) (nI p) (171 + 6 * i) f (nI n) M = some (nJ (SS (ind n t) p t S 12 0 B), M') ∧ fr6 (171 + 6 * i) M M' := by
      intro n
      induction n with
      | zero =>
        intro f B M hn hf w htB hw hpin
        obtain ⟨f, rfl⟩ : ∃ m, f = m + 1 := ⟨f - 1, by omega⟩
        refine ⟨M, ?_, fr6.rf _ _⟩
        rw [f_X3_weightOfRinging_11]
        unfold f_X3_weightOfRinging_37
        rw [if_pos (by decide), if_pos z0]
        exact T_48 hp ht hS w htB hw
      | succ n ih =>
        intro f B M hn hf w htB hw hpin
        obtain ⟨f, rfl⟩ : ∃ m, f = m + 1 := ⟨f - 1, by omega⟩
        have h12 := w.2.1
        have hx := nx_lt w
        have e0 := hz (nx B) (by omega)
        obtain ⟨M2, e2, w2, f2⟩ := T_turn hw w
        obtain ⟨M', e, f'⟩ := ih f (tick B) M2 (by omega) (by omega) (WF_tick w) (by rw [tick_n w.1.2 (by omega)]; exact htB) w2 (fun c hc => by rw [tick_n w.1.2 (by omega)]; exact hpin c hc)
        refine ⟨M', ?_, f2.tr f'⟩
        have ct := T_comesTo (s := S) hw w (by omega)
        rw [if_neg (by omega)] at ct
        rw [f_X3_weightOfRinging_11, if_neg (by rw [nle0 (by omega)]; omega), ct, cb_k, if_pos z0, e2, cb_k, show nI (n + 1) + (-1 : Int32) = nI n from by rw [← Int32.sub_eq_add_neg]; exact nsub (a := n + 1) (b := 1) (by omega), e, SS_tick ht (fun _ _ _ => trivial) 12 0 B w (Or.inr e0) hpin (by omega)]
    obtain ⟨M', e, f'⟩ := loop n FU B M hn (by show n < 5000; omega) w htB hw (fun c hc => (hpin c hc).1)
    refine ⟨M', ?_, fun c hc => f' c (by omega)⟩
    rw [f_X3_weightOfRinging]
    unfold e_X3_weightOfRinging
    rw [nI_ck (by omega) (by decide), nI_cl (by omega), e]
  | succ m IH =>
    intro d i n S B M hm him hd hS hn w htB hpin hw
    obtain ⟨d, rfl⟩ : ∃ m, d = m + 1 := ⟨d - 1, by omega⟩
    have loop : ∀ (n f : Nat) (B : Nat → Nat) (M : Mem), n ≤ 20 → n < f → WF B → t < B 0 → isW M (171 + 6 * i) B → (∀ c, bit S c = 1 → c < B 1 ∧ bit (B (30 + c)) t = 1) → ∃ M', f_X3_weightOfRinging_11 (f_X3_weightOfRinging d) (nI i) (nI S) (nI t) (nI p) (171 + 6 * i) f (nI n) M = some (nJ (SS (ind n t) p t S 12 0 B), M') ∧ (∀ c, c < 171 + 6 * i ∨ 248 < c → M' c = M c) := by
      intro n
      induction n with
      | zero =>
        intro f B M hn hf w htB hw hpin
        obtain ⟨f, rfl⟩ : ∃ m, f = m + 1 := ⟨f - 1, by omega⟩
        refine ⟨M, ?_, fun _ _ => rfl⟩
        rw [f_X3_weightOfRinging_11]
        unfold f_X3_weightOfRinging_37
        rw [if_pos (by decide), if_pos z0]
        exact T_48 hp ht hS w htB hw
      | succ n ih =>
        intro f B M hn hf w htB hw hpin
        obtain ⟨f, rfl⟩ : ∃ m, f = m + 1 := ⟨f - 1, by omega⟩
        have h12 := w.2.1
        have hx := nx_lt w
        have hbx := bit_lt S (nx B)
        by_cases q : 0 < B 2 ∧ bit S (nx B) = 1
        · -- a pin is decided upon
          obtain ⟨c0, hc0⟩ : ∃ c0, c0 = nx B := ⟨_, rfl⟩
          rw [← hc0] at q hx
          have hbit : bit S c0 = 1 := q.2
          have hs := fun j (hj : j < 12) => bit_clear (S := S) (c := c0) hj
          have hcl := cnt_clear hbit hs 12 0 (by omega)
          rw [if_pos (by omega)] at hcl
          have hS' : S &&& (4095 ^^^ 2 ^ c0) < 4096 := Nat.lt_of_le_of_lt Nat.and_le_left hS
          have hpin' : ∀ c, bit (S &&& (4095 ^^^ 2 ^ c0)) c = 1 → c ≠ c0 ∧ bit S c = 1 := by
            intro c hc
            rw [bit_tb, Nat.testBit_and, Bool.and_eq_true] at hc
            have hSc : bit S c = 1 := by rw [bit_tb]; exact hc.1
            have hc12 := (hpin c hSc).1
            refine ⟨fun e => ?_, hSc⟩
            have h0 := hs c (by omega)
            rw [if_pos e, bit_tb0, Nat.testBit_and, hc.1, hc.2] at h0
            exact absurd h0 (by decide)
          have hp0 := (hpin c0 hbit).2
          have hv := w.2.2.2.2.2.2 c0 hx
          -- the box as it stands, and its copy
          have tk : ∀ M1, isW M1 (171 + 6 * i) B → ∃ M2, f_X5_takeFrom (171 + 6 * (i + 1)) (171 + 6 * i) M1 = some M2 ∧ isW M2 (171 + 6 * (i + 1)) B ∧ isW M2 (171 + 6 * i) B ∧ ∀ c, c < 171 + 6 * (i + 1) ∨ 248 < c → M2 c = M1 c := by
            intro M1 h1
            obtain ⟨M2, e2, w2, f2⟩ := T_takeFrom (r := 171 + 6 * (i + 1)) (o := 171 + 6 * i) h1 (by omega)
            exact ⟨M2, e2, w2, h1.fr f2 (by omega), fun c hc => f2 c (by omega)⟩
          have R1 : ∀ M1, isW M1 (171 + 6 * i) B → ∃ M2 M3, f_X5_takeFrom (171 + 6 * (i + 1)) (171 + 6 * i) M1 = some M2 ∧ f_X3_weightOfRinging d (nI (i + 1)) (nI (n + 1)) (nI (S &&& (4095 ^^^ 2 ^ c0))) (nI t) (nI p) M2 = some (nJ (SS (ind (n + 1) t) p t (S &&& (4095 ^^^ 2 ^ c0)) 12 0 B), M3) ∧ isW M3 (171 + 6 * i) B ∧ ∀ c, c < 171 + 6 * i ∨ 248 < c → M3 c = M1 c := by
            intro M1 h1
            obtain ⟨M2, e2, w2, v2, f2⟩ := tk M1 h1
            obtain ⟨M3, e3, f3⟩ := IH d (i + 1) (n + 1) (S &&& (4095 ^^^ 2 ^ c0)) B M2 (by omega) (by omega) (by omega) hS' hn w htB (fun c hc => hpin c (hpin' c hc).2) w2
            exact ⟨M2, M3, e2, e3, v2.kept (fun c a1 a2 => f3 c (by omega)), fun c hc => by rw [f3 c (by omega), f2 c (by omega)]⟩
          have R2 : ∀ M1, isW M1 (171 + 6 * i) B → ∃ M2 M2' M3, f_X5_takeFrom (171 + 6 * (i + 1)) (171 + 6 * i) M1 = some M2 ∧ f_X5_togglePin (171 + 6 * (i + 1)) (nI c0) (nI t) M2 = some M2' ∧ f_X3_weightOfRinging d (nI (i + 1)) (nI (n + 1)) (nI (S &&& (4095 ^^^ 2 ^ c0))) (nI t) (nI p) M2' = some (nJ (SS (ind (n + 1) t) p t (S &&& (4095 ^^^ 2 ^ c0)) 12 0 (rm1 t B c0)), M3) ∧ ∀ c, c < 171 + 6 * i ∨ 248 < c → M3 c = M1 c := by
            intro M1 h1
            obtain ⟨M2, e2, w2, v2, f2⟩ := tk M1 h1
            obtain ⟨M2', e2', w2', f2'⟩ := T_togglePin (c := c0) (t := t) w2 hx (by omega)
            rw [xor_rm _ hv t ht hp0] at w2'
            obtain ⟨M3, e3, f3⟩ := IH d (i + 1) (n + 1) (S &&& (4095 ^^^ 2 ^ c0)) (rm1 t B c0) M2' (by omega) (by omega) (by omega) hS' hn (WF_rm w ht hx) (by rw [rm_n (by omega)]; exact htB) (fun c hc => by
              have h1 := hpin' c hc
              have h2 := hpin c h1.2
              rw [rm_n (by omega), rm_n (by omega)]
              exact h2) w2'
            exact ⟨M2, M2', M3, e2, e2', e3, fun c hc => by rw [f3 c (by omega), f2' c (by omega), f2 c (by omega)]⟩
          have hsw := SS_swap (f := ind (n + 1) t) (p := p) (t := t) hbit hs 12 0 B (by omega) (by omega) (by omega)
          have e142 : ∀ (M1 : Mem) (y : Nat), isW M1 (171 + 6 * i) B → ∃ M', f_X3_weightOfRinging_142 (f_X3_weightOfRinging d) (nI i) (nI t) (nI p) (171 + 6 * i) (171 + 6 * (i + 1)) (nI (n + 1)) (nI c0) (nI (S &&& (4095 ^^^ 2 ^ c0))) (nJ y) M1 = some (nJ (y + p * SS (ind (n + 1) t) p t (S &&& (4095 ^^^ 2 ^ c0)) 12 0 (rm1 t B c0)), M') ∧ ∀ c, c < 171 + 6 * i ∨ 248 < c → M' c = M1 c := by
            intro M1 y h1
            by_cases q0 : p = 0
            · refine ⟨M1, ?_, fun _ _ => rfl⟩
              unfold f_X3_weightOfRinging_142 f_X3_weightOfRinging_187
              rw [if_pos (by rw [nle0 (by omega)]; exact q0), q0, Nat.zero_mul, Nat.add_zero]
            · obtain ⟨M2, M2', M3, e2, e2', e3, f3⟩ := R2 M1 h1
              refine ⟨M3, ?_, f3⟩
              unfold f_X3_weightOfRinging_142 f_X3_weightOfRinging_187
              rw [if_neg (by rw [nle0 (by omega)]; exact q0), e2, cv_k, e2', cv_k, show nI i + (1 : Int32) = nI (i + 1) from nI_1 i, e3, cb_k, j_w (by omega), j_mul, j_add, lt_k]
          have hfin : ∃ M', f_X3_weightOfRinging_37 (f_X3_weightOfRinging d) (nI i) (nI S) (nI t) (nI p) (171 + 6 * i) (nI (n + 1)) M = some (nJ (SS (ind (n + 1) t) p t S 12 0 B), M') ∧ ∀ c, c < 171 + 6 * i ∨ 248 < c → M' c = M c := by
            unfold f_X3_weightOfRinging_37
            rw [if_neg (by rw [neq0 (by omega)]; omega), if_pos (by rw [l_12, nlt (by omega) (by omega)]; omega), T_columnBehind hw (by have := w.2.2.2.1; omega), cb_k, ← hc0, nshl1 c0 (by omega), nandn12' hS (by omega), lt_k, show nI i + (1 : Int32) = nI (i + 1) from nI_1 i, nI_ck (by omega) (by decide), nI_cl (by omega)]
            by_cases q10 : p = 10
            · obtain ⟨M', e, f'⟩ := e142 M 0 hw
              refine ⟨M', ?_, f'⟩
              rw [if_pos (by rw [l_10, nle (by omega) (by omega)]; omega), hsw, q10]
              rw [q10] at e
              rw [show (10 - 10) * SS (ind (n + 1) t) 10 t (S &&& (4095 ^^^ 2 ^ c0)) 12 0 B = 0 by rw [Nat.sub_self, Nat.zero_mul]]
              exact e
            · obtain ⟨M2, M3, e2, e3, v3, f3⟩ := R1 M hw
              obtain ⟨M', e, f'⟩ := e142 M3 ((10 - p) * SS (ind (n + 1) t) p t (S &&& (4095 ^^^ 2 ^ c0)) 12 0 B) v3
              refine ⟨M', ?_, fun c hc => by rw [f' c hc, f3 c hc]⟩
              rw [if_neg (by rw [l_10, nle (by omega) (by omega)]; omega), e2, cv_k, e3, cb_k, l_10, nsub (by omega), j_w (by omega), j_mul, j_0, j_add, lt_k, Nat.zero_add, hsw]
              exact e
          obtain ⟨M', e, f'⟩ := hfin
          refine ⟨M', ?_, f'⟩
          have ct := T_comesTo (s := S) hw w (by omega)
          rw [← hc0, if_pos q] at ct
          rw [f_X3_weightOfRinging_11, if_neg (by rw [nle0 (by omega)]; omega), ct, cb_k, if_neg (by decide)]
          exact e
        · obtain ⟨M2, e2, w2, f2⟩ := T_turn hw w
          obtain ⟨M', e, f'⟩ := ih f (tick B) M2 (by omega) (by omega) (WF_tick w) (by rw [tick_n w.1.2 (by omega)]; exact htB) w2 (fun c hc => by
            have h1 := (hpin c hc).1
            rw [tick_n w.1.2 (by omega), tick_n w.1.2 (by omega)]
            exact hpin c hc)
          refine ⟨M', ?_, fun c hc => by rw [f' c hc, f2 c (by omega)]⟩
          have ct := T_comesTo (s := S) hw w (by omega)
          rw [if_neg q] at ct
          rw [f_X3_weightOfRinging_11, if_neg (by rw [nle0 (by omega)]; omega), ct, cb_k, if_pos z0, e2, cb_k, show nI (n + 1) + (-1 : Int32) = nI n from by rw [← Int32.sub_eq_add_neg]; exact nsub (a := n + 1) (b := 1) (by omega), e, SS_tick ht (fun _ _ _ => trivial) 12 0 B w (by omega) (fun c hc => (hpin c hc).1) (by omega)]
    obtain ⟨M', e, f'⟩ := loop n FU B M hn (by show n < 5000; omega) w htB hw hpin
    refine ⟨M', ?_, f'⟩
    rw [f_X3_weightOfRinging]
    unfold e_X3_weightOfRinging
    rw [nI_ck (by omega) (by decide), nI_cl (by omega), e]
end LOSTC
/-! the greatest divisor, as both find it -/
theorem T_gcd (M : Mem) : ∀ (k a b f i : Nat), a < 9223372036854775808 → b < 2 ^ k → k ≤ 62 → 2 * k + 1 < f → i + 2 * k < 990 → f_X3_commonDivisor_9 f (nJ a) (nJ b) (nI i) M = some (nJ (Nat.gcd a b), M) := by
  intro k
  induction k with
  | zero =>
    intro a b f i ha hb hk hf hi
    obtain ⟨f, rfl⟩ : ∃ m, f = m + 1 := ⟨f - 1, by omega⟩
    have hb0 : b = 0 := by
      have : 2 ^ 0 = 1 := rfl
      omega
    subst hb0
    rw [f_X3_commonDivisor_9]
    unfold f_X3_commonDivisor_45
    simp (disch := omega) only [l_1000, nle, cmp_eq, j_0]
    rw [if_neg (by omega), if_pos trivial, Nat.gcd_zero_right]
  | succ k ih =>
    intro a b f i ha hb hk hf hi
    obtain ⟨f, rfl⟩ : ∃ m, f = m + 1 := ⟨f - 1, by omega⟩
    have h62 : 2 ^ (k + 1) ≤ 2 ^ 62 := Nat.pow_le_pow_right (by decide) hk
    have h62' : (2 : Nat) ^ 62 = 4611686018427387904 := by decide
    have hps : 2 ^ (k + 1) = 2 * 2 ^ k := by rw [Nat.pow_succ, Nat.mul_comm]
    rw [f_X3_commonDivisor_9]
    unfold f_X3_commonDivisor_45
    simp (disch := omega) only [l_1000, nle, cmp_eq, j_0, j_eq]
    rw [if_neg (by omega)]
    by_cases q : b = 0
    · rw [if_pos q, q, Nat.gcd_zero_right]
    · rw [if_neg q, j_cz (by omega) (by omega), lt_k, j_rem ha (by omega) (by omega), show nI i + (1 : Int32) = nI (i + 1) from nI_1 i]
      have hr := Nat.mod_lt a (show 0 < b by omega)
      obtain ⟨f, rfl⟩ : ∃ m, f = m + 1 := ⟨f - 1, by omega⟩
      have e1 : Nat.gcd a b = Nat.gcd b (a % b) := by rw [Nat.gcd_comm a b, Nat.gcd_rec b a, Nat.gcd_comm]
      rw [f_X3_commonDivisor_9]
      unfold f_X3_commonDivisor_45
      simp (disch := omega) only [l_1000, nle, cmp_eq, j_0, j_eq]
      rw [if_neg (by omega)]
      by_cases q2 : a % b = 0
      · rw [if_pos q2, e1, q2, Nat.gcd_zero_right]
      · rw [if_neg q2, j_cz (by omega) (by omega), lt_k, j_rem (by omega) (by omega) (by omega), show nI (i + 1) + (1 : Int32) = nI (i + 2) from nI_1 (i + 1)]
        have hr2 := Nat.mod_lt b (show 0 < a % b by omega)
        have hdm := Nat.div_add_mod b (a % b)
        have hd1 : 1 ≤ b / (a % b) := Nat.div_pos (by omega) (by omega)
        have hm1 := Nat.mul_le_mul_left (a % b) hd1
        rw [Nat.mul_one] at hm1
        rw [ih (a % b) (b % (a % b)) f (i + 2) (by omega) (by omega) (by omega) (by omega) (by omega), e1]
        congr 3
        rw [Nat.gcd_comm b (a % b), Nat.gcd_rec (a % b) b, Nat.gcd_comm]
theorem S_gcd {x4 : Int32} {y6 y8 : Int64} (M : Mem) : ∀ (k a b f : Nat), a < 9223372036854775808 → b < 2 ^ k → k ≤ 62 → 2 * k + 1 < f → 0 < Nat.gcd a b → Nat.gcd a b < 9223372036854775808 → f_X7_lost_275 x4 f y6 y8 (nJ a) (nJ b) M = some (if x4 = 0 then y6 / nJ (Nat.gcd a b) else y8 / nJ (Nat.gcd a b), M) := by
  have fin : ∀ g, 0 < g → g < 9223372036854775808 → (if x4 = 0 then czl (nJ g) (some ((y6 / nJ g), M)) else czl (nJ g) (some ((y8 / nJ g), M))) = some (if x4 = 0 then y6 / nJ g else y8 / nJ g, M) := by
    intro g h0 h1
    rw [j_cz h0 h1, j_cz h0 h1]
    by_cases q : x4 = 0
    · rw [if_pos q, if_pos q]
    · rw [if_neg q, if_neg q]
  intro k
  induction k with
  | zero =>
    intro a b f ha hb hk hf hg hg2
    obtain ⟨f, rfl⟩ : ∃ m, f = m + 1 := ⟨f - 1, by omega⟩
    have hb0 : b = 0 := by
      have : 2 ^ 0 = 1 := rfl
      omega
    subst hb0
    rw [Nat.gcd_zero_right] at hg hg2 ⊢
    rw [f_X7_lost_275]
    simp (disch := omega) only [cmp_eq, j_0]
    rw [if_pos trivial]
    exact fin a hg hg2
  | succ k ih =>
    intro a b f ha hb hk hf hg hg2
    obtain ⟨f, rfl⟩ : ∃ m, f = m + 1 := ⟨f - 1, by omega⟩
    have h62 : 2 ^ (k + 1) ≤ 2 ^ 62 := Nat.pow_le_pow_right (by decide) hk
    have h62' : (2 : Nat) ^ 62 = 4611686018427387904 := by decide
    have hps : 2 ^ (k + 1) = 2 * 2 ^ k := by rw [Nat.pow_succ, Nat.mul_comm]
    rw [f_X7_lost_275]
    simp (disch := omega) only [cmp_eq, j_0, j_eq]
    by_cases q : b = 0
    · rw [q, Nat.gcd_zero_right] at hg hg2
      rw [if_pos q, q, Nat.gcd_zero_right]
      exact fin a hg hg2
    · have hr := Nat.mod_lt a (show 0 < b by omega)
      obtain ⟨f, rfl⟩ : ∃ m, f = m + 1 := ⟨f - 1, by omega⟩
      have e1 : Nat.gcd a b = Nat.gcd b (a % b) := by rw [Nat.gcd_comm a b, Nat.gcd_rec b a, Nat.gcd_comm]
      rw [e1] at hg hg2
      rw [if_neg q, j_cz (by omega) (by omega), lt_k, j_rem ha (by omega) (by omega), e1, f_X7_lost_275]
      simp (disch := omega) only [cmp_eq, j_0, j_eq]
      by_cases q2 : a % b = 0
      · rw [q2, Nat.gcd_zero_right] at hg hg2
        rw [if_pos q2, q2, Nat.gcd_zero_right]
        exact fin b hg hg2
      · have hr2 := Nat.mod_lt b (show 0 < a % b by omega)
        have hdm := Nat.div_add_mod b (a % b)
        have hd1 : 1 ≤ b / (a % b) := Nat.div_pos (by omega) (by omega)
        have hm1 := Nat.mul_le_mul_left (a % b) hd1
        rw [Nat.mul_one] at hm1
        have e2 : Nat.gcd b (a % b) = Nat.gcd (a % b) (b % (a % b)) := by rw [Nat.gcd_comm b (a % b), Nat.gcd_rec (a % b) b, Nat.gcd_comm]
        rw [e2] at hg hg2
        rw [if_neg q2, j_cz (by omega) (by omega), lt_k, j_rem (by omega) (by omega) (by omega), e2]
        exact ih (a % b) (b % (a % b)) f (by omega) (by omega) (by omega) (by omega) hg hg2
