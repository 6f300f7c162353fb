/-! pins that may be lost: the reference -/
def pcl (b : Nat → Nat) (t : Nat) : Nat → Nat → List Nat
  | 0, _ => []
  | c + 1, j => if bit (b (30 + j)) t = 1 then j :: pcl b t c (j + 1) else pcl b t c (j + 1)
def wl (f : (Nat → Nat) → Nat) (p t : Nat) : List Nat → Nat → (Nat → Nat) → Nat
  | [], _, B => f B
  | c :: L, s, B => if s % 2 = 1 then p * wl f p t L (s / 2) (rm1 t B c) else (10 - p) * wl f p t L (s / 2) B
def SSL (f : (Nat → Nat) → Nat) (p t : Nat) : List Nat → (Nat → Nat) → Nat
  | [], B => f B
  | c :: L, B => (10 - p) * SSL f p t L B + p * SSL f p t L (rm1 t B c)
def sumTo (h : Nat → Nat) : Nat → Nat
  | 0 => 0
  | n + 1 => sumTo h n + h n
theorem sum_two (h : Nat → Nat) : ∀ n, sumTo h (2 * n) = sumTo (fun u => h (2 * u)) n + sumTo (fun u => h (2 * u + 1)) n
  | 0 => rfl
  | n + 1 => by
    rw [show 2 * (n + 1) = 2 * n + 1 + 1 by omega, sumTo, sumTo, sum_two h n, sumTo, sumTo]
    omega
theorem sum_mul (a : Nat) (h : Nat → Nat) : ∀ n, sumTo (fun u => a * h u) n = a * sumTo h n
  | 0 => by rw [sumTo, sumTo, Nat.mul_zero]
  | n + 1 => by rw [sumTo, sumTo, sum_mul a h n, Nat.mul_add]
theorem sum_wl {f : (Nat → Nat) → Nat} {p t : Nat} : ∀ (L : List Nat) (B : Nat → Nat), sumTo (fun s => wl f p t L s B) (2 ^ L.length) = SSL f p t L B
  | [], B => by
    show sumTo (fun s => wl f p t [] s B) 1 = f B
    rw [sumTo, sumTo, Nat.zero_add]
    rfl
  | c :: L, B => by
    have e1 : (fun u => wl f p t (c :: L) (2 * u) B) = fun u => (10 - p) * wl f p t L u B := by
      funext u
      rw [wl, if_neg (by omega), show 2 * u / 2 = u by omega]
    have e2 : (fun u => wl f p t (c :: L) (2 * u + 1) B) = fun u => p * wl f p t L u (rm1 t B c) := by
      funext u
      rw [wl, if_pos (by omega), show (2 * u + 1) / 2 = u by omega]
    rw [List.length_cons, Nat.pow_succ, Nat.mul_comm, sum_two, e1, e2, sum_mul, sum_mul, sum_wl L B, sum_wl L (rm1 t B c), SSL]
theorem SSL_SS {f : (Nat → Nat) → Nat} {p t S : Nat} {b : Nat → Nat} : ∀ (c j : Nat) (B : Nat → Nat), (∀ i, j ≤ i → i < j + c → (bit S i = 1 ↔ bit (b (30 + i)) t = 1)) → SSL f p t (pcl b t c j) B = SS f p t S c j B
  | 0, j, B, _ => rfl
  | c + 1, j, B, h => by
    have hj := h j (by omega) (by omega)
    rw [pcl, SS]
    by_cases q : bit S j = 1
    · rw [if_pos (hj.1 q), if_pos q, SSL, SSL_SS c (j + 1) B (fun i a b => h i (by omega) (by omega)), SSL_SS c (j + 1) (rm1 t B j) (fun i a b => h i (by omega) (by omega))]
    · rw [if_neg (fun z => q (hj.2 z)), if_neg q, SSL_SS c (j + 1) B (fun i a b => h i (by omega) (by omega))]
theorem pcl_len {t S : Nat} {b : Nat → Nat} : ∀ (c j : Nat), (∀ i, j ≤ i → i < j + c → (bit S i = 1 ↔ bit (b (30 + i)) t = 1)) → (pcl b t c j).length = cnt S c j
  | 0, j, _ => rfl
  | c + 1, j, h => by
    have hj := h j (by omega) (by omega)
    have hb := bit_lt S j
    rw [pcl, cnt]
    by_cases q : bit S j = 1
    · rw [if_pos (hj.1 q), List.length_cons, pcl_len c (j + 1) (fun i a b => h i (by omega) (by omega)), q]
      omega
    · rw [if_neg (fun z => q (hj.2 z)), pcl_len c (j + 1) (fun i a b => h i (by omega) (by omega))]
      omega
theorem pcl_mem {t : Nat} {b : Nat → Nat} : ∀ (c j : Nat) (x : Nat), x ∈ pcl b t c j → x < j + c
  | 0, j, x, h => by cases h
  | c + 1, j, x, h => by
    rw [pcl] at h
    by_cases q : bit (b (30 + j)) t = 1
    · rw [if_pos q] at h
      rcases List.mem_cons.mp h with h | h
      · omega
      · have := pcl_mem c (j + 1) x h
        omega
    · rw [if_neg q] at h
      have := pcl_mem c (j + 1) x h
      omega
theorem SS_none {f : (Nat → Nat) → Nat} {p t S : Nat} : ∀ (c j : Nat) (B : Nat → Nat), (∀ i, j ≤ i → i < j + c → bit S i = 0) → SS f p t S c j B = f B
  | 0, _, _, _ => rfl
  | c + 1, j, B, h => by rw [SS, if_neg (by rw [h j (by omega) (by omega)]; omega), SS_none c (j + 1) B (fun i a b => h i (by omega) (by omega))]
theorem SS_ext {f : (Nat → Nat) → Nat} {p t S e : Nat} : ∀ (c j : Nat) (B : Nat → Nat), (∀ i, j + c ≤ i → i < j + c + e → bit S i = 0) → SS f p t S (c + e) j B = SS f p t S c j B
  | 0, j, B, h => by rw [Nat.zero_add, SS_none e j B (fun i a b => h i (by omega) (by omega))]; rfl
  | c + 1, j, B, h => by
    rw [show c + 1 + e = c + e + 1 by omega, SS, SS, SS_ext c (j + 1) B (fun i a b => h i (by omega) (by omega)), SS_ext c (j + 1) (rm1 t B j) (fun i a b => h i (by omega) (by omega))]
theorem cnt_none {S : Nat} : ∀ (c j : Nat), (∀ i, j ≤ i → i < j + c → bit S i = 0) → cnt S c j = 0
  | 0, _, _ => rfl
  | c + 1, j, h => by rw [cnt, h j (by omega) (by omega), cnt_none c (j + 1) (fun i a b => h i (by omega) (by omega))]
theorem cnt_ext {S e : Nat} : ∀ (c j : Nat), (∀ i, j + c ≤ i → i < j + c + e → bit S i = 0) → cnt S (c + e) j = cnt S c j
  | 0, j, h => by rw [Nat.zero_add, cnt_none e j (fun i a b => h i (by omega) (by omega))]; rfl
  | c + 1, j, h => by
    rw [show c + 1 + e = c + e + 1 by omega, cnt, cnt, cnt_ext c (j + 1) (fun i a b => h i (by omega) (by omega))]
theorem mBits_tb {P : Nat → Bool} : ∀ (c j a i : Nat), a < 2 ^ j → (mBits P j c a).testBit i = if i < j then a.testBit i else (decide (i < j + c) && P i)
  | 0, j, a, i, h => by
    rw [mBits]
    by_cases q : i < j
    · rw [if_pos q]
    · rw [if_neg q, Nat.testBit_lt_two_pow (Nat.lt_of_lt_of_le h (Nat.pow_le_pow_right (by decide) (by omega)))]
      simp [q]
  | c + 1, j, a, i, h => by
    have h1 : 2 ^ j < 2 ^ (j + 1) := Nat.pow_lt_pow_right (by decide) (by omega)
    have ha : (if P j then a ||| 2 ^ j else a) < 2 ^ (j + 1) := by
      split
      · exact Nat.or_lt_two_pow (by omega) h1
      · omega
    rw [mBits, mBits_tb c (j + 1) _ i ha]
    by_cases q : i < j
    · rw [if_pos (by omega), if_pos q]
      split
      · rw [Nat.testBit_or, Nat.testBit_two_pow_of_ne (by omega), Bool.or_false]
      · rfl
    · rw [if_neg q]
      by_cases q2 : i = j
      · subst q2
        rw [if_pos (by omega)]
        have h0 : a.testBit i = false := Nat.testBit_lt_two_pow h
        by_cases qp : P i = true
        · rw [if_pos qp, Nat.testBit_or, Nat.testBit_two_pow_self, Bool.or_true, qp]
          simp
        · rw [if_neg qp, h0, show P i = false by simpa using qp, Bool.and_false]
      · rw [if_neg (by omega), show (decide (i < j + 1 + c)) = decide (i < j + (c + 1)) by rw [show j + 1 + c = j + (c + 1) by omega]]
theorem cols_lt {b : Nat → Nat} {t : Nat} (h : b 1 ≤ 12) : colsOf b t < 4096 := by
  have := mBits_lt (p := fun c => decide (bit (b (30 + c)) t = 1)) (b 1) 0 0 (by decide)
  have h2 : 2 ^ (0 + b 1) ≤ 2 ^ 12 := Nat.pow_le_pow_right (by decide) (by omega)
  unfold colsOf
  omega
theorem cols_bit {b : Nat → Nat} {t i : Nat} : bit (colsOf b t) i = 1 ↔ i < b 1 ∧ bit (b (30 + i)) t = 1 := by
  unfold colsOf
  rw [bit_tb, mBits_tb (b 1) 0 0 i (by decide), if_neg (by omega), Nat.zero_add, Bool.and_eq_true, decide_eq_true_iff, decide_eq_true_iff]
theorem j_le0 {w : Nat} (h : w < 9223372036854775808) : (nJ w ≤ (0 : Int64)) = (w = 0) := by
  refine propext ?_
  rw [Int64.le_iff_toInt_le, jt h, show (0 : Int64).toInt = 0 from rfl]
  omega
theorem and_m1 : ∀ v, v < 64 → nI v &&& (-1 : Int32) = nI v := by decide +kernel
section LOSTM
variable {p t n : Nat} {x4 : Int32} {b : Nat → Nat}
theorem S_53 (ht : t < 6) (w : WF b) : ∀ (c f j k : Nat) (M : Mem), j + c = b 1 → c < f → k + (pcl b t c j).length ≤ 12 → isS M 0 b → ∃ M', f_X7_lost_53 (nI t) (nI n) (nI p) x4 f (nI k) (nI j) M = f_X7_lost_108 (nI t) (nI n) (nI p) x4 FU (nI (k + (pcl b t c j).length)) (nJ 0) (nJ 1) (nI 0) M' ∧ (∀ i, i < (pcl b t c j).length → M' 287 (k + i) = nI ((pcl b t c j).getD i 0)) ∧ (∀ i, i < k → M' 287 i = M 287 i) ∧ (∀ c, c ≠ 287 → M' c = M c) := by
  have h12 := w.2.1
  intro c
  induction c with
  | zero =>
    intro f j k M hj hf hl hs
    obtain ⟨f, rfl⟩ : ∃ m, f = m + 1 := ⟨f - 1, by omega⟩
    refine ⟨M, ?_, fun i hi => absurd hi (Nat.not_lt_zero _), fun _ _ => rfl, fun _ _ => rfl⟩
    rw [f_X7_lost_53, hs.z (k := 1) (by decide)]
    simp (disch := omega) only [nle]
    rw [if_pos (by omega)]
    rfl
  | succ c ih =>
    intro f j k M hj hf hl hs
    obtain ⟨f, rfl⟩ : ∃ m, f = m + 1 := ⟨f - 1, by omega⟩
    have hv := w.2.2.2.2.2.2 j (by omega)
    have hbt := bit_lt (b (30 + j)) t
    have ep : M 280 (30 + j) = nI (b (30 + j)) := hs.zJ (by unfold rel; omega)
    have E : nI j + (1 : Int32) = nI (j + 1) := nI_1 j
    rw [pcl] at hl ⊢
    by_cases q : bit (b (30 + j)) t = 1
    · rw [if_pos q] at hl ⊢
      rw [List.length_cons] at hl ⊢
      obtain ⟨M', e, h1, h2, h3⟩ := ih f (j + 1) (k + 1) (up2 M 287 k (nI j)) (by omega) (by omega) (by omega) (hs.kept (fun _ _ _ => by rw [up2_c (by omega)]))
      refine ⟨M', ?_, fun i hi => ?_, fun i hi => by rw [h2 i (by omega), up2_n (by omega)], fun c hc => by rw [h3 c hc, up2_c hc]⟩
      · rw [f_X7_lost_53, hs.z (k := 1) (by decide)]
        simp (disch := omega) only [nle, l_30, nI_add, nI_ck, nI_cl]
        unfold f_X7_lost_93
        rw [if_neg (by omega), ep, S_has (by omega) (by omega), cb_k, q, if_neg (by decide), lt_k, E, show nI k + (1 : Int32) = nI (k + 1) from nI_1 k, e, show k + 1 + (pcl b t c (j + 1)).length = k + ((pcl b t c (j + 1)).length + 1) by omega]
      · cases i with
        | zero =>
          rw [Nat.add_zero, h2 k (by omega), up2_s]
          rfl
        | succ i =>
          have := h1 i (by omega)
          rw [show k + 1 + i = k + (i + 1) by omega] at this
          exact this
    · rw [if_neg q] at hl ⊢
      obtain ⟨M', e, h1, h2, h3⟩ := ih f (j + 1) k M (by omega) (by omega) hl hs
      refine ⟨M', ?_, h1, h2, h3⟩
      rw [f_X7_lost_53, hs.z (k := 1) (by decide)]
      simp (disch := omega) only [nle, l_30, nI_add, nI_ck, nI_cl]
      unfold f_X7_lost_93
      rw [if_neg (by omega), ep, S_has (by omega) (by omega), cb_k, show bit (b (30 + j)) t = 0 by omega, if_pos z0, E, e]
theorem S_108 {K : Nat} {y6 : Int64} (hK : K ≤ 12) (M : Mem) : ∀ (c f k : Nat), k + c = K → c < f → f_X7_lost_108 (nI t) (nI n) (nI p) x4 f (nI K) y6 (nJ (10 ^ k)) (nI k) M = f_X7_lost_132 (nI t) (nI n) (nI p) x4 FU (nI K) y6 (nJ (10 ^ K)) (nI 0) M := by
  intro c
  induction c with
  | zero =>
    intro f k hk hf
    obtain ⟨f, rfl⟩ : ∃ m, f = m + 1 := ⟨f - 1, by omega⟩
    rw [f_X7_lost_108]
    simp (disch := omega) only [nle]
    rw [if_pos (by omega), show k = K by omega]
    rfl
  | succ c ih =>
    intro f k hk hf
    obtain ⟨f, rfl⟩ : ∃ m, f = m + 1 := ⟨f - 1, by omega⟩
    rw [f_X7_lost_108]
    simp (disch := omega) only [nle]
    rw [if_neg (by omega), lt_k, j_10, j_mul, ← Nat.pow_succ, show nI k + (1 : Int32) = nI (k + 1) from nI_1 k]
    exact ih f (k + 1) (by omega) (by omega)
theorem S_151L {K s Y : Nat} {y8 : Int64} {KK : Int32 → Int64 → Int64 → Int32 → Mem → Option (Int64 × Mem)} (hp : p ≤ 10) (ht : t < 6) (hn : n < 1000) (hK : K ≤ 12) (hs : s < 4096) : ∀ (L : List Nat) (f i w : Nat) (B : Nat → Nat) (M : Mem), i + L.length = K → L.length < f → (∀ u, u < L.length → M 287 (i + u) = nI (L.getD u 0)) → (∀ c, c ∈ L → c < B 1) → isS M 43 B → WF B → t < B 0 → w ≤ 10 ^ i → ∃ M', f_X7_lost_151 (nI t) (nI n) (nI p) x4 KK f (nI K) (nJ Y) y8 (nI s) (nJ w) (nI i) M = f_X7_lost_261 (nI t) (nI n) (nI p) x4 KK (nI K) (nJ (Y + w * wl (ind n t) p t L (s / 2 ^ i) B)) y8 (nI s) M' ∧ frS 43 M M' := by
  have p12 : ∀ i, i ≤ 12 → 10 ^ i ≤ 1000000000000 := fun i hi => Nat.le_trans (Nat.pow_le_pow_right (by decide) hi) (by decide)
  intro L
  induction L with
  | nil =>
    intro f i w B M hi hf h287 hL hS wB htB hw
    obtain ⟨f, rfl⟩ : ∃ m, f = m + 1 := ⟨f - 1, by omega⟩
    have hi' : i = K := hi
    have := p12 i (by omega)
    by_cases q : w = 0
    · refine ⟨M, ?_, frS.rf _ _⟩
      rw [f_X7_lost_151]
      simp (disch := omega) only [nle, cmp_le, j_le0]
      rw [if_pos (by omega), if_pos q, q, Nat.zero_mul, Nat.add_zero]
    · obtain ⟨M2, e2, s2, f2⟩ := S_goesOn (m := n) hn hS wB
      have wn := WF_ticks wB n
      have e0 := ticks_n wB (i := 0) (by omega) n
      have h18 := (wn.2.2.2.2.2.1 t (by omega)).2.2.1
      refine ⟨M2, ?_, f2⟩
      rw [f_X7_lost_151]
      simp (disch := omega) only [nle, cmp_le, j_le0, l_61, nI_add, nI_ck, nI_cl]
      rw [if_pos (by omega), if_neg q, e2, cv_k, show M2 280 (61 + t) = nI (ticks B n (18 + t)) from isS.rings s2 (by omega), wl]
      simp (disch := omega) only [nle0]
      unfold f_X7_lost_258 ind
      by_cases q2 : ticks B n (18 + t) = 0
      · rw [if_pos q2, if_neg (by omega), lt_k, Nat.mul_zero, j_0, j_add]
      · rw [if_neg q2, if_pos (by omega), lt_k, Nat.mul_one, j_add]
  | cons c L ih =>
    intro f i w B M hi hf h287 hL hS wB htB hw
    rw [List.length_cons] at hi hf
    obtain ⟨f, rfl⟩ : ∃ m, f = m + 1 := ⟨f - 1, by omega⟩
    have h12 := wB.2.1
    have hc : c < B 1 := hL c (List.mem_cons_self ..)
    have hv := wB.2.2.2.2.2.2 c hc
    have e0 : M 287 i = nI c := h287 0 (by rw [List.length_cons]; omega)
    have hbt := bit_lt s i
    have e73 : M 280 (73 + c) = nI (B (30 + c)) := isS.pins hS hc
    have hdd : s / 2 ^ i / 2 = s / 2 ^ (i + 1) := by rw [Nat.div_div_eq_div_mul, Nat.pow_succ]
    have E : nI i + (1 : Int32) = nI (i + 1) := nI_1 i
    have nxt : ∀ (B' : Nat → Nat) (M1 : Mem) (w' : Nat), isS M1 43 B' → frS 43 M M1 → WF B' → B' 1 = B 1 → t < B' 0 → w' ≤ 10 ^ (i + 1) → ∃ M', f_X7_lost_151 (nI t) (nI n) (nI p) x4 KK f (nI K) (nJ Y) y8 (nI s) (nJ w') (nI (i + 1)) M1 = f_X7_lost_261 (nI t) (nI n) (nI p) x4 KK (nI K) (nJ (Y + w' * wl (ind n t) p t L (s / 2 ^ (i + 1)) B')) y8 (nI s) M' ∧ frS 43 M M' := by
      intro B' M1 w' hs1 f1 wB' hB1 htB' hw'
      obtain ⟨M', e, f'⟩ := ih f (i + 1) w' B' M1 (by omega) (by omega) (fun u hu => by
        have := h287 (u + 1) (by rw [List.length_cons]; omega)
        rw [show i + (u + 1) = i + 1 + u by omega] at this
        rw [f1.1 287 (by omega)]
        exact this) (fun x hx => by rw [hB1]; exact hL x (List.mem_cons_of_mem _ hx)) hs1 wB' htB' hw'
      exact ⟨M', e, f1.tr f'⟩
    have hw10 : ∀ a, a ≤ 10 → w * a ≤ 10 ^ (i + 1) := fun a ha => by
      rw [Nat.pow_succ]
      exact Nat.mul_le_mul hw ha
    rw [wl, hdd]
    by_cases q : bit s i = 0
    · have s1 : isS (up2 M 280 (73 + c) (nI (B (30 + c)))) 43 B := by
        have := isS.setJ hS (a := 30) (j := c) (B (30 + c)) (by decide)
        rw [up_same] at this
        exact this
      obtain ⟨M', e, f'⟩ := nxt B _ (w * (10 - p)) s1 ((frS.rf 43 M).u (k := 73 + c) (by omega) (by omega) _) wB rfl htB (hw10 _ (by omega))
      refine ⟨M', ?_, f'⟩
      rw [if_neg (show ¬ s / 2 ^ i % 2 = 1 from by have : bit s i = s / 2 ^ i % 2 := rfl; omega), ← Nat.mul_assoc, ← e, f_X7_lost_151, S_has (by omega) (by omega), cb_k, q]
      simp (disch := omega) only [nle]
      unfold f_X7_lost_180 f_X7_lost_218
      rw [if_neg (by omega), if_pos z0, l_10, nsub (by omega), j_w (by omega), j_mul, lt_k, nI_ck (by omega) (by decide), nI_cl (by omega), e0, l_73, nI_add, nI_ck (by omega) (by decide), nI_cl (by omega), S_has (by omega) (by omega), cb_k, q, if_pos z0, nI_ck (by omega) (by decide), e73, and_m1 _ hv, lt_k, E]
    · have q1 : bit s i = 1 := by omega
      have s1 : isS (up2 M 280 (73 + c) (nI (B (30 + c) &&& (63 ^^^ 2 ^ t)))) 43 (rm1 t B c) := isS.setJ hS (a := 30) (j := c) _ (by decide)
      obtain ⟨M', e, f'⟩ := nxt (rm1 t B c) _ (w * p) s1 ((frS.rf 43 M).u (k := 73 + c) (by omega) (by omega) _) (WF_rm wB ht hc) (rm_n (by omega)) (by rw [rm_n (by omega)]; exact htB) (hw10 _ hp)
      refine ⟨M', ?_, f'⟩
      rw [if_pos (show s / 2 ^ i % 2 = 1 from q1), ← Nat.mul_assoc, ← e, f_X7_lost_151, S_has (by omega) (by omega), cb_k, q1]
      simp (disch := omega) only [nle]
      unfold f_X7_lost_180 f_X7_lost_218
      rw [if_neg (by omega), if_neg (by decide), j_w (by omega), j_mul, lt_k, nI_ck (by omega) (by decide), nI_cl (by omega), e0, l_73, nI_add, nI_ck (by omega) (by decide), nI_cl (by omega), S_has (by omega) (by omega), cb_k, q1, if_neg (by decide), nI_ck (by omega) (by decide), e73, nshl1 t (by omega), nandn _ hv _ (pow_lt t ht), lt_k, E]
theorem S_132L {K : Nat} {y8 : Int64} {L : List Nat} (hp : p ≤ 10) (ht : t < 6) (hn : n < 1000) (hK : K ≤ 12) (hLK : L.length = K) (w : WF b) (htb : t < b 0) (hL : ∀ c, c ∈ L → c < b 1) : ∀ (c f s : Nat) (M : Mem), s + c = 2 ^ K → c < f → isS M 0 b → (∀ u, u < L.length → M 287 u = nI (L.getD u 0)) → ∃ M', f_X7_lost_132 (nI t) (nI n) (nI p) x4 f (nI K) (nJ (sumTo (fun s => wl (ind n t) p t L s b) s)) y8 (nI s) M = f_X7_lost_275 x4 FU (nJ (sumTo (fun s => wl (ind n t) p t L s b) (2 ^ K))) y8 (nJ (sumTo (fun s => wl (ind n t) p t L s b) (2 ^ K))) y8 M' ∧ frS 43 M M' := by
  have h4096 : 2 ^ K ≤ 4096 := Nat.le_trans (Nat.pow_le_pow_right (by decide) hK) (by decide)
  intro c
  induction c with
  | zero =>
    intro f s M hc hf hs h287
    obtain ⟨f, rfl⟩ : ∃ m, f = m + 1 := ⟨f - 1, by omega⟩
    refine ⟨M, ?_, frS.rf _ _⟩
    rw [f_X7_lost_132, nshl1 K (by omega)]
    simp (disch := omega) only [nle]
    rw [if_pos (by omega), show s = 2 ^ K by omega]
  | succ c ih =>
    intro f s M hc hf hs h287
    obtain ⟨f, rfl⟩ : ∃ m, f = m + 1 := ⟨f - 1, by omega⟩
    obtain ⟨M1, e1, s1, f1⟩ := S_tries hs
    obtain ⟨M2, e2, f2⟩ := S_151L (K := K) (s := s) (Y := sumTo (fun s => wl (ind n t) p t L s b) s) (y8 := y8) (KK := f_X7_lost_132 (nI t) (nI n) (nI p) x4 f) (x4 := x4) hp ht hn hK (by omega) L FU 0 1 b M1 (by omega) (by show L.length < 5000; omega) (fun u hu => by rw [Nat.zero_add, f1.1 287 (by omega)]; exact h287 u hu) hL s1 w htb (by decide)
    have F := f1.tr f2
    obtain ⟨M', e, f'⟩ := ih f (s + 1) M2 (by omega) (by omega) (hs.fr F (by omega)) (fun u hu => by rw [F.1 287 (by omega)]; exact h287 u hu)
    refine ⟨M', ?_, F.tr f'⟩
    rw [f_X7_lost_132, nshl1 K (by omega)]
    simp (disch := omega) only [nle]
    rw [if_neg (by omega), e1, cv_k, ← z0, j_1, e2]
    unfold f_X7_lost_261
    rw [show nI s + (1 : Int32) = nI (s + 1) from nI_1 s, Nat.one_mul, Nat.pow_zero, Nat.div_one, ← e, sumTo]
end LOSTM
def SimL (f g : Mem → Option (Int64 × Mem)) : Prop := ∀ M, Inv M → ∃ r M1 M2, f M = some (r, M1) ∧ g M1 = some (r, M2) ∧ Inv M2
theorem Sim_lost (x y z u : Int32) : SimL (f_X6_lost x y z u) (f_X7_lost x y z u) := by
  intro M h
  obtain ⟨b, im, H, hn, nt, tl, tn, h1, h2, h3, h4, h5, h6, h7⟩ := id h
  have hl := h1.2.2.lt
  rcases tooth_cases x (n := b 0) (by omega) with ⟨ga0, gb0⟩ | ⟨t, ht, rfl, ga0, gb0⟩
  · exact ⟨_, M, M, by unfold f_X6_lost; rw [ga0 M h1.1.teeth, cb_k, if_pos rfl], by unfold f_X7_lost; rw [gb0 M h1.2.1.f0, cb_k, if_pos rfl], h⟩
  rcases W_cases y (lo := 0) (hi := 20) (a := (0 : Int32)) (b := (20 : Int32)) (a' := (0 : Int64)) (b' := (20 : Int64)) rfl rfl (by decide) (by decide) (by decide) (by decide) with ⟨ga1, gb1⟩ | ⟨n, ln, hn, rfl, ga1, gb1⟩
  · exact ⟨_, M, M, by unfold f_X6_lost; rw [ga0 M h1.1.teeth, cb_k, if_neg (by decide), ga1 M, cb_k, if_pos rfl], by unfold f_X7_lost; rw [gb0 M h1.2.1.f0, cb_k, if_neg (by decide), gb1 M, cb_k, if_pos rfl], h⟩
  rcases W_cases z (lo := 0) (hi := 10) (a := (0 : Int32)) (b := (10 : Int32)) (a' := (0 : Int64)) (b' := (10 : Int64)) rfl rfl (by decide) (by decide) (by decide) (by decide) with ⟨ga2, gb2⟩ | ⟨p, lp, hp, rfl, ga2, gb2⟩
  · exact ⟨_, M, M, by unfold f_X6_lost; rw [ga0 M h1.1.teeth, cb_k, if_neg (by decide), ga1 M, cb_k, if_neg (by decide), ga2 M, cb_k, if_pos rfl], by unfold f_X7_lost; rw [gb0 M h1.2.1.f0, cb_k, if_neg (by decide), gb1 M, cb_k, if_neg (by decide), gb2 M, cb_k, if_pos rfl], h⟩
  rcases W_cases u (lo := 0) (hi := 1) (a := (0 : Int32)) (b := (1 : Int32)) (a' := (0 : Int64)) (b' := (1 : Int64)) rfl rfl (by decide) (by decide) (by decide) (by decide) with ⟨ga3, gb3⟩ | ⟨k, lk, hk, rfl, ga3, gb3⟩
  · exact ⟨_, M, M, by unfold f_X6_lost; rw [ga0 M h1.1.teeth, cb_k, if_neg (by decide), ga1 M, cb_k, if_neg (by decide), ga2 M, cb_k, if_neg (by decide), ga3 M, cb_k, if_pos rfl], by unfold f_X7_lost; rw [gb0 M h1.2.1.f0, cb_k, if_neg (by decide), gb1 M, cb_k, if_neg (by decide), gb2 M, cb_k, if_neg (by decide), gb3 M, cb_k, if_pos rfl], h⟩
  obtain ⟨w, _⟩ := h1.2.2.wf (by omega)
  have ht6 : t < 6 := by omega
  have h12 := w.2.1
  have hS := cols_lt (b := b) (t := t) hl.2
  obtain ⟨S, eS⟩ : ∃ S, S = colsOf b t := ⟨_, rfl⟩
  rw [← eS] at hS
  have hbit : ∀ c, bit S c = 1 ↔ c < b 1 ∧ bit (b (30 + c)) t = 1 := fun c => by rw [eS]; exact cols_bit
  have hz : ∀ c, b 1 ≤ c → bit S c = 0 := fun c hc => by
    have hb := bit_lt S c
    by_cases q : bit S c = 1
    · have := ((hbit c).1 q).1
      omega
    · omega
  have h12e : b 1 + (12 - b 1) = 12 := by omega
  have hcnt : cnt S 12 0 = cnt S (b 1) 0 := by
    have := cnt_ext (S := S) (e := 12 - b 1) (b 1) 0 (fun i a _ => hz i (by omega))
    rwa [h12e] at this
  have hSS : SS (ind n t) p t S 12 0 b = SS (ind n t) p t S (b 1) 0 b := by
    have := SS_ext (f := ind n t) (p := p) (t := t) (S := S) (e := 12 - b 1) (b 1) 0 b (fun i a _ => hz i (by omega))
    rwa [h12e] at this
  have hiff : ∀ i, 0 ≤ i → i < 0 + b 1 → (bit S i = 1 ↔ bit (b (30 + i)) t = 1) := fun i _ hi => by
    rw [hbit i]
    exact ⟨fun z => z.2, fun z => ⟨by omega, z⟩⟩
  have hlen := pcl_len (t := t) (S := S) (b := b) (b 1) 0 hiff
  have hc12 := cnt_le (S := S) 12 0
  have hsum : sumTo (fun s => wl (ind n t) p t (pcl b t (b 1) 0) s b) (2 ^ cnt S 12 0) = SS (ind n t) p t S 12 0 b := by
    rw [hSS, hcnt, ← hlen, sum_wl]
    exact SSL_SS (b 1) 0 b hiff
  have hle := SS_le (f := ind n t) (p := p) (t := t) (S := S) hp (ind_le n t) 12 0 b
  have hpw : 10 ^ cnt S 12 0 ≤ 1000000000000 := Nat.le_trans (Nat.pow_le_pow_right (by decide) hc12) (by decide)
  have hpw0 : 0 < 10 ^ cnt S 12 0 := Nat.pow_pos (by decide)
  have hg0 : 0 < Nat.gcd (SS (ind n t) p t S 12 0 b) (10 ^ cnt S 12 0) := Nat.gcd_pos_of_pos_right _ hpw0
  have hgl : Nat.gcd (SS (ind n t) p t S 12 0 b) (10 ^ cnt S 12 0) ≤ 10 ^ cnt S 12 0 := Nat.gcd_le_right _ hpw0
  have hp40 : 10 ^ cnt S 12 0 < 2 ^ 40 := Nat.lt_of_le_of_lt hpw (by decide)
  obtain ⟨M1, e1, w1, f1⟩ := T_takeFrom (r := 171) (o := 3) h1.1 (by omega)
  obtain ⟨M2, e2, f2⟩ := T_W (p := p) (t := t) hp ht6 (cnt S 12 0) 24 0 n S b M1 rfl (by omega) (by omega) hS hn w ht (fun c hc => (hbit c).1 hc) w1
  have F : Fr M M2 := by
    refine ⟨fun c hc => ?_, ?_, fun j _ => ?_, fun j _ => ?_⟩
    · rw [f2 c (by omega), f1 c (by omega)]
    · rw [f2 15 (by omega), f1 15 (by omega)]
    · rw [f2 280 (by omega), f1 280 (by omega)]
    · rw [f2 279 (by omega), f1 279 (by omega)]
  have s2 := h1.2.1.frk F
  obtain ⟨M3, e3, g1, g2, g3⟩ := S_53 (n := n) (p := p) (x4 := nI k) ht6 w (b 1) FU 0 0 M2 (by omega) (by show b 1 < 5000; omega) (by omega) s2
  have s3 : isS M3 0 b := s2.kept (fun j _ _ => by rw [g3 280 (by omega)])
  obtain ⟨M4, e4, f4⟩ := S_132L (p := p) (t := t) (n := n) (x4 := nI k) (b := b) (K := cnt S 12 0) (y8 := nJ (10 ^ cnt S 12 0)) (L := pcl b t (b 1) 0) hp ht6 (by omega) hc12 (by omega) w ht (fun c hc => by have := pcl_mem (b 1) 0 c hc; omega) (2 ^ cnt S 12 0) FU 0 M3 (by omega) (by
    have : 2 ^ cnt S 12 0 ≤ 4096 := Nat.le_trans (Nat.pow_le_pow_right (by decide) hc12) (by decide)
    show 2 ^ cnt S 12 0 < 5000
    omega) s3 (fun u hu => by have := g1 u hu; rwa [Nat.zero_add] at this)
  rw [hsum] at e4
  refine ⟨(if nI k = 0 then nJ (SS (ind n t) p t S 12 0 b) / nJ (Nat.gcd (SS (ind n t) p t S 12 0 b) (10 ^ cnt S 12 0)) else nJ (10 ^ cnt S 12 0) / nJ (Nat.gcd (SS (ind n t) p t S 12 0 b) (10 ^ cnt S 12 0))), M2, M4, ?_, ?_, ?_⟩
  · unfold f_X6_lost f_X3_chanceOfRinging
    rw [ga0 M h1.1.teeth, cb_k, if_neg (by decide), ga1 M, cb_k, if_neg (by decide), ga2 M, cb_k, if_neg (by decide), ga3 M, cb_k, if_neg (by decide), cb_id, T_columnsOf h1.1 ht6 w.2.2.2.2.2.2, cb_k, ← eS, ← z0, nI_ck (by decide) (by decide), nI_cl (by decide), show 171 + 6 * 0 = 171 from rfl, e1, cv_k, e2, cb_k, T_bc hS, cb_k, T_tenTo (by omega), cb_k]
    unfold f_X3_commonDivisor
    rw [← z0, T_gcd M2 40 _ _ FU 0 (by omega) hp40 (by decide) (by decide) (by decide), cb_k, j_cz hg0 (by omega), j_cz hg0 (by omega)]
    rw [if_neg (by rw [z0, cmp_eq, j_0, j_eq (by omega) (by omega)]; omega)]
    by_cases q : nI k = nI 0
    · rw [if_pos q, if_pos q]
    · rw [if_neg q, if_neg q]
  · have s := s2
    unfold f_X7_lost
    rw [gb0 M2 s.f0, cb_k, if_neg (by decide), gb1 M2, cb_k, if_neg (by decide), gb2 M2, cb_k, if_neg (by decide), gb3 M2, cb_k, if_neg (by decide), ← z0, e3, Nat.zero_add, hlen, ← hcnt]
    have e108 := S_108 (t := t) (n := n) (p := p) (x4 := nI k) (K := cnt S 12 0) (y6 := nJ 0) hc12 M3 (cnt S 12 0) FU 0 (by omega) (by show cnt S 12 0 < 5000; omega)
    rw [show (nJ 1 : Int64) = nJ (10 ^ 0) from rfl, e108]
    refine e4.trans ?_
    exact S_gcd M4 40 _ _ FU (by omega) hp40 (by decide) (by decide) hg0 (by omega)
  · refine (h.fr F).fr ⟨fun c hc => ?_, ?_, fun j hj => ?_, fun j _ => ?_⟩
    · rw [f4.1 c (by omega), g3 c (by omega)]
    · rw [f4.1 15 (by omega), g3 15 (by omega)]
    · rw [f4.2 j (by omega), g3 280 (by omega)]
    · rw [f4.1 279 (by omega), g3 279 (by omega)]
