/-! the tick of the class, and what is read off its box -/
theorem mloop_0 : ∀ (c k : Nat) (b : Nat → Nat), b 2 = 0 → mloop c k b = b
  | 0, k, b, _ => rfl
  | c + 1, k, b, h => by
    have : step b k = b := by unfold step; rw [if_neg (by omega)]
    rw [mloop, this, mloop_0 c (k + 1) b h]
theorem FU_pos {c : Nat} (h : c < 4999) : ∃ n, FU = n + 1 ∧ c < n + 1 := ⟨4999, rfl, by omega⟩
section TURN
variable {M : Mem} {r : Nat} {b : Nat → Nat}
theorem T_turn_107 {p q s0 : Nat} (hp : p < 64) (hq : q < 64) (hs0 : s0 < 1000) : ∀ (c n k : Nat) (B : Nat → Nat) (M : Mem), k + c = B 0 → c < n → isW M r B → WF B → B (30 + B 3) = p → (∀ j, k ≤ j → j < 6 → bit (B 5) j = bit q j) → B 2 ≤ s0 → dI r M (nI (s0 - mloop c k B 2)) (mloop c k B) (f_X5_turn_107 r n (nI s0) (nI (p &&& (63 ^^^ q))) (nI k) M) := by
  intro c
  induction c with
  | zero =>
    intro n k B M hk hn h hw hpp hqq hs
    obtain ⟨n, rfl⟩ : ∃ m, n = m + 1 := ⟨n - 1, by omega⟩
    have := h.1
    rw [f_X5_turn_107, h.teeth, mloop]
    simp (disch := omega) only [nle]
    rw [if_pos (by omega)]
    unfold f_X5_turn_142
    rw [h.spring, nsub hs]
    exact ⟨M, rfl, h, fr6.rf r M⟩
  | succ c ih =>
    intro n k B M hk hn h hw hpp hqq hs
    obtain ⟨n, rfl⟩ : ∃ m, n = m + 1 := ⟨n - 1, by omega⟩
    have h6 := h.1
    have h99 := hw.2.2.1
    have hlt := andn_lt p hp q hq
    have hb := bit_lt (p &&& (63 ^^^ q)) k
    rw [f_X5_turn_107, h.teeth, h.spring, nhas (by omega) (by omega)]
    simp (disch := omega) only [nle, nle0, l_1, neq]
    rw [if_neg (by omega)]
    by_cases q2 : B 2 = 0
    · rw [if_pos q2, mloop_0 _ _ _ q2]
      unfold f_X5_turn_142
      rw [h.spring, nsub hs]
      exact ⟨M, rfl, h, fr6.rf r M⟩
    · rw [if_neg q2]
      have hbb := bit_andn p hp q hq k (by omega)
      have hq5 := hqq k (Nat.le_refl _) (by omega)
      by_cases qb : bit (p &&& (63 ^^^ q)) k = 1
      · rw [if_pos qb]
        obtain ⟨M5, e5, i5, f5⟩ := T_pluck h hw (k := k) (by omega) (by omega)
        rw [e5, cv_k]
        have hst : step B k = pluck B k := by
          unfold step
          rw [if_pos ⟨by rw [hpp]; exact (hbb.mp qb).1, by rw [hq5]; exact (hbb.mp qb).2, by omega⟩]
        rw [mloop, hst]
        unfold f_X5_turn_136
        rw [show nI k + (1 : Int32) = nI (k + 1) from nI_1 k]
        have h3 := hw.2.2.2.1
        have h12 := h.2.1
        obtain ⟨M', e, i, f⟩ := ih n (k + 1) (pluck B k) M5 (by rw [pluck_n (by omega) (by omega)]; omega) (by omega) i5 (WF_pluck hw (by omega)) (by rw [pluck_n (i := 3) (by omega) (by omega), pluck_n (by omega) (by omega)]; exact hpp) (fun j h1 h2 => by rw [pluck_5 (by omega) (by omega)]; exact hqq j (by omega) h2) (by have := (pluck_sp (b := B) (k := k) (by omega)).1; omega)
        exact ⟨M', e, i, f5.tr f⟩
      · rw [if_neg qb]
        have hst : step B k = B := by
          unfold step
          rw [if_neg]
          rintro ⟨u1, u2, -⟩
          exact qb (hbb.mpr ⟨by rw [← hpp]; exact u1, by rw [← hq5]; exact u2⟩)
        rw [mloop, hst]
        unfold f_X5_turn_136
        rw [show nI k + (1 : Int32) = nI (k + 1) from nI_1 k]
        exact ih n (k + 1) B M (by omega) (by omega) h hw hpp (fun j h1 h2 => hqq j (by omega) h2) hs
theorem T_turn_2 (hw : WF b) : ∀ (c n k : Nat) (M : Mem), k + c = b 0 → c < n → isW M r (mfd b k) → dI r M (nI (tick b 42 - b 42)) (tick b) (f_X5_turn_2 r n (nI k) M) := by
  have h6 := hw.1.2
  intro c
  induction c with
  | zero =>
    intro n k M hk hn h
    obtain ⟨n, rfl⟩ : ∃ m, n = m + 1 := ⟨n - 1, by omega⟩
    have hk0 : k = b 0 := by omega
    subst hk0
    have h99 := hw.2.2.1
    have e0 : mfd b (b 0) 0 = b 0 := mfd_n (by omega)
    have e2 : mfd b (b 0) 2 = b 2 := mfd_n (by omega)
    have e4 : mfd b (b 0) 4 = b 4 := mfd_n (by omega)
    rw [f_X5_turn_2, h.teeth, e0]
    simp (disch := omega) only [nle]
    rw [if_pos (Nat.le_refl _), lt_k, h.tk, e4, show nI (b 4) + (1 : Int32) = nI (b 4 + 1) from nI_1 _]
    have i1 : isW (up2 M r 4 (nI (b 4 + 1))) r (up (mfd b (b 0)) 4 (b 4 + 1)) := h.setF (k := 4) _ (by decide) (by decide)
    have f1 : fr6 r M (up2 M r 4 (nI (b 4 + 1))) := (fr6.rf r M).u0 _ _
    have w1 : WF (up (mfd b (b 0)) 4 (b 4 + 1)) := WF_up (WF_mfd hw _ h6) (by omega) (by omega) (by omega)
    have t42 : up (mfd b (b 0)) 4 (b 4 + 1) 42 = b 42 := by rw [up_n (by omega), mfd_n (by omega)]
    have t2 : up (mfd b (b 0)) 4 (b 4 + 1) 2 = b 2 := by rw [up_n (by omega), mfd_n (by omega)]
    have t0 : up (mfd b (b 0)) 4 (b 4 + 1) 0 = b 0 := by rw [up_n (by omega), mfd_n (by omega)]
    have htk : tick b = if 0 < b 2 then mloop (b 0) 0 (turnUp (up (mfd b (b 0)) 4 (b 4 + 1))) else up (mfd b (b 0)) 4 (b 4 + 1) := rfl
    generalize up (mfd b (b 0)) 4 (b 4 + 1) = F at i1 w1 t42 t2 t0 htk
    generalize up2 M r 4 (nI (b 4 + 1)) = M2 at i1 f1 ⊢
    rw [i1.spring, t2]
    simp (disch := omega) only [n0lt]
    by_cases q : 0 < b 2
    · rw [if_pos q] at htk ⊢
      have h3 := w1.2.2.2.1
      have h12 := i1.2.1
      rw [T_columnBehind i1 (by omega), cb_k, lt_k, lt_k, lt_k]
      have i2 : isW (up2 M2 r 3 (nI (nx F))) r (up F 3 (nx F)) := i1.setF (k := 3) _ (by decide) (by decide)
      have f2 := f1.u0 3 (nI (nx F))
      generalize up2 M2 r 3 (nI (nx F)) = M7 at i2 f2 ⊢
      rw [i2.spring, up_n (by omega), t2, show nI (b 2) - (1 : Int32) = nI (b 2 - 1) from nsub (a := b 2) (b := 1) (by omega)]
      have i3 : isW (up2 M7 r 2 (nI (b 2 - 1))) r (turnUp F) := by
        unfold turnUp
        rw [t2]
        exact i2.setF (k := 2) _ (by decide) (by decide)
      have f3 := f2.u0 2 (nI (b 2 - 1))
      generalize up2 M7 r 2 (nI (b 2 - 1)) = M8 at i3 f3 ⊢
      have w2 := WF_turnUp w1
      have g2 : turnUp F 2 = b 2 - 1 := by unfold turnUp; rw [up_s, t2]
      have g0 : turnUp F 0 = b 0 := by rw [turnUp_n (by omega) (by omega), t0]
      have g3 := w2.2.2.2.1
      have g12 := i3.2.1
      rw [i3.spring, i3.drum, i3.broken, nI_ck (by omega) (by decide), nI_cl (by omega), i3.pins g3, g2, nandn _ (w2.2.2.2.2.2.2 _ g3) _ w2.2.2.2.2.1, lt_k]
      obtain ⟨M', e, i, f⟩ := T_turn_107 (r := r) (p := turnUp F (30 + turnUp F 3)) (q := turnUp F 5) (s0 := b 2 - 1) (w2.2.2.2.2.2.2 _ g3) w2.2.2.2.2.1 (by omega) (b 0) FU 0 (turnUp F) M8 (by rw [g0]; omega) (by show b 0 < 5000; omega) i3 w2 rfl (fun j _ _ => rfl) (by rw [g2]; exact Nat.le_refl _)
      refine ⟨M', ?_, by rw [htk]; exact i, f3.tr f⟩
      have hsp := mloop_sp (b 0) 0 (turnUp F) (by omega)
      have g42 : turnUp F 42 = b 42 := by rw [turnUp_n (by omega) (by omega), t42]
      rw [htk, show mloop (b 0) 0 (turnUp F) 42 - b 42 = b 2 - 1 - mloop (b 0) 0 (turnUp F) 2 by rw [g2, g42] at hsp; omega]
      exact e
    · rw [if_neg q] at htk ⊢
      refine ⟨M2, ?_, by rw [htk]; exact i1, f1⟩
      rw [htk, t42, Nat.sub_self]
      rfl
  | succ c ih =>
    intro n k M hk hn h
    obtain ⟨n, rfl⟩ : ∃ m, n = m + 1 := ⟨n - 1, by omega⟩
    have e0 : mfd b k 0 = b 0 := mfd_n (by omega)
    obtain ⟨g1, g2, g3, g4⟩ := hw.2.2.2.2.2.1 k (by omega)
    have eR : M (r + 4) k = nI (b (18 + k)) := by rw [h.rings (by rw [e0]; omega), mfd_n (by omega)]
    have eK : M (r + 2) k = nI (b (6 + k)) := by rw [h.kind (by rw [e0]; omega), mfd_n (by omega)]
    rw [f_X5_turn_2, h.teeth, e0]
    simp (disch := omega) only [nle, nI_ck, nI_cl]
    rw [if_neg (by omega), eR, eK, T_faded (by omega) (by omega), cb_k, lt_k]
    simp (disch := omega) only [nle0]
    have e1 : nI k + (1 : Int32) = nI (k + 1) := nI_1 k
    unfold f_X5_turn_40
    rw [e1]
    by_cases q : b (18 + k) = 0
    · rw [if_pos q]
      refine ih n (k + 1) M (by omega) (by omega) ?_
      have : mfd b (k + 1) = mfd b k := by
        rw [← mfd_s]
        funext i
        by_cases hi : i = 18 + k
        · subst hi
          rw [up_s, mfd_n (by omega), q]
          have := fd_le (b (6 + k)) 0
          omega
        · exact up_n hi
      rw [this]
      exact h
    · rw [if_neg q]
      have i2 : isW (up2 M (r + 4) k (nI (fd (b (6 + k)) (b (18 + k))))) r (mfd b (k + 1)) := by
        rw [← mfd_s]
        exact h.setR _ (by omega)
      obtain ⟨M', e, i, f⟩ := ih n (k + 1) _ (by omega) (by omega) i2
      exact ⟨M', e, i, ((fr6.rf r M).u (i := 4) (by decide) _ _).tr f⟩
theorem T_turn (h : isW M r b) (hw : WF b) : dI r M (nI (tick b 42 - b 42)) (tick b) (f_X5_turn r M) := by
  have h6 := hw.1.2
  unfold f_X5_turn
  exact T_turn_2 hw (b 0) FU 0 M (by omega) (by show b 0 < 5000; omega) (by rw [mfd_0]; exact h)
theorem T_loud_4 (h : isW M r b) : ∀ (c n j a : Nat), j + c = b 0 → c < n → f_X5_loud_4 r n (nI a) (nI j) M = some (nI (a + mSum (fun i => b (18 + i)) j c), M) := by
  have h6 := h.1
  intro c
  induction c with
  | zero =>
    intro n j a hj hn
    obtain ⟨n, rfl⟩ : ∃ m, n = m + 1 := ⟨n - 1, by omega⟩
    rw [f_X5_loud_4, h.teeth]
    simp (disch := omega) only [nle]
    rw [if_pos (by omega)]
    rfl
  | succ c ih =>
    intro n j a hj hn
    obtain ⟨n, rfl⟩ : ∃ m, n = m + 1 := ⟨n - 1, by omega⟩
    rw [f_X5_loud_4, h.teeth]
    simp (disch := omega) only [nle, nI_ck, nI_cl, lt_k]
    rw [if_neg (by omega), h.rings (by omega), nI_add, show nI j + (1 : Int32) = nI (j + 1) from nI_1 j, ih n (j + 1) _ (by omega) (by omega), mSum, Nat.add_assoc]
theorem T_loud (h : isW M r b) : f_X5_loud r M = some (nI (loud b), M) := by
  have h6 := h.1
  unfold f_X5_loud loud
  have := T_loud_4 h (b 0) FU 0 0 (by omega) (by show b 0 < 5000; omega)
  rw [Nat.zero_add] at this
  exact this
theorem T_pluckedInAll_4 (h : isW M r b) : ∀ (c n j a : Nat), j + c = b 0 → c < n → f_X5_pluckedInAll_4 r n (nI a) (nI j) M = some (nI (a + mSum (fun i => b (24 + i)) j c), M) := by
  have h6 := h.1
  intro c
  induction c with
  | zero =>
    intro n j a hj hn
    obtain ⟨n, rfl⟩ : ∃ m, n = m + 1 := ⟨n - 1, by omega⟩
    rw [f_X5_pluckedInAll_4, h.teeth]
    simp (disch := omega) only [nle]
    rw [if_pos (by omega)]
    rfl
  | succ c ih =>
    intro n j a hj hn
    obtain ⟨n, rfl⟩ : ∃ m, n = m + 1 := ⟨n - 1, by omega⟩
    rw [f_X5_pluckedInAll_4, h.teeth]
    simp (disch := omega) only [nle, nI_ck, nI_cl, lt_k]
    rw [if_neg (by omega), h.plucked (by omega), nI_add, show nI j + (1 : Int32) = nI (j + 1) from nI_1 j, ih n (j + 1) _ (by omega) (by omega), mSum, Nat.add_assoc]
theorem T_pluckedInAll (h : isW M r b) : f_X5_pluckedInAll r M = some (nI (mSum (fun i => b (24 + i)) 0 (b 0)), M) := by
  have h6 := h.1
  unfold f_X5_pluckedInAll
  have := T_pluckedInAll_4 h (b 0) FU 0 0 (by omega) (by show b 0 < 5000; omega)
  rw [Nat.zero_add] at this
  exact this
/-- bits of the teeth, columns for which something holds -/
def mBits (p : Nat → Bool) : Nat → Nat → Nat → Nat
  | _, 0, a => a
  | j, c + 1, a => mBits p (j + 1) c (if p j then a ||| 2 ^ j else a)
def ringing (b : Nat → Nat) : Nat := mBits (fun j => decide (0 < b (18 + j))) 0 (b 0) 0
def colsOf (b : Nat → Nat) (t : Nat) : Nat := mBits (fun c => decide (bit (b (30 + c)) t = 1)) 0 (b 1) 0
theorem T_ringing_4 (h : isW M r b) (hw : ∀ j, j < b 0 → b (18 + j) < 1000) : ∀ (c n j a : Nat), j + c = b 0 → c < n → f_X5_ringing_4 r n (nI a) (nI j) M = some (nI (mBits (fun j => decide (0 < b (18 + j))) j c a), M) := by
  have h6 := h.1
  intro c
  induction c with
  | zero =>
    intro n j a hj hn
    obtain ⟨n, rfl⟩ : ∃ m, n = m + 1 := ⟨n - 1, by omega⟩
    rw [f_X5_ringing_4, h.teeth]
    simp (disch := omega) only [nle]
    rw [if_pos (by omega)]
    rfl
  | succ c ih =>
    intro n j a hj hn
    obtain ⟨n, rfl⟩ : ∃ m, n = m + 1 := ⟨n - 1, by omega⟩
    have hj2 := hw j (by omega)
    rw [f_X5_ringing_4, h.teeth]
    simp (disch := omega) only [nle, nI_ck, nI_cl, lt_k]
    unfold f_X5_ringing_27
    rw [if_neg (by omega), h.rings (by omega), nshl1 j (by omega), nor, show nI j + (1 : Int32) = nI (j + 1) from nI_1 j, ih n (j + 1) _ (by omega) (by omega), ih n (j + 1) _ (by omega) (by omega), mBits]
    simp (disch := omega) only [nle0]
    by_cases q : b (18 + j) = 0
    · rw [if_pos q, if_neg (by simp [q])]
    · rw [if_neg q, if_pos (by simp; omega)]
theorem T_ringing (h : isW M r b) (hw : ∀ j, j < b 0 → b (18 + j) < 1000) : f_X5_ringing r M = some (nI (ringing b), M) := by
  have h6 := h.1
  unfold f_X5_ringing ringing
  exact T_ringing_4 h hw (b 0) FU 0 0 (by omega) (by show b 0 < 5000; omega)
theorem T_columnsOf_4 {t : Nat} (h : isW M r b) (ht : t < 6) (hw : ∀ j, j < b 1 → b (30 + j) < 64) : ∀ (c n j a : Nat), j + c = b 1 → c < n → f_X5_columnsOf_4 r (nI t) n (nI a) (nI j) M = some (nI (mBits (fun c => decide (bit (b (30 + c)) t = 1)) j c a), M) := by
  have h6 := h.2.1
  intro c
  induction c with
  | zero =>
    intro n j a hj hn
    obtain ⟨n, rfl⟩ : ∃ m, n = m + 1 := ⟨n - 1, by omega⟩
    rw [f_X5_columnsOf_4, h.cols]
    simp (disch := omega) only [nle]
    rw [if_pos (by omega)]
    rfl
  | succ c ih =>
    intro n j a hj hn
    obtain ⟨n, rfl⟩ : ∃ m, n = m + 1 := ⟨n - 1, by omega⟩
    have hj2 := hw j (by omega)
    rw [f_X5_columnsOf_4, h.cols]
    simp (disch := omega) only [nle, nI_ck, nI_cl, lt_k]
    rw [if_neg (by omega), h.pins (by omega), nhas (by omega) (by omega), show nI j + (1 : Int32) = nI (j + 1) from nI_1 j, mBits]
    have hb := bit_lt (b (30 + j)) t
    by_cases q : bit (b (30 + j)) t = 1
    · rw [q, if_pos (by simp), show nI 1 <<< (nI j &&& 31) = nI (2 ^ j) from nshl1 j (by omega), nor, ih n (j + 1) _ (by omega) (by omega)]
    · have q0 : bit (b (30 + j)) t = 0 := by omega
      rw [q0, if_neg (by simp)]
      have z : ∀ j, j < 32 → nI 0 <<< (nI j &&& 31) = nI 0 := by decide +kernel
      rw [z j (by omega), nor, Nat.or_zero, ih n (j + 1) _ (by omega) (by omega)]
theorem T_columnsOf {t : Nat} (h : isW M r b) (ht : t < 6) (hw : ∀ j, j < b 1 → b (30 + j) < 64) : f_X5_columnsOf r (nI t) M = some (nI (colsOf b t), M) := by
  have h6 := h.2.1
  unfold f_X5_columnsOf colsOf
  exact T_columnsOf_4 h ht hw (b 1) FU 0 0 (by omega) (by show b 1 < 5000; omega)
theorem T_isBroken {t : Nat} (h : isW M r b) (h5 : b 5 < 64) (ht : t < 6) : f_X5_isBroken r (nI t) M = some (nI (bit (b 5) t), M) := by
  have hb := bit_lt (b 5) t
  unfold f_X5_isBroken
  rw [h.broken, nhas (by omega) (by omega)]
  simp (disch := omega) only [l_1, neq]
  by_cases q : bit (b 5) t = 1
  · rw [if_pos q, q]
  · rw [if_neg q, show bit (b 5) t = 0 by omega]
    rfl
def mend (b : Nat → Nat) (t : Nat) : Nat → Nat := up (up (up b 5 (b 5 &&& (63 ^^^ 2 ^ t))) (24 + t) 0) (18 + t) 0
theorem T_makeWhole {t : Nat} (h : isW M r b) (h5 : b 5 < 64) (ht : t < 6) : dV r M (mend b t) (f_X5_makeWhole r (nI t) M) := by
  unfold f_X5_makeWhole
  simp (disch := omega) only [nI_ck, nI_cl, lt_k]
  rw [h.broken, nshl1 t (by omega), nandn _ h5 _ (pow_lt t ht)]
  exact ⟨_, rfl, ((h.setF (k := 5) _ (by decide) (by decide)).setP 0 ht).setR 0 ht, (((fr6.rf r M).u0 _ _).u (i := 5) (by decide) _ _).u (i := 4) (by decide) _ _⟩
theorem T_windBy {n : Nat} (h : isW M r b) (h2 : b 2 ≤ 99) (hn : n ≤ 99) : dV r M (up b 2 (if b 2 + n ≤ 99 then b 2 + n else 99)) (f_X5_windBy r (nI n) M) := by
  unfold f_X5_windBy
  rw [lt_k, h.spring, nI_add]
  have e : (if nI (b 2 + n) < (99 : Int32) then nI (b 2 + n) else (99 : Int32)) = nI (if b 2 + n ≤ 99 then b 2 + n else 99) := by
    simp (disch := omega) only [l_99, nlt]
    by_cases q : b 2 + n < 99
    · rw [if_pos q, if_pos (by omega)]
    · rw [if_neg q]
      by_cases q2 : b 2 + n ≤ 99
      · rw [if_pos q2, show b 2 + n = 99 by omega]
      · rw [if_neg q2]
  rw [e]
  exact ⟨_, rfl, h.setF (k := 2) _ (by decide) (by decide), (fr6.rf r M).u0 _ _⟩
theorem T_togglePin {c t : Nat} (h : isW M r b) (hc : c < b 1) (ht : t < 31) : dV r M (up b (30 + c) (b (30 + c) ^^^ 2 ^ t)) (f_X5_togglePin r (nI c) (nI t) M) := by
  have h12 := h.2.1
  unfold f_X5_togglePin
  simp (disch := omega) only [nI_ck, nI_cl, lt_k]
  rw [h.pins hc, nshl1 t ht, nxor]
  exact ⟨_, rfl, h.setN _ (by omega), (fr6.rf r M).u (i := 1) (by decide) _ _⟩
theorem T_turnTimes_2 {m : Nat} (hm : m < 1000) (hw : WF b) : ∀ (c n k : Nat) (M : Mem), k + c = m → c < n → isW M r (ticks b k) → dV r M (ticks b m) (f_X5_turnTimes_2 r (nI m) n (nI k) M) := by
  intro c
  induction c with
  | zero =>
    intro n k M hk hn h
    obtain ⟨n, rfl⟩ : ∃ m, n = m + 1 := ⟨n - 1, by omega⟩
    rw [f_X5_turnTimes_2]
    simp (disch := omega) only [nle]
    rw [if_pos (by omega)]
    have : k = m := by omega
    subst this
    exact ⟨M, rfl, h, fr6.rf r M⟩
  | succ c ih =>
    intro n k M hk hn h
    obtain ⟨n, rfl⟩ : ∃ m, n = m + 1 := ⟨n - 1, by omega⟩
    rw [f_X5_turnTimes_2]
    simp (disch := omega) only [nle]
    rw [if_neg (by omega)]
    obtain ⟨M1, e1, i1, f1⟩ := T_turn h (WF_ticks hw k)
    rw [e1, cb_k, show nI k + (1 : Int32) = nI (k + 1) from nI_1 k]
    obtain ⟨M', e, i, f⟩ := ih n (k + 1) M1 (by omega) (by omega) i1
    exact ⟨M', e, i, f1.tr f⟩
theorem T_turnTimes {m : Nat} (hm : m < 1000) (h : isW M r b) (hw : WF b) : dV r M (ticks b m) (f_X5_turnTimes r (nI m) M) := by
  unfold f_X5_turnTimes
  exact T_turnTimes_2 hm hw m FU 0 M (by omega) (by show m < 5000; omega) h
def louds (b : Nat → Nat) : Nat → Nat
  | 0 => 0
  | n + 1 => louds b n + loud (ticks b (n + 1))
theorem louds_le (h : WF b) : ∀ n, louds b n ≤ 108 * n
  | 0 => Nat.le_refl _
  | n + 1 => by
    have h1 := louds_le h n
    have h2 := loud_le (WF_ticks h (n + 1))
    rw [louds]
    omega
theorem T_loudOver_4 {m : Nat} (hm : m < 1000) (hw : WF b) : ∀ (c n k : Nat) (M : Mem), k + c = m → c < n → isW M r (ticks b k) → dI r M (nI (louds b m)) (ticks b m) (f_X5_loudOver_4 r (nI m) n (nI (louds b k)) (nI k) M) := by
  intro c
  induction c with
  | zero =>
    intro n k M hk hn h
    obtain ⟨n, rfl⟩ : ∃ m, n = m + 1 := ⟨n - 1, by omega⟩
    rw [f_X5_loudOver_4]
    simp (disch := omega) only [nle]
    rw [if_pos (by omega)]
    have : k = m := by omega
    subst this
    exact ⟨M, rfl, h, fr6.rf r M⟩
  | succ c ih =>
    intro n k M hk hn h
    obtain ⟨n, rfl⟩ : ∃ m, n = m + 1 := ⟨n - 1, by omega⟩
    rw [f_X5_loudOver_4]
    simp (disch := omega) only [nle]
    rw [if_neg (by omega)]
    obtain ⟨M1, e1, i1, f1⟩ := T_turn h (WF_ticks hw k)
    rw [e1, cb_k, T_loud i1, cb_k, lt_k, nI_add, show nI k + (1 : Int32) = nI (k + 1) from nI_1 k]
    obtain ⟨M', e, i, f⟩ := ih n (k + 1) M1 (by omega) (by omega) i1
    exact ⟨M', e, i, f1.tr f⟩
theorem T_loudOver {m : Nat} (hm : m < 1000) (h : isW M r b) (hw : WF b) : dI r M (nI (louds b m)) (ticks b m) (f_X5_loudOver r (nI m) M) := by
  unfold f_X5_loudOver
  exact T_loudOver_4 hm hw m FU 0 M (by omega) (by show m < 5000; omega) h
theorem va_cpy0 {f g : Nat → Int32} {n j : Nat} (h : j < n) : va_cpy f g 0 0 n j = f j := by
  unfold va_cpy
  rw [if_pos (by omega), Nat.zero_add, Nat.sub_zero]
theorem vup_n {f : Mem} {a c : Nat} {x : Nat → Int32} (h : c ≠ a) : va_up f a x c = f c := va_up_ne _ _ h
theorem T_takeFrom {o : Nat} (h : isW M o b) (hd : o + 5 < r ∨ r + 5 < o) : dV r M b (f_X5_takeFrom r o M) := by
  unfold f_X5_takeFrom
  simp only [lt_k]
  refine ⟨_, rfl, ⟨h.1, h.2.1, fun k hk => ?_⟩, fun c hc => ?_⟩
  · have hl := rel_lt h.1 h.2.1 hk
    rw [← h.2.2 k hk]
    have h6 := h.1
    have h12 := h.2.1
    unfold rel at hk
    rcases (show k < 6 ∨ (6 ≤ k ∧ k < 12) ∨ (12 ≤ k ∧ k < 18) ∨ (18 ≤ k ∧ k < 24) ∨ (24 ≤ k ∧ k < 30) ∨ (30 ≤ k ∧ k < 42) by omega) with q | q | q | q | q | q
    · have e : lc k = 0 := by unfold lc; rw [if_pos q]
      rw [e, Nat.add_zero, Nat.add_zero]
      simp (disch := omega) only [vup_n]
      rcases (show k = 0 ∨ k = 1 ∨ k = 2 ∨ k = 3 ∨ k = 4 ∨ k = 5 by omega) with rfl | rfl | rfl | rfl | rfl | rfl <;> simp (disch := omega) [sl, up2_s, up2_n]
    · obtain ⟨j, rfl⟩ : ∃ j, k = 6 + j := ⟨k - 6, by omega⟩
      rw [(lc6 j (by omega)).1, (lc6 j (by omega)).2]
      simp (disch := omega) only [vup_n, va_up_self, va_cpy0, up2_n]
    · obtain ⟨j, rfl⟩ : ∃ j, k = 12 + j := ⟨k - 12, by omega⟩
      rw [(lc12 j (by omega)).1, (lc12 j (by omega)).2]
      simp (disch := omega) only [vup_n, va_up_self, va_cpy0, up2_n]
    · obtain ⟨j, rfl⟩ : ∃ j, k = 18 + j := ⟨k - 18, by omega⟩
      rw [(lc18 j (by omega)).1, (lc18 j (by omega)).2]
      simp (disch := omega) only [vup_n, va_up_self, va_cpy0, up2_n]
    · obtain ⟨j, rfl⟩ : ∃ j, k = 24 + j := ⟨k - 24, by omega⟩
      rw [(lc24 j (by omega)).1, (lc24 j (by omega)).2]
      simp (disch := omega) only [vup_n, va_up_self, va_cpy0, up2_n]
    · obtain ⟨j, rfl⟩ : ∃ j, k = 30 + j := ⟨k - 30, by omega⟩
      rw [(lc30 j (by omega)).1, (lc30 j (by omega)).2]
      simp (disch := omega) only [vup_n, va_up_self, va_cpy0, up2_n]
  · simp (disch := omega) only [vup_n, up2_c]
theorem T_comesTo {s : Nat} (h : isW M r b) (hw : WF b) (hs : s < 2147483648) : f_X5_comesTo r (nI s) M = some (nI (if 0 < b 2 ∧ bit s (nx b) = 1 then 1 else 0), M) := by
  have h99 := hw.2.2.1
  have h3 := hw.2.2.2.1
  have h12 := h.2.1
  have hn : nx b < 12 := by unfold nx; split <;> omega
  have hb := bit_lt s (nx b)
  unfold f_X5_comesTo
  rw [h.spring, T_columnBehind h (by omega), cb_k, nhas hs (by omega)]
  simp (disch := omega) only [nle0, l_1, neq]
  by_cases q : b 2 = 0
  · rw [if_pos q, if_neg (by omega)]
    rfl
  · rw [if_neg q]
    by_cases q2 : bit s (nx b) = 1
    · rw [if_pos q2, if_pos (by omega)]
    · rw [if_neg q2, if_neg (by omega)]
      rfl
end TURN
