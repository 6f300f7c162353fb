/-! turns of two -/
def spr (s wd : Nat) : Nat := if s + 2 * wd ≤ 99 then s + 2 * wd else 99
def BT (b : Nat → Nat) (wd tg : Nat) : Nat → Nat := up (up b (30 + nx b) (b (30 + nx b) ^^^ tg)) 2 (spr (b 2) wd)
def OT (b : Nat → Nat) (m n : Nat) : Nat → Nat → Nat → Nat
  | 0, wd, tg => loud (ticks (BT b wd tg) m)
  | r + 1, wd, tg => if (n - (r + 1)) % 2 = 0 then (if OT b m n r wd tg < OT b m n r wd (1 - tg) then OT b m n r wd (1 - tg) else OT b m n r wd tg) else (if OT b m n r (if wd < 2 then wd + 1 else wd) tg < OT b m n r wd tg then OT b m n r (if wd < 2 then wd + 1 else wd) tg else OT b m n r wd tg)
theorem OT_s (b : Nat → Nat) (m n r wd tg : Nat) : OT b m n (r + 1) wd tg = if (n - (r + 1)) % 2 = 0 then (if OT b m n r wd tg < OT b m n r wd (1 - tg) then OT b m n r wd (1 - tg) else OT b m n r wd tg) else (if OT b m n r (if wd < 2 then wd + 1 else wd) tg < OT b m n r wd tg then OT b m n r (if wd < 2 then wd + 1 else wd) tg else OT b m n r wd tg) := rfl
theorem ite_le {a c m : Nat} {p : Prop} [Decidable p] (ha : a ≤ m) (hc : c ≤ m) : (if p then a else c) ≤ m := by
  split
  · exact ha
  · exact hc
theorem nx_lt {b : Nat → Nat} (w : WF b) : nx b < b 1 := by
  have := w.2.1
  unfold nx
  split <;> omega
theorem xor1_lt : ∀ p, p < 64 → ∀ t, t < 2 → p ^^^ t < 64 := by decide +kernel
theorem WF_BT {b : Nat → Nat} {wd tg : Nat} (w : WF b) (ht : tg < 2) : WF (BT b wd tg) := by
  have hx := nx_lt w
  have hp := w.2.2.2.2.2.2 _ hx
  have := xor1_lt _ hp tg ht
  have h12 := w.2.1
  have h99 := w.2.2.1
  unfold BT spr
  refine WF_up (WF_up w (by omega) (by omega) (by omega)) (by omega) (by omega) ?_
  split <;> omega
theorem OT_le {b : Nat → Nat} {m n : Nat} (w : WF b) : ∀ (r wd tg : Nat), tg < 2 → OT b m n r wd tg ≤ 108
  | 0, wd, tg, h => loud_le (WF_ticks (WF_BT w h) m)
  | r + 1, wd, tg, h => by
    have h1 := OT_le (m := m) (n := n) w r wd tg h
    have h2 := OT_le (m := m) (n := n) w r wd (1 - tg) (by omega)
    have h3 := OT_le (m := m) (n := n) w r (if wd < 2 then wd + 1 else wd) tg h
    rw [OT_s]
    exact ite_le (ite_le h2 h1) (ite_le h3 h1)
section TURNS
variable {M : Mem} {b : Nat → Nat}
theorem T_behind {m wd tg : Nat} (w : WF b) (h : isW M 3 b) (hm : m < 1000) (hwd : wd ≤ 2) (ht : tg = 0 ∨ tg = 1) : ∃ M', f_X3_loudBehindTurns (nI m) (nI (2 * wd)) (nI tg) M = some (nI (loud (ticks (BT b wd tg) m)), M') ∧ fr6 164 M M' := by
  have h12 := w.2.1
  have hx := nx_lt w
  have w3 := w.2.2.2.1
  obtain ⟨M1, e1, w1, f1⟩ := T_take h
  obtain ⟨M2, e2, w2, f2⟩ := T_windBy (n := 2 * wd) w1 w.2.2.1 (by omega)
  have tail : ∀ M3, isW M3 164 (BT b wd tg) → fr6 164 M M3 → ∃ M', f_X3_loudBehindTurns_38 (nI m) M3 = some (nI (loud (ticks (BT b wd tg) m)), M') ∧ fr6 164 M M' := by
    intro M3 w3 f3
    obtain ⟨M4, e4, w4, f4⟩ := T_turnTimes (m := m) hm w3 (WF_BT w (by omega))
    refine ⟨M4, ?_, f3.tr f4⟩
    unfold f_X3_loudBehindTurns_38
    rw [e4, cv_k, T_loud w4, cb_k]
  rcases ht with rfl | rfl
  · have eB : BT b wd 0 = up b 2 (if b 2 + 2 * wd ≤ 99 then b 2 + 2 * wd else 99) := by
      unfold BT spr
      rw [Nat.xor_zero, up_same]
    obtain ⟨M', e, f⟩ := tail M2 (by rw [eB]; exact w2) (f1.tr f2)
    refine ⟨M', ?_, f⟩
    unfold f_X3_loudBehindTurns
    rw [e1, cv_k, e2, cv_k, if_pos z0, e]
  · have en : nx (up b 2 (if b 2 + 2 * wd ≤ 99 then b 2 + 2 * wd else 99)) = nx b := by
      unfold nx
      rw [up_n (by omega), up_n (by omega)]
    have e3 := T_columnBehind w2 (by rw [up_n (by omega)]; omega)
    rw [en] at e3
    obtain ⟨M3, e4, w4, f4⟩ := T_togglePin (c := nx b) (t := 0) w2 (by rw [up_n (by omega)]; exact hx) (by omega)
    have eB : BT b wd 1 = up (up b 2 (if b 2 + 2 * wd ≤ 99 then b 2 + 2 * wd else 99)) (30 + nx b) (up b 2 (if b 2 + 2 * wd ≤ 99 then b 2 + 2 * wd else 99) (30 + nx b) ^^^ 2 ^ 0) := by
      unfold BT spr
      rw [up_c (by omega), up_n (b := b) (k := 2) (i := 30 + nx b) (by omega)]
    obtain ⟨M', e, f⟩ := tail M3 (by rw [eB]; exact w4) ((f1.tr f2).tr f4)
    refine ⟨M', ?_, f⟩
    unfold f_X3_loudBehindTurns
    rw [e1, cv_k, e2, cv_k, if_neg (by decide), e3, cb_k, ← z0, e4, cv_k, e]
theorem S_wind {B : Nat → Nat} {wd m s0 : Nat} (hm : m < 1000) (h99 : s0 ≤ 99) (hwd : wd ≤ 2) (wB : WF (up B 2 (spr s0 wd))) : ∀ (c f k : Nat) (M : Mem), k + c = wd → c < f → isS M 43 (up B 2 (spr s0 k)) → ∃ M', f_X7_loudBy_38 (nI wd) (nI m) f (nI k) M = some (nI (loud (ticks (up B 2 (spr s0 wd)) m)), M') ∧ frS 43 M M' := by
  intro c
  induction c with
  | zero =>
    intro f k M hk hf hs
    obtain ⟨f, rfl⟩ : ∃ m, f = m + 1 := ⟨f - 1, by omega⟩
    have hkw : k = wd := by omega
    subst hkw
    obtain ⟨M2, e2, s2, f2⟩ := S_goesOn (m := m) hm hs wB
    refine ⟨M2, ?_, f2⟩
    rw [f_X7_loudBy_38]
    simp (disch := omega) only [nle]
    rw [if_pos (by omega), e2, cv_k, S_loud43 s2, cb_k]
  | succ c ih =>
    intro f k M hk hf hs
    obtain ⟨f, rfl⟩ : ∃ m, f = m + 1 := ⟨f - 1, by omega⟩
    have e45 : M 280 45 = nI (spr s0 k) := by
      have : M 280 45 = nI (up B 2 (spr s0 k) 2) := isS.f hs (k := 2) (by decide)
      rwa [up_s] at this
    have h1 : spr s0 k ≤ 99 := by unfold spr; split <;> omega
    have h2 : (if spr s0 k + 2 ≤ 99 then spr s0 k + 2 else 99) = spr s0 (k + 1) := by
      unfold spr
      split <;> split <;> split <;> omega
    have s2 : isS (up2 M 280 45 (nI (spr s0 (k + 1)))) 43 (up B 2 (spr s0 (k + 1))) := by
      have := isS.set hs (k := 2) (spr s0 (k + 1)) (by decide)
      have e : up (up B 2 (spr s0 k)) 2 (spr s0 (k + 1)) = up B 2 (spr s0 (k + 1)) := by
        funext i
        unfold up
        split <;> rfl
      rw [e] at this
      exact this
    obtain ⟨M', e, f'⟩ := ih f (k + 1) _ (by omega) (by omega) s2
    refine ⟨M', ?_, ((frS.rf 43 M).u (k := 45) (by omega) (by omega) _).tr f'⟩
    rw [f_X7_loudBy_38, e45]
    unfold f_X7_loudBy_78
    simp (disch := omega) only [nle, l_2, l_99, nI_add, l_45, nI_ck, nI_cl, lt_k]
    rw [if_neg (by omega), show nI k + (1 : Int32) = nI (k + 1) from nI_1 k, ← e, ← h2]
    by_cases q : spr s0 k + 2 ≤ 99
    · simp only [if_pos q]
    · simp only [if_neg q]
theorem nx_mod (w : WF b) : (b 3 + 1) % b 1 = nx b := by
  have h12 := w.2.1
  have h3 := w.2.2.2.1
  unfold nx
  by_cases q : b 3 + 1 < b 1
  · rw [if_pos q, Nat.mod_eq_of_lt q]
  · rw [if_neg q, show b 3 + 1 = b 1 by omega, Nat.mod_self]
theorem S_behind {m wd tg : Nat} (w : WF b) (s : isS M 0 b) (hm : m < 1000) (hwd : wd ≤ 2) (ht : tg < 2) : ∃ M', f_X7_loudBy (nI tg) (nI wd) (nI m) M = some (nI (loud (ticks (BT b wd tg) m)), M') ∧ frS 43 M M' := by
  have h12 := w.2.1
  have hx := nx_lt w
  have h3 := w.2.2.2.1
  have h99 := w.2.2.1
  obtain ⟨M1, e1, s1, f1⟩ := S_tries s
  have hs0 : isS M1 0 b := s.fr f1 (by omega)
  have s2 : isS (up2 M1 280 (43 + 30 + nx b) (nI (b (30 + nx b) ^^^ tg))) 43 (up b (30 + nx b) (b (30 + nx b) ^^^ tg)) := isS.setJ s1 (a := 30) (j := nx b) _ (by decide)
  have e0 : up b (30 + nx b) (b (30 + nx b) ^^^ tg) = up (up b (30 + nx b) (b (30 + nx b) ^^^ tg)) 2 (spr (b 2) 0) := by
    have : spr (b 2) 0 = up b (30 + nx b) (b (30 + nx b) ^^^ tg) 2 := by
      rw [up_n (by omega)]
      unfold spr
      split <;> omega
    rw [this, up_same]
  rw [e0] at s2
  obtain ⟨M', e, f'⟩ := S_wind (m := m) hm h99 hwd (WF_BT w ht) wd FU 0 _ (by omega) (by show wd < 5000; omega) s2
  refine ⟨M', ?_, (f1.u (k := 43 + 30 + nx b) (by omega) (by omega) _).tr f'⟩
  unfold f_X7_loudBy
  have hcz : ∀ {α : Type} (a : Option α), cz (nI (b 1)) a = a := by
    intro α a
    unfold cz
    rw [if_neg (by rw [neq0 (by omega)]; omega)]
  rw [e1, cv_k, hs0.z (k := 1) (by decide), hs0.z (k := 3) (by decide), hcz, show nI (b 3) + (1 : Int32) = nI (b 3 + 1) from nI_1 _, nrem (by omega) (by omega) (by omega), nx_mod w, lt_k, l_73, nI_add, nI_ck (by omega) (by decide), nI_ck (by omega) (by decide), nI_cl (by omega), show M1 280 (73 + nx b) = nI (b (30 + nx b)) from isS.pins s1 hx, nxor, lt_k]
  exact e
theorem T_out {m n : Nat} (w : WF b) (hm : m < 1000) (hn : n ≤ 4) : ∀ (r d wd tg : Nat) (M : Mem), r < d → r ≤ n → 2 * wd ≤ n - r → (tg = 0 ∨ tg = 1) → isW M 3 b → ∃ M', f_X3_outcome d (nI (n - r)) (nI n) (nI m) (nI (2 * wd)) (nI tg) M = some (nI (OT b m n r wd tg), M') ∧ fr6 164 M M' := by
  intro r
  induction r with
  | zero =>
    intro d wd tg M hd hr hwd ht h
    obtain ⟨d, rfl⟩ : ∃ m, d = m + 1 := ⟨d - 1, by omega⟩
    obtain ⟨M', e, f⟩ := T_behind (m := m) (wd := wd) (tg := tg) w h hm (by omega) ht
    refine ⟨M', ?_, f⟩
    rw [f_X3_outcome]
    unfold e_X3_outcome
    simp (disch := omega) only [nlt]
    rw [if_neg (by omega), e, cb_k, OT]
  | succ r ih =>
    intro d wd tg M hd hr hwd ht h
    obtain ⟨d, rfl⟩ : ∃ m, d = m + 1 := ⟨d - 1, by omega⟩
    have htg : tg < 2 := by omega
    obtain ⟨M1, e1, f1⟩ := ih d wd tg M (by omega) (by omega) (by omega) ht h
    have h1 : isW M1 3 b := h.fr f1 (by omega)
    have l1 := OT_le (m := m) (n := n) w r wd tg htg
    rw [f_X3_outcome]
    unfold e_X3_outcome
    simp (disch := omega) only [nlt]
    rw [if_pos (by omega), show nI (n - (r + 1)) + (1 : Int32) = nI (n - r) by rw [show n - r = n - (r + 1) + 1 by omega]; exact nI_1 _, e1, cb_k, l_2, nrem (by omega) (by omega) (by omega), nI_add, OT]
    simp (disch := omega) only [neq0]
    by_cases q : (n - (r + 1)) % 2 = 0
    · obtain ⟨M2, e2, f2⟩ := ih d wd (1 - tg) M1 (by omega) (by omega) (by omega) (by omega) h1
      have l2 := OT_le (m := m) (n := n) w r wd (1 - tg) (by omega)
      refine ⟨M2, ?_, f1.tr f2⟩
      rw [if_pos q, if_pos q]
      have E : (if tg = 0 then f_X3_outcome_56 (f_X3_outcome d) (nI (OT b m n r wd tg)) (nI (n - r)) (nI n) (nI m) (nI (2 * wd)) (1 : Int32) M1 else f_X3_outcome_56 (f_X3_outcome d) (nI (OT b m n r wd tg)) (nI (n - r)) (nI n) (nI m) (nI (2 * wd)) (0 : Int32) M1) = f_X3_outcome_56 (f_X3_outcome d) (nI (OT b m n r wd tg)) (nI (n - r)) (nI n) (nI m) (nI (2 * wd)) (nI (1 - tg)) M1 := by
        rcases ht with rfl | rfl
        · rfl
        · rfl
      rw [E]
      unfold f_X3_outcome_56
      rw [e2, cb_k]
      simp (disch := omega) only [nlt]
      by_cases q2 : OT b m n r wd tg < OT b m n r wd (1 - tg)
      · rw [if_pos q2, if_pos q2]
      · rw [if_neg q2, if_neg q2]
    · have hw2 : wd < 2 := by omega
      obtain ⟨M2, e2, f2⟩ := ih d (wd + 1) tg M1 (by omega) (by omega) (by omega) ht h1
      have l2 := OT_le (m := m) (n := n) w r (wd + 1) tg (by omega)
      refine ⟨M2, ?_, f1.tr f2⟩
      rw [if_neg q, if_neg q, show 2 * wd + 2 = 2 * (wd + 1) by omega, e2, cb_k, if_pos hw2]
      simp (disch := omega) only [nlt]
      by_cases q2 : OT b m n r (wd + 1) tg < OT b m n r wd tg
      · rw [if_pos q2, if_pos q2]
      · rw [if_neg q2, if_neg q2]
theorem S_39 {m n : Nat} (w : WF b) (hm : m < 1000) (hn : n ≤ 4) : ∀ (c f k : Nat) (M : Mem), k + c = 6 → c < f → isS M 0 b → (∀ y, y < k → M 286 (6 * n + y) = nI (OT b m n 0 (y % 3) (y / 3))) → ∃ M', f_X7_byTurns_39 (nI n) (nI m) f (nI k) M = f_X7_byTurns_77 FU (nI n - (1 : Int32)) M' ∧ (∀ y, y < 6 → M' 286 (6 * n + y) = nI (OT b m n 0 (y % 3) (y / 3))) ∧ Fr M M' := by
  intro c
  induction c with
  | zero =>
    intro f k M hk hf hs hv
    obtain ⟨f, rfl⟩ : ∃ m, f = m + 1 := ⟨f - 1, by omega⟩
    refine ⟨M, ?_, fun y hy => hv y (by omega), Fr.rf _⟩
    rw [f_X7_byTurns_39]
    simp (disch := omega) only [l_6, nle]
    rw [if_pos (by omega), lt_k]
  | succ c ih =>
    intro f k M hk hf hs hv
    obtain ⟨f, rfl⟩ : ∃ m, f = m + 1 := ⟨f - 1, by omega⟩
    obtain ⟨M1, e1, f1⟩ := S_behind (m := m) (wd := k % 3) (tg := k / 3) w hs hm (by omega) (by omega)
    have F := (FrM f1).u (c := 286) (j := 6 * n + k) (by omega) (nI (OT b m n 0 (k % 3) (k / 3)))
    obtain ⟨M', e, h1, h2⟩ := ih f (k + 1) (up2 M1 286 (6 * n + k) (nI (OT b m n 0 (k % 3) (k / 3)))) (by omega) (by omega) (hs.frk F) (fun y hy => by
      by_cases q : y = k
      · subst q; exact up2_s _ _ _ _
      · rw [up2_n (by omega), f1.1 286 (by omega)]
        exact hv y (by omega))
    refine ⟨M', ?_, h1, F.tr h2⟩
    rw [f_X7_byTurns_39, l_3, nrem (a := k) (d := 3) (by omega) (by decide) (by decide), ndiv (a := k) (d := 3) (by omega) (by decide) (by decide)]
    simp (disch := omega) only [l_6, nle, mul_n, nI_add, nI_ck, nI_cl]
    rw [if_neg (by omega), e1, cb_k, lt_k, show nI k + (1 : Int32) = nI (k + 1) from nI_1 k, ← e, OT]
theorem S_84 {m n L : Nat} {K : Int32 → Mem → Option (Int32 × Mem)} (w : WF b) (hn : n ≤ 4) (hL : L < n) : ∀ (c f k : Nat) (M : Mem), k + c = 6 → c < f → (∀ y, y < 6 → M 286 (6 * (L + 1) + y) = nI (OT b m n (n - (L + 1)) (y % 3) (y / 3))) → (∀ y, y < k → M 286 (6 * L + y) = nI (OT b m n (n - L) (y % 3) (y / 3))) → ∃ M', f_X7_byTurns_84 K f (nI L) (nI k) M = K (nI L + (-1 : Int32)) M' ∧ (∀ y, y < 6 → M' 286 (6 * L + y) = nI (OT b m n (n - L) (y % 3) (y / 3))) ∧ (∀ c, c ≠ 286 → M' c = M c) := by
  intro c
  induction c with
  | zero =>
    intro f k M hk hf hu hv
    obtain ⟨f, rfl⟩ : ∃ m, f = m + 1 := ⟨f - 1, by omega⟩
    refine ⟨M, ?_, fun y hy => hv y (by omega), fun _ _ => rfl⟩
    rw [f_X7_byTurns_84]
    simp (disch := omega) only [l_6, nle]
    rw [if_pos (by omega)]
  | succ c ih =>
    intro f k M hk hf hu hv
    obtain ⟨f, rfl⟩ : ∃ m, f = m + 1 := ⟨f - 1, by omega⟩
    have eO := OT_s b m n (n - (L + 1)) (k % 3) (k / 3)
    rw [show n - (L + 1) + 1 = n - L by omega, show n - (n - L) = L by omega] at eO
    obtain ⟨M', e, h1, h2⟩ := ih f (k + 1) (up2 M 286 (6 * L + k) (nI (OT b m n (n - L) (k % 3) (k / 3)))) (by omega) (by omega) (fun y hy => by rw [up2_n (by omega)]; exact hu y hy) (fun y hy => by
      by_cases q : y = k
      · subst q; exact up2_s _ _ _ _
      · rw [up2_n (by omega)]
        exact hv y (by omega))
    refine ⟨M', ?_, h1, fun c hc => (h2 c hc).trans (up2_c hc)⟩
    have a1 := OT_le (m := m) (n := n) w (n - (L + 1)) (k % 3) (k / 3) (by omega)
    have a2 := OT_le (m := m) (n := n) w (n - (L + 1)) (k % 3) (1 - k / 3) (by omega)
    have a3 := OT_le (m := m) (n := n) w (n - (L + 1)) (if k % 3 < 2 then k % 3 + 1 else k % 3) (k / 3) (by omega)
    have fin : ∀ (t : Nat) (x : Nat), t < 6 → x ≤ 108 → M 286 (6 * (L + 1) + t) = nI x → OT b m n (n - L) (k % 3) (k / 3) = (if L % 2 = 0 then (if OT b m n (n - (L + 1)) (k % 3) (k / 3) < x then x else OT b m n (n - (L + 1)) (k % 3) (k / 3)) else (if x < OT b m n (n - (L + 1)) (k % 3) (k / 3) then x else OT b m n (n - (L + 1)) (k % 3) (k / 3))) → f_X7_byTurns_140 K (f_X7_byTurns_84 K f) (nI L) (nI k) (nI (OT b m n (n - (L + 1)) (k % 3) (k / 3))) (nI t) M = K (nI L + (-1 : Int32)) M' := by
      intro t x ht hx hM hO
      unfold f_X7_byTurns_140 f_X7_byTurns_191 f_X7_byTurns_216
      rw [show nI L + (1 : Int32) = nI (L + 1) from nI_1 L]
      simp (disch := omega) only [l_6, l_2, mul_n, nI_add, nI_ck, nI_cl, nrem, neq0, lt_k]
      rw [hM, show nI k + (1 : Int32) = nI (k + 1) from nI_1 k, ← e, hO]
      simp (disch := omega) only [nle]
      by_cases q : L % 2 = 0
      · simp only [if_pos q]
        by_cases q2 : x ≤ OT b m n (n - (L + 1)) (k % 3) (k / 3)
        · simp only [if_pos q2, if_true, if_neg (show ¬ OT b m n (n - (L + 1)) (k % 3) (k / 3) < x by omega)]
        · simp only [if_neg q2, if_neg (show ¬ (1 : Int32) = 0 by decide), if_pos (show OT b m n (n - (L + 1)) (k % 3) (k / 3) < x by omega)]
      · simp only [if_neg q]
        by_cases q2 : OT b m n (n - (L + 1)) (k % 3) (k / 3) ≤ x
        · simp only [if_pos q2, if_true, if_neg (show ¬ x < OT b m n (n - (L + 1)) (k % 3) (k / 3) by omega)]
        · simp only [if_neg q2, if_neg (show ¬ (1 : Int32) = 0 by decide), if_pos (show x < OT b m n (n - (L + 1)) (k % 3) (k / 3) by omega)]
    rw [f_X7_byTurns_84, show nI L + (1 : Int32) = nI (L + 1) from nI_1 L]
    simp (disch := omega) only [l_6, l_2, l_3, mul_n, nI_add, nle, nI_ck, nI_cl, nrem, neq0, lt_k]
    rw [if_neg (by omega), hu k (by omega)]
    by_cases q : L % 2 = 0
    · rw [if_pos q]
      refine fin _ _ (by omega) a2 ?_ (by rw [if_pos q, eO, if_pos q])
      rw [hu _ (by omega), show (k + 3) % 6 % 3 = k % 3 by omega, show (k + 3) % 6 / 3 = 1 - k / 3 by omega]
    · rw [if_neg q]
      by_cases q3 : 2 ≤ k % 3
      · rw [if_pos q3]
        refine fin _ _ (by omega) a3 ?_ (by rw [if_neg q, eO, if_neg q])
        rw [hu _ (by omega), if_neg (by omega)]
      · rw [if_neg q3, show nI k + (1 : Int32) = nI (k + 1) from nI_1 k]
        refine fin _ _ (by omega) a3 ?_ (by rw [if_neg q, eO, if_neg q])
        rw [hu _ (by omega), if_pos (by omega), show (k + 1) % 3 = k % 3 + 1 by omega, show (k + 1) / 3 = k / 3 by omega]
theorem S_77 {m n : Nat} (w : WF b) (hn : n ≤ 4) : ∀ (L f : Nat) (M : Mem), L < f → L ≤ n → (∀ y, y < 6 → M 286 (6 * L + y) = nI (OT b m n (n - L) (y % 3) (y / 3))) → ∃ M', f_X7_byTurns_77 f (nI L - (1 : Int32)) M = some (nI (OT b m n n 0 0), M') ∧ (∀ c, c ≠ 286 → M' c = M c) := by
  intro L
  induction L with
  | zero =>
    intro f M hf hL hv
    obtain ⟨f, rfl⟩ : ∃ m, f = m + 1 := ⟨f - 1, by omega⟩
    refine ⟨M, ?_, fun _ _ => rfl⟩
    have := hv 0 (by omega)
    rw [f_X7_byTurns_77, if_pos (by decide), show M 286 0 = nI (OT b m n n 0 0) from this]
  | succ L ih =>
    intro f M hf hL hv
    obtain ⟨f, rfl⟩ : ∃ m, f = m + 1 := ⟨f - 1, by omega⟩
    obtain ⟨M1, e1, h1, h2⟩ := S_84 (m := m) (L := L) (K := f_X7_byTurns_77 f) w hn (by omega) 6 FU 0 M (by omega) (by decide) hv (fun y hy => by omega)
    obtain ⟨M', e, h3⟩ := ih f M1 (by omega) (by omega) h1
    refine ⟨M', ?_, fun c hc => (h3 c hc).trans (h2 c hc)⟩
    rw [f_X7_byTurns_77, show nI (L + 1) - (1 : Int32) = nI L from nsub (a := L + 1) (b := 1) (by omega), if_neg (by rw [nlt0 (by omega)]; exact fun q => q), ← e, ← z0, e1, Int32.sub_eq_add_neg]
end TURNS
theorem Sim_byTurns (x y : Int32) : Sim (f_X6_byTurns x y) (f_X7_byTurns x y) := by
  intro M h
  obtain ⟨b, im, H, hn, nt, tl, tn, h1, h2, h3, h4, h5, h6, h7⟩ := id h
  have hl := h1.2.2.lt
  rcases box_cases (n := b 0) (by omega) with ⟨q0, ga0, gb0⟩ | ⟨q0, ga0, gb0⟩
  · exact ⟨_, M, M, by unfold f_X6_byTurns; rw [ga0 M h1.1.teeth, cb_k, if_pos rfl], by unfold f_X7_byTurns; rw [gb0 M h1.2.1.f0, cb_k, if_pos rfl], h⟩
  rcases W_cases x (lo := 0) (hi := 4) (a := (0 : Int32)) (b := (4 : Int32)) (a' := (0 : Int64)) (b' := (4 : Int64)) rfl rfl (by decide) (by decide) (by decide) (by decide) with ⟨ga1, gb1⟩ | ⟨n, ln, hn, rfl, ga1, gb1⟩
  · exact ⟨_, M, M, by unfold f_X6_byTurns; rw [ga0 M h1.1.teeth, cb_k, if_neg (by decide), ga1 M, cb_k, if_pos rfl], by unfold f_X7_byTurns; rw [gb0 M h1.2.1.f0, cb_k, if_neg (by decide), gb1 M, cb_k, if_pos rfl], h⟩
  rcases W_cases y (lo := 1) (hi := 20) (a := (1 : Int32)) (b := (20 : Int32)) (a' := (1 : Int64)) (b' := (20 : Int64)) rfl rfl (by decide) (by decide) (by decide) (by decide) with ⟨ga2, gb2⟩ | ⟨m, lm, hm, rfl, ga2, gb2⟩
  · exact ⟨_, M, M, by unfold f_X6_byTurns; rw [ga0 M h1.1.teeth, cb_k, if_neg (by decide), ga1 M, cb_k, if_neg (by decide), ga2 M, cb_k, if_pos rfl], by unfold f_X7_byTurns; rw [gb0 M h1.2.1.f0, cb_k, if_neg (by decide), gb1 M, cb_k, if_neg (by decide), gb2 M, cb_k, if_pos rfl], h⟩
  obtain ⟨w, _⟩ := h1.2.2.wf (by omega)
  obtain ⟨M1, e1, f1⟩ := T_out (m := m) (n := n) w (by omega) (by omega) n 24 0 0 M (by omega) (by omega) (by omega) (Or.inl rfl) h1.1
  rw [Nat.sub_self, Nat.mul_zero, z0] at e1
  refine Rel.go h h1.2.1 ⟨nI (OT b m n n 0 0), M1, ?_, FrW f1, fun MM s => ?_⟩
  · unfold f_X6_byTurns f_X3_outcomeOfTurns
    rw [ga0 M h1.1.teeth, cb_k, if_neg (by decide), ga1 M, cb_k, if_neg (by decide), ga2 M, cb_k, if_neg (by decide), cb_id, cb_id]
    exact e1
  · obtain ⟨M2, e2, h2, f2⟩ := S_39 (m := m) (n := n) w (by omega) (by omega) 6 FU 0 MM (by omega) (by decide) s (fun y hy => by omega)
    obtain ⟨M3, e3, h3⟩ := S_77 (m := m) (n := n) w (by omega) n FU M2 (by show n < 5000; omega) (by omega) (fun y hy => by rw [Nat.sub_self]; exact h2 y hy)
    refine ⟨M3, ?_, f2.tr ⟨fun c hc => h3 c (by omega), by rw [h3 15 (by omega)], fun j _ => by rw [h3 280 (by omega)], fun j _ => by rw [h3 279 (by omega)]⟩⟩
    unfold f_X7_byTurns
    rw [gb0 MM s.f0, cb_k, if_neg (by decide), gb1 MM, cb_k, if_neg (by decide), gb2 MM, cb_k, if_neg (by decide), ← z0, e2, e3]
