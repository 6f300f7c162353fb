/-! rows, and the tape's bytes -/
theorem nn_nI {x : Int32} (h : ¬ x < 0) : ∃ i, i < 2147483648 ∧ x = nI i := by
  have q : ¬ x.toInt < (0 : Int32).toInt := fun q => h (Int32.lt_iff_toInt_lt.mpr q)
  rw [show (0 : Int32).toInt = 0 from by decide] at q
  have q2 := Int32.toInt_lt x
  refine ⟨x.toInt.toNat, by omega, ?_⟩
  apply Int32.toInt_inj.mp
  rw [nI_toInt (by omega)]
  omega
theorem nL_add {i n z : Nat} (hi : i < 2147483648) (hn : n < 2147483648) (hz : z < 2147483648) : ((nI i).toInt64 + (nI n).toInt64 ≤ (nI z).toInt64) = (i + n ≤ z) := by
  refine propext ?_
  rw [Int64.le_iff_toInt_le, Int64.toInt_add, Int32.toInt_toInt64, Int32.toInt_toInt64, Int32.toInt_toInt64, nI_toInt hi, nI_toInt hn, nI_toInt hz, Int.bmod_eq_of_le (by omega) (by omega)]
  omega
theorem row_holds {M : Mem} {r sz : Nat} (hr : r < 8) (hsz : sz ≤ 40) (e : M (251 + 2 * r) 3 = nI sz) (x y : Int32) :
    (f_X2_holds (251 + 2 * r) x y M = some ((0 : Int32), M) ∧ ∀ M' : Mem, M' 282 r = nI sz → f_X7_against (nI r) x y M' = some ((2 : Int32), M')) ∨
    (∃ i n, i + n ≤ sz ∧ x = nI i ∧ y = nI n ∧ f_X2_holds (251 + 2 * r) x y M = some ((1 : Int32), M) ∧ ∀ M' : Mem, M' 282 r = nI sz → f_X7_against (nI r) x y M' = some ((0 : Int32), M')) := by
  have base : ∀ M' : Mem, M' 282 r = nI sz → f_X7_against (nI r) x y M' = if x < 0 then some ((2 : Int32), M') else if y < 0 then some ((2 : Int32), M') else if x.toInt64 + y.toInt64 ≤ (nI sz).toInt64 then some ((0 : Int32), M') else some ((2 : Int32), M') := by
    intro M' e'
    unfold f_X7_against f_X7_against_37
    simp (disch := omega) only [nI_ck, nI_cl, cmp_le]
    rw [e']
    simp (disch := omega) only [n0le, if_true]
  by_cases hx : x < 0
  · left
    refine ⟨by unfold f_X2_holds; rw [if_pos hx], fun M' e' => by rw [base M' e', if_pos hx]⟩
  by_cases hy : y < 0
  · left
    refine ⟨by unfold f_X2_holds; rw [if_neg hx, if_pos hy], fun M' e' => by rw [base M' e', if_neg hx, if_pos hy]⟩
  obtain ⟨i, hi, rfl⟩ := nn_nI hx
  obtain ⟨n, hn, rfl⟩ := nn_nI hy
  by_cases q : i + n ≤ sz
  · right
    refine ⟨i, n, q, rfl, rfl, ?_, fun M' e' => ?_⟩
    · unfold f_X2_holds
      rw [if_neg hx, if_neg hy, e, nsub (by omega)]
      simp (disch := omega) only [nlt]
      rw [if_neg (by omega), if_neg (by omega)]
    · rw [base M' e', if_neg hx, if_neg hy]
      simp (disch := omega) only [nL_add]
      rw [if_pos q]
  · left
    refine ⟨?_, fun M' e' => ?_⟩
    · unfold f_X2_holds
      rw [if_neg hx, if_neg hy, e]
      by_cases q2 : sz < i
      · rw [if_pos (by rw [nlt (by omega) (by omega)]; exact q2)]
      · rw [if_neg (by rw [nlt (by omega) (by omega)]; exact q2), nsub (by omega), if_pos (by rw [nlt (by omega) (by omega)]; omega)]
    · rw [base M' e', if_neg hx, if_neg hy]
      simp (disch := omega) only [nL_add]
      rw [if_neg q]
theorem row_find {M : Mem} {r : Nat} (hr : r < 8) (h : rowOk M r) (x y : Int32) : ∃ v : Int32, f_X6_findingOf (251 + 2 * r) x y M = some (v, M) ∧ (∀ M' : Mem, M' 282 r = M 282 r → f_X7_against (nI r) x y M' = some (v, M')) ∧ (v = 1 ∨ v = 2 ∨ (v = 0 ∧ ∃ i n ln sz, i + n ≤ sz ∧ x = nI i ∧ y = nI n ∧ M (251 + 2 * r) 1 = 1 ∧ ln ≤ 2 ∧ sz ≤ 40 ∧ M (251 + 2 * r) 2 = nI ln ∧ M 283 r = nI ln ∧ M (251 + 2 * r) 3 = nI sz ∧ M 282 r = nI sz ∧ ∀ j, j < 40 → M (251 + 2 * r + 1) j = M 284 (40 * r + j))) := by
  rcases h with ⟨g1, g2⟩ | ⟨g1, ln, sz, g2, g3, g4, g5, g6, g7, g8⟩
  · refine ⟨1, ?_, fun M' e' => ?_, Or.inl rfl⟩
    · unfold f_X6_findingOf
      rw [if_pos g1]
    · unfold f_X7_against
      simp (disch := omega) only [nI_ck, nI_cl]
      rw [e', g2, if_neg (by decide)]
  · rcases row_holds hr g3 g6 x y with ⟨a1, a2⟩ | ⟨i, n, hin, ex, ey, a1, a2⟩
    · refine ⟨2, ?_, fun M' e' => a2 M' (e'.trans g7), Or.inr (Or.inl rfl)⟩
      unfold f_X6_findingOf
      rw [if_neg (by rw [g1]; decide), a1, cb_k, if_pos rfl]
    · refine ⟨0, ?_, fun M' e' => a2 M' (e'.trans g7), Or.inr (Or.inr ⟨rfl, i, n, ln, sz, hin, ex, ey, g1, g2, g3, g4, g5, g6, g7, g8⟩)⟩
      unfold f_X6_findingOf
      rw [if_neg (by rw [g1]; decide), a1, cb_k, if_neg (by decide)]
/-- what a call on rows may change -/
def FrR (M M' : Mem) : Prop := (∀ c, (1 ≤ c ∧ c < 251) ∨ (267 ≤ c ∧ c < 279) ∨ c = 280 ∨ c = 281 ∨ c = 288 ∨ c = 289 → M' c = M c) ∧ (∀ j, j ≠ 8 → M' 0 j = M 0 j) ∧ (∀ j, j ≠ 5 → M' 279 j = M 279 j)
theorem FrR.rf (M : Mem) : FrR M M := ⟨fun _ _ => rfl, fun _ _ => rfl, fun _ _ => rfl⟩
theorem FrR.tr {M M' M'' : Mem} (h : FrR M M') (h' : FrR M' M'') : FrR M M'' := ⟨fun c hc => (h'.1 c hc).trans (h.1 c hc), fun j hj => (h'.2.1 j hj).trans (h.2.1 j hj), fun j hj => (h'.2.2 j hj).trans (h.2.2 j hj)⟩
theorem FrR.c {M M' : Mem} {d : Nat} (hd : (251 ≤ d ∧ d < 267) ∨ (282 ≤ d ∧ d < 288)) (e : ∀ c, c ≠ d → M' c = M c) : FrR M M' := ⟨fun c hc => e c (by omega), fun j _ => by rw [e 0 (by omega)], fun j _ => by rw [e 279 (by omega)]⟩
theorem FrR.u {M : Mem} {c j : Nat} {x : Int32} (hc : (251 ≤ c ∧ c < 267) ∨ (282 ≤ c ∧ c < 288) ∨ (c = 0 ∧ j = 8) ∨ (c = 279 ∧ j = 5)) : FrR M (up2 M c j x) := ⟨fun d hd => up2_c (by omega), fun k hk => up2_n (by omega), fun k hk => up2_n (by omega)⟩
theorem Inv.row {M M' : Mem} (h : Inv M) (f : FrR M M') (g : I4 M') (e : M' 0 8 = M' 279 5) : Inv M' := by
  obtain ⟨b, im, H, hn, nt, tl, tn, h1, h2, h3, h4, h5, h6, h7⟩ := h
  refine ⟨b, im, H, hn, nt, tl, tn, h1.k (fun c a1 a2 => f.1 c (by omega)) (fun j a => by rw [f.1 280 (by omega)]), h2.k (fun c a => f.1 c (by omega)) (fun j a1 a2 => by rw [f.1 280 (by omega)]), h3.k (fun c a => f.1 c (by omega)) (fun j a => by rw [f.1 280 (by omega)]) (f.2.2 1 (by omega)), g, h5.k (f.1 16 (by omega)) (f.1 281 (by omega)) (by rw [f.1 15 (by omega)]) (f.2.2 3 (by omega)), ⟨?_, e⟩, h7.k (f.1 249 (by omega)) (f.1 250 (by omega)) (f.1 289 (by omega)) (f.2.2 17 (by omega))⟩
  rw [f.2.1 9 (by omega), f.2.2 4 (by omega)]
  exact h6.1
theorem R_fill {o a : Nat} {x : Int32} (ha : a < 4000) : ∀ (c n k : Nat) (M : Mem), k + c = a → c < n → (∀ j, j < k → M o j = x) → ∃ M', f_J7_fill_53178_5 o a x n (nI k) (nI a) M = some M' ∧ (∀ j, j < a → M' o j = x) ∧ (∀ c, c ≠ o → M' c = M c) := by
  intro c
  induction c with
  | zero =>
    intro n k M hk hn hj
    obtain ⟨n, rfl⟩ : ∃ m, n = m + 1 := ⟨n - 1, by omega⟩
    refine ⟨M, ?_, fun j h => hj j (by omega), fun _ _ => rfl⟩
    rw [f_J7_fill_53178_5]
    simp (disch := omega) only [nle]
    rw [if_pos (by omega)]
  | succ c ih =>
    intro n k M hk hn hj
    obtain ⟨n, rfl⟩ : ∃ m, n = m + 1 := ⟨n - 1, by omega⟩
    obtain ⟨M', e, h1, h2⟩ := ih n (k + 1) (up2 M o k x) (by omega) (by omega) (fun j h => by
      by_cases q : j = k
      · subst q; exact up2_s _ _ _ _
      · rw [up2_n (by omega)]; exact hj j (by omega))
    refine ⟨M', ?_, h1, fun c hc => (h2 c hc).trans (up2_c hc)⟩
    rw [f_J7_fill_53178_5]
    simp (disch := omega) only [nle, nI_ck, nI_cl]
    rw [if_neg (by omega), lt_k, show nI k + (1 : Int32) = nI (k + 1) from nI_1 k, e]
theorem T_fill {o a : Nat} {x : Int32} (ha : a < 4000) (M : Mem) : ∃ M', f_J7_fill_53178 o a x M = some M' ∧ (∀ j, j < a → M' o j = x) ∧ (∀ c, c ≠ o → M' c = M c) := by
  have := R_fill (o := o) (x := x) ha a FU 0 M (by omega) (by show a < 5000; omega) (fun j h => by omega)
  rw [z0] at this
  unfold f_J7_fill_53178
  rw [lt_k]
  exact this
theorem R_row60 {r : Nat} {x3 : Int32} (hr : r < 8) : ∀ (c n k : Nat) (M : Mem), k + c = 40 → c < n → (∀ j, j < k → M 284 (40 * r + j) = 0) → ∃ M', f_X7_row_60 (nI r) x3 n (nI k) M = some (x3, M') ∧ (∀ j, j < 40 → M' 284 (40 * r + j) = 0) ∧ (∀ j, j < 40 * r ∨ 40 * r + 40 ≤ j → M' 284 j = M 284 j) ∧ (∀ c, c ≠ 284 → M' c = M c) := by
  intro c
  induction c with
  | zero =>
    intro n k M hk hn hj
    obtain ⟨n, rfl⟩ : ∃ m, n = m + 1 := ⟨n - 1, by omega⟩
    refine ⟨M, ?_, fun j h => hj j (by omega), fun _ _ => rfl, fun _ _ => rfl⟩
    rw [f_X7_row_60]
    simp (disch := omega) only [l_40, nle]
    rw [if_pos (by omega)]
  | succ c ih =>
    intro n k M hk hn hj
    obtain ⟨n, rfl⟩ : ∃ m, n = m + 1 := ⟨n - 1, by omega⟩
    obtain ⟨M', e, h1, h2, h3⟩ := ih n (k + 1) (up2 M 284 (40 * r + k) 0) (by omega) (by omega) (fun j h => by
      by_cases q : j = k
      · subst q; exact up2_s _ _ _ _
      · rw [up2_n (by omega)]; exact hj j (by omega))
    refine ⟨M', ?_, h1, fun j hj => (h2 j hj).trans (up2_n (by omega)), fun c hc => (h3 c hc).trans (up2_c hc)⟩
    rw [f_X7_row_60]
    simp (disch := omega) only [l_40, mul_n, nI_add, nle, nI_ck, nI_cl]
    rw [if_neg (by omega), lt_k, show nI k + (1 : Int32) = nI (k + 1) from nI_1 k, e]
theorem Sim_row (x y z : Int32) : Sim (f_X6_row x y z) (f_X7_row x y z) := by
  intro M h
  obtain ⟨b, im, H, hn, nt, tl, tn, h1, h2, h3, h4, h5, h6, h7⟩ := id h
  have hl := h1.2.2.lt
  rcases row_cases x with ⟨ga0, gb0⟩ | ⟨r, hr, rfl, ga0, gb0⟩
  · exact ⟨_, M, M, by unfold f_X6_row; rw [ga0 M, cb_k, if_pos rfl], by unfold f_X7_row; rw [gb0 M, cb_k, if_pos rfl], h⟩
  rcases W_cases y (lo := 0) (hi := 2) (a := (0 : Int32)) (b := (2 : Int32)) (a' := (0 : Int64)) (b' := (2 : Int64)) rfl rfl (by decide) (by decide) (by decide) (by decide) with ⟨ga1, gb1⟩ | ⟨l, ll, hl, rfl, ga1, gb1⟩
  · exact ⟨_, M, M, by unfold f_X6_row; rw [ga0 M, cb_k, if_neg (by decide), ga1 M, cb_k, if_pos rfl], by unfold f_X7_row; rw [gb0 M, cb_k, if_neg (by decide), gb1 M, cb_k, if_pos rfl], h⟩
  by_cases q : z ≤ 40
  · by_cases q0 : 0 ≤ z
    · obtain ⟨n, hn', rfl⟩ := nn_nI (x := z) (by
        intro q
        have := Int32.lt_iff_toInt_lt.mp q
        have := Int32.le_iff_toInt_le.mp q0
        omega)
      have hn40 : n ≤ 40 := by
        rw [l_40, nle (by omega) (by omega)] at q
        exact q
      obtain ⟨Mf, ef, hf1, hf2⟩ := T_fill (o := 251 + 2 * r + 1) (a := 40) (x := 0) (by decide) (up2 (up2 (up2 M (251 + 2 * r) 1 1) (251 + 2 * r) 2 (nI l)) (251 + 2 * r) 3 (nI n))
      obtain ⟨Mg, eg, hg1, hg2, hg3⟩ := R_row60 (r := r) (x3 := nI n) hr 40 FU 0 (up2 (up2 (up2 (up2 Mf 0 8 0) 279 5 0) 282 r (nI n)) 283 r (nI l)) (by omega) (by decide) (fun j h => by omega)
      refine ⟨nI n, up2 Mf 0 8 0, Mg, ?_, ?_, ?_⟩
      · unfold f_X6_row f_X2_startOver
        rw [ga0 M, cb_k, if_neg (by decide), ga1 M, cb_k, if_neg (by decide), if_pos q, if_pos q0, nI_ck (by omega) (by decide), nI_cl (by omega)]
        simp only [lt_k]
        rw [ef, cv_k, cv_k, unfound_k, cb_k]
      · unfold f_X7_row
        rw [gb0 (up2 Mf 0 8 0), cb_k, if_neg (by decide), gb1 (up2 Mf 0 8 0), cb_k, if_neg (by decide), if_pos q, if_pos q0]
        simp (disch := omega) only [lt_k, nI_ck, nI_cl]
        exact eg
      · have fm : ∀ c, c ≠ 251 + 2 * r → c ≠ 251 + 2 * r + 1 → Mf c = M c := fun c c1 c2 => by rw [hf2 c c2, up2_c c1, up2_c c1, up2_c c1]
        refine h.row ?_ (fun r' hr' => ?_) ?_
        · refine FrR.tr (M' := Mf) ?_ (FrR.tr (M' := up2 (up2 (up2 (up2 Mf 0 8 0) 279 5 0) 282 r (nI n)) 283 r (nI l)) ?_ (FrR.c (d := 284) (by omega) hg3))
          · exact (((FrR.u (by omega)).tr (FrR.u (by omega))).tr (FrR.u (by omega))).tr (FrR.c (d := 251 + 2 * r + 1) (by omega) hf2)
          · exact (((FrR.u (by omega)).tr (FrR.u (by omega))).tr (FrR.u (by omega))).tr (FrR.u (by omega))
        · by_cases e : r' = r
          · subst e
            refine Or.inr ⟨?_, l, n, hl, hn40, ?_, ?_, ?_, ?_, fun j hj => ?_⟩
            · rw [hg3 _ (by omega), up2_c (by omega), up2_c (by omega), up2_c (by omega), up2_c (by omega), hf2 _ (by omega), up2_n (by omega), up2_n (by omega), up2_s]
            · rw [hg3 _ (by omega), up2_c (by omega), up2_c (by omega), up2_c (by omega), up2_c (by omega), hf2 _ (by omega), up2_n (by omega), up2_s]
            · rw [hg3 _ (by omega), up2_s]
            · rw [hg3 _ (by omega), up2_c (by omega), up2_c (by omega), up2_c (by omega), up2_c (by omega), hf2 _ (by omega), up2_s]
            · rw [hg3 _ (by omega), up2_c (by omega), up2_s]
            · rw [hg3 _ (by omega), up2_c (by omega), up2_c (by omega), up2_c (by omega), up2_c (by omega), hf1 j hj, hg1 j hj]
          · refine (h4 r' hr').k ?_ ?_ ?_ ?_ (fun j hj => ?_)
            · rw [hg3 _ (by omega), up2_c (by omega), up2_c (by omega), up2_c (by omega), up2_c (by omega), fm _ (by omega) (by omega)]
            · rw [hg3 _ (by omega), up2_c (by omega), up2_c (by omega), up2_c (by omega), up2_c (by omega), fm _ (by omega) (by omega)]
            · rw [hg3 _ (by omega), up2_c (by omega), up2_n (by omega), up2_c (by omega), up2_c (by omega), fm _ (by omega) (by omega)]
            · rw [hg3 _ (by omega), up2_n (by omega), up2_c (by omega), up2_c (by omega), up2_c (by omega), fm _ (by omega) (by omega)]
            · rw [hg2 _ (by omega), up2_c (by omega), up2_c (by omega), up2_c (by omega), up2_c (by omega), fm _ (by omega) (by omega)]
        · rw [hg3 0 (by omega), hg3 279 (by omega), up2_c (by omega), up2_c (by omega), up2_c (by omega), up2_s, up2_c (by omega), up2_c (by omega), up2_s]
    · refine ⟨(-1000010 : Int32) - 4, up2 M 0 8 4, up2 (up2 M 0 8 4) 279 5 4, ?_, ?_, h.note 4⟩
      · unfold f_X6_row
        rw [ga0 M, cb_k, if_neg (by decide), ga1 M, cb_k, if_neg (by decide), if_pos q, if_neg q0, found_k, cb_k]
      · unfold f_X7_row
        rw [gb0 (up2 M 0 8 4), cb_k, if_neg (by decide), gb1 (up2 M 0 8 4), cb_k, if_neg (by decide), if_pos q, if_neg q0, finds_k, cb_k]
  · refine ⟨(-1000001 : Int32), M, M, ?_, ?_, h⟩
    · unfold f_X6_row
      rw [ga0 M, cb_k, if_neg (by decide), ga1 M, cb_k, if_neg (by decide), if_neg q]
    · unfold f_X7_row
      rw [gb0 M, cb_k, if_neg (by decide), gb1 M, cb_k, if_neg (by decide), if_neg q]
theorem Sim_drop (x : Int32) : Sim (f_X6_drop x) (f_X7_drop x) := by
  intro M h
  obtain ⟨b, im, H, hn, nt, tl, tn, h1, h2, h3, h4, h5, h6, h7⟩ := id h
  have hl := h1.2.2.lt
  rcases row_cases x with ⟨ga0, gb0⟩ | ⟨r, hr, rfl, ga0, gb0⟩
  · exact ⟨_, M, M, by unfold f_X6_drop; rw [ga0 M, cb_k, if_pos rfl], by unfold f_X7_drop; rw [gb0 M, cb_k, if_pos rfl], h⟩
  rcases h4 r hr with ⟨g1, g2⟩ | ⟨g1, ln, sz, g2, g3, g4, g5, g6, g7, g8⟩
  · refine ⟨(-1000010 : Int32) - 1, up2 M 0 8 1, up2 (up2 M 0 8 1) 279 5 1, ?_, ?_, h.note 1⟩
    · unfold f_X6_drop
      rw [ga0 M, cb_k, if_neg (by decide), nI_ck (by omega) (by decide), nI_cl (by omega), if_pos g1, found_k, cb_k]
    · unfold f_X7_drop
      rw [gb0 (up2 M 0 8 1), cb_k, if_neg (by decide), nI_ck (by omega) (by decide), nI_cl (by omega), if_neg (by rw [up2_c (by omega), g2]; decide), finds_k, cb_k]
  · refine ⟨nI sz, up2 (up2 M (251 + 2 * r) 1 0) 0 8 0, up2 (up2 (up2 (up2 M (251 + 2 * r) 1 0) 0 8 0) 279 5 0) 282 r (-1), ?_, ?_, ?_⟩
    · unfold f_X6_drop
      rw [ga0 M, cb_k, if_neg (by decide)]
      simp (disch := omega) only [nI_ck, nI_cl, lt_k]
      rw [if_neg (by rw [g1]; decide), unfound_k, cb_k, up2_n (by omega), g6]
    · unfold f_X7_drop
      rw [gb0 (up2 (up2 M (251 + 2 * r) 1 0) 0 8 0), cb_k, if_neg (by decide)]
      simp (disch := omega) only [nI_ck, nI_cl, lt_k]
      simp (disch := omega) only [up2_n, g7, n0le, if_true]
    · refine h.row ((((FrR.u (by omega)).tr (FrR.u (by omega))).tr (FrR.u (by omega))).tr (FrR.u (by omega))) (fun r' hr' => ?_) ?_
      · by_cases e : r' = r
        · subst e
          refine Or.inl ⟨?_, ?_⟩
          · rw [up2_c (by omega), up2_c (by omega), up2_c (by omega), up2_s]
          · rw [up2_s]
        · refine (h4 r' hr').k ?_ ?_ ?_ ?_ (fun j hj => ?_)
          · rw [up2_c (by omega), up2_c (by omega), up2_c (by omega), up2_c (by omega)]
          · rw [up2_c (by omega), up2_c (by omega), up2_c (by omega), up2_c (by omega)]
          · rw [up2_n (by omega), up2_c (by omega), up2_c (by omega), up2_c (by omega)]
          · rw [up2_c (by omega), up2_c (by omega), up2_c (by omega), up2_c (by omega)]
          · rw [up2_c (by omega), up2_c (by omega), up2_c (by omega), up2_c (by omega)]
      · rw [up2_c (by omega), up2_c (by omega), up2_s, up2_c (by omega), up2_s]
theorem setIn {M : Mem} {r i : Nat} {v : Int32} (h : Inv M) (hr : r < 8) (hi : i < 40) : Inv (up2 (up2 (up2 (up2 M (251 + 2 * r + 1) i v) 0 8 0) 279 5 0) 284 (40 * r + i) v) := by
  obtain ⟨b, im, H, hn, nt, tl, tn, h1, h2, h3, h4, h5, h6, h7⟩ := id h
  refine h.row ((((FrR.u (by omega)).tr (FrR.u (by omega))).tr (FrR.u (by omega))).tr (FrR.u (by omega))) (fun r' hr' => ?_) ?_
  · by_cases e : r' = r
    · subst e
      rcases h4 r' hr' with ⟨g1, g2⟩ | ⟨g1, ln, sz, g2, g3, g4, g5, g6, g7, g8⟩
      · refine Or.inl ⟨?_, ?_⟩
        · rw [up2_c (by omega), up2_c (by omega), up2_c (by omega), up2_c (by omega)]; exact g1
        · rw [up2_c (by omega), up2_c (by omega), up2_c (by omega), up2_c (by omega)]; exact g2
      · refine Or.inr ⟨?_, ln, sz, g2, g3, ?_, ?_, ?_, ?_, fun j hj => ?_⟩
        · rw [up2_c (by omega), up2_c (by omega), up2_c (by omega), up2_c (by omega)]; exact g1
        · rw [up2_c (by omega), up2_c (by omega), up2_c (by omega), up2_c (by omega)]; exact g4
        · rw [up2_c (by omega), up2_c (by omega), up2_c (by omega), up2_c (by omega)]; exact g5
        · rw [up2_c (by omega), up2_c (by omega), up2_c (by omega), up2_c (by omega)]; exact g6
        · rw [up2_c (by omega), up2_c (by omega), up2_c (by omega), up2_c (by omega)]; exact g7
        · by_cases q : j = i
          · subst q
            rw [up2_c (by omega), up2_c (by omega), up2_c (by omega), up2_s, up2_s]
          · rw [up2_c (by omega), up2_c (by omega), up2_c (by omega), up2_n (by omega), up2_n (by omega), up2_c (by omega), up2_c (by omega), up2_c (by omega)]
            exact g8 j hj
    · refine (h4 r' hr').k ?_ ?_ ?_ ?_ (fun j hj => ?_)
      · rw [up2_c (by omega), up2_c (by omega), up2_c (by omega), up2_c (by omega)]
      · rw [up2_c (by omega), up2_c (by omega), up2_c (by omega), up2_c (by omega)]
      · rw [up2_c (by omega), up2_c (by omega), up2_c (by omega), up2_c (by omega)]
      · rw [up2_c (by omega), up2_c (by omega), up2_c (by omega), up2_c (by omega)]
      · rw [up2_n (by omega), up2_c (by omega), up2_c (by omega), up2_c (by omega)]
  · rw [up2_c (by omega), up2_c (by omega), up2_s, up2_c (by omega), up2_s]
theorem Sim_set (x y z : Int32) : Sim (f_X6_set x y z) (f_X7_set x y z) := by
  intro M h
  obtain ⟨b, im, H, hn, nt, tl, tn, h1, h2, h3, h4, h5, h6, h7⟩ := id h
  have hl := h1.2.2.lt
  rcases row_cases x with ⟨ga0, gb0⟩ | ⟨r, hr, rfl, ga0, gb0⟩
  · exact ⟨_, M, M, by unfold f_X6_set; rw [ga0 M, cb_k, if_pos rfl], by unfold f_X7_set; rw [gb0 M, cb_k, if_pos rfl], h⟩
  obtain ⟨v, v1, v2, hv⟩ := row_find hr (h4 r hr) y 1
  have bad : (v = 1 ∨ v = 2) → ∃ r_1 M1 M2, f_X6_set (nI r) y z M = some (r_1, M1) ∧ f_X7_set (nI r) y z M1 = some (r_1, M2) ∧ Inv M2 := by
    intro hb
    refine ⟨(-1000010 : Int32) - v, up2 M 0 8 v, up2 (up2 M 0 8 v) 279 5 v, ?_, ?_, h.note v⟩
    · unfold f_X6_set
      rw [ga0 M, cb_k, if_neg (by decide), nI_ck (by omega) (by decide), nI_cl (by omega), v1, cb_k, if_neg (by rcases hb with rfl | rfl <;> decide), found_k, cb_k]
    · unfold f_X7_set
      rw [gb0 (up2 M 0 8 v), cb_k, if_neg (by decide), v2 _ (by rw [up2_c (by omega)]), cb_k, if_neg (by rcases hb with rfl | rfl <;> decide), finds_k, cb_k]
  rcases hv with hv | hv | ⟨rfl, i, n, ln, sz, hin, rfl, en, g1, g2, g3, g4, g5, g6, g7, g8⟩
  · exact bad (Or.inl hv)
  · exact bad (Or.inr hv)
  clear bad
  have hn1 : n = 1 := by
    have : nI 1 = nI n := en
    by_cases q : n < 2147483648
    · rw [neq (by omega) q] at this
      omega
    · omega
  subst hn1
  have key : ∀ u : Int32, (∀ A : Mem, A (251 + 2 * r) 2 = nI ln → f_X2_cut (251 + 2 * r) z A = some (u, A)) → (∀ A : Mem, A 283 r = nI ln → (if (A 283 r) = 0 then f_X7_set_76 (nI r) (nI i) (((40 : Int32) * nI r) + nI i) ((z).toInt8.toInt32) A else if (A 283 r) = (1 : Int32) then f_X7_set_76 (nI r) (nI i) (((40 : Int32) * nI r) + nI i) ((z).toInt16.toInt32) A else f_X7_set_76 (nI r) (nI i) (((40 : Int32) * nI r) + nI i) z A) = f_X7_set_76 (nI r) (nI i) (((40 : Int32) * nI r) + nI i) u A) → ∃ r_1 M1 M2, f_X6_set (nI r) (nI i) z M = some (r_1, M1) ∧ f_X7_set (nI r) (nI i) z M1 = some (r_1, M2) ∧ Inv M2 := by
    intro u k1 k2
    refine ⟨u, up2 (up2 M (251 + 2 * r + 1) i u) 0 8 0, up2 (up2 (up2 (up2 M (251 + 2 * r + 1) i u) 0 8 0) 279 5 0) 284 (40 * r + i) u, ?_, ?_, setIn h hr (by omega)⟩
    · unfold f_X6_set f_X2_put
      rw [ga0 M, cb_k, if_neg (by decide)]
      simp (disch := omega) only [nI_ck, nI_cl]
      rw [v1, cb_k, if_pos rfl, k1 M g4, cb_k, lt_k, cb_k, unfound_k, cb_k, up2_s]
    · unfold f_X7_set
      rw [gb0 (up2 (up2 M (251 + 2 * r + 1) i u) 0 8 0), cb_k, if_neg (by decide), v2 _ (by rw [up2_c (by omega), up2_c (by omega)]), cb_k, if_pos (by decide), lt_k]
      simp (disch := omega) only [nI_ck, nI_cl]
      refine (k2 _ (by rw [up2_c (by omega), up2_c (by omega), up2_c (by omega)]; exact g5)).trans ?_
      unfold f_X7_set_76
      simp (disch := omega) only [l_40, mul_n, nI_add, nI_ck, nI_cl, lt_k, up2_s]
  rcases (show ln = 0 ∨ ln = 1 ∨ ln = 2 by omega) with rfl | rfl | rfl
  · refine key _ (fun A e => ?_) (fun A e => by rw [e]; rfl)
    unfold f_X2_cut
    rw [lt_k, e, if_pos z0]
  · refine key _ (fun A e => ?_) (fun A e => by rw [e]; rfl)
    unfold f_X2_cut
    rw [lt_k, e, if_neg (by decide), if_pos z1]
  · refine key _ (fun A e => ?_) (fun A e => by rw [e]; rfl)
    unfold f_X2_cut
    rw [lt_k, e, if_neg (by decide), if_neg (by decide)]
theorem Sim_feed (x : Int32) : Sim (f_X6_feed x) (f_X7_feed x) := by
  intro M h
  obtain ⟨b, im, H, hn, nt, tl, tn, h1, h2, h3, h4, h5, h6, h7⟩ := id h
  have hl := h1.2.2.lt
  rcases W_cases x (lo := 0) (hi := 255) (a := (0 : Int32)) (b := (255 : Int32)) (a' := (0 : Int64)) (b' := (255 : Int64)) rfl rfl (by decide) (by decide) (by decide) (by decide) with ⟨ga0, gb0⟩ | ⟨v, lv, hv, rfl, ga0, gb0⟩
  · exact ⟨_, M, M, by unfold f_X6_feed; rw [ga0 M, cb_k, if_pos rfl], by unfold f_X7_feed; rw [gb0 M, cb_k, if_pos rfl], h⟩
  obtain ⟨k1, k2, k3, k4⟩ := h5
  by_cases q : tl = 100
  · refine ⟨(-1000003 : Int32), M, M, ?_, ?_, h⟩
    · unfold f_X6_feed
      rw [ga0 M, cb_k, if_neg (by decide), k2, if_neg (by rw [l_100, nlt (by omega) (by omega)]; omega)]
    · unfold f_X7_feed
      rw [gb0 M, cb_k, if_neg (by decide), k3, if_pos (by rw [q]; rfl)]
  · refine ⟨nI (tl + 1), up2 (up2 M 16 tl (nI v)) 15 1 (nI (tl + 1)), up2 (up2 (up2 (up2 M 16 tl (nI v)) 15 1 (nI (tl + 1))) 281 tl (nI v)) 279 3 (nI (tl + 1)), ?_, ?_, ?_⟩
    · unfold f_X6_feed f_X4_add
      rw [ga0 M, cb_k, if_neg (by decide), k2, if_pos (by rw [l_100, nlt (by omega) (by omega)]; omega)]
      simp (disch := omega) only [nI_ck, nI_cl, lt_k, cb_k, Nat.reduceAdd]
      rw [up2_s, up2_n (by omega), k2, nI_1]
    · unfold f_X7_feed
      have e : up2 (up2 M 16 tl (nI v)) 15 1 (nI (tl + 1)) 279 3 = nI tl := by rw [up2_c (by omega), up2_c (by omega)]; exact k3
      rw [gb0 _, cb_k, if_neg (by decide), e, if_neg (by rw [l_100, neq (by omega) (by omega)]; exact q)]
      simp (disch := omega) only [nI_ck, nI_cl, lt_k]
      rw [up2_c (c := 279) (a := 281) (by omega), e, nI_1, up2_s]
    · refine ⟨b, im, H, hn, nt, tl + 1, tn, h1.k (fun c a1 a2 => ?_) (fun j a => ?_), h2.k (fun c a => ?_) (fun j a1 a2 => ?_), h3.k (fun c a => ?_) (fun j a => ?_) ?_, h4.k (fun c a => ?_), ⟨by omega, ?_, ?_, fun j hj => ?_⟩, h6.k ?_ ?_ ?_, h7.k ?_ ?_ ?_ ?_⟩
      · rw [up2_c (by omega), up2_c (by omega), up2_c (by omega), up2_c (by omega)]
      · rw [up2_c (by omega), up2_c (by omega), up2_c (by omega), up2_c (by omega)]
      · rw [up2_c (by omega), up2_c (by omega), up2_c (by omega), up2_c (by omega)]
      · rw [up2_c (by omega), up2_c (by omega), up2_c (by omega), up2_c (by omega)]
      · rw [up2_c (by omega), up2_c (by omega), up2_c (by omega), up2_c (by omega)]
      · rw [up2_c (by omega), up2_c (by omega), up2_c (by omega), up2_c (by omega)]
      · rw [up2_n (by omega), up2_c (by omega), up2_c (by omega), up2_c (by omega)]
      · rw [up2_c (by omega), up2_c (by omega), up2_c (by omega), up2_c (by omega)]
      · rw [up2_c (by omega), up2_c (by omega), up2_s]
      · rw [up2_s]
      · by_cases qj : j = tl
        · subst qj
          refine ⟨?_, v, by omega, ?_⟩
          · rw [up2_c (by omega), up2_c (by omega), up2_c (by omega), up2_s, up2_c (by omega), up2_s]
          · rw [up2_c (by omega), up2_c (by omega), up2_c (by omega), up2_s]
        · obtain ⟨z1', z2'⟩ := k4 j (by omega)
          refine ⟨?_, ?_⟩
          · rw [up2_c (by omega), up2_c (by omega), up2_c (by omega), up2_n (by omega), up2_c (by omega), up2_n (by omega), up2_c (by omega), up2_c (by omega)]
            exact z1'
          · rw [up2_c (by omega), up2_c (by omega), up2_c (by omega), up2_n (by omega)]
            exact z2'
      · rw [up2_c (by omega), up2_c (by omega), up2_c (by omega), up2_c (by omega)]
      · rw [up2_n (by omega), up2_c (by omega), up2_c (by omega), up2_c (by omega)]
      · rw [up2_n (by omega), up2_c (by omega), up2_c (by omega), up2_c (by omega)]
      · rw [up2_c (by omega), up2_c (by omega), up2_c (by omega), up2_c (by omega)]
      · rw [up2_c (by omega), up2_c (by omega), up2_c (by omega), up2_c (by omega)]
      · rw [up2_c (by omega), up2_c (by omega), up2_c (by omega), up2_c (by omega)]
      · rw [up2_n (by omega), up2_c (by omega), up2_c (by omega), up2_c (by omega)]
