/-! copying between rows -/
theorem R_c136 {d j n : Nat} (hd : d < 8) (hj : j + n ≤ 40) : ∀ (c f k : Nat) (M : Mem), k + c = n → c < f → (∀ q, q < k → M 284 (40 * d + j + q) = M 285 q) → ∃ M', f_X7_copy_136 (nI d) (nI j) (nI n) f (nI k) M = some (nI n, M') ∧ (∀ q, q < n → M' 284 (40 * d + j + q) = M 285 q) ∧ (∀ s, s < 40 * d + j ∨ 40 * d + j + n ≤ s → M' 284 s = M 284 s) ∧ (∀ c, c ≠ 284 → M' c = M c) := by
  intro c
  induction c with
  | zero =>
    intro f k M hk hf hq
    obtain ⟨f, rfl⟩ : ∃ m, f = m + 1 := ⟨f - 1, by omega⟩
    refine ⟨M, ?_, fun q h => hq q (by omega), fun _ _ => rfl, fun _ _ => rfl⟩
    rw [f_X7_copy_136]
    simp (disch := omega) only [nle]
    rw [if_pos (by omega)]
  | succ c ih =>
    intro f k M hk hf hq
    obtain ⟨f, rfl⟩ : ∃ m, f = m + 1 := ⟨f - 1, by omega⟩
    obtain ⟨M', e, h1, h2, h3⟩ := ih f (k + 1) (up2 M 284 (40 * d + j + k) (M 285 k)) (by omega) (by omega) (fun q h => by
      rw [up2_c (c := 285) (by omega)]
      by_cases e : q = k
      · subst e; exact up2_s _ _ _ _
      · rw [up2_n (by omega)]; exact hq q (by omega))
    refine ⟨M', ?_, fun q h => by rw [h1 q h, up2_c (by omega)], fun s hs => (h2 s hs).trans (up2_n (by omega)), fun c hc => (h3 c hc).trans (up2_c hc)⟩
    rw [f_X7_copy_136]
    simp (disch := omega) only [l_40, mul_n, nI_add, nle, nI_ck, nI_cl]
    rw [if_neg (by omega), lt_k, show nI k + (1 : Int32) = nI (k + 1) from nI_1 k, e]
theorem R_c99 {a i d j n : Nat} (ha : a < 8) (hi : i + n ≤ 40) : ∀ (c f k : Nat) (M : Mem), k + c = n → c < f → (∀ q, q < k → M 285 q = M 284 (40 * a + i + q)) → ∃ M', f_X7_copy_99 (nI a) (nI i) (nI d) (nI j) (nI n) f (nI k) M = f_X7_copy_136 (nI d) (nI j) (nI n) FU (nI 0) M' ∧ (∀ q, q < n → M' 285 q = M 284 (40 * a + i + q)) ∧ (∀ c, c ≠ 285 → M' c = M c) := by
  intro c
  induction c with
  | zero =>
    intro f k M hk hf hq
    obtain ⟨f, rfl⟩ : ∃ m, f = m + 1 := ⟨f - 1, by omega⟩
    refine ⟨M, ?_, fun q h => hq q (by omega), fun _ _ => rfl⟩
    rw [f_X7_copy_99]
    simp (disch := omega) only [nle]
    rw [if_pos (by omega), z0]
  | succ c ih =>
    intro f k M hk hf hq
    obtain ⟨f, rfl⟩ : ∃ m, f = m + 1 := ⟨f - 1, by omega⟩
    obtain ⟨M', e, h1, h3⟩ := ih f (k + 1) (up2 M 285 k (M 284 (40 * a + i + k))) (by omega) (by omega) (fun q h => by
      rw [up2_c (c := 284) (by omega)]
      by_cases e : q = k
      · subst e; exact up2_s _ _ _ _
      · rw [up2_n (by omega)]; exact hq q (by omega))
    refine ⟨M', ?_, fun q h => by rw [h1 q h, up2_c (by omega)], fun c hc => (h3 c hc).trans (up2_c hc)⟩
    rw [f_X7_copy_99]
    simp (disch := omega) only [l_40, mul_n, nI_add, nle, nI_ck, nI_cl]
    rw [if_neg (by omega), lt_k, show nI k + (1 : Int32) = nI (k + 1) from nI_1 k, e]
theorem Sim_copy (x y z u v : Int32) : Sim (f_X6_copy x y z u v) (f_X7_copy x y z u v) := by
  intro M h
  obtain ⟨b, im, H, hn, nt, tl, tn, h1, h2, h3, h4, h5, h6, h7⟩ := id h
  have hl := h1.2.2.lt
  rcases row_cases x with ⟨ga0, gb0⟩ | ⟨a, ha, rfl, ga0, gb0⟩
  · exact ⟨_, M, M, by unfold f_X6_copy; rw [ga0 M, cb_k, if_pos rfl], by unfold f_X7_copy; rw [gb0 M, cb_k, if_pos rfl], h⟩
  rcases row_cases z with ⟨ga1, gb1⟩ | ⟨d, hd, rfl, ga1, gb1⟩
  · exact ⟨_, M, M, by unfold f_X6_copy; rw [ga0 M, cb_k, if_neg (by decide), ga1 M, cb_k, if_pos rfl], by unfold f_X7_copy; rw [gb0 M, cb_k, if_neg (by decide), gb1 M, cb_k, if_pos rfl], h⟩
  have bad : ∀ k : Int32, f_X6_copy (nI a) y (nI d) u v M = some ((-1000010 : Int32) - k, up2 M 0 8 k) → f_X7_copy (nI a) y (nI d) u v (up2 M 0 8 k) = some ((-1000010 : Int32) - k, up2 (up2 M 0 8 k) 279 5 k) → ∃ r_1 M1 M2, f_X6_copy (nI a) y (nI d) u v M = some (r_1, M1) ∧ f_X7_copy (nI a) y (nI d) u v M1 = some (r_1, M2) ∧ Inv M2 := fun k e1 e2 => ⟨_, _, _, e1, e2, h.note k⟩
  rcases h4 a ha with ⟨g1, g2⟩ | ⟨g1, ln, sz, g2, g3, g4, g5, g6, g7, g8⟩
  · refine bad 1 ?_ ?_
    · unfold f_X6_copy f_X6_copy_49
      rw [ga0 M, cb_k, if_neg (by decide), ga1 M, cb_k, if_neg (by decide)]
      simp (disch := omega) only [nI_ck, nI_cl]
      rw [if_pos g1, found_k, cb_k]
    · unfold f_X7_copy f_X7_copy_35
      rw [gb0 (up2 M 0 8 1), cb_k, if_neg (by decide), gb1 (up2 M 0 8 1), cb_k, if_neg (by decide)]
      simp (disch := omega) only [nI_ck, nI_cl]
      rw [if_pos (by rw [up2_c (by omega), g2]; decide), finds_k, cb_k]
  have gn : ∀ k : Int32, ¬ (up2 M 0 8 k) 282 a < 0 := fun k => by rw [up2_c (by omega), g7, nlt0 (by omega)]; exact fun q => q
  rcases h4 d hd with ⟨k1, k2⟩ | ⟨k1, lm, sy, k2, k3, k4, k5, k6, k7, k8⟩
  · refine bad 1 ?_ ?_
    · unfold f_X6_copy f_X6_copy_49
      rw [ga0 M, cb_k, if_neg (by decide), ga1 M, cb_k, if_neg (by decide)]
      simp (disch := omega) only [nI_ck, nI_cl]
      rw [if_neg (by rw [g1]; decide), if_pos k1, found_k, cb_k]
    · unfold f_X7_copy f_X7_copy_35
      rw [gb0 (up2 M 0 8 1), cb_k, if_neg (by decide), gb1 (up2 M 0 8 1), cb_k, if_neg (by decide)]
      simp (disch := omega) only [nI_ck, nI_cl]
      rw [if_neg (gn 1), if_neg (by rw [up2_c (by omega), k2]; decide), finds_k, cb_k]
  have kn : ∀ k : Int32, 0 ≤ (up2 M 0 8 k) 282 d := fun k => by rw [up2_c (by omega), k7, n0le (by omega)]; trivial
  by_cases ql : ¬ ln = lm
  · refine bad 5 ?_ ?_
    · unfold f_X6_copy
      rw [ga0 M, cb_k, if_neg (by decide), ga1 M, cb_k, if_neg (by decide)]
      simp (disch := omega) only [nI_ck, nI_cl]
      rw [if_neg (by rw [g1]; decide), if_neg (by rw [k1]; decide), if_neg (by rw [g4, k4, neq (by omega) (by omega)]; exact ql), found_k, cb_k]
    · unfold f_X7_copy
      rw [gb0 (up2 M 0 8 5), cb_k, if_neg (by decide), gb1 (up2 M 0 8 5), cb_k, if_neg (by decide)]
      simp (disch := omega) only [nI_ck, nI_cl]
      rw [if_neg (gn 5), if_pos (kn 5), if_neg (by rw [up2_c (by omega), g5, k5, neq (by omega) (by omega)]; exact ql), finds_k, cb_k]
  have ql' : ln = lm := Decidable.not_not.mp ql
  clear ql
  subst ql'
  have ll : ∀ k : Int32, (up2 M 0 8 k) 283 a = (up2 M 0 8 k) 283 d := fun k => by rw [up2_c (by omega), g5, k5]
  rcases row_holds ha g3 g6 y v with ⟨a1, a2⟩ | ⟨i, n, hin, ey, ev, a1, a2⟩
  · refine bad 2 ?_ ?_
    · unfold f_X6_copy f_X6_copy_97
      rw [ga0 M, cb_k, if_neg (by decide), ga1 M, cb_k, if_neg (by decide)]
      simp (disch := omega) only [nI_ck, nI_cl]
      rw [if_neg (by rw [g1]; decide), if_neg (by rw [k1]; decide), if_pos (by rw [g4, k4]), a1, cb_k, if_pos rfl, found_k, cb_k]
    · unfold f_X7_copy f_X7_copy_85
      rw [gb0 (up2 M 0 8 2), cb_k, if_neg (by decide), gb1 (up2 M 0 8 2), cb_k, if_neg (by decide)]
      simp (disch := omega) only [nI_ck, nI_cl]
      rw [if_neg (gn 2), if_pos (kn 2), if_pos (ll 2), a2 _ (by rw [up2_c (by omega)]; exact g7), cb_k, if_pos (by decide), finds_k, cb_k]
  rcases row_holds hd k3 k6 u v with ⟨c1, c2⟩ | ⟨j, n', hjn, eu, ev', c1, c2⟩
  · refine bad 2 ?_ ?_
    · unfold f_X6_copy f_X6_copy_97
      rw [ga0 M, cb_k, if_neg (by decide), ga1 M, cb_k, if_neg (by decide)]
      simp (disch := omega) only [nI_ck, nI_cl]
      rw [if_neg (by rw [g1]; decide), if_neg (by rw [k1]; decide), if_pos (by rw [g4, k4]), a1, cb_k, if_neg (by decide), c1, cb_k, if_pos rfl, found_k, cb_k]
    · unfold f_X7_copy f_X7_copy_85
      rw [gb0 (up2 M 0 8 2), cb_k, if_neg (by decide), gb1 (up2 M 0 8 2), cb_k, if_neg (by decide)]
      simp (disch := omega) only [nI_ck, nI_cl]
      rw [if_neg (gn 2), if_pos (kn 2), if_pos (ll 2), a2 _ (by rw [up2_c (by omega)]; exact g7), cb_k, if_neg (by decide), c2 _ (by rw [up2_c (by omega)]; exact k7), cb_k, if_neg (by decide), finds_k, cb_k]
  clear bad
  have hnn : n = n' := by
    have := ev.symm.trans ev'
    rw [neq (by omega) (by omega)] at this
    exact this
  subst hnn
  clear ev'
  subst ey
  subst ev
  subst eu
  obtain ⟨Mx, hMx⟩ : ∃ Mx, Mx = up2 (va_up M (251 + 2 * d + 1) (va_cpy (M (251 + 2 * a + 1)) (M (251 + 2 * d + 1)) i j n)) 0 8 0 := ⟨_, rfl⟩
  have hx : ∀ c, c ≠ 0 → c ≠ 251 + 2 * d + 1 → Mx c = M c := fun c c1 c2 => by rw [hMx, up2_c c1, vup_n c2]
  have hxd : Mx (251 + 2 * d + 1) = va_cpy (M (251 + 2 * a + 1)) (M (251 + 2 * d + 1)) i j n := by rw [hMx, up2_c (by omega), va_up_self]
  obtain ⟨Ma, ea, ha1, ha2⟩ := R_c99 (a := a) (i := i) (d := d) (j := j) (n := n) ha (by omega) n FU 0 (up2 Mx 279 5 0) (by omega) (by show n < 5000; omega) (fun q h => by omega)
  obtain ⟨Mb, eb, hb1, hb2, hb3⟩ := R_c136 (d := d) (j := j) (n := n) hd (by omega) n FU 0 Ma (by omega) (by show n < 5000; omega) (fun q h => by omega)
  have ma : ∀ c, c ≠ 285 → c ≠ 279 → Ma c = Mx c := fun c c1 c2 => by rw [ha2 c c1, up2_c c2]
  have mb : ∀ c, c ≠ 284 → c ≠ 285 → c ≠ 279 → c ≠ 0 → c ≠ 251 + 2 * d + 1 → Mb c = M c := fun c c1 c2 c3 c4 c5 => by rw [hb3 c c1, ma c c2 c3, hx c c4 c5]
  refine ⟨nI n, Mx, Mb, ?_, ?_, ?_⟩
  · unfold f_X6_copy
    rw [ga0 M, cb_k, if_neg (by decide), ga1 M, cb_k, if_neg (by decide)]
    simp (disch := omega) only [nI_ck, nI_cl]
    rw [if_neg (by rw [g1]; decide), if_neg (by rw [k1]; decide), if_pos (by rw [g4, k4]), a1, cb_k, if_neg (by decide), c1, cb_k, if_neg (by decide)]
    unfold ckc
    simp (disch := omega) only [nI_cl, nlt0, false_or]
    rw [if_neg (by omega), lt_k, unfound_k, cb_k, hMx]
  · unfold f_X7_copy
    rw [gb0 Mx, cb_k, if_neg (by decide), gb1 Mx, cb_k, if_neg (by decide)]
    simp (disch := omega) only [nI_ck, nI_cl]
    have e1 : Mx 282 = M 282 := hx _ (by omega) (by omega)
    have e2 : Mx 283 = M 283 := hx _ (by omega) (by omega)
    rw [if_neg (by rw [e1, g7, nlt0 (by omega)]; exact fun q => q), if_pos (by rw [e1, k7, n0le (by omega)]; trivial), if_pos (by rw [e2, g5, k5]), a2 _ (by rw [e1]; exact g7), cb_k, if_neg (by decide), c2 _ (by rw [e1]; exact k7), cb_k, if_pos (by decide), lt_k]
    exact ea.trans eb
  · refine h.row ?_ (fun r' hr' => ?_) ?_
    · refine ⟨fun c hc => mb c (by omega) (by omega) (by omega) (by omega) (by omega), fun s hs => ?_, fun s hs => ?_⟩
      · rw [hb3 _ (by omega), ma _ (by omega) (by omega), hMx, up2_n (by omega), vup_n (by omega)]
      · rw [hb3 _ (by omega), ha2 _ (by omega), up2_n (by omega), hx _ (by omega) (by omega)]
    · have key : ∀ s, s < 40 * d + j ∨ 40 * d + j + n ≤ s → Mb 284 s = M 284 s := fun s hs => by rw [hb2 s hs, ma _ (by omega) (by omega), hx _ (by omega) (by omega)]
      by_cases e : r' = d
      · subst e
        refine Or.inr ⟨?_, ln, sy, g2, k3, ?_, ?_, ?_, ?_, fun s hs => ?_⟩
        · rw [mb _ (by omega) (by omega) (by omega) (by omega) (by omega)]; exact k1
        · rw [mb _ (by omega) (by omega) (by omega) (by omega) (by omega)]; exact k4
        · rw [mb _ (by omega) (by omega) (by omega) (by omega) (by omega)]; exact k5
        · rw [mb _ (by omega) (by omega) (by omega) (by omega) (by omega)]; exact k6
        · rw [mb _ (by omega) (by omega) (by omega) (by omega) (by omega)]; exact k7
        · rw [hb3 _ (by omega), ma _ (by omega) (by omega), hxd]
          unfold va_cpy
          by_cases qs : j ≤ s ∧ s < j + n
          · have z := hb1 (s - j) (by omega)
            rw [show 40 * r' + j + (s - j) = 40 * r' + s by omega] at z
            rw [if_pos qs, z, ha1 _ (by omega), up2_c (by omega), hx _ (by omega) (by omega), g8 _ (by omega), Nat.add_assoc]
          · rw [if_neg qs, key _ (by omega), k8 s hs]
      · refine (h4 r' hr').k ?_ ?_ ?_ ?_ (fun s hs => ?_)
        · exact mb _ (by omega) (by omega) (by omega) (by omega) (by omega)
        · exact mb _ (by omega) (by omega) (by omega) (by omega) (by omega)
        · rw [mb _ (by omega) (by omega) (by omega) (by omega) (by omega)]
        · rw [mb _ (by omega) (by omega) (by omega) (by omega) (by omega)]
        · exact key _ (by omega)
    · rw [hb3 _ (by omega), hb3 _ (by omega), ma _ (by omega) (by omega), ha2 _ (by omega), up2_s, hMx, up2_s]
