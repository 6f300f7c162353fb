/-! what holds between two calls: the class's cells and the reference's say the same -/
def okB (b : Nat → Nat) : Prop := (b 0 = 0 ∧ b 1 = 0) ∨ (WF b ∧ b 4 ≤ 999)
def I1 (M : Mem) (b : Nat → Nat) : Prop := isW M 3 b ∧ isS M 0 b ∧ okB b
def I2 (M : Mem) (im : Nat → Nat → Nat) : Prop := ∀ k, k < 2 → (M (267 + 6 * k) 1 = 0 ∧ M 288 k = 0) ∨ (isW M (267 + 6 * k) (im k) ∧ isS M (86 + 43 * k) (im k) ∧ WF (im k) ∧ im k 4 ≤ 999 ∧ M 288 k = 1)
def I3 (M : Mem) (H : Nat → Nat → Nat) (hn nt : Nat) : Prop := hn ≤ 24 ∧ nt < 24 ∧ M 17 1 = nI nt ∧ M 17 2 = nI hn ∧ M 279 1 = nI hn ∧ ∀ i, i < hn → isW M (19 + 6 * ((nt + 24 - hn + i) % 24)) (H i) ∧ isS M (215 + 43 * i) (H i) ∧ WF (H i) ∧ H i 4 ≤ 999
def rowOk (M : Mem) (r : Nat) : Prop := (M (251 + 2 * r) 1 = 0 ∧ M 282 r = -1) ∨ (M (251 + 2 * r) 1 = 1 ∧ ∃ ln sz, ln ≤ 2 ∧ sz ≤ 40 ∧ M (251 + 2 * r) 2 = nI ln ∧ M 283 r = nI ln ∧ M (251 + 2 * r) 3 = nI sz ∧ M 282 r = nI sz ∧ ∀ j, j < 40 → M (251 + 2 * r + 1) j = M 284 (40 * r + j))
def I4 (M : Mem) : Prop := ∀ r, r < 8 → rowOk M r
def I5 (M : Mem) (tl : Nat) : Prop := tl ≤ 100 ∧ M 15 1 = nI tl ∧ M 279 3 = nI tl ∧ ∀ j, j < tl → M 16 j = M 281 j ∧ ∃ v, v < 256 ∧ M 16 j = nI v
def I6 (M : Mem) : Prop := M 0 9 = M 279 4 ∧ M 0 8 = M 279 5
def I7 (M : Mem) (tn : Nat) : Prop := tn ≤ 16 ∧ M 249 2 = nI tn ∧ M 279 17 = nI tn ∧ ∀ j, j < tn → M 250 j = M 289 j
def Inv (M : Mem) : Prop := ∃ (b : Nat → Nat) (im H : Nat → Nat → Nat) (hn nt tl tn : Nat), I1 M b ∧ I2 M im ∧ I3 M H hn nt ∧ I4 M ∧ I5 M tl ∧ I6 M ∧ I7 M tn
theorem I1.k {M M' : Mem} {b : Nat → Nat} (h : I1 M b) (e : ∀ c, 3 ≤ c → c ≤ 8 → M' c = M c) (e2 : ∀ j, j < 43 → M' 280 j = M 280 j) : I1 M' b :=
  ⟨h.1.kept (fun c h1 h2 => e c h1 (by omega)), h.2.1.kept (fun j _ h2 => e2 j (by omega)), h.2.2⟩
theorem I2.k {M M' : Mem} {im : Nat → Nat → Nat} (h : I2 M im) (e : ∀ c, (267 ≤ c ∧ c < 279) ∨ c = 288 → M' c = M c) (e2 : ∀ j, 86 ≤ j → j < 172 → M' 280 j = M 280 j) : I2 M' im := by
  intro k hk
  rcases h k hk with ⟨h1, h2⟩ | ⟨h1, h2, h3, h4, h5⟩
  · exact Or.inl ⟨by rw [e _ (by omega)]; exact h1, by rw [e _ (by omega)]; exact h2⟩
  · exact Or.inr ⟨h1.kept (fun c a1 a2 => e c (by omega)), h2.kept (fun j a1 a2 => e2 j (by omega) (by omega)), h3, h4, by rw [e _ (by omega)]; exact h5⟩
theorem I3.k {M M' : Mem} {H : Nat → Nat → Nat} {hn nt : Nat} (h : I3 M H hn nt) (e : ∀ c, 17 ≤ c ∧ c < 163 → M' c = M c) (e2 : ∀ j, 215 ≤ j → M' 280 j = M 280 j) (e3 : M' 279 1 = M 279 1) : I3 M' H hn nt := by
  obtain ⟨h1, h2, h3, h4, h5, h6⟩ := h
  refine ⟨h1, h2, by rw [e _ (by omega)]; exact h3, by rw [e _ (by omega)]; exact h4, by rw [e3]; exact h5, fun i hi => ?_⟩
  obtain ⟨g1, g2, g3⟩ := h6 i hi
  have hm : (nt + 24 - hn + i) % 24 < 24 := Nat.mod_lt _ (by decide)
  exact ⟨g1.kept (fun c a1 a2 => e c (by omega)), g2.kept (fun j a1 _ => e2 j (by omega)), g3⟩
theorem rowOk.k {M M' : Mem} {r : Nat} (h : rowOk M r) (e1 : M' (251 + 2 * r) = M (251 + 2 * r)) (e2 : M' (251 + 2 * r + 1) = M (251 + 2 * r + 1)) (e3 : M' 282 r = M 282 r) (e4 : M' 283 r = M 283 r) (e5 : ∀ j, j < 40 → M' 284 (40 * r + j) = M 284 (40 * r + j)) : rowOk M' r := by
  unfold rowOk at h ⊢
  rw [e1, e2, e3, e4]
  rcases h with h | ⟨h0, ln, sz, g1, g2, g3, g4, g5, g6, g7⟩
  · exact Or.inl h
  · exact Or.inr ⟨h0, ln, sz, g1, g2, g3, g4, g5, g6, fun j hj => by rw [e5 j hj]; exact g7 j hj⟩
theorem I4.k {M M' : Mem} (h : I4 M) (e : ∀ c, (251 ≤ c ∧ c < 267) ∨ (282 ≤ c ∧ c < 285) → M' c = M c) : I4 M' := fun r hr => (h r hr).k (e _ (by omega)) (e _ (by omega)) (by rw [e _ (by omega)]) (by rw [e _ (by omega)]) (fun j _ => by rw [e _ (by omega)])
theorem I5.k {M M' : Mem} {tl : Nat} (h : I5 M tl) (e : M' 16 = M 16) (e2 : M' 281 = M 281) (e3 : M' 15 1 = M 15 1) (e4 : M' 279 3 = M 279 3) : I5 M' tl := by
  unfold I5 at h ⊢
  rw [e, e2, e3, e4]
  exact h
theorem I6.k {M M' : Mem} (h : I6 M) (e : M' 0 = M 0) (e3 : M' 279 4 = M 279 4) (e4 : M' 279 5 = M 279 5) : I6 M' := by
  unfold I6 at h ⊢
  rw [e, e3, e4]
  exact h
theorem I7.k {M M' : Mem} {tn : Nat} (h : I7 M tn) (e : M' 249 = M 249) (e2 : M' 250 = M 250) (e3 : M' 289 = M 289) (e4 : M' 279 17 = M 279 17) : I7 M' tn := by
  unfold I7 at h ⊢
  rw [e, e2, e3, e4]
  exact h
/-- only what is used for trying has changed -/
def Fr (M M' : Mem) : Prop := (∀ c, c < 9 ∨ (16 ≤ c ∧ c < 164) ∨ (249 ≤ c ∧ c < 279) ∨ (281 ≤ c ∧ c < 285) ∨ c = 288 ∨ c = 289 → M' c = M c) ∧ M' 15 1 = M 15 1 ∧ (∀ j, j < 43 ∨ (86 ≤ j ∧ j < 172) ∨ 215 ≤ j → M' 280 j = M 280 j) ∧ (∀ j, j = 1 ∨ j = 3 ∨ j = 4 ∨ j = 5 ∨ j = 17 → M' 279 j = M 279 j)
theorem Fr.rf (M : Mem) : Fr M M := ⟨fun _ _ => rfl, rfl, fun _ _ => rfl, fun _ _ => rfl⟩
theorem Fr.tr {M M' M'' : Mem} (h : Fr M M') (h' : Fr M' M'') : Fr M M'' := ⟨fun c hc => (h'.1 c hc).trans (h.1 c hc), h'.2.1.trans h.2.1, fun j hj => (h'.2.2.1 j hj).trans (h.2.2.1 j hj), fun j hj => (h'.2.2.2 j hj).trans (h.2.2.2 j hj)⟩
theorem Fr.c6 {M M' : Mem} {r : Nat} (f : fr6 r M M') (hr : (164 ≤ r ∧ r ≤ 243) ∨ r = 9) : Fr M M' := ⟨fun c hc => f c (by omega), by rw [f 15 (by omega)], fun j _ => by rw [f 280 (by omega)], fun j _ => by rw [f 279 (by omega)]⟩
theorem Fr.s {M M' : Mem} {o : Nat} (f : frS o M M') (ho : o = 43 ∨ o = 172) : Fr M M' := ⟨fun c hc => f.1 c (by omega), by rw [f.1 15 (by omega)], fun j hj => f.2 j (by omega), fun j _ => by rw [f.1 279 (by omega)]⟩
theorem Fr.u {M M' : Mem} (h : Fr M M') {c j : Nat} (hc : (9 ≤ c ∧ c ≤ 14) ∨ (164 ≤ c ∧ c < 249) ∨ c = 285 ∨ c = 286 ∨ c = 287 ∨ (c = 15 ∧ j ≠ 1) ∨ (c = 279 ∧ (j = 10 ∨ j = 11 ∨ j = 12)) ∨ (c = 280 ∧ ((43 ≤ j ∧ j < 86) ∨ (172 ≤ j ∧ j < 215)))) (x : Int32) : Fr M (up2 M' c j x) :=
  ⟨fun q hq => (up2_c (by omega)).trans (h.1 q hq), (up2_n (by omega)).trans h.2.1, fun q hq => (up2_n (by omega)).trans (h.2.2.1 q hq), fun q hq => (up2_n (by omega)).trans (h.2.2.2 q hq)⟩
theorem Inv.fr {M M' : Mem} (h : Inv M) (f : Fr M M') : Inv M' := by
  obtain ⟨b, im, H, hn, nt, tl, tn, h1, h2, h3, h4, h5, h6, h7⟩ := h
  exact ⟨b, im, H, hn, nt, tl, tn, h1.k (fun c a1 a2 => f.1 c (by omega)) (fun j a => f.2.2.1 j (by omega)), h2.k (fun c a => f.1 c (by omega)) (fun j a1 a2 => f.2.2.1 j (by omega)), h3.k (fun c a => f.1 c (by omega)) (fun j a => f.2.2.1 j (by omega)) (f.2.2.2 1 (by omega)), h4.k (fun c a => f.1 c (by omega)), h5.k (f.1 16 (by omega)) (f.1 281 (by omega)) f.2.1 (f.2.2.2 3 (by omega)), h6.k (f.1 0 (by omega)) (f.2.2.2 4 (by omega)) (f.2.2.2 5 (by omega)), h7.k (f.1 249 (by omega)) (f.1 250 (by omega)) (f.1 289 (by omega)) (f.2.2.2 17 (by omega))⟩
/-- a call on both: the same answer, and what held holds -/
def Sim (f g : Mem → Option (Int32 × Mem)) : Prop := ∀ M, Inv M → ∃ r M1 M2, f M = some (r, M1) ∧ g M1 = some (r, M2) ∧ Inv M2
theorem okB.lt {b : Nat → Nat} (h : okB b) : b 0 ≤ 6 ∧ b 1 ≤ 12 := by
  rcases h with h | ⟨h, _⟩
  · omega
  · have := h.1; have := h.2.1; omega
theorem okB.wf {b : Nat → Nat} (h : okB b) (h0 : 0 < b 0) : WF b ∧ b 4 ≤ 999 := by
  rcases h with h | h
  · omega
  · exact h
/-- both answer the same, and nothing changes -/
def Two (M : Mem) (A C : Option (Int32 × Mem)) : Prop := ∃ r, A = some (r, M) ∧ C = some (r, M)
theorem Two.rf (M : Mem) (x : Int32) : Two M (some (x, M)) (some (x, M)) := ⟨x, rfl, rfl⟩
theorem Two.ite {M : Mem} {A B C D : Option (Int32 × Mem)} {c : Prop} [Decidable c] (h1 : c → Two M A C) (h2 : ¬ c → Two M B D) : Two M (if c then A else B) (if c then C else D) := by
  by_cases h : c
  · rw [if_pos h, if_pos h]; exact h1 h
  · rw [if_neg h, if_neg h]; exact h2 h
theorem Two.sim {f g : Mem → Option (Int32 × Mem)} {M : Mem} (h : Inv M) (t : Two M (f M) (g M)) : ∃ r M1 M2, f M = some (r, M1) ∧ g M1 = some (r, M2) ∧ Inv M2 := by
  obtain ⟨r, h1, h2⟩ := t
  exact ⟨r, M, M, h1, h2, h⟩
/-! the calls that only tell -/
theorem Sim_fault : Sim f_X6_fault f_X7_fault := by
  intro M h
  obtain ⟨b, im, H, hn, nt, tl, tn, h1, h2, h3, h4, h5, h6, h7⟩ := id h
  exact ⟨_, M, M, rfl, by unfold f_X7_fault; rw [h6.1], h⟩
theorem Sim_status : Sim f_X6_status f_X7_status := by
  intro M h
  obtain ⟨b, im, H, hn, nt, tl, tn, h1, h2, h3, h4, h5, h6, h7⟩ := id h
  exact ⟨_, M, M, rfl, by unfold f_X7_status; rw [h6.2], h⟩
theorem R_rows {M : Mem} (h : I4 M) : ∀ (c n j a : Nat), j + c = 8 → c < n → ∃ x, f_X6_rowsThere_4 n (nI a) (nI j) M = some (x, M) ∧ f_X7_rowsThere_4 n (nI a) (nI j) M = some (x, M) := by
  intro c
  induction c with
  | zero =>
    intro n j a hj hn
    obtain ⟨n, rfl⟩ : ∃ m, n = m + 1 := ⟨n - 1, by omega⟩
    rw [f_X6_rowsThere_4, f_X7_rowsThere_4]
    simp (disch := omega) only [l_8, nle]
    simp only [if_pos (show 8 ≤ j by omega)]
    exact ⟨_, rfl, rfl⟩
  | succ c ih =>
    intro n j a hj hn
    obtain ⟨n, rfl⟩ : ∃ m, n = m + 1 := ⟨n - 1, by omega⟩
    rw [f_X6_rowsThere_4, f_X7_rowsThere_4]
    simp (disch := omega) only [l_8, nle, nI_ck, nI_cl]
    simp only [if_neg (show ¬ 8 ≤ j by omega)]
    unfold f_X6_rowsThere_25 f_X7_rowsThere_25
    simp only [lt_k]
    rw [show nI j + (1 : Int32) = nI (j + 1) from nI_1 j, show nI a + (1 : Int32) = nI (a + 1) from nI_1 a, n_a0]
    rcases h j (by omega) with ⟨g1, g2⟩ | ⟨g1, ln, sz, g2, g3, g4, g5, g6, g7, g8⟩
    · rw [g1, g2, if_pos rfl, if_pos (by decide)]
      exact ih n (j + 1) a (by omega) (by omega)
    · rw [g1, g7, if_neg (by decide), if_neg (by rw [nlt0 (by omega)]; exact fun q => q)]
      exact ih n (j + 1) (a + 1) (by omega) (by omega)
theorem Sim_count (x : Int32) : Sim (f_X6_count x) (f_X7_count x) := by
  intro M h
  obtain ⟨b, im, H, hn, nt, tl, tn, h1, h2, h3, h4, h5, h6, h7⟩ := id h
  have s1 := h1.2.1
  have e0 : M 280 0 = nI (b 0) := s1.f0
  have e1 : M 280 1 = nI (b 1) := by have := s1.f (k := 1) (by decide); rwa [Nat.zero_add] at this
  have e2 : M 280 2 = nI (b 2) := by have := s1.f (k := 2) (by decide); rwa [Nat.zero_add] at this
  have e4 : M 280 4 = nI (b 4) := by have := s1.f (k := 4) (by decide); rwa [Nat.zero_add] at this
  obtain ⟨y, r1, r2⟩ := R_rows h4 8 FU 0 0 (by omega) (by decide)
  have r1' : f_X6_rowsThere M = some (y, M) := r1
  have r2' : f_X7_rowsThere M = some (y, M) := r2
  refine Two.sim h ?_
  unfold f_X6_count f_X7_count
  simp only [lt_k]
  refine Two.ite (fun _ => ?_) (fun _ => Two.ite (fun _ => ?_) (fun _ => Two.ite (fun _ => ?_) (fun _ => Two.ite (fun _ => ?_) (fun _ => Two.ite (fun _ => ?_) (fun _ => Two.ite (fun _ => ?_) (fun _ => Two.ite (fun _ => ?_) (fun _ => Two.ite (fun _ => ?_) (fun _ => Two.rf M _))))))))
  · rw [r1', r2']; exact Two.rf M _
  · rw [h1.1.teeth, e0]; exact Two.rf M _
  · rw [h1.1.cols, e1]; exact Two.rf M _
  · rw [h1.1.tk, e4]; exact Two.rf M _
  · rw [h1.1.spring, e2]; exact Two.rf M _
  · rw [T_pluckedInAll h1.1, S_pluckedAll s1]; exact Two.rf M _
  · rw [h3.2.2.2.1, h3.2.2.2.2.1]; exact Two.rf M _
  · rw [h5.2.1, h5.2.2.1]; exact Two.rf M _
