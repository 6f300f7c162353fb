/-! acts, and what can be undone -/
def CI (M : Mem) (b : Nat → Nat) (H : Nat → Nat → Nat) (hn nt : Nat) : Prop := isW M 3 b ∧ hn ≤ 24 ∧ nt < 24 ∧ M 17 1 = nI nt ∧ M 17 2 = nI hn ∧ ∀ i, i < hn → isW M (19 + 6 * ((nt + 24 - hn + i) % 24)) (H i)
def MI (M : Mem) (b : Nat → Nat) (H : Nat → Nat → Nat) (hn : Nat) : Prop := isS M 0 b ∧ M 279 1 = nI hn ∧ ∀ i, i < hn → isS M (215 + 43 * i) (H i)
def psh (H : Nat → Nat → Nat) (hn : Nat) (b : Nat → Nat) : Nat → Nat → Nat := fun i => if hn < 24 then (if i = hn then b else H i) else (if i = 23 then b else H (i + 1))
def inc (hn : Nat) : Nat := if hn < 24 then hn + 1 else 24
def FC (M M' : Mem) : Prop := ∀ c, c < 3 ∨ (9 ≤ c ∧ c < 17) ∨ 163 ≤ c → M' c = M c
def FM (M M' : Mem) : Prop := (∀ c, c ≠ 279 → c ≠ 280 → M' c = M c) ∧ (∀ j, j ≠ 1 → M' 279 j = M 279 j) ∧ (∀ j, 43 ≤ j → j < 215 → M' 280 j = M 280 j)
def okH (b : Nat → Nat) (H : Nat → Nat → Nat) (hn : Nat) : Prop := okB b ∧ ∀ i, i < hn → WF (H i) ∧ H i 4 ≤ 999
theorem FC.rf (M : Mem) : FC M M := fun _ _ => rfl
theorem FC.tr {M M' M'' : Mem} (h : FC M M') (h' : FC M' M'') : FC M M'' := fun c hc => (h' c hc).trans (h c hc)
theorem FM.rf (M : Mem) : FM M M := ⟨fun _ _ _ => rfl, fun _ _ => rfl, fun _ _ _ => rfl⟩
theorem FM.tr {M M' M'' : Mem} (h : FM M M') (h' : FM M' M'') : FM M M'' := ⟨fun c a b => (h'.1 c a b).trans (h.1 c a b), fun j a => (h'.2.1 j a).trans (h.2.1 j a), fun j a b => (h'.2.2 j a b).trans (h.2.2 j a b)⟩
theorem FM.s0 {M M' : Mem} (f : frS 0 M M') : FM M M' := ⟨fun c _ a => f.1 c a, fun j _ => by rw [f.1 279 (by omega)], fun j a _ => f.2 j (by omega)⟩
theorem FC.w3 {M M' : Mem} (f : fr6 3 M M') : FC M M' := fun c hc => f c (by omega)
theorem CI.now {M M' : Mem} {b b' : Nat → Nat} {H : Nat → Nat → Nat} {hn nt : Nat} (h : CI M b H hn nt) (f : fr6 3 M M') (w : isW M' 3 b') : CI M' b' H hn nt :=
  ⟨w, h.2.1, h.2.2.1, by rw [f 17 (by omega)]; exact h.2.2.2.1, by rw [f 17 (by omega)]; exact h.2.2.2.2.1, fun i hi => (h.2.2.2.2.2 i hi).fr f (by omega)⟩
theorem MI.now {M M' : Mem} {b b' : Nat → Nat} {H : Nat → Nat → Nat} {hn : Nat} (h : MI M b H hn) (f : frS 0 M M') (w : isS M' 0 b') : MI M' b' H hn :=
  ⟨w, by rw [f.1 279 (by omega)]; exact h.2.1, fun i hi => (h.2.2 i hi).fr f (by omega)⟩
theorem isS.set0 {M : Mem} {b : Nat → Nat} (h : isS M 0 b) {k : Nat} (v : Nat) (h2 : 2 ≤ k) : isS (up2 M 280 k (nI v)) 0 (up b k v) := by
  have := h.set (k := k) v h2
  rwa [Nat.zero_add] at this
theorem frS.u0 (M : Mem) {k : Nat} (hk : k ≤ 42) (x : Int32) : frS 0 M (up2 M 280 k x) := (frS.rf 0 M).u (by omega) (by omega) x
theorem C_keep {M : Mem} {b : Nat → Nat} {H : Nat → Nat → Nat} {hn nt : Nat} (h : CI M b H hn nt) : ∃ M', f_X1_keep 3 M = some M' ∧ CI M' b (psh H hn b) (inc hn) (if nt + 1 < 24 then nt + 1 else 0) ∧ FC M M' := by
  obtain ⟨hw, h24, hnt, e1, e2, hk⟩ := h
  obtain ⟨Ma, ea, wa, fa⟩ := T_takeFrom (r := 19 + 6 * nt) hw (by omega)
  have a1 : Ma 17 1 = nI nt := by rw [fa 17 (by omega)]; exact e1
  have a2 : Ma 17 2 = nI hn := by rw [fa 17 (by omega)]; exact e2
  have hnt' : (if nt + 1 < 24 then nt + 1 else 0) = (nt + 1) % 24 := by
    split <;> omega
  rw [hnt']
  refine ⟨up2 (up2 Ma 17 1 (nI ((nt + 1) % 24))) 17 2 (nI (inc hn)), ?_, ⟨?_, ?_, ?_, ?_, ?_, fun i hi => ?_⟩, fun c hc => ?_⟩
  · unfold f_X1_keep
    rw [e1, nI_ck (by omega) (by decide), nI_cl (by omega), ea, cv_k, a1, show nI nt + (1 : Int32) = nI (nt + 1) from nI_1 nt]
    have k35 : ∀ t : Nat, t = (nt + 1) % 24 → f_X1_keep_35 (nI t) Ma = some (up2 (up2 Ma 17 1 (nI ((nt + 1) % 24))) 17 2 (nI (inc hn))) := by
      intro t ht
      subst ht
      unfold f_X1_keep_35
      rw [lt_k, lt_k, up2_n (by omega), a2, show nI hn + (1 : Int32) = nI (hn + 1) from nI_1 hn]
      simp (disch := omega) only [l_24, nlt]
      unfold inc
      by_cases q : hn + 1 < 24
      · rw [if_pos q, if_pos (by omega)]
      · rw [if_neg q]
        by_cases q2 : hn < 24
        · rw [if_pos q2, show hn + 1 = 24 by omega]
        · rw [if_neg q2]
    by_cases q : 24 ≤ nt + 1
    · rw [if_pos (by rw [l_24, nle (by omega) (by omega)]; exact q)]
      exact k35 0 (by omega)
    · rw [if_neg (by rw [l_24, nle (by omega) (by omega)]; exact q)]
      exact k35 (nt + 1) (by omega)
  · exact (hw.fr fa (by omega)).kept (fun c _ _ => by rw [up2_c (by omega), up2_c (by omega)])
  · unfold inc
    split <;> omega
  · omega
  · rw [up2_n (by omega), up2_s]
  · rw [up2_s]
  · have kp : ∀ {r : Nat} {B : Nat → Nat}, 19 ≤ r → isW Ma r B → isW (up2 (up2 Ma 17 1 (nI ((nt + 1) % 24))) 17 2 (nI (inc hn))) r B := fun hr h => h.kept (fun c _ _ => by rw [up2_c (by omega), up2_c (by omega)])
    refine kp (by omega) ?_
    unfold inc at hi ⊢
    unfold psh
    by_cases q : hn < 24
    · rw [if_pos q] at hi ⊢
      rw [if_pos q]
      by_cases qi : i = hn
      · rw [if_pos qi, show ((nt + 1) % 24 + 24 - (hn + 1) + i) % 24 = nt by omega]
        exact wa
      · rw [if_neg qi]
        have := hk i (by omega)
        rw [show ((nt + 1) % 24 + 24 - (hn + 1) + i) % 24 = (nt + 24 - hn + i) % 24 by omega]
        exact this.fr fa (by omega)
    · rw [if_neg q] at hi ⊢
      rw [if_neg q]
      by_cases qi : i = 23
      · rw [if_pos qi, show ((nt + 1) % 24 + 24 - 24 + i) % 24 = nt by omega]
        exact wa
      · rw [if_neg qi]
        have := hk (i + 1) (by omega)
        rw [show ((nt + 1) % 24 + 24 - 24 + i) % 24 = (nt + 24 - hn + (i + 1)) % 24 by omega]
        exact this.fr fa (by omega)
  · rw [up2_c (by omega), up2_c (by omega), fa c (by omega)]
theorem R_shift {M : Mem} : ∀ (c f k : Nat) (Mk : Mem), k + c = 989 → c < f → (∀ j, j < k → Mk 280 (215 + j) = M 280 (258 + j)) → (∀ j, j < 215 ∨ 215 + k ≤ j → Mk 280 j = M 280 j) → (∀ c, c ≠ 280 → Mk c = M c) → ∃ M', f_X7_minds_11 f (nI k) Mk = f_X7_minds_57 (up2 M' 279 1 (M 279 1 - (1 : Int32))) ∧ (∀ j, j < 989 → M' 280 (215 + j) = M 280 (258 + j)) ∧ (∀ j, j < 215 ∨ 1204 ≤ j → M' 280 j = M 280 j) ∧ (∀ c, c ≠ 280 → M' c = M c) := by
  intro c
  induction c with
  | zero =>
    intro f k Mk hk hf h1 h2 h3
    obtain ⟨f, rfl⟩ : ∃ m, f = m + 1 := ⟨f - 1, by omega⟩
    refine ⟨Mk, ?_, fun j h => h1 j (by omega), fun j h => h2 j (by omega), h3⟩
    rw [f_X7_minds_11]
    simp (disch := omega) only [l_989, nle]
    rw [if_pos (by omega), lt_k, h3 279 (by omega)]
  | succ c ih =>
    intro f k Mk hk hf h1 h2 h3
    obtain ⟨f, rfl⟩ : ∃ m, f = m + 1 := ⟨f - 1, by omega⟩
    obtain ⟨M', e, r⟩ := ih f (k + 1) (up2 Mk 280 (215 + k) (Mk 280 (215 + k + 43))) (by omega) (by omega) (fun j hj => by
        by_cases q : j = k
        · subst q
          rw [up2_s, h2 _ (by omega), show 215 + j + 43 = 258 + j by omega]
        · rw [up2_n (by omega)]
          exact h1 j (by omega)) (fun j hj => by rw [up2_n (by omega)]; exact h2 j (by omega)) (fun c hc => by rw [up2_c hc]; exact h3 c hc)
    refine ⟨M', ?_, r⟩
    rw [f_X7_minds_11]
    simp (disch := omega) only [l_989, l_215, l_43, nI_add, nle, nI_ck, nI_cl]
    rw [if_neg (by omega), lt_k, show nI k + (1 : Int32) = nI (k + 1) from nI_1 k, e]
theorem S_copy0 {M : Mem} {d : Nat} {b : Nat → Nat} (hd : d ≤ 1204) (hx : 42 < d) (h : isS M 0 b) : sV' d M b (f_X7_copyOf (0 : Int32) (nI d) M) := S_copyOf (a := 0) (by omega) hd (by omega) h
theorem S_copyTo {M : Mem} {a : Nat} {b : Nat → Nat} (ha : a ≤ 1204) (hx : 42 < a) (h : isS M a b) : sV' 0 M b (f_X7_copyOf (nI a) (0 : Int32) M) := S_copyOf (d := 0) ha (by omega) (by omega) h
theorem G_57 {M : Mem} {b : Nat → Nat} {H : Nat → Nat → Nat} {hn : Nat} (hh : hn < 24) (h : MI M b H hn) : ∃ M', f_X7_minds_57 M = some M' ∧ MI M' b (fun i => if i = hn then b else H i) (hn + 1) ∧ FM M M' := by
  obtain ⟨s, e, hk⟩ := h
  obtain ⟨Ma, ea, sa, fa⟩ := S_copy0 (d := 215 + 43 * hn) (by omega) (by omega) s
  refine ⟨up2 Ma 279 1 (nI (hn + 1)), ?_, ⟨?_, ?_, fun i hi => ?_⟩, ?_, ?_, ?_⟩
  · unfold f_X7_minds_57
    rw [e, l_215, l_43, mul_n, nI_add, ea, cv_k, lt_k, fa.1 279 (by omega), e, show nI hn + (1 : Int32) = nI (hn + 1) from nI_1 hn]
  · exact (s.fr fa (by omega)).kept (fun j _ _ => by rw [up2_c (by omega)])
  · rw [up2_s]
  · have kp : ∀ {o : Nat} {B : Nat → Nat}, isS Ma o B → isS (up2 Ma 279 1 (nI (hn + 1))) o B := fun h => h.kept (fun j _ _ => by rw [up2_c (by omega)])
    refine kp ?_
    by_cases q : i = hn
    · subst q
      simp only [if_true]
      exact sa
    · simp only [if_neg q]
      exact (hk i (by omega)).fr fa (by omega)
  · intro c c1 c2
    rw [up2_c c1, fa.1 c c2]
  · intro j hj
    rw [up2_n (by omega), fa.1 279 (by omega)]
  · intro j j1 j2
    rw [up2_c (by omega), fa.2 j (by omega)]
theorem G_minds {M : Mem} {b : Nat → Nat} {H : Nat → Nat → Nat} {hn : Nat} (h24 : hn ≤ 24) (h : MI M b H hn) : ∃ M', f_X7_minds M = some M' ∧ MI M' b (psh H hn b) (inc hn) ∧ FM M M' := by
  by_cases q : hn < 24
  · obtain ⟨M', e, m, f⟩ := G_57 q h
    refine ⟨M', ?_, ?_, f⟩
    · unfold f_X7_minds
      rw [if_neg (by rw [h.2.1, l_24, neq (by omega) (by omega)]; omega), e]
    · unfold psh inc
      simp only [if_pos q]
      exact m
  · have q24 : hn = 24 := by omega
    subst q24
    obtain ⟨Ma, ea, a1, a2, a3⟩ := R_shift (M := M) 989 FU 0 M (by omega) (by decide) (fun j h => by omega) (fun j _ => rfl) (fun c _ => rfl)
    rw [h.2.1, show nI 24 - (1 : Int32) = nI 23 from nsub (a := 24) (b := 1) (by decide)] at ea
    have mi : MI (up2 Ma 279 1 (nI 23)) b (fun i => H (i + 1)) 23 := by
      refine ⟨h.1.kept (fun j _ hj => by rw [up2_c (by omega), a2 j (by omega)]), up2_s _ _ _ _, fun i hi => ?_⟩
      have hs := h.2.2 (i + 1) (by omega)
      refine ⟨hs.1, hs.2.1, fun k hk => ?_⟩
      have hk42 : k ≤ 42 := by
        rcases hk with hk | hk
        · have := rel_lt hs.1 hs.2.1 hk; omega
        · omega
      rw [up2_c (by omega), show 215 + 43 * i + k = 215 + (43 * i + k) by omega, a1 _ (by omega), ← hs.2.2 k hk, show 258 + (43 * i + k) = 215 + 43 * (i + 1) + k by omega]
    obtain ⟨M', e, m, f⟩ := G_57 (by decide) mi
    refine ⟨M', ?_, ?_, ?_⟩
    · unfold f_X7_minds
      rw [if_pos (by rw [h.2.1]; rfl), ← e, ← ea]
      rfl
    · unfold psh inc
      simp only [if_neg q]
      exact m
    · refine FM.tr (M' := up2 Ma 279 1 (nI 23)) ⟨fun c c1 c2 => ?_, fun j hj => ?_, fun j j1 j2 => ?_⟩ f
      · rw [up2_c c1, a3 c c2]
      · rw [up2_n (by omega), a3 279 (by omega)]
      · rw [up2_c (by omega), a2 j (by omega)]
theorem okH.push {b b' : Nat → Nat} {H : Nat → Nat → Nat} {hn : Nat} (h : okH b H hn) (w : WF b ∧ b 4 ≤ 999) (w' : WF b' ∧ b' 4 ≤ 999) : okH b' (psh H hn b) (inc hn) := by
  refine ⟨Or.inr w', fun i hi => ?_⟩
  unfold psh
  unfold inc at hi
  by_cases q : hn < 24
  · rw [if_pos q] at hi
    simp only [if_pos q]
    by_cases qi : i = hn
    · simp only [if_pos qi]; exact w
    · simp only [if_neg qi]; exact h.2 i (by omega)
  · rw [if_neg q] at hi
    simp only [if_neg q]
    by_cases qi : i = 23
    · simp only [if_pos qi]; exact w
    · simp only [if_neg qi]
      exact h.2 (i + 1) (by omega)
def RA (F G : Mem → Option (Int32 × Mem)) (b : Nat → Nat) (H : Nat → Nat → Nat) (hn : Nat) (MC : Mem) : Prop := ∃ r MC' b' H' hn' nt', F MC = some (r, MC') ∧ CI MC' b' H' hn' nt' ∧ FC MC MC' ∧ okH b' H' hn' ∧ ∀ MM, MI MM b H hn → ∃ MM', G MM = some (r, MM') ∧ MI MM' b' H' hn' ∧ FM MM MM'
theorem RA.step {F G F' G' : Mem → Option (Int32 × Mem)} {b b2 : Nat → Nat} {H H2 : Nat → Nat → Nat} {hn hn2 : Nat} {MC MC2 : Mem} (h : RA F' G' b2 H2 hn2 MC2) (h1 : F MC = F' MC2) (f1 : FC MC MC2) (h2 : ∀ MM, MI MM b H hn → ∃ MM2, G MM = G' MM2 ∧ FM MM MM2 ∧ MI MM2 b2 H2 hn2) : RA F G b H hn MC := by
  obtain ⟨r, MC', b', H', hn', nt', e, c, f, k, g⟩ := h
  refine ⟨r, MC', b', H', hn', nt', h1.trans e, c, f1.tr f, k, fun MM hp => ?_⟩
  obtain ⟨MM2, e2, f2, p2⟩ := h2 MM hp
  obtain ⟨MM', e3, m3, f3⟩ := g MM2 p2
  exact ⟨MM', e2.trans e3, m3, f2.tr f3⟩
theorem RA.ret {F G : Mem → Option (Int32 × Mem)} {b : Nat → Nat} {H : Nat → Nat → Nat} {hn nt : Nat} {MC : Mem} (x : Int32) (c : CI MC b H hn nt) (k : okH b H hn) (h1 : F MC = some (x, MC)) (h2 : ∀ MM, MI MM b H hn → G MM = some (x, MM)) : RA F G b H hn MC := ⟨x, MC, b, H, hn, nt, h1, c, FC.rf _, k, fun MM hp => ⟨MM, h2 MM hp, hp, FM.rf _⟩⟩
theorem MI.fc {M M' : Mem} {b : Nat → Nat} {H : Nat → Nat → Nat} {hn : Nat} (h : MI M b H hn) (f : FC M M') : MI M' b H hn := ⟨h.1.kept (fun j _ _ => by rw [f 280 (by omega)]), by rw [f 279 (by omega)]; exact h.2.1, fun i hi => (h.2.2 i hi).kept (fun j _ _ => by rw [f 280 (by omega)])⟩
theorem CI.fm {M M' : Mem} {b : Nat → Nat} {H : Nat → Nat → Nat} {hn nt : Nat} (h : CI M b H hn nt) (f : FM M M') : CI M' b H hn nt := by
  refine ⟨h.1.kept (fun c _ _ => f.1 c (by omega) (by omega)), h.2.1, h.2.2.1, by rw [f.1 17 (by omega) (by omega)]; exact h.2.2.2.1, by rw [f.1 17 (by omega) (by omega)]; exact h.2.2.2.2.1, fun i hi => ?_⟩
  exact (h.2.2.2.2.2 i hi).kept (fun c _ _ => f.1 c (by omega) (by omega))
theorem Inv.act2 {M M1 M2 : Mem} {b' : Nat → Nat} {im H' : Nat → Nat → Nat} {hn' nt' tl tn : Nat} (h2 : I2 M im) (h4 : I4 M) (h5 : I5 M tl) (h6 : I6 M) (h7 : I7 M tn) (c : CI M1 b' H' hn' nt') (f : FC M M1) (m2 : MI M2 b' H' hn') (f2 : FM M1 M2) (k : okH b' H' hn') : Inv M2 := by
  have c2 := c.fm f2
  have E : ∀ c, c < 3 ∨ (9 ≤ c ∧ c < 17) ∨ (163 ≤ c ∧ c ≠ 279 ∧ c ≠ 280) → M2 c = M c := fun c hc => by rw [f2.1 c (by omega) (by omega), f c (by omega)]
  have E9 : ∀ j, j ≠ 1 → M2 279 j = M 279 j := fun j hj => by rw [f2.2.1 j hj, f 279 (by omega)]
  exact ⟨b', im, H', hn', nt', tl, tn, ⟨c2.1, m2.1, k.1⟩, h2.k (fun c hc => E c (by omega)) (fun j j1 j2 => by rw [f2.2.2 j (by omega) (by omega), f 280 (by omega)]), ⟨c2.2.1, c2.2.2.1, c2.2.2.2.1, c2.2.2.2.2.1, m2.2.1, fun i hi => ⟨c2.2.2.2.2.2 i hi, m2.2.2 i hi, k.2 i hi⟩⟩, h4.k (fun c hc => E c (by omega)), h5.k (E 16 (by omega)) (E 281 (by omega)) (by rw [E 15 (by omega)]) (E9 3 (by omega)), h6.k (E 0 (by omega)) (E9 4 (by omega)) (E9 5 (by omega)), h7.k (E 249 (by omega)) (E 250 (by omega)) (E 289 (by omega)) (E9 17 (by omega))⟩
theorem RA.go {F G : Mem → Option (Int32 × Mem)} {M : Mem} {b : Nat → Nat} {im H : Nat → Nat → Nat} {hn tl tn : Nat} (s : MI M b H hn) (h2 : I2 M im) (h4 : I4 M) (h5 : I5 M tl) (h6 : I6 M) (h7 : I7 M tn) (R : RA F G b H hn M) : ∃ r M1 M2, F M = some (r, M1) ∧ G M1 = some (r, M2) ∧ Inv M2 := by
  obtain ⟨r, M1, b', H', hn', nt', e, c, f, k, g⟩ := R
  obtain ⟨M2, e2, m2, f2⟩ := g M1 (s.fc f)
  exact ⟨r, M1, M2, e, e2, Inv.act2 h2 h4 h5 h6 h7 c f m2 f2 k⟩
theorem I3.ci {M : Mem} {b : Nat → Nat} {H : Nat → Nat → Nat} {hn nt : Nat} (h1 : I1 M b) (h : I3 M H hn nt) : CI M b H hn nt ∧ MI M b H hn ∧ okH b H hn :=
  ⟨⟨h1.1, h.1, h.2.1, h.2.2.1, h.2.2.2.1, fun i hi => (h.2.2.2.2.2 i hi).1⟩, ⟨h1.2.1, h.2.2.2.2.1, fun i hi => (h.2.2.2.2.2 i hi).2.1⟩, ⟨h1.2.2, fun i hi => (h.2.2.2.2.2 i hi).2.2⟩⟩
/-- an act: the box is kept, then changed -/
theorem RA.act {F G : Mem → Option (Int32 × Mem)} {M : Mem} {b b' : Nat → Nat} {H : Nat → Nat → Nat} {hn nt : Nat} {x : Int32} (c : CI M b H hn nt) (k : okH b H hn) (w : WF b ∧ b 4 ≤ 999) (w' : WF b' ∧ b' 4 ≤ 999) (hF : ∀ Ma, f_X1_keep 3 M = some Ma → isW Ma 3 b → ∃ Mb, F M = some (x, Mb) ∧ isW Mb 3 b' ∧ fr6 3 Ma Mb) (hG : ∀ MM Mc, isS MM 0 b → f_X7_minds MM = some Mc → isS Mc 0 b → ∃ Md, G MM = some (x, Md) ∧ isS Md 0 b' ∧ frS 0 Mc Md) : RA F G b H hn M := by
  obtain ⟨Ma, ea, ca, fa⟩ := C_keep c
  obtain ⟨Mb, eb, wb, fb⟩ := hF Ma ea ca.1
  refine ⟨x, Mb, b', psh H hn b, inc hn, _, eb, ca.now fb wb, fa.tr (FC.w3 fb), k.push w w', fun MM m => ?_⟩
  obtain ⟨Mc, ec, mc, fc⟩ := G_minds c.2.1 m
  obtain ⟨Md, ed, sd, fd⟩ := hG MM Mc m.1 ec mc.1
  exact ⟨Md, ed, mc.now fd sd, fc.tr (FM.s0 fd)⟩
theorem Sim_wind (x : Int32) : Sim (f_X6_wind x) (f_X7_wind x) := by
  intro M h
  obtain ⟨b, im, H, hn, nt, tl, tn, h1, h2, h3, h4, h5, h6, h7⟩ := id h
  have hl := h1.2.2.lt
  rcases box_cases (n := b 0) (by omega) with ⟨q0, ga0, gb0⟩ | ⟨q0, ga0, gb0⟩
  · exact ⟨_, M, M, by unfold f_X6_wind; rw [ga0 M h1.1.teeth, cb_k, if_pos rfl], by unfold f_X7_wind; rw [gb0 M h1.2.1.f0, cb_k, if_pos rfl], h⟩
  rcases W_cases x (lo := 1) (hi := 99) (a := (1 : Int32)) (b := (99 : Int32)) (a' := (1 : Int64)) (b' := (99 : Int64)) rfl rfl (by decide) (by decide) (by decide) (by decide) with ⟨ga1, gb1⟩ | ⟨n, ln, hn, rfl, ga1, gb1⟩
  · exact ⟨_, M, M, by unfold f_X6_wind; rw [ga0 M h1.1.teeth, cb_k, if_neg (by decide), ga1 M, cb_k, if_pos rfl], by unfold f_X7_wind; rw [gb0 M h1.2.1.f0, cb_k, if_neg (by decide), gb1 M, cb_k, if_pos rfl], h⟩
  obtain ⟨w, w9⟩ := h1.2.2.wf (by omega)
  obtain ⟨c, m, k⟩ := h3.ci h1
  have h99 := w.2.2.1
  have w' : WF (up b 2 (if b 2 + n ≤ 99 then b 2 + n else 99)) := WF_up w (by decide) (by decide) (by split <;> omega)
  refine RA.go m h2 h4 h5 h6 h7 (RA.act (b' := up b 2 (if b 2 + n ≤ 99 then b 2 + n else 99)) (x := nI (if b 2 + n ≤ 99 then b 2 + n else 99)) c k ⟨w, w9⟩ ⟨w', by rw [up_n (by decide)]; exact w9⟩ (fun Ma ea wa => ?_) (fun MM Mc s ec sc => ?_))
  · obtain ⟨Mb, eb, wb, fb⟩ := T_windBy (n := n) wa h99 (by omega)
    refine ⟨Mb, ?_, wb, fb⟩
    unfold f_X6_wind
    rw [ga0 M h1.1.teeth, cb_k, if_neg (by decide), ga1 M, cb_k, if_neg (by decide), ea, cv_k, eb, cv_k, wb.spring, up_s]
  · refine ⟨_, ?_, isS.set0 sc (k := 2) _ (by decide), frS.u0 _ (by decide) _⟩
    unfold f_X7_wind f_X7_wind_60
    rw [gb0 MM s.f0, cb_k, if_neg (by decide), gb1 MM, cb_k, if_neg (by decide), ec, cv_k, sc.z (k := 2) (by decide)]
    simp (disch := omega) only [nI_add, l_99, nle, l_2, nI_ck, nI_cl, lt_k, up2_s]
    by_cases q : b 2 + n ≤ 99
    · simp only [if_pos q]
    · simp only [if_neg q]
theorem Sim_pin (x y : Int32) : Sim (f_X6_pin x y) (f_X7_pin x y) := by
  intro M h
  obtain ⟨b, im, H, hn, nt, tl, tn, h1, h2, h3, h4, h5, h6, h7⟩ := id h
  have hl := h1.2.2.lt
  rcases column_cases x (n := b 1) (by omega) with ⟨ga0, gb0⟩ | ⟨j, hj, rfl, ga0, gb0⟩
  · exact ⟨_, M, M, by unfold f_X6_pin; rw [ga0 M h1.1.cols, cb_k, if_pos rfl], by unfold f_X7_pin; rw [gb0 M (h1.2.1.z (k := 1) (by decide)), cb_k, if_pos rfl], h⟩
  rcases tooth_cases y (n := b 0) (by omega) with ⟨ga1, gb1⟩ | ⟨t, ht, rfl, ga1, gb1⟩
  · exact ⟨_, M, M, by unfold f_X6_pin; rw [ga0 M h1.1.cols, cb_k, if_neg (by decide), ga1 M h1.1.teeth, cb_k, if_pos rfl], by unfold f_X7_pin; rw [gb0 M (h1.2.1.z (k := 1) (by decide)), cb_k, if_neg (by decide), gb1 M h1.2.1.f0, cb_k, if_pos rfl], h⟩
  obtain ⟨w, w9⟩ := h1.2.2.wf (by omega)
  obtain ⟨c, m, k⟩ := h3.ci h1
  have hp := w.2.2.2.2.2.2 j hj
  have w' : WF (up b (30 + j) (b (30 + j) ^^^ 2 ^ t)) := WF_up w (by omega) (by omega) (by have := xor_lt _ hp t (by omega); omega)
  refine RA.go m h2 h4 h5 h6 h7 (RA.act (b' := up b (30 + j) (b (30 + j) ^^^ 2 ^ t)) (x := nI (b (30 + j) ^^^ 2 ^ t)) c k ⟨w, w9⟩ ⟨w', by rw [up_n (by omega)]; exact w9⟩ (fun Ma ea wa => ?_) (fun MM Mc s ec sc => ?_))
  · obtain ⟨Mb, eb, wb, fb⟩ := T_togglePin (c := j) (t := t) wa hj (by omega)
    refine ⟨Mb, ?_, wb, fb⟩
    unfold f_X6_pin
    rw [ga0 M h1.1.cols, cb_k, if_neg (by decide), ga1 M h1.1.teeth, cb_k, if_neg (by decide), ea, cv_k, eb, cv_k, nI_ck (by omega) (by decide), nI_cl (by omega), wb.pins (by rw [up_n (by omega)]; exact hj), up_s]
  · refine ⟨_, ?_, isS.set0 sc (k := 30 + j) _ (by omega), frS.u0 _ (by omega) _⟩
    unfold f_X7_pin
    rw [gb0 MM (s.z (k := 1) (by decide)), cb_k, if_neg (by decide), gb1 MM s.f0, cb_k, if_neg (by decide), ec, cv_k]
    simp (disch := omega) only [nI_add, l_30, nI_ck, nI_cl, lt_k, up2_s]
    rw [sc.zJ (k := 30 + j) (by unfold rel; omega), nshl1 t (by omega), nxor]
theorem Sim_drum (x : Int32) : Sim (f_X6_drum x) (f_X7_drum x) := by
  intro M h
  obtain ⟨b, im, H, hn, nt, tl, tn, h1, h2, h3, h4, h5, h6, h7⟩ := id h
  have hl := h1.2.2.lt
  rcases column_cases x (n := b 1) (by omega) with ⟨ga0, gb0⟩ | ⟨j, hj, rfl, ga0, gb0⟩
  · exact ⟨_, M, M, by unfold f_X6_drum; rw [ga0 M h1.1.cols, cb_k, if_pos rfl], by unfold f_X7_drum; rw [gb0 M (h1.2.1.z (k := 1) (by decide)), cb_k, if_pos rfl], h⟩
  have hb0 : 0 < b 0 := by
    rcases h1.2.2 with q | q
    · omega
    · have := q.1.1; omega
  obtain ⟨w, w9⟩ := h1.2.2.wf hb0
  obtain ⟨c, m, k⟩ := h3.ci h1
  have h3' := w.2.2.2.1
  by_cases q : j = b 3
  · refine ⟨(-1000002 : Int32), M, M, ?_, ?_, h⟩
    · unfold f_X6_drum
      rw [ga0 M h1.1.cols, cb_k, if_neg (by decide), lt_k, h1.1.drum, if_pos (by rw [q])]
    · unfold f_X7_drum
      rw [gb0 M (h1.2.1.z (k := 1) (by decide)), cb_k, if_neg (by decide), lt_k, h1.2.1.z (k := 3) (by decide), if_pos (by rw [q])]
  have w' : WF (up b 3 j) := WF_up w (by omega) (by omega) (by omega)
  refine RA.go m h2 h4 h5 h6 h7 (RA.act (b' := up b 3 j) (x := nI (b 3)) c k ⟨w, w9⟩ ⟨w', by rw [up_n (by omega)]; exact w9⟩ (fun Ma ea wa => ?_) (fun MM Mc s ec sc => ?_))
  · refine ⟨_, ?_, wa.setF (k := 3) j (by decide) (by decide), (fr6.rf 3 Ma).u0 3 (nI j)⟩
    unfold f_X6_drum
    rw [ga0 M h1.1.cols, cb_k, if_neg (by decide), lt_k, h1.1.drum, if_neg (by rw [neq (by omega) (by omega)]; exact q), ea, cv_k, lt_k]
  · refine ⟨_, ?_, isS.set0 sc (k := 3) j (by omega), frS.u0 _ (by omega) _⟩
    unfold f_X7_drum
    rw [gb0 MM (s.z (k := 1) (by decide)), cb_k, if_neg (by decide), lt_k, s.z (k := 3) (by decide), if_neg (by rw [neq (by omega) (by omega)]; omega), ec, cv_k, lt_k]
theorem Sim_mend (x : Int32) : Sim (f_X6_mend x) (f_X7_mend x) := by
  intro M h
  obtain ⟨b, im, H, hn, nt, tl, tn, h1, h2, h3, h4, h5, h6, h7⟩ := id h
  have hl := h1.2.2.lt
  rcases tooth_cases x (n := b 0) (by omega) with ⟨ga0, gb0⟩ | ⟨t, ht, rfl, ga0, gb0⟩
  · exact ⟨_, M, M, by unfold f_X6_mend; rw [ga0 M h1.1.teeth, cb_k, if_pos rfl], by unfold f_X7_mend; rw [gb0 M h1.2.1.f0, cb_k, if_pos rfl], h⟩
  obtain ⟨w, w9⟩ := h1.2.2.wf (by omega)
  obtain ⟨c, m, k⟩ := h3.ci h1
  have h5' := w.2.2.2.2.1
  have hbt := bit_lt (b 5) t
  by_cases q : bit (b 5) t = 0
  · refine ⟨(-1000002 : Int32), M, M, ?_, ?_, h⟩
    · unfold f_X6_mend
      rw [ga0 M h1.1.teeth, cb_k, if_neg (by decide), T_isBroken h1.1 h5' (by omega), cb_k, q, if_pos z0]
    · unfold f_X7_mend
      rw [gb0 M h1.2.1.f0, cb_k, if_neg (by decide), h1.2.1.z (k := 5) (by decide), S_has (by omega) (by omega), cb_k, q, if_pos z0]
  have q1 : bit (b 5) t = 1 := by omega
  have w' : WF (mend b t) := by
    unfold mend
    have := andn_lt _ h5' (2 ^ t) (pow_lt t (by omega))
    refine WF_up (WF_up (WF_up w (by omega) (by omega) (by omega)) (by omega) (by omega) (by omega)) (by omega) (by omega) (by omega)
  have w9' : mend b t 4 ≤ 999 := by
    unfold mend
    rw [up_n (by omega), up_n (by omega), up_n (by omega)]
    exact w9
  refine RA.go m h2 h4 h5 h6 h7 (RA.act (b' := mend b t) (x := nI (b (24 + t))) c k ⟨w, w9⟩ ⟨w', w9'⟩ (fun Ma ea wa => ?_) (fun MM Mc s ec sc => ?_))
  · obtain ⟨Mb, eb, wb, fb⟩ := T_makeWhole (t := t) wa h5' (by omega)
    refine ⟨Mb, ?_, wb, fb⟩
    unfold f_X6_mend
    rw [ga0 M h1.1.teeth, cb_k, if_neg (by decide), T_isBroken h1.1 h5' (by omega), cb_k, q1, if_neg (by decide), nI_ck (by omega) (by decide), nI_cl (by omega), lt_k, h1.1.plucked ht, ea, cv_k, eb, cv_k]
  · obtain ⟨Mb, eb, wb, fb⟩ := S_mends (o := 0) (t := t) (by omega) sc h5' (by omega)
    refine ⟨Mb, ?_, wb, fb⟩
    unfold f_X7_mend
    rw [gb0 MM s.f0, cb_k, if_neg (by decide), s.z (k := 5) (by decide), S_has (by omega) (by omega), cb_k, q1, if_neg (by decide), ec, cv_k]
    simp (disch := omega) only [nI_add, l_24, nI_ck, nI_cl, lt_k]
    rw [sc.zJ (k := 24 + t) (by unfold rel; omega), ← z0, eb, cv_k]
theorem Q_ticks {b : Nat → Nat} {n : Nat} (hn24 : n ≤ 24) (w : WF b) (w9 : b 4 + n ≤ 999) : ∀ (c f k : Nat) (H : Nat → Nat → Nat) (hn nt : Nat) (MC : Mem), k + c = n → c < f → CI MC (ticks b k) H hn nt → okH (ticks b k) H hn → RA (f_X6_ticks_43 (nI n) f (nI k)) (f_X7_ticks_44 (nI n) f (nI k)) (ticks b k) H hn MC := by
  have tk : ∀ k, ticks b k 4 = b 4 + k := by
    intro k
    induction k with
    | zero => rfl
    | succ k ih =>
      show tick (ticks b k) 4 = _
      rw [tick_tk (WF_ticks w k).1.2, ih]
      omega
  intro c
  induction c with
  | zero =>
    intro f k H hn nt MC hk hf hc ho
    obtain ⟨f, rfl⟩ : ∃ m, f = m + 1 := ⟨f - 1, by omega⟩
    refine RA.ret (nI (loud (ticks b k))) hc ho ?_ (fun MM m => ?_)
    · rw [f_X6_ticks_43]
      simp (disch := omega) only [nle]
      rw [if_pos (by omega), T_loud hc.1, cb_k]
    · rw [f_X7_ticks_44]
      simp (disch := omega) only [nle]
      rw [if_pos (by omega), S_loud0 m.1, cb_k]
  | succ c ih =>
    intro f k H hn nt MC hk hf hc ho
    obtain ⟨f, rfl⟩ : ∃ m, f = m + 1 := ⟨f - 1, by omega⟩
    have wk := WF_ticks w k
    obtain ⟨Ma, ea, ca, fa⟩ := C_keep hc
    obtain ⟨Mb, eb, wb, fb⟩ := T_turn ca.1 wk
    have t1 := tk k
    have t2 := tk (k + 1)
    refine (ih f (k + 1) _ _ _ Mb (by omega) (by omega) (ca.now fb wb) (ho.push ⟨wk, by omega⟩ ⟨WF_ticks w (k + 1), by omega⟩)).step ?_ (fa.tr (FC.w3 fb)) (fun MM m => ?_)
    · rw [f_X6_ticks_43]
      simp (disch := omega) only [nle]
      rw [if_neg (by omega), ea, cv_k, eb, cb_k, show nI k + (1 : Int32) = nI (k + 1) from nI_1 k]
    · obtain ⟨Mc, ec, mc, fc⟩ := G_minds hc.2.1 m
      obtain ⟨Md, ed, sd, fd⟩ := S_passes (o := 0) (by omega) mc.1 wk
      refine ⟨Md, ?_, fc.tr (FM.s0 fd), mc.now fd sd⟩
      rw [f_X7_ticks_44]
      simp (disch := omega) only [nle]
      rw [if_neg (by omega), ec, cv_k, ← z0, ed, cv_k, show nI k + (1 : Int32) = nI (k + 1) from nI_1 k]
theorem Sim_ticks (x : Int32) : Sim (f_X6_ticks x) (f_X7_ticks x) := by
  intro M h
  obtain ⟨b, im, H, hn, nt, tl, tn, h1, h2, h3, h4, h5, h6, h7⟩ := id h
  have hl := h1.2.2.lt
  rcases box_cases (n := b 0) (by omega) with ⟨q0, ga0, gb0⟩ | ⟨q0, ga0, gb0⟩
  · exact ⟨_, M, M, by unfold f_X6_ticks; rw [ga0 M h1.1.teeth, cb_k, if_pos rfl], by unfold f_X7_ticks; rw [gb0 M h1.2.1.f0, cb_k, if_pos rfl], h⟩
  rcases W_cases x (lo := 1) (hi := 24) (a := (1 : Int32)) (b := (24 : Int32)) (a' := (1 : Int64)) (b' := (24 : Int64)) rfl rfl (by decide) (by decide) (by decide) (by decide) with ⟨ga1, gb1⟩ | ⟨y, ly, hy, rfl, ga1, gb1⟩
  · exact ⟨_, M, M, by unfold f_X6_ticks; rw [ga0 M h1.1.teeth, cb_k, if_neg (by decide), ga1 M, cb_k, if_pos rfl], by unfold f_X7_ticks; rw [gb0 M h1.2.1.f0, cb_k, if_neg (by decide), gb1 M, cb_k, if_pos rfl], h⟩
  obtain ⟨w, w9⟩ := h1.2.2.wf (by omega)
  obtain ⟨c, m, k⟩ := h3.ci h1
  by_cases q : b 4 + y ≤ 999
  · refine RA.go m h2 h4 h5 h6 h7 ((Q_ticks (n := y) (by omega) w q y FU 0 H hn nt M (by omega) (by show y < 5000; omega) c k).step ?_ (FC.rf _) (fun MM m' => ⟨MM, ?_, FM.rf _, m'⟩))
    · unfold f_X6_ticks
      rw [ga0 M h1.1.teeth, cb_k, if_neg (by decide), ga1 M, cb_k, if_neg (by decide), h1.1.tk, nI_add, if_pos (by rw [l_999, nle (by omega) (by omega)]; exact q)]
      rfl
    · have s := m'.1
      unfold f_X7_ticks
      rw [gb0 MM s.f0, cb_k, if_neg (by decide), gb1 MM, cb_k, if_neg (by decide), s.z (k := 4) (by decide), nI_add, if_pos (by rw [l_999, nle (by omega) (by omega)]; exact q)]
      rfl
  · refine ⟨(-1000003 : Int32), M, M, ?_, ?_, h⟩
    · unfold f_X6_ticks
      rw [ga0 M h1.1.teeth, cb_k, if_neg (by decide), ga1 M, cb_k, if_neg (by decide), h1.1.tk, nI_add, if_neg (by rw [l_999, nle (by omega) (by omega)]; exact q)]
    · unfold f_X7_ticks
      rw [gb0 M h1.2.1.f0, cb_k, if_neg (by decide), gb1 M, cb_k, if_neg (by decide), h1.2.1.z (k := 4) (by decide), nI_add, if_neg (by rw [l_999, nle (by omega) (by omega)]; exact q)]
theorem Sim_undo : Sim f_X6_undo f_X7_undo := by
  intro M h
  obtain ⟨b, im, H, hn, nt, tl, tn, h1, h2, h3, h4, h5, h6, h7⟩ := id h
  obtain ⟨c, m, k⟩ := h3.ci h1
  have h24 := c.2.1
  have hnt := c.2.2.1
  by_cases q : hn = 0
  · refine ⟨(-1000002 : Int32), M, M, ?_, ?_, h⟩
    · unfold f_X6_undo
      rw [c.2.2.2.2.1, if_pos (by rw [q]; rfl)]
    · unfold f_X7_undo
      rw [m.2.1, if_pos (by rw [q]; rfl)]
  have nt' : ∃ t, t < 24 ∧ t = (nt + 23) % 24 := ⟨_, Nat.mod_lt _ (by decide), rfl⟩
  obtain ⟨t, ht, et⟩ := nt'
  have hb := c.2.2.2.2.2 (hn - 1) (by omega)
  rw [show (nt + 24 - hn + (hn - 1)) % 24 = t by omega] at hb
  obtain ⟨Ma, ea, wa, fa⟩ := T_takeFrom (r := 3) (M := up2 M 17 1 (nI t)) (o := 19 + 6 * t) (hb.kept (fun c _ _ => by rw [up2_c (by omega)])) (by omega)
  have a2 : Ma 17 2 = nI hn := by rw [fa 17 (by omega), up2_n (by omega)]; exact c.2.2.2.2.1
  have a1 : Ma 17 1 = nI t := by rw [fa 17 (by omega), up2_s]
  refine RA.go m h2 h4 h5 h6 h7 ⟨nI (hn - 1), up2 Ma 17 2 (nI (hn - 1)), H (hn - 1), H, hn - 1, t, ?_, ⟨?_, by omega, ht, ?_, ?_, fun i hi => ?_⟩, fun c' hc => ?_, ⟨Or.inr (k.2 _ (by omega)), fun i hi => k.2 i (by omega)⟩, fun MM mm => ?_⟩
  · unfold f_X6_undo f_X1_bringBack
    have k19 : f_X1_bringBack_19 3 (nI t) M = some (up2 Ma 17 2 (nI (hn - 1))) := by
      unfold f_X1_bringBack_19
      rw [lt_k, up2_s, nI_ck (by omega) (by decide), nI_cl (by omega), ea, cv_k, lt_k, a2, show nI hn - (1 : Int32) = nI (hn - 1) from nsub (a := hn) (b := 1) (by omega)]
    rw [c.2.2.2.2.1, if_neg (by rw [neq0 (by omega)]; exact q), c.2.2.2.1]
    by_cases q2 : nt = 0
    · rw [if_pos (by rw [nle0 (by omega)]; exact q2), show (23 : Int32) = nI t by rw [show t = 23 by omega]; rfl, k19, cv_k, up2_s]
    · rw [if_neg (by rw [nle0 (by omega)]; exact q2), show nI nt - (1 : Int32) = nI t by rw [show t = nt - 1 by omega]; exact nsub (a := nt) (b := 1) (by omega), k19, cv_k, up2_s]
  · exact wa.kept (fun c _ _ => by rw [up2_c (by omega)])
  · rw [up2_n (by omega)]; exact a1
  · rw [up2_s]
  · have hi' := c.2.2.2.2.2 i (by omega)
    rw [show (nt + 24 - hn + i) % 24 = (t + 24 - (hn - 1) + i) % 24 by omega] at hi'
    exact hi'.kept (fun c _ _ => by rw [up2_c (by omega), fa _ (by omega), up2_c (by omega)])
  · rw [up2_c (by omega), fa _ (by omega), up2_c (by omega)]
  · have hs := mm.2.2 (hn - 1) (by omega)
    obtain ⟨Mc, ec, sc, fc⟩ := S_copyTo (M := up2 MM 279 1 (nI (hn - 1))) (a := 215 + 43 * (hn - 1)) (by omega) (by omega) (hs.kept (fun j _ _ => by rw [up2_c (by omega)]))
    refine ⟨Mc, ?_, ⟨sc, ?_, fun i hi => ?_⟩, ?_, ?_, ?_⟩
    · unfold f_X7_undo
      rw [mm.2.1, if_neg (by rw [neq0 (by omega)]; exact q), show nI hn - (1 : Int32) = nI (hn - 1) from nsub (a := hn) (b := 1) (by omega), lt_k, up2_s, l_215, l_43, mul_n, nI_add, ec, cv_k, fc.1 279 (by omega), up2_s]
    · rw [fc.1 279 (by omega), up2_s]
    · exact ((mm.2.2 i (by omega)).kept (fun j _ _ => by rw [up2_c (by omega)])).fr fc (by omega)
    · intro c' c1 c2
      rw [fc.1 c' c2, up2_c c1]
    · intro j hj
      rw [fc.1 279 (by omega), up2_n (by omega)]
    · intro j j1 j2
      rw [fc.2 j (by omega), up2_c (by omega)]
theorem Sim_restore (x : Int32) : Sim (f_X6_restore x) (f_X7_restore x) := by
  intro M h
  obtain ⟨b, im, H, hn, nt, tl, tn, h1, h2, h3, h4, h5, h6, h7⟩ := id h
  have hl := h1.2.2.lt
  rcases W_cases x (lo := 0) (hi := 1) (a := (0 : Int32)) (b := (1 : Int32)) (a' := (0 : Int64)) (b' := (1 : Int64)) rfl rfl (by decide) (by decide) (by decide) (by decide) with ⟨ga0, gb0⟩ | ⟨d, ld, hd, rfl, ga0, gb0⟩
  · exact ⟨_, M, M, by unfold f_X6_restore; rw [ga0 M, cb_k, if_pos rfl], by unfold f_X7_restore; rw [gb0 M, cb_k, if_pos rfl], h⟩
  obtain ⟨c, m, k⟩ := h3.ci h1
  rcases h2 d (by omega) with ⟨g1, g2⟩ | ⟨g1, g2, g3, g4, g5⟩
  · refine ⟨(-1000002 : Int32), M, M, ?_, ?_, h⟩
    · unfold f_X6_restore
      rw [ga0 M, cb_k, if_neg (by decide), nI_ck (by omega) (by decide), nI_cl (by omega), if_pos g1]
    · unfold f_X7_restore
      rw [gb0 M, cb_k, if_neg (by decide), nI_ck (by omega) (by decide), nI_cl (by omega), if_pos g2]
  obtain ⟨Ma, ea, wa, fa⟩ := T_takeFrom (r := 3) (o := 267 + 6 * d) g1 (by omega)
  have b06 := g3.1
  have fb : ∀ c', c' < 3 ∨ (9 ≤ c' ∧ c' < 17) ∨ 163 ≤ c' → up2 Ma 17 2 0 c' = M c' := fun c' hc => by rw [up2_c (by omega), fa _ (by omega)]
  obtain ⟨Mc, ec, sc, fc⟩ := S_copyTo (M := up2 Ma 17 2 0) (a := 86 + 43 * d) (by omega) (by omega) (g2.kept (fun j _ _ => by rw [fb 280 (by omega)]))
  refine ⟨1, up2 Ma 17 2 0, up2 Mc 279 1 0, ?_, ?_, Inv.act2 (M1 := up2 Ma 17 2 0) (b' := im d) (H' := H) (hn' := 0) (nt' := nt) h2 h4 h5 h6 h7 ⟨?_, by omega, c.2.2.1, ?_, ?_, fun i hi => by omega⟩ fb ⟨?_, ?_, fun i hi => by omega⟩ ⟨?_, ?_, ?_⟩ ⟨Or.inr ⟨g3, g4⟩, fun i hi => by omega⟩⟩
  · unfold f_X6_restore f_X1_forget
    rw [ga0 M, cb_k, if_neg (by decide), nI_ck (by omega) (by decide), nI_cl (by omega), g1.teeth, if_neg (by rw [neq0 (by omega)]; omega), nI_ck (by omega) (by decide), ea, cv_k, lt_k, cv_k]
  · unfold f_X7_restore
    rw [gb0 (up2 Ma 17 2 0), cb_k, if_neg (by decide), nI_ck (by omega) (by decide), nI_cl (by omega), fb 288 (by omega), g5, if_neg (by decide), l_86, l_43, mul_n, nI_add, ec, cv_k, lt_k]
  · exact wa.kept (fun c _ _ => by rw [up2_c (by omega)])
  · rw [up2_n (by omega), fa 17 (by omega)]; exact c.2.2.2.1
  · rw [up2_s]; rfl
  · exact sc.kept (fun j _ _ => by rw [up2_c (by omega)])
  · rw [up2_s]; rfl
  · intro c' c1 c2
    rw [up2_c c1, fc.1 c' c2]
  · intro j hj
    rw [up2_n (by omega), fc.1 279 (by omega)]
  · intro j j1 j2
    rw [up2_c (by omega), fc.2 j (by omega)]
theorem Sim_image (x : Int32) : Sim (f_X6_image x) (f_X7_image x) := by
  intro M h
  obtain ⟨b, im, H, hn, nt, tl, tn, h1, h2, h3, h4, h5, h6, h7⟩ := id h
  have hl := h1.2.2.lt
  rcases W_cases x (lo := 0) (hi := 1) (a := (0 : Int32)) (b := (1 : Int32)) (a' := (0 : Int64)) (b' := (1 : Int64)) rfl rfl (by decide) (by decide) (by decide) (by decide) with ⟨ga0, gb0⟩ | ⟨d, ld, hd, rfl, ga0, gb0⟩
  · exact ⟨_, M, M, by unfold f_X6_image; rw [ga0 M, cb_k, if_pos rfl], by unfold f_X7_image; rw [gb0 M, cb_k, if_pos rfl], h⟩
  rcases box_cases (n := b 0) (by omega) with ⟨q1, ga1, gb1⟩ | ⟨q1, ga1, gb1⟩
  · exact ⟨_, M, M, by unfold f_X6_image; rw [ga0 M, cb_k, if_neg (by decide), ga1 M h1.1.teeth, cb_k, if_pos rfl], by unfold f_X7_image; rw [gb0 M, cb_k, if_neg (by decide), gb1 M h1.2.1.f0, cb_k, if_pos rfl], h⟩
  obtain ⟨w, w9⟩ := h1.2.2.wf (by omega)
  obtain ⟨Ma, ea, wa, fa⟩ := T_takeFrom (r := 267 + 6 * d) (o := 3) h1.1 (by omega)
  obtain ⟨Mc, ec, sc, fc⟩ := S_copy0 (M := Ma) (d := 86 + 43 * d) (by omega) (by omega) (h1.2.1.kept (fun j _ _ => by rw [fa 280 (by omega)]))
  have E : ∀ c, c < 267 ∨ (279 ≤ c ∧ c ≠ 280 ∧ c ≠ 288) → up2 Mc 288 d 1 c = M c := fun c hc => by rw [up2_c (by omega), fc.1 c (by omega), fa c (by omega)]
  have E8 : ∀ j, j < 86 + 43 * d ∨ 86 + 43 * d + 42 < j → up2 Mc 288 d 1 280 j = M 280 j := fun j hj => by rw [up2_c (by omega), fc.2 j hj, fa 280 (by omega)]
  have s : isS Ma 0 b := h1.2.1.kept (fun j _ _ => by rw [fa 280 (by omega)])
  refine ⟨1, Ma, up2 Mc 288 d 1, ?_, ?_, b, (fun i => if i = d then b else im i), H, hn, nt, tl, tn, h1.k (fun c _ _ => E c (by omega)) (fun j hj => E8 j (by omega)), fun i hi => ?_, h3.k (fun c _ => E c (by omega)) (fun j hj => E8 j (by omega)) (by rw [E 279 (by omega)]), h4.k (fun c hc => E c (by omega)), h5.k (E 16 (by omega)) (E 281 (by omega)) (by rw [E 15 (by omega)]) (by rw [E 279 (by omega)]), h6.k (E 0 (by omega)) (by rw [E 279 (by omega)]) (by rw [E 279 (by omega)]), h7.k (E 249 (by omega)) (E 250 (by omega)) (E 289 (by omega)) (by rw [E 279 (by omega)])⟩
  · unfold f_X6_image
    rw [ga0 M, cb_k, if_neg (by decide), ga1 M h1.1.teeth, cb_k, if_neg (by decide), nI_ck (by omega) (by decide), nI_cl (by omega), ea, cv_k]
  · unfold f_X7_image
    rw [gb0 Ma, cb_k, if_neg (by decide), gb1 Ma s.f0, cb_k, if_neg (by decide), l_86, l_43, mul_n, nI_add, ec, cv_k, nI_ck (by omega) (by decide), nI_cl (by omega), lt_k]
    rfl
  · by_cases q : i = d
    · subst q
      simp only [if_true]
      refine Or.inr ⟨?_, ?_, w, w9, up2_s _ _ _ _⟩
      · exact wa.kept (fun c _ _ => by rw [up2_c (by omega), fc.1 c (by omega)])
      · exact sc.kept (fun j _ _ => by rw [up2_c (by omega)])
    · simp only [if_neg q]
      rcases h2 i hi with ⟨g1, g2⟩ | ⟨g1, g2, g3, g4, g5⟩
      · refine Or.inl ⟨?_, ?_⟩
        · rw [up2_c (by omega), fc.1 _ (by omega), fa _ (by omega)]; exact g1
        · rw [up2_n (by omega), fc.1 _ (by omega), fa _ (by omega)]; exact g2
      · refine Or.inr ⟨?_, ?_, g3, g4, ?_⟩
        · exact g1.kept (fun c _ _ => by rw [up2_c (by omega), fc.1 c (by omega), fa _ (by omega)])
        · exact g2.kept (fun j _ _ => E8 j (by omega))
        · rw [up2_n (by omega), fc.1 _ (by omega), fa _ (by omega)]; exact g5
