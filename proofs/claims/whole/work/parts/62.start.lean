/-! where all begins -/
def M0 : Mem := fun c j => if c = 282 ∧ j < 8 then -1 else 0
theorem M0_z {c j : Nat} (h : c ≠ 282) : M0 c j = nI 0 := by
  unfold M0
  rw [if_neg (fun q => h q.1)]
  rfl
theorem Inv_M0 : Inv M0 := by
  refine ⟨fun _ => 0, fun _ _ => 0, fun _ _ => 0, 0, 0, 0, 0, ⟨⟨Nat.zero_le _, Nat.zero_le _, fun k _ => ?_⟩, ⟨Nat.zero_le _, Nat.zero_le _, fun k _ => M0_z (by omega)⟩, Or.inl ⟨rfl, rfl⟩⟩, fun k hk => Or.inl ⟨M0_z (by omega), M0_z (by omega)⟩, ⟨by omega, by omega, M0_z (by omega), M0_z (by omega), M0_z (by omega), fun i hi => by omega⟩, fun r hr => Or.inl ⟨M0_z (by omega), ?_⟩, ⟨by omega, M0_z (by omega), M0_z (by omega), fun j hj => by omega⟩, ⟨?_, ?_⟩, ⟨by omega, M0_z (by omega), M0_z (by omega), fun j hj => by omega⟩⟩
  · have := lc_le k
    exact M0_z (by omega)
  · unfold M0
    rw [if_pos ⟨rfl, hr⟩]
  · rw [M0_z (by omega), M0_z (by omega)]
  · rw [M0_z (by omega), M0_z (by omega)]
theorem M0_f {k : Nat} (h : k ≠ 282) : M0 k = fun _ => 0 := by
  funext j
  exact M0_z h
theorem cel_z {g : GC} {k : Nat} (h : k ≠ 282) : cel g M0 k = celK g (fun _ => 0) k (kd k) := by
  unfold cel
  rw [M0_f h]
theorem arrV_ext {cI : ClassId} {N : Nat} {f f' : Nat → Value} (h : ∀ j, j < N → f j = f' j) : arrV cI N f = arrV cI N f' := by
  unfold arrV
  have : (fun j : Fin N => f j.val) = fun j : Fin N => f' j.val := by
    funext j
    exact h j.val j.isLt
  rw [this]
theorem at_ext {g : GC} {a N : Nat} {cA : ClassId} {f f' : Nat → Option Nat} {H : Heap} (h : va_at g.1 vwCl (a, .inl (cA, N, .inr (.inr (.inr (.inr f))))) H) (e : ∀ j, j < N → f j = f' j) : va_at g.1 vwCl (a, .inl (cA, N, .inr (.inr (.inr (.inr f'))))) H := by
  have h1 : H[a]? = some (arrV cA N (fun j => va_rf (f j))) := h
  rw [arrV_ext (fun j hj => by rw [e j hj])] at h1
  exact h1
theorem kd_h : ∀ k, k < 279 → 267 ≤ k → kd k = kdW.getD ((k - 267) % 6) 99 := by decide +kernel
theorem kd_i : ∀ k, k < 267 → 251 ≤ k → kd k = ([2, 10] : List Nat).getD ((k - 251) % 2) 99 := by decide +kernel
theorem kd_j : ∀ k, k < 290 → 279 ≤ k → kd k = ([7, 13, 11, 14, 14, 15, 10, 16, 9, 17, 12] : List Nat).getD (k - 279) 99 := by decide +kernel
theorem fin_P {g : GC} {E : Nat → va_E} {H : Heap} (hE : ∀ k, k < 279 → E k = xE g k) (hP : va_P g.1 vwCl (kW g 290 (mE g 279 E)) H) : va_P g.1 vwCl (gW g M0) H := by
  intro k q hq
  have hk : k < 290 := by
    have := (List.getElem?_eq_some_iff.mp hq).1
    rw [gW_len] at this
    exact this
  rw [gW_get hk] at hq
  cases hq
  have h := hP k _ (kW_get hk)
  by_cases h9 : 279 ≤ k
  · by_cases h2 : k = 282
    · subst h2
      have e : mE g 279 E 282 = cel g M0 282 := by
        show (Sum.inl (g.2.1 0, 8, Sum.inl (fun j => if j < 8 then (-1 : Int32) else 0)) : va_E) = Sum.inl (g.2.1 0, 8, Sum.inl (M0 282))
        refine congrArg (fun f => (Sum.inl (g.2.1 0, 8, Sum.inl f) : va_E)) ?_
        funext j
        unfold M0
        by_cases q : j < 8
        · rw [if_pos q, if_pos ⟨rfl, q⟩]
        · rw [if_neg q, if_neg (fun z => q z.2)]
      rw [e] at h
      exact h
    · have e : mE g 279 E k = cel g M0 k := by
        rw [cel_z h2]
        by_cases h7 : k = 279
        · subst h7
          rfl
        · unfold mE
          rw [if_neg h7, if_neg (by omega), if_pos (by omega), kd_j k (by omega) h9]
      rw [e] at h
      exact h
  · have e : mE g 279 E k = xE g k := by
      unfold mE
      rw [if_neg (by omega), if_neg (by omega), if_neg (by omega)]
      exact hE k (by omega)
    rw [e] at h
    unfold xE at h
    by_cases h2 : k = 2
    · subst h2
      rw [lE_a] at h
      exact at_ext h (fun j hj => if_pos hj)
    by_cases hi : 267 ≤ k
    · rw [lE_in h2 (by omega), ← kd_h k (by omega) hi, ← cel_z (by omega)] at h
      exact h
    rw [lE_o h2 (by omega)] at h
    by_cases h1 : k = 1
    · subst h1
      rw [lR_a] at h
      exact at_ext h (fun j hj => if_pos hj)
    by_cases hr : 251 ≤ k
    · have e2 : lR g 8 (bE g) k = celK g (fun _ => 0) k (([2, 10] : List Nat).getD ((k - 251) % 2) 99) := by
        unfold lR
        rw [if_neg h1, if_pos (by omega)]
      rw [e2, ← kd_i k (by omega) hr, ← cel_z (by omega)] at h
      exact h
    rw [lR_o h1 (by omega)] at h
    by_cases h18 : k = 18
    · subst h18
      exact at_ext (f := fun j => if j < 24 then some (gz g + (19 + 6 * j)) else none) h (fun j hj => if_pos hj)
    by_cases h170 : k = 170
    · subst h170
      exact at_ext (f := fun j => if j < 13 then some (gz g + (171 + 6 * j)) else none) h (fun j hj => if_pos hj)
    by_cases h0 : k = 0
    · subst h0
      exact h
    rw [← bE_k h0 h2 h18 h170 rfl, ← cel_z (by omega)] at h
    exact h
