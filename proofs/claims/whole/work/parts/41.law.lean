/-! the box as it is told -/
def cl5 (M : Mem) : Option (Int32 × Mem) := cb (f_X4_take (59 : Int32) M) fun r M => cbz r <| some (r, M)
def cl4 (M : Mem) : Option (Int32 × Mem) := cb (f_X4_takeNumber (nI 0) (nI 3) M) fun r M => if r = 0 then some ((0 : Int32), M) else cl5 (up2 M 9 3 (M 15 4))
def cl3 (M : Mem) : Option (Int32 × Mem) := cb (f_X4_take (44 : Int32) M) fun r M => if r = 0 then some ((0 : Int32), M) else cl4 M
def cl2 (M : Mem) : Option (Int32 × Mem) := cb (f_X4_takeNumber (nI 0) (nI 99) M) fun r M => if r = 0 then some ((0 : Int32), M) else cl3 (up2 M 9 2 (M 15 4))
def cl1 (M : Mem) : Option (Int32 × Mem) := cb (f_X4_take (109 : Int32) M) fun r M => if r = 0 then some ((0 : Int32), M) else cl2 M
def ml5 (M : Mem) : Option (Int32 × Mem) := cb (f_X7_takes (59 : Int32) M) fun r M => cbz r <| some (r, M)
def ml4 (M : Mem) : Option (Int32 × Mem) := cb (f_X7_takesNumber (nI 0) (nI 3) M) fun r M => if r = 0 then some ((0 : Int32), M) else ml5 (up2 M 280 175 (M 279 12))
def ml3 (M : Mem) : Option (Int32 × Mem) := cb (f_X7_takes (44 : Int32) M) fun r M => if r = 0 then some ((0 : Int32), M) else ml4 M
def ml2 (M : Mem) : Option (Int32 × Mem) := cb (f_X7_takesNumber (nI 0) (nI 99) M) fun r M => if r = 0 then some ((0 : Int32), M) else ml3 (up2 M 280 174 (M 279 12))
def ml1 (M : Mem) : Option (Int32 × Mem) := cb (f_X7_takes (109 : Int32) M) fun r M => if r = 0 then some ((0 : Int32), M) else ml2 M
theorem readLaw_k (M : Mem) : f_X4_readLaw 9 M = cl1 M := rfl
theorem takesLaw_k (M : Mem) : f_X7_takesLaw M = ml1 M := rfl
theorem tzif {r : Int32} {M : Mem} {X K : Mem → Option (Int32 × Mem)} (hr : r = 0 ∨ r = 1) : tz (cb (some (r, M)) (fun r M => if r = 0 then some ((0 : Int32), M) else X M)) K = if r = 0 then some ((0 : Int32), M) else tz (X M) K := by
  rcases hr with rfl | rfl <;> rfl
theorem tzcbz {r : Int32} {M : Mem} {K : Mem → Option (Int32 × Mem)} (hr : r = 0 ∨ r = 1) : tz (cb (some (r, M)) (fun r M => cbz r <| some (r, M))) K = if r = 0 then some ((0 : Int32), M) else K M := by
  rcases hr with rfl | rfl
  · rw [cb_k, cbz0]; rfl
  · rw [cb_k, cbz1]; rfl
theorem DC.s2 {M : Mem} {B : Nat → Nat} {k v : Nat} (h : DC M B 0 0) (hk : k = 2 ∨ k = 3) : DC (up2 M 9 k (nI v)) (up B k v) 0 0 := by
  obtain ⟨a1, a2, a3, a4, a5, a6, a7, a8, a9⟩ := h
  refine ⟨?_, ?_, ?_, ?_, ?_, ?_, fun j hj => by omega, fun j hj => by omega, fun j hj => ⟨?_, ?_⟩⟩
  · rw [up2_n (by omega)]; exact a1
  · rw [up2_n (by omega)]; exact a2
  · rcases hk with rfl | rfl
    · rw [up2_s, up_s]
    · rw [up2_n (by omega), up_n (by omega)]; exact a3
  · rcases hk with rfl | rfl
    · rw [up2_n (by omega), up_n (by omega)]; exact a4
    · rw [up2_s, up_s]
  · rw [up2_n (by omega)]; exact a5
  · rw [up2_n (by omega)]; exact a6
  · rw [up2_c (by omega)]; exact (a9 j hj).1
  · rw [up2_c (by omega)]; exact (a9 j hj).2
theorem DM.s2 {M : Mem} {B : Nat → Nat} {k v : Nat} (h : DM M B 0 0) (hk : k = 2 ∨ k = 3) : DM (up2 M 280 (172 + k) (nI v)) (up B k v) 0 0 := by
  obtain ⟨a1, a2, a3, a4, a5, a6, a7, a8, a9, a10⟩ := h
  refine ⟨?_, ?_, ?_, ?_, ?_, ?_, fun j hj => by omega, fun j hj => by omega, fun j hj => ⟨?_, ?_⟩, ?_⟩
  · rw [up2_n (by omega)]; exact a1
  · rw [up2_n (by omega)]; exact a2
  · rcases hk with rfl | rfl
    · rw [show (174 : Nat) = 172 + 2 from rfl, up2_s, up_s]
    · rw [up2_n (by omega), up_n (by omega)]; exact a3
  · rcases hk with rfl | rfl
    · rw [up2_n (by omega), up_n (by omega)]; exact a4
    · rw [show (175 : Nat) = 172 + 3 from rfl, up2_s, up_s]
  · rw [up2_n (by omega)]; exact a5
  · rw [up2_n (by omega)]; exact a6
  · rw [up2_n (by omega)]; exact (a9 j hj).1
  · rw [up2_n (by omega)]; exact (a9 j hj).2
  · rw [up2_n (by omega)]; exact a10
def zB : Nat → Nat := fun _ => 0
section LAWBOX
variable {T : Nat → Nat} {tl : Nat}
theorem Q_law {p : Nat} {M : Mem} (hP : PC M T tl p) (hD : DC M zB 0 0) : Res T tl (tz (cl1 M) (fun M => tz (f_X4_readColumns 9 M) (fun M => tz (f_X4_readTeeth 9 M) (fun M => some ((1 : Int32), M))))) (fun MM => tz (ml1 MM) (f_X7_takesAll_9 FU)) (fun MM => PM MM T tl p ∧ DM MM zB 0 0) M := by
  refine Res.take (x := (109 : Int32)) (by decide) (K := fun M => tz (cl2 M) (fun M => tz (f_X4_readColumns 9 M) (fun M => tz (f_X4_readTeeth 9 M) (fun M => some ((1 : Int32), M))))) (K' := fun M => tz (ml2 M) (f_X7_takesAll_9 FU)) hP (fun MM hm => hm.1) (fun r M' hr e => by unfold cl1; rw [e]; exact tzif hr) (fun MM r M' _ hr e => by show tz (ml1 MM) _ = _; unfold ml1; rw [e]; exact tzif hr) (fun h1 => ?_)
  have hP1 := hP.at h1
  refine Res.num (lo := 0) (hi := 99) (by omega) (by omega) (K := fun M => tz (cl3 (up2 M 9 2 (M 15 4))) (fun M => tz (f_X4_readColumns 9 M) (fun M => tz (f_X4_readTeeth 9 M) (fun M => some ((1 : Int32), M))))) (K' := fun M => tz (ml3 (up2 M 280 174 (M 279 12))) (f_X7_takesAll_9 FU)) hP1 (fun M2 hm => by obtain ⟨MM, h, rfl⟩ := hm; exact h.1.at _) (fun r M' hr e => by unfold cl2; rw [e]; exact tzif hr) (fun MM r M' _ hr e => by show tz (ml2 MM) _ = _; unfold ml2; rw [e]; exact tzif hr) (fun q v _ hv hq => ?_)
  have hP2 : PC (up2 (up2 (up2 M 15 2 (nI (p + 1))) 15 2 (nI q)) 15 4 (nI v)) T tl q := (hP1.at hq).o (by omega)
  obtain ⟨Ma, hMa⟩ : ∃ Ma, Ma = up2 (up2 (up2 M 15 2 (nI (p + 1))) 15 2 (nI q)) 15 4 (nI v) := ⟨_, rfl⟩
  rw [← hMa] at hP2 ⊢
  have ea : Ma 15 4 = nI v := by rw [hMa, up2_s]
  have hDa : DC Ma zB 0 0 := hD.k (fun d _ _ => by rw [hMa, up2_c (by omega), up2_c (by omega), up2_c (by omega)])
  have hPb : PC (up2 Ma 9 2 (nI v)) T tl q := hP2.o (by omega)
  have hDb := hDa.s2 (k := 2) (v := v) (Or.inl rfl)
  refine Res.step (M2 := up2 Ma 9 2 (nI v)) (F' := tz (cl3 (up2 Ma 9 2 (nI v))) (fun M => tz (f_X4_readColumns 9 M) (fun M => tz (f_X4_readTeeth 9 M) (fun M => some ((1 : Int32), M))))) (G' := fun M => tz (ml3 M) (f_X7_takesAll_9 FU)) (P' := fun M2 => PM M2 T tl q ∧ DM M2 (up zB 2 v) 0 0) ?_ (by show tz (cl3 (up2 Ma 9 2 (Ma 15 4))) _ = _; rw [ea]) (FrT.u _ (by omega)) (fun M2 hm => ?_)
  rotate_left
  · obtain ⟨Mb, ⟨MM, h, rfl⟩, g2, g3, g4, g5⟩ := hm
    refine ⟨up2 M2 280 174 (nI v), by show tz (ml3 (up2 M2 280 174 (M2 279 12))) _ = _; rw [g3], FrF.u _ (by omega), by rw [up2_c (by omega)], ⟨?_, ?_, fun j hj => ?_⟩, ?_⟩
    · rw [up2_c (by omega), g5 3 (by omega) (by omega), up2_n (by omega)]; exact h.1.1
    · rw [up2_c (by omega)]; exact g2
    · rw [up2_c (by omega), g4 281 (by omega), up2_c (by omega)]; exact h.1.2.2 j hj
    · exact DM.s2 (k := 2) (h.2.k (by rw [g4 280 (by omega), up2_c (by omega)])) (Or.inl rfl)
  refine Res.take (x := (44 : Int32)) (by decide) (K := fun M => tz (cl4 M) (fun M => tz (f_X4_readColumns 9 M) (fun M => tz (f_X4_readTeeth 9 M) (fun M => some ((1 : Int32), M))))) (K' := fun M => tz (ml4 M) (f_X7_takesAll_9 FU)) hPb (fun MM hm => hm.1) (fun r M' hr e => by unfold cl3; rw [e]; exact tzif hr) (fun MM r M' _ hr e => by show tz (ml3 MM) _ = _; unfold ml3; rw [e]; exact tzif hr) (fun h2 => ?_)
  have hP3 := hPb.at h2
  refine Res.num (lo := 0) (hi := 3) (by omega) (by omega) (K := fun M => tz (cl5 (up2 M 9 3 (M 15 4))) (fun M => tz (f_X4_readColumns 9 M) (fun M => tz (f_X4_readTeeth 9 M) (fun M => some ((1 : Int32), M))))) (K' := fun M => tz (ml5 (up2 M 280 175 (M 279 12))) (f_X7_takesAll_9 FU)) hP3 (fun M2 hm => by obtain ⟨MM, h, rfl⟩ := hm; exact h.1.at _) (fun r M' hr e => by unfold cl4; rw [e]; exact tzif hr) (fun MM r M' _ hr e => by show tz (ml4 MM) _ = _; unfold ml4; rw [e]; exact tzif hr) (fun q2 v2 _ hv2 hq2 => ?_)
  have hP4 : PC (up2 (up2 (up2 (up2 Ma 9 2 (nI v)) 15 2 (nI (q + 1))) 15 2 (nI q2)) 15 4 (nI v2)) T tl q2 := (hP3.at hq2).o (by omega)
  obtain ⟨Mc, hMc⟩ : ∃ Mc, Mc = up2 (up2 (up2 (up2 Ma 9 2 (nI v)) 15 2 (nI (q + 1))) 15 2 (nI q2)) 15 4 (nI v2) := ⟨_, rfl⟩
  rw [← hMc] at hP4 ⊢
  have ec : Mc 15 4 = nI v2 := by rw [hMc, up2_s]
  have hDc : DC Mc (up zB 2 v) 0 0 := hDb.k (fun d _ _ => by rw [hMc, up2_c (by omega), up2_c (by omega), up2_c (by omega)])
  have hPd : PC (up2 Mc 9 3 (nI v2)) T tl q2 := hP4.o (by omega)
  have hDd := hDc.s2 (k := 3) (v := v2) (Or.inr rfl)
  refine Res.step (M2 := up2 Mc 9 3 (nI v2)) (F' := tz (cl5 (up2 Mc 9 3 (nI v2))) (fun M => tz (f_X4_readColumns 9 M) (fun M => tz (f_X4_readTeeth 9 M) (fun M => some ((1 : Int32), M))))) (G' := fun M => tz (ml5 M) (f_X7_takesAll_9 FU)) (P' := fun M2 => PM M2 T tl q2 ∧ DM M2 (up (up zB 2 v) 3 v2) 0 0) ?_ (by show tz (cl5 (up2 Mc 9 3 (Mc 15 4))) _ = _; rw [ec]) (FrT.u _ (by omega)) (fun M2 hm => ?_)
  rotate_left
  · obtain ⟨Mb, ⟨MM, h, rfl⟩, g2, g3, g4, g5⟩ := hm
    refine ⟨up2 M2 280 175 (nI v2), by show tz (ml5 (up2 M2 280 175 (M2 279 12))) _ = _; rw [g3], FrF.u _ (by omega), by rw [up2_c (by omega)], ⟨?_, ?_, fun j hj => ?_⟩, ?_⟩
    · rw [up2_c (by omega), g5 3 (by omega) (by omega), up2_n (by omega)]; exact h.1.1
    · rw [up2_c (by omega)]; exact g2
    · rw [up2_c (by omega), g4 281 (by omega), up2_c (by omega)]; exact h.1.2.2 j hj
    · exact DM.s2 (k := 3) (h.2.k (by rw [g4 280 (by omega), up2_c (by omega)])) (Or.inr rfl)
  refine Res.take (x := (59 : Int32)) (by decide) (K := fun M => tz (f_X4_readColumns 9 M) (fun M => tz (f_X4_readTeeth 9 M) (fun M => some ((1 : Int32), M)))) (K' := f_X7_takesAll_9 FU) hPd (fun MM hm => hm.1) (fun r M' hr e => by unfold cl5; rw [e]; exact tzcbz hr) (fun MM r M' _ hr e => by show tz (ml5 MM) _ = _; unfold ml5; rw [e]; exact tzcbz hr) (fun h3 => ?_)
  refine (Q_cols 13 FU FU 0 (q2 + 1) (up (up zB 2 v) 3 v2) (up2 (up2 Mc 9 3 (nI v2)) 15 2 (nI (q2 + 1))) (by omega) (by decide) (by decide) (by omega) (hPd.at h3) (hDd.k (fun d _ _ => up2_c (by omega))) ⟨?_, ?_, fun j hj => by omega, fun j hj => by omega, by omega, by omega⟩).step rfl (FrT.rf _) (fun M2 hm => ?_)
  · rw [up_n (by omega), up_s]; exact hv
  · rw [up_s]; exact hv2
  · obtain ⟨MM, h, rfl⟩ := hm
    exact ⟨_, rfl, FrF.rf _, rfl, h.1.at _, h.2.k (up2_c (by omega))⟩
end LAWBOX
