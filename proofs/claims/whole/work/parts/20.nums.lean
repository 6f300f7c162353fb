/-! numbers -/
theorem cb_k {α β : Type} (r : α) (M : Mem) (k : α → Mem → Option β) : cb (some (r, M)) k = k r M := rfl
theorem cv_k {β : Type} (M : Mem) (k : Mem → Option β) : cv (some M) k = k M := rfl
theorem lt_k {α β : Type} (x : α) (k : α → Option β) : lt x k = k x := rfl
theorem nI_ck {α : Type} {e n : Nat} {a : Option α} (h : e < n) (hn : n < 2147483648) : ck (nI e) n a = a := by
  unfold ck
  exact if_neg (vp_in_nI h hn)
theorem nI_cl {n : Nat} (h : n < 2147483648) : (nI n).toNatClampNeg = n := nI_clamp h
theorem nle {a b : Nat} (ha : a < 2147483648) (hb : b < 2147483648) : (nI a ≤ nI b) = (a ≤ b) := propext (nI_leI ha hb)
theorem nlt {a b : Nat} (ha : a < 2147483648) (hb : b < 2147483648) : (nI a < nI b) = (a < b) := propext (nI_ltI ha hb)
theorem neq {a b : Nat} (ha : a < 2147483648) (hb : b < 2147483648) : (nI a = nI b) = (a = b) := propext (nI_eq ha hb)
theorem nle0 {a : Nat} (ha : a < 2147483648) : (nI a ≤ 0) = (a = 0) := by
  rw [← nI_0, nle ha (by decide)]
  simp
theorem n0le {a : Nat} (ha : a < 2147483648) : ((0 : Int32) ≤ nI a) = True := by
  rw [← nI_0, nle (by decide) ha]
  simp
theorem nlt0 {a : Nat} (ha : a < 2147483648) : (nI a < 0) = False := by
  rw [← nI_0, nlt ha (by decide)]
  simp
theorem n0lt {a : Nat} (ha : a < 2147483648) : ((0 : Int32) < nI a) = (0 < a) := by
  rw [← nI_0, nlt (by decide) ha]
theorem neq0 {a : Nat} (ha : a < 2147483648) : (nI a = 0) = (a = 0) := by
  rw [← nI_0, neq ha (by decide)]
theorem nsub {a b : Nat} (h : b ≤ a) : nI a - nI b = nI (a - b) := pk_sub h
theorem ndiv {a d : Nat} (ha : a < 2147483648) (h0 : 0 < d) (hd : d < 2147483648) : nI a / nI d = nI (a / d) := pk_div ha h0 hd
theorem nrem {a d : Nat} (ha : a < 2147483648) (h0 : 0 < d) (hd : d < 2147483648) : nI a - nI a / nI d * nI d = nI (a % d) := pk_rem ha h0 hd
theorem nor (a b : Nat) : nI a ||| nI b = nI (a ||| b) := by
  apply Int32.toBitVec_inj.1
  show BitVec.ofNat 32 a ||| BitVec.ofNat 32 b = BitVec.ofNat 32 (a ||| b)
  apply BitVec.eq_of_getLsbD_eq
  intro i hi
  simp [hi]
theorem nand (a b : Nat) : nI a &&& nI b = nI (a &&& b) := by
  apply Int32.toBitVec_inj.1
  show BitVec.ofNat 32 a &&& BitVec.ofNat 32 b = BitVec.ofNat 32 (a &&& b)
  apply BitVec.eq_of_getLsbD_eq
  intro i hi
  simp [hi]
theorem nxor (a b : Nat) : nI a ^^^ nI b = nI (a ^^^ b) := by
  apply Int32.toBitVec_inj.1
  show BitVec.ofNat 32 a ^^^ BitVec.ofNat 32 b = BitVec.ofNat 32 (a ^^^ b)
  apply BitVec.eq_of_getLsbD_eq
  intro i hi
  simp [hi]
theorem nshl1 : ∀ t, t < 31 → (1 : Int32) <<< (nI t &&& 31) = nI (2 ^ t) := by decide +kernel
theorem smod_nI : ∀ t, t < 32 → ((nI t &&& 31).toBitVec.smod 32).toNat = t := by decide +kernel
theorem nshr {v t : Nat} (hv : v < 2147483648) (ht : t < 32) : nI v >>> (nI t &&& 31) = nI (v / 2 ^ t) := pk_shrN hv _ t (smod_nI t ht)
/-- a bit -/
def bit (v t : Nat) : Nat := v / 2 ^ t % 2
theorem bit_lt (v t : Nat) : bit v t < 2 := Nat.mod_lt _ (by decide)
theorem nhas {v t : Nat} (hv : v < 2147483648) (ht : t < 32) : (nI v >>> (nI t &&& 31)) &&& 1 = nI (bit v t) := by
  rw [nshr hv ht, show (1 : Int32) = nI 1 from rfl, nand, Nat.and_one_is_mod]
  rfl
theorem bit_tb (v t : Nat) : (bit v t = 1) = (v.testBit t = true) := by
  rw [Nat.testBit_eq_decide_div_mod_eq]
  simp [bit]
theorem bit_tb0 (v t : Nat) : (bit v t = 0) = (v.testBit t = false) := by
  rw [Nat.testBit_eq_decide_div_mod_eq]
  simp [bit]
theorem bit_or_pow {v k j : Nat} (h : j ≠ k) : bit (v ||| 2 ^ k) j = bit v j := by
  have h1 := bit_lt (v ||| 2 ^ k) j
  have h2 := bit_lt v j
  have e : (v ||| 2 ^ k).testBit j = v.testBit j := by
    rw [Nat.testBit_or, Nat.testBit_two_pow_of_ne (Ne.symm h), Bool.or_false]
  by_cases q : v.testBit j = true
  · rw [(bit_tb _ _).mpr (e.trans q), (bit_tb _ _).mpr q]
  · have q' : v.testBit j = false := by simpa using q
    rw [(bit_tb0 _ _).mpr (e.trans q'), (bit_tb0 _ _).mpr q']
theorem bit_or_self (v k : Nat) : bit (v ||| 2 ^ k) k = 1 := by
  rw [bit_tb, Nat.testBit_or, Nat.testBit_two_pow_self, Bool.or_true]
/-- p and not q -/
theorem nandn : ∀ p, p < 64 → ∀ q, q < 64 → nI p &&& (nI q ^^^ (-1 : Int32)) = nI (p &&& (63 ^^^ q)) := by decide +kernel
theorem bit_andn : ∀ p, p < 64 → ∀ q, q < 64 → ∀ t, t < 6 → ((bit (p &&& (63 ^^^ q)) t = 1) ↔ (bit p t = 1 ∧ bit q t = 0)) := by decide +kernel
theorem andn_lt : ∀ p, p < 64 → ∀ q, q < 64 → p &&& (63 ^^^ q) < 64 := by decide +kernel
theorem or_lt : ∀ p, p < 64 → ∀ t, t < 6 → p ||| 2 ^ t < 64 := by decide +kernel
theorem xor_lt : ∀ p, p < 64 → ∀ t, t < 6 → p ^^^ 2 ^ t < 64 := by decide +kernel
theorem pow_lt : ∀ t, t < 6 → 2 ^ t < 64 := by decide +kernel
theorem mul_n (a b : Nat) : nI a * nI b = nI (a * b) := pk_mul a b
theorem l_1 : (1 : Int32) = nI 1 := congrArg Int32.ofNat rfl
theorem l_2 : (2 : Int32) = nI 2 := congrArg Int32.ofNat rfl
theorem l_3 : (3 : Int32) = nI 3 := congrArg Int32.ofNat rfl
theorem l_4 : (4 : Int32) = nI 4 := congrArg Int32.ofNat rfl
theorem l_5 : (5 : Int32) = nI 5 := congrArg Int32.ofNat rfl
theorem l_6 : (6 : Int32) = nI 6 := congrArg Int32.ofNat rfl
theorem l_7 : (7 : Int32) = nI 7 := congrArg Int32.ofNat rfl
theorem l_8 : (8 : Int32) = nI 8 := congrArg Int32.ofNat rfl
theorem l_9 : (9 : Int32) = nI 9 := congrArg Int32.ofNat rfl
theorem l_10 : (10 : Int32) = nI 10 := congrArg Int32.ofNat rfl
theorem l_12 : (12 : Int32) = nI 12 := congrArg Int32.ofNat rfl
theorem l_15 : (15 : Int32) = nI 15 := congrArg Int32.ofNat rfl
theorem l_16 : (16 : Int32) = nI 16 := congrArg Int32.ofNat rfl
theorem l_18 : (18 : Int32) = nI 18 := congrArg Int32.ofNat rfl
theorem l_20 : (20 : Int32) = nI 20 := congrArg Int32.ofNat rfl
theorem l_23 : (23 : Int32) = nI 23 := congrArg Int32.ofNat rfl
theorem l_24 : (24 : Int32) = nI 24 := congrArg Int32.ofNat rfl
theorem l_30 : (30 : Int32) = nI 30 := congrArg Int32.ofNat rfl
theorem l_40 : (40 : Int32) = nI 40 := congrArg Int32.ofNat rfl
theorem l_42 : (42 : Int32) = nI 42 := congrArg Int32.ofNat rfl
theorem l_43 : (43 : Int32) = nI 43 := congrArg Int32.ofNat rfl
theorem l_45 : (45 : Int32) = nI 45 := congrArg Int32.ofNat rfl
theorem l_46 : (46 : Int32) = nI 46 := congrArg Int32.ofNat rfl
theorem l_48 : (48 : Int32) = nI 48 := congrArg Int32.ofNat rfl
theorem l_60 : (60 : Int32) = nI 60 := congrArg Int32.ofNat rfl
theorem l_61 : (61 : Int32) = nI 61 := congrArg Int32.ofNat rfl
theorem l_63 : (63 : Int32) = nI 63 := congrArg Int32.ofNat rfl
theorem l_64 : (64 : Int32) = nI 64 := congrArg Int32.ofNat rfl
theorem l_67 : (67 : Int32) = nI 67 := congrArg Int32.ofNat rfl
theorem l_73 : (73 : Int32) = nI 73 := congrArg Int32.ofNat rfl
theorem l_85 : (85 : Int32) = nI 85 := congrArg Int32.ofNat rfl
theorem l_86 : (86 : Int32) = nI 86 := congrArg Int32.ofNat rfl
theorem l_99 : (99 : Int32) = nI 99 := congrArg Int32.ofNat rfl
theorem l_100 : (100 : Int32) = nI 100 := congrArg Int32.ofNat rfl
theorem l_172 : (172 : Int32) = nI 172 := congrArg Int32.ofNat rfl
theorem l_173 : (173 : Int32) = nI 173 := congrArg Int32.ofNat rfl
theorem l_178 : (178 : Int32) = nI 178 := congrArg Int32.ofNat rfl
theorem l_184 : (184 : Int32) = nI 184 := congrArg Int32.ofNat rfl
theorem l_202 : (202 : Int32) = nI 202 := congrArg Int32.ofNat rfl
theorem l_215 : (215 : Int32) = nI 215 := congrArg Int32.ofNat rfl
theorem l_255 : (255 : Int32) = nI 255 := congrArg Int32.ofNat rfl
theorem l_320 : (320 : Int32) = nI 320 := congrArg Int32.ofNat rfl
theorem l_989 : (989 : Int32) = nI 989 := congrArg Int32.ofNat rfl
theorem l_999 : (999 : Int32) = nI 999 := congrArg Int32.ofNat rfl
theorem l_1000 : (1000 : Int32) = nI 1000 := congrArg Int32.ofNat rfl
