/-! what a tooth is asked -/
def lv (M : Mem) (n : Nat) (x : Int32) : Mem := up2 (up2 M 250 n x) 249 2 (nI (n + 1))
def lvm (M : Mem) (n : Nat) (x : Int32) : Mem := up2 (up2 M 289 n x) 279 17 (nI (n + 1))
section ASK
variable {M : Mem} {n t d dep : Nat} {x : Int32}
theorem lv_c {c : Nat} (h1 : c ≠ 249) (h2 : c ≠ 250) : lv M n x c = M c := by unfold lv; rw [up2_c h1, up2_c h2]
theorem lvm_c {c : Nat} (h1 : c ≠ 279) (h2 : c ≠ 289) : lvm M n x c = M c := by unfold lvm; rw [up2_c h1, up2_c h2]
theorem lv_n : lv M n x 249 2 = nI (n + 1) := by unfold lv; rw [up2_s]
theorem lvm_n : lvm M n x 279 17 = nI (n + 1) := by unfold lvm; rw [up2_s]
theorem lv_s : lv M n x 250 n = x := by unfold lv; rw [up2_c (by omega), up2_s]
theorem lvm_s : lvm M n x 289 n = x := by unfold lvm; rw [up2_c (by omega), up2_s]
theorem lv_o {j : Nat} (h : j ≠ n) : lv M n x 250 j = M 250 j := by unfold lv; rw [up2_c (by omega), up2_n (by omega)]
theorem lvm_o {j : Nat} (h : j ≠ n) : lvm M n x 289 j = M 289 j := by unfold lvm; rw [up2_c (by omega), up2_n (by omega)]
theorem lv_k (h : M 249 2 = nI n) (hn : n < 16) : f_X0_leave x M = some (lv M n x) := by
  unfold f_X0_leave lv
  rw [h, if_neg (by rw [l_16, nle (by omega) (by omega)]; omega), nI_ck hn (by decide), nI_cl (by omega), lt_k, up2_c (by omega), h, nI_1, lt_k]
theorem lvm_k (h : M 279 17 = nI n) (hn : n < 16) : f_X7_traces x M = some (lvm M n x) := by
  unfold f_X7_traces lvm
  rw [h, if_neg (by rw [l_16, nle (by omega) (by omega)]; omega), nI_ck hn (by decide), nI_cl (by omega), lt_k, up2_c (by omega), h, nI_1, lt_k]
theorem body_s {x1 x2 x3 : Int32} : f_X0_body (d + 1) x1 x2 x3 M = e_X0_body (f_X0_answer d) (f_X0_body d) x1 x2 x3 M := rfl
theorem answer_s {x1 x2 x3 : Int32} : f_X0_answer (d + 1) x1 x2 x3 M = e_X0_answer (f_X0_answer d) (f_X0_body d) x1 x2 x3 M := rfl
theorem A10 (h : M 249 2 = nI n) (hn : n + 1 ≤ 16) (ht : t < 6) (hd : dep + 0 ≤ 20) : f_X0_body (d + 1) 10 (nI t) (nI dep) M = some (M 6 t, (lv M (n) 10)) := by
  rw [body_s]
  unfold e_X0_body
  rw [if_pos (by rw [l_20, nle (by omega) (by omega)]; omega), lv_k h (by omega), cv_k, lt_k, if_pos rfl, nI_ck ht (by decide), nI_cl (by omega), lv_c (c := 3 + 3) (by omega) (by omega)]
theorem A20 (h : M 249 2 = nI n) (hn : n + 1 ≤ 16) (ht : t < 6) (hd : dep + 0 ≤ 20) : f_X0_body (d + 1) 20 (nI t) (nI dep) M = some (nI t, (lv M (n) 20)) := by
  rw [body_s]
  unfold e_X0_body
  rw [if_pos (by rw [l_20, nle (by omega) (by omega)]; omega), lv_k h (by omega), cv_k, lt_k, if_neg (by decide), if_neg (by decide), if_neg (by decide), if_neg (by decide), if_neg (by decide), if_neg (by decide), if_neg (by decide), if_neg (by decide), if_neg (by decide), if_neg (by decide), if_pos rfl]
theorem A21 (h : M 249 2 = nI n) (hn : n + 2 ≤ 16) (ht : t < 6) (hd : dep + 1 ≤ 20) : f_X0_body (d + 2) 21 (nI t) (nI dep) M = some (nI t + M 7 t, (lv (lv M (n) 21) (n + 1) 20)) := by
  rw [body_s]
  unfold e_X0_body
  rw [if_pos (by rw [l_20, nle (by omega) (by omega)]; omega), lv_k h (by omega), cv_k, lt_k, if_neg (by decide), if_neg (by decide), if_neg (by decide), if_neg (by decide), if_neg (by decide), if_neg (by decide), if_neg (by decide), if_neg (by decide), if_neg (by decide), if_neg (by decide), if_neg (by decide), if_pos rfl, show nI dep + (1 : Int32) = nI (dep + 1) from nI_1 dep, A20 lv_n (by omega) ht (by omega), cb_k, nI_ck ht (by decide), nI_cl (by omega), lv_c (c := 3 + 4) (by omega) (by omega), lv_c (c := 3 + 4) (by omega) (by omega)]
theorem A22 (h : M 249 2 = nI n) (hn : n + 3 ≤ 16) (ht : t < 6) (hd : dep + 2 ≤ 20) : f_X0_body (d + 3) 22 (nI t) (nI dep) M = some (nI t + M 7 t - (1000 : Int32), (lv (lv (lv M (n) 22) (n + 1) 21) (n + 1 + 1) 20)) := by
  rw [body_s]
  unfold e_X0_body
  rw [if_pos (by rw [l_20, nle (by omega) (by omega)]; omega), lv_k h (by omega), cv_k, lt_k, if_neg (by decide), if_neg (by decide), if_neg (by decide), if_neg (by decide), if_neg (by decide), if_neg (by decide), if_neg (by decide), if_neg (by decide), if_neg (by decide), if_neg (by decide), if_neg (by decide), if_neg (by decide), if_pos rfl, show nI dep + (1 : Int32) = nI (dep + 1) from nI_1 dep, A21 lv_n (by omega) ht (by omega), cb_k, lv_c (c := 7) (by omega) (by omega)]
theorem A24 (h : M 249 2 = nI n) (hn : n + 3 ≤ 16) (ht : t < 6) (hd : dep + 2 ≤ 20) : f_X0_body (d + 3) 24 (nI t) (nI dep) M = some ((2 : Int32) * (nI t + M 7 t), (lv (lv (lv M (n) 24) (n + 1) 21) (n + 1 + 1) 20)) := by
  rw [body_s]
  unfold e_X0_body
  rw [if_pos (by rw [l_20, nle (by omega) (by omega)]; omega), lv_k h (by omega), cv_k, lt_k, if_neg (by decide), if_neg (by decide), if_neg (by decide), if_neg (by decide), if_neg (by decide), if_neg (by decide), if_neg (by decide), if_neg (by decide), if_neg (by decide), if_neg (by decide), if_neg (by decide), if_neg (by decide), if_neg (by decide), if_neg (by decide), if_pos rfl, show nI dep + (1 : Int32) = nI (dep + 1) from nI_1 dep, A21 lv_n (by omega) ht (by omega), cb_k, lv_c (c := 7) (by omega) (by omega)]
theorem A13 (h : M 249 2 = nI n) (hn : n + 2 ≤ 16) (ht : t < 6) (hd : dep + 1 ≤ 20) : f_X0_body (d + 2) 13 (nI t) (nI dep) M = some (M 6 t - (100 : Int32), (lv (lv M (n) 13) (n + 1) 10)) := by
  rw [body_s]
  unfold e_X0_body
  rw [if_pos (by rw [l_20, nle (by omega) (by omega)]; omega), lv_k h (by omega), cv_k, lt_k, if_neg (by decide), if_neg (by decide), if_neg (by decide), if_pos rfl, show nI dep + (1 : Int32) = nI (dep + 1) from nI_1 dep, A10 lv_n (by omega) ht (by omega), cb_k, lv_c (c := 6) (by omega) (by omega)]
theorem A14 (h : M 249 2 = nI n) (hn : n + 3 ≤ 16) (ht : t < 6) (hd : dep + 2 ≤ 20) : f_X0_body (d + 3) 14 (nI t) (nI dep) M = some ((2 : Int32) * (M 6 t - (100 : Int32)), (lv (lv (lv M (n) 14) (n + 1) 13) (n + 1 + 1) 10)) := by
  rw [body_s]
  unfold e_X0_body
  rw [if_pos (by rw [l_20, nle (by omega) (by omega)]; omega), lv_k h (by omega), cv_k, lt_k, if_neg (by decide), if_neg (by decide), if_neg (by decide), if_neg (by decide), if_pos rfl, show nI dep + (1 : Int32) = nI (dep + 1) from nI_1 dep, A13 lv_n (by omega) ht (by omega), cb_k, lv_c (c := 6) (by omega) (by omega)]
theorem N1_1 (h : M 249 2 = nI n) (hn : n + 2 ≤ 16) (ht : t < 6) (hd : dep + 2 ≤ 20) (hk : M 5 t = nI 1) : f_X0_answer (d + 3) 1 (nI t) (nI dep) M = some (nI t + M 7 t, (lv (lv M (n) 21) (n + 1) 20)) := by
  rw [answer_s]
  unfold e_X0_answer f_X0_answer_31
  rw [nI_ck ht (by decide), nI_cl (by omega), show M (3 + 2) t = nI 1 from hk, lt_k, if_neg (by decide), nI_ck (by decide) (by decide), nI_cl (by decide), show nI dep + (1 : Int32) = nI (dep + 1) from nI_1 dep, show tb3 1 = 21 from rfl, A21 h (by omega) ht (by omega), cb_k]
theorem N1_2 (h : M 249 2 = nI n) (hn : n + 3 ≤ 16) (ht : t < 6) (hd : dep + 3 ≤ 20) (hk : M 5 t = nI 2) : f_X0_answer (d + 4) 1 (nI t) (nI dep) M = some ((2 : Int32) * (nI t + M 7 t), (lv (lv (lv M (n) 24) (n + 1) 21) (n + 1 + 1) 20)) := by
  rw [answer_s]
  unfold e_X0_answer f_X0_answer_31
  rw [nI_ck ht (by decide), nI_cl (by omega), show M (3 + 2) t = nI 2 from hk, lt_k, if_neg (by decide), nI_ck (by decide) (by decide), nI_cl (by decide), show nI dep + (1 : Int32) = nI (dep + 1) from nI_1 dep, show tb3 2 = 24 from rfl, A24 h (by omega) ht (by omega), cb_k]
theorem N1_3 (h : M 249 2 = nI n) (hn : n + 3 ≤ 16) (ht : t < 6) (hd : dep + 3 ≤ 20) (hk : M 5 t = nI 3) : f_X0_answer (d + 4) 1 (nI t) (nI dep) M = some (nI t + M 7 t - (1000 : Int32), (lv (lv (lv M (n) 22) (n + 1) 21) (n + 1 + 1) 20)) := by
  rw [answer_s]
  unfold e_X0_answer f_X0_answer_31
  rw [nI_ck ht (by decide), nI_cl (by omega), show M (3 + 2) t = nI 3 from hk, lt_k, if_neg (by decide), nI_ck (by decide) (by decide), nI_cl (by decide), show nI dep + (1 : Int32) = nI (dep + 1) from nI_1 dep, show tb3 3 = 22 from rfl, A22 h (by omega) ht (by omega), cb_k]
theorem N0_4 (h : M 249 2 = nI n) (hn : n + 2 ≤ 16) (ht : t < 6) (hd : dep + 2 ≤ 20) (hk : M 5 t = nI 4) : f_X0_answer (d + 3) 0 (nI t) (nI dep) M = some (M 6 t - (100 : Int32), (lv (lv M (n) 13) (n + 1) 10)) := by
  rw [answer_s]
  unfold e_X0_answer f_X0_answer_31
  rw [nI_ck ht (by decide), nI_cl (by omega), show M (3 + 2) t = nI 4 from hk, lt_k, if_pos rfl, nI_ck (by decide) (by decide), nI_cl (by decide), show nI dep + (1 : Int32) = nI (dep + 1) from nI_1 dep, show tb2 4 = 13 from rfl, A13 h (by omega) ht (by omega), cb_k]
theorem N0_5 (h : M 249 2 = nI n) (hn : n + 3 ≤ 16) (ht : t < 6) (hd : dep + 3 ≤ 20) (hk : M 5 t = nI 5) : f_X0_answer (d + 4) 0 (nI t) (nI dep) M = some ((2 : Int32) * (M 6 t - (100 : Int32)), (lv (lv (lv M (n) 14) (n + 1) 13) (n + 1 + 1) 10)) := by
  rw [answer_s]
  unfold e_X0_answer f_X0_answer_31
  rw [nI_ck ht (by decide), nI_cl (by omega), show M (3 + 2) t = nI 5 from hk, lt_k, if_pos rfl, nI_ck (by decide) (by decide), nI_cl (by decide), show nI dep + (1 : Int32) = nI (dep + 1) from nI_1 dep, show tb2 5 = 14 from rfl, A14 h (by omega) ht (by omega), cb_k]
theorem A11_1 (h : M 249 2 = nI n) (hn : n + 4 ≤ 16) (ht : t < 6) (hd : dep + 4 ≤ 20) (hk : M 5 t = nI 1) : f_X0_body (d + 5) 11 (nI t) (nI dep) M = some (M 6 t + (nI t + M 7 t), (lv (lv (lv (lv M (n) 11) (n + 1) 10) (n + 1 + 1) 21) (n + 1 + 1 + 1) 20)) := by
  rw [body_s]
  unfold e_X0_body
  rw [if_pos (by rw [l_20, nle (by omega) (by omega)]; omega), lv_k h (by omega), cv_k, lt_k, if_neg (by decide), if_pos rfl, show nI dep + (1 : Int32) = nI (dep + 1) from nI_1 dep, A10 (d := d + 3) lv_n (by omega) ht (by omega), cb_k, N1_1 (d := d + 1) lv_n (by omega) ht (by omega) (by rw [lv_c (by omega) (by omega), lv_c (by omega) (by omega)]; exact hk), cb_k, lv_c (c := 7) (by omega) (by omega), lv_c (c := 7) (by omega) (by omega), lv_c (c := 6) (by omega) (by omega)]
theorem A11_2 (h : M 249 2 = nI n) (hn : n + 5 ≤ 16) (ht : t < 6) (hd : dep + 4 ≤ 20) (hk : M 5 t = nI 2) : f_X0_body (d + 5) 11 (nI t) (nI dep) M = some (M 6 t + ((2 : Int32) * (nI t + M 7 t)), (lv (lv (lv (lv (lv M (n) 11) (n + 1) 10) (n + 1 + 1) 24) (n + 1 + 1 + 1) 21) (n + 1 + 1 + 1 + 1) 20)) := by
  rw [body_s]
  unfold e_X0_body
  rw [if_pos (by rw [l_20, nle (by omega) (by omega)]; omega), lv_k h (by omega), cv_k, lt_k, if_neg (by decide), if_pos rfl, show nI dep + (1 : Int32) = nI (dep + 1) from nI_1 dep, A10 (d := d + 3) lv_n (by omega) ht (by omega), cb_k, N1_2 (d := d) lv_n (by omega) ht (by omega) (by rw [lv_c (by omega) (by omega), lv_c (by omega) (by omega)]; exact hk), cb_k, lv_c (c := 7) (by omega) (by omega), lv_c (c := 7) (by omega) (by omega), lv_c (c := 6) (by omega) (by omega)]
theorem A11_3 (h : M 249 2 = nI n) (hn : n + 5 ≤ 16) (ht : t < 6) (hd : dep + 4 ≤ 20) (hk : M 5 t = nI 3) : f_X0_body (d + 5) 11 (nI t) (nI dep) M = some (M 6 t + (nI t + M 7 t - (1000 : Int32)), (lv (lv (lv (lv (lv M (n) 11) (n + 1) 10) (n + 1 + 1) 22) (n + 1 + 1 + 1) 21) (n + 1 + 1 + 1 + 1) 20)) := by
  rw [body_s]
  unfold e_X0_body
  rw [if_pos (by rw [l_20, nle (by omega) (by omega)]; omega), lv_k h (by omega), cv_k, lt_k, if_neg (by decide), if_pos rfl, show nI dep + (1 : Int32) = nI (dep + 1) from nI_1 dep, A10 (d := d + 3) lv_n (by omega) ht (by omega), cb_k, N1_3 (d := d) lv_n (by omega) ht (by omega) (by rw [lv_c (by omega) (by omega), lv_c (by omega) (by omega)]; exact hk), cb_k, lv_c (c := 7) (by omega) (by omega), lv_c (c := 7) (by omega) (by omega), lv_c (c := 6) (by omega) (by omega)]
theorem A12_2 (h : M 249 2 = nI n) (hn : n + 6 ≤ 16) (ht : t < 6) (hd : dep + 5 ≤ 20) (hk : M 5 t = nI 2) : f_X0_body (d + 6) 12 (nI t) (nI dep) M = some (-(M 6 t + ((2 : Int32) * (nI t + M 7 t))), (lv (lv (lv (lv (lv (lv M (n) 12) (n + 1) 11) (n + 1 + 1) 10) (n + 1 + 1 + 1) 24) (n + 1 + 1 + 1 + 1) 21) (n + 1 + 1 + 1 + 1 + 1) 20)) := by
  rw [body_s]
  unfold e_X0_body
  rw [if_pos (by rw [l_20, nle (by omega) (by omega)]; omega), lv_k h (by omega), cv_k, lt_k, if_neg (by decide), if_neg (by decide), if_pos rfl, show nI dep + (1 : Int32) = nI (dep + 1) from nI_1 dep, A11_2 (d := d) lv_n (by omega) ht (by omega) (by rw [lv_c (by omega) (by omega)]; exact hk), cb_k, lv_c (c := 7) (by omega) (by omega), lv_c (c := 6) (by omega) (by omega)]
theorem A23_4 (h : M 249 2 = nI n) (hn : n + 4 ≤ 16) (ht : t < 6) (hd : dep + 4 ≤ 20) (hk : M 5 t = nI 4) : f_X0_body (d + 5) 23 (nI t) (nI dep) M = some (nI t - (M 6 t - (100 : Int32)), (lv (lv (lv (lv M (n) 23) (n + 1) 20) (n + 1 + 1) 13) (n + 1 + 1 + 1) 10)) := by
  rw [body_s]
  unfold e_X0_body
  rw [if_pos (by rw [l_20, nle (by omega) (by omega)]; omega), lv_k h (by omega), cv_k, lt_k, if_neg (by decide), if_neg (by decide), if_neg (by decide), if_neg (by decide), if_neg (by decide), if_neg (by decide), if_neg (by decide), if_neg (by decide), if_neg (by decide), if_neg (by decide), if_neg (by decide), if_neg (by decide), if_neg (by decide), if_pos rfl, show nI dep + (1 : Int32) = nI (dep + 1) from nI_1 dep, A20 (d := d + 3) lv_n (by omega) ht (by omega), cb_k, N0_4 (d := d + 1) lv_n (by omega) ht (by omega) (by rw [lv_c (by omega) (by omega), lv_c (by omega) (by omega)]; exact hk), cb_k, lv_c (c := 6) (by omega) (by omega), lv_c (c := 6) (by omega) (by omega)]
theorem A23_5 (h : M 249 2 = nI n) (hn : n + 5 ≤ 16) (ht : t < 6) (hd : dep + 4 ≤ 20) (hk : M 5 t = nI 5) : f_X0_body (d + 5) 23 (nI t) (nI dep) M = some (nI t - ((2 : Int32) * (M 6 t - (100 : Int32))), (lv (lv (lv (lv (lv M (n) 23) (n + 1) 20) (n + 1 + 1) 14) (n + 1 + 1 + 1) 13) (n + 1 + 1 + 1 + 1) 10)) := by
  rw [body_s]
  unfold e_X0_body
  rw [if_pos (by rw [l_20, nle (by omega) (by omega)]; omega), lv_k h (by omega), cv_k, lt_k, if_neg (by decide), if_neg (by decide), if_neg (by decide), if_neg (by decide), if_neg (by decide), if_neg (by decide), if_neg (by decide), if_neg (by decide), if_neg (by decide), if_neg (by decide), if_neg (by decide), if_neg (by decide), if_neg (by decide), if_pos rfl, show nI dep + (1 : Int32) = nI (dep + 1) from nI_1 dep, A20 (d := d + 3) lv_n (by omega) ht (by omega), cb_k, N0_5 (d := d) lv_n (by omega) ht (by omega) (by rw [lv_c (by omega) (by omega), lv_c (by omega) (by omega)]; exact hk), cb_k, lv_c (c := 6) (by omega) (by omega), lv_c (c := 6) (by omega) (by omega)]
theorem N0_1 (h : M 249 2 = nI n) (hn : n + 4 ≤ 16) (ht : t < 6) (hd : dep + 5 ≤ 20) (hk : M 5 t = nI 1) : f_X0_answer (d + 6) 0 (nI t) (nI dep) M = some (M 6 t + (nI t + M 7 t), (lv (lv (lv (lv M (n) 11) (n + 1) 10) (n + 1 + 1) 21) (n + 1 + 1 + 1) 20)) := by
  rw [answer_s]
  unfold e_X0_answer f_X0_answer_31
  rw [nI_ck ht (by decide), nI_cl (by omega), show M (3 + 2) t = nI 1 from hk, lt_k, if_pos rfl, nI_ck (by decide) (by decide), nI_cl (by decide), show nI dep + (1 : Int32) = nI (dep + 1) from nI_1 dep, show tb2 1 = 11 from rfl, A11_1 h (by omega) ht (by omega) hk, cb_k]
theorem N0_2 (h : M 249 2 = nI n) (hn : n + 6 ≤ 16) (ht : t < 6) (hd : dep + 6 ≤ 20) (hk : M 5 t = nI 2) : f_X0_answer (d + 7) 0 (nI t) (nI dep) M = some (-(M 6 t + ((2 : Int32) * (nI t + M 7 t))), (lv (lv (lv (lv (lv (lv M (n) 12) (n + 1) 11) (n + 1 + 1) 10) (n + 1 + 1 + 1) 24) (n + 1 + 1 + 1 + 1) 21) (n + 1 + 1 + 1 + 1 + 1) 20)) := by
  rw [answer_s]
  unfold e_X0_answer f_X0_answer_31
  rw [nI_ck ht (by decide), nI_cl (by omega), show M (3 + 2) t = nI 2 from hk, lt_k, if_pos rfl, nI_ck (by decide) (by decide), nI_cl (by decide), show nI dep + (1 : Int32) = nI (dep + 1) from nI_1 dep, show tb2 2 = 12 from rfl, A12_2 h (by omega) ht (by omega) hk, cb_k]
theorem N0_3 (h : M 249 2 = nI n) (hn : n + 5 ≤ 16) (ht : t < 6) (hd : dep + 5 ≤ 20) (hk : M 5 t = nI 3) : f_X0_answer (d + 6) 0 (nI t) (nI dep) M = some (M 6 t + (nI t + M 7 t - (1000 : Int32)), (lv (lv (lv (lv (lv M (n) 11) (n + 1) 10) (n + 1 + 1) 22) (n + 1 + 1 + 1) 21) (n + 1 + 1 + 1 + 1) 20)) := by
  rw [answer_s]
  unfold e_X0_answer f_X0_answer_31
  rw [nI_ck ht (by decide), nI_cl (by omega), show M (3 + 2) t = nI 3 from hk, lt_k, if_pos rfl, nI_ck (by decide) (by decide), nI_cl (by decide), show nI dep + (1 : Int32) = nI (dep + 1) from nI_1 dep, show tb2 3 = 11 from rfl, A11_3 h (by omega) ht (by omega) hk, cb_k]
theorem N1_4 (h : M 249 2 = nI n) (hn : n + 4 ≤ 16) (ht : t < 6) (hd : dep + 5 ≤ 20) (hk : M 5 t = nI 4) : f_X0_answer (d + 6) 1 (nI t) (nI dep) M = some (nI t - (M 6 t - (100 : Int32)), (lv (lv (lv (lv M (n) 23) (n + 1) 20) (n + 1 + 1) 13) (n + 1 + 1 + 1) 10)) := by
  rw [answer_s]
  unfold e_X0_answer f_X0_answer_31
  rw [nI_ck ht (by decide), nI_cl (by omega), show M (3 + 2) t = nI 4 from hk, lt_k, if_neg (by decide), nI_ck (by decide) (by decide), nI_cl (by decide), show nI dep + (1 : Int32) = nI (dep + 1) from nI_1 dep, show tb3 4 = 23 from rfl, A23_4 h (by omega) ht (by omega) hk, cb_k]
theorem N1_5 (h : M 249 2 = nI n) (hn : n + 5 ≤ 16) (ht : t < 6) (hd : dep + 5 ≤ 20) (hk : M 5 t = nI 5) : f_X0_answer (d + 6) 1 (nI t) (nI dep) M = some (nI t - ((2 : Int32) * (M 6 t - (100 : Int32))), (lv (lv (lv (lv (lv M (n) 23) (n + 1) 20) (n + 1 + 1) 14) (n + 1 + 1 + 1) 13) (n + 1 + 1 + 1 + 1) 10)) := by
  rw [answer_s]
  unfold e_X0_answer f_X0_answer_31
  rw [nI_ck ht (by decide), nI_cl (by omega), show M (3 + 2) t = nI 5 from hk, lt_k, if_neg (by decide), nI_ck (by decide) (by decide), nI_cl (by decide), show nI dep + (1 : Int32) = nI (dep + 1) from nI_1 dep, show tb3 5 = 23 from rfl, A23_5 h (by omega) ht (by omega) hk, cb_k]
theorem B10 (h : M 279 17 = nI n) (hn : n + 1 ≤ 16) (ht : t < 6) : f_X7_size10 (nI t) M = some (M 280 (12 + t), (lvm M (n) 10)) := by
  unfold f_X7_size10
  rw [lvm_k h (by omega), cv_k, l_12, nI_add, nI_ck (by omega) (by decide), nI_cl (by omega), lvm_c (c := 280) (by omega) (by omega)]
theorem B20 (h : M 279 17 = nI n) (hn : n + 1 ≤ 16) (ht : t < 6) : f_X7_mark20 (nI t) M = some (nI t, (lvm M (n) 20)) := by
  unfold f_X7_mark20
  rw [lvm_k h (by omega), cv_k]
theorem B21 (h : M 279 17 = nI n) (hn : n + 2 ≤ 16) (ht : t < 6) : f_X7_mark21 (nI t) M = some (nI t + M 280 (18 + t), (lvm (lvm M (n) 21) (n + 1) 20)) := by
  unfold f_X7_mark21
  rw [lvm_k h (by omega), cv_k, B20 lvm_n (by omega) ht, cb_k, l_18, nI_add, nI_ck (by omega) (by decide), nI_cl (by omega), lvm_c (c := 280) (by omega) (by omega), lvm_c (c := 280) (by omega) (by omega)]
theorem Bm1 (h : M 279 17 = nI n) (hn : n + 2 ≤ 16) (ht : t < 6) (hk : M 280 (6 + t) = nI 1) : f_X7_markOf (nI t) M = some (nI t + M 280 (18 + t), (lvm (lvm M (n) 21) (n + 1) 20)) := by
  unfold f_X7_markOf
  rw [l_6, nI_add, nI_ck (by omega) (by decide), nI_cl (by omega), hk, lt_k, if_neg (by decide), if_neg (by decide), B21 h (by omega) ht, cb_k]
theorem Bm2 (h : M 279 17 = nI n) (hn : n + 3 ≤ 16) (ht : t < 6) (hk : M 280 (6 + t) = nI 2) : f_X7_markOf (nI t) M = some ((2 : Int32) * (nI t + M 280 (18 + t)), (lvm (lvm (lvm M (n) 24) (n + 1) 21) (n + 1 + 1) 20)) := by
  unfold f_X7_markOf
  rw [l_6, nI_add, nI_ck (by omega) (by decide), nI_cl (by omega), hk, lt_k, if_pos z2, lvm_k h (by omega), cv_k, B21 lvm_n (by omega) ht, cb_k, lvm_c (c := 280) (by omega) (by omega)]
theorem Bm3 (h : M 279 17 = nI n) (hn : n + 3 ≤ 16) (ht : t < 6) (hk : M 280 (6 + t) = nI 3) : f_X7_markOf (nI t) M = some (nI t + M 280 (18 + t) - (1000 : Int32), (lvm (lvm (lvm M (n) 22) (n + 1) 21) (n + 1 + 1) 20)) := by
  unfold f_X7_markOf
  rw [l_6, nI_add, nI_ck (by omega) (by decide), nI_cl (by omega), hk, lt_k, if_neg (by decide), if_pos z3, lvm_k h (by omega), cv_k, B21 lvm_n (by omega) ht, cb_k, lvm_c (c := 280) (by omega) (by omega)]
theorem B11_1 (h : M 279 17 = nI n) (hn : n + 4 ≤ 16) (ht : t < 6) (hk : M 280 (6 + t) = nI 1) : f_X7_size11 (nI t) M = some (M 280 (12 + t) + (nI t + M 280 (18 + t)), (lvm (lvm (lvm (lvm M (n) 11) (n + 1) 10) (n + 1 + 1) 21) (n + 1 + 1 + 1) 20)) := by
  unfold f_X7_size11
  rw [lvm_k h (by omega), cv_k, B10 lvm_n (by omega) ht, cb_k, Bm1 lvm_n (by omega) ht (by rw [lvm_c (by omega) (by omega), lvm_c (by omega) (by omega)]; exact hk), cb_k, lvm_c (c := 280) (by omega) (by omega), lvm_c (c := 280) (by omega) (by omega), lvm_c (c := 280) (by omega) (by omega)]
theorem B11_2 (h : M 279 17 = nI n) (hn : n + 5 ≤ 16) (ht : t < 6) (hk : M 280 (6 + t) = nI 2) : f_X7_size11 (nI t) M = some (M 280 (12 + t) + ((2 : Int32) * (nI t + M 280 (18 + t))), (lvm (lvm (lvm (lvm (lvm M (n) 11) (n + 1) 10) (n + 1 + 1) 24) (n + 1 + 1 + 1) 21) (n + 1 + 1 + 1 + 1) 20)) := by
  unfold f_X7_size11
  rw [lvm_k h (by omega), cv_k, B10 lvm_n (by omega) ht, cb_k, Bm2 lvm_n (by omega) ht (by rw [lvm_c (by omega) (by omega), lvm_c (by omega) (by omega)]; exact hk), cb_k, lvm_c (c := 280) (by omega) (by omega), lvm_c (c := 280) (by omega) (by omega), lvm_c (c := 280) (by omega) (by omega)]
theorem B11_3 (h : M 279 17 = nI n) (hn : n + 5 ≤ 16) (ht : t < 6) (hk : M 280 (6 + t) = nI 3) : f_X7_size11 (nI t) M = some (M 280 (12 + t) + (nI t + M 280 (18 + t) - (1000 : Int32)), (lvm (lvm (lvm (lvm (lvm M (n) 11) (n + 1) 10) (n + 1 + 1) 22) (n + 1 + 1 + 1) 21) (n + 1 + 1 + 1 + 1) 20)) := by
  unfold f_X7_size11
  rw [lvm_k h (by omega), cv_k, B10 lvm_n (by omega) ht, cb_k, Bm3 lvm_n (by omega) ht (by rw [lvm_c (by omega) (by omega), lvm_c (by omega) (by omega)]; exact hk), cb_k, lvm_c (c := 280) (by omega) (by omega), lvm_c (c := 280) (by omega) (by omega), lvm_c (c := 280) (by omega) (by omega)]
theorem B13 (h : M 279 17 = nI n) (hn : n + 2 ≤ 16) (ht : t < 6) : f_X7_size13 (nI t) M = some (M 280 (12 + t) - (100 : Int32), (lvm (lvm M (n) 13) (n + 1) 10)) := by
  unfold f_X7_size13
  rw [lvm_k h (by omega), cv_k, B10 lvm_n (by omega) ht, cb_k, lvm_c (c := 280) (by omega) (by omega)]
theorem Bs1 (h : M 279 17 = nI n) (hn : n + 4 ≤ 16) (ht : t < 6) (hk : M 280 (6 + t) = nI 1) : f_X7_sizeOf (nI t) M = some (M 280 (12 + t) + (nI t + M 280 (18 + t)), (lvm (lvm (lvm (lvm M (n) 11) (n + 1) 10) (n + 1 + 1) 21) (n + 1 + 1 + 1) 20)) := by
  unfold f_X7_sizeOf
  unfold f_X7_sizeOf_73
  rw [l_6, nI_add, nI_ck (by omega) (by decide), nI_cl (by omega), hk, lt_k, if_neg (by decide), if_neg (by decide), if_neg (by decide), if_neg (by decide), B11_1 h (by omega) ht hk, cb_k]
theorem Bs2 (h : M 279 17 = nI n) (hn : n + 6 ≤ 16) (ht : t < 6) (hk : M 280 (6 + t) = nI 2) : f_X7_sizeOf (nI t) M = some (-(M 280 (12 + t) + ((2 : Int32) * (nI t + M 280 (18 + t)))), (lvm (lvm (lvm (lvm (lvm (lvm M (n) 12) (n + 1) 11) (n + 1 + 1) 10) (n + 1 + 1 + 1) 24) (n + 1 + 1 + 1 + 1) 21) (n + 1 + 1 + 1 + 1 + 1) 20)) := by
  unfold f_X7_sizeOf
  rw [l_6, nI_add, nI_ck (by omega) (by decide), nI_cl (by omega), hk, lt_k, if_pos z2, lvm_k h (by omega), cv_k, B11_2 lvm_n (by omega) ht (by rw [lvm_c (by omega) (by omega)]; exact hk), cb_k, lvm_c (c := 280) (by omega) (by omega)]
theorem Bs3 (h : M 279 17 = nI n) (hn : n + 5 ≤ 16) (ht : t < 6) (hk : M 280 (6 + t) = nI 3) : f_X7_sizeOf (nI t) M = some (M 280 (12 + t) + (nI t + M 280 (18 + t) - (1000 : Int32)), (lvm (lvm (lvm (lvm (lvm M (n) 11) (n + 1) 10) (n + 1 + 1) 22) (n + 1 + 1 + 1) 21) (n + 1 + 1 + 1 + 1) 20)) := by
  unfold f_X7_sizeOf
  unfold f_X7_sizeOf_73
  rw [l_6, nI_add, nI_ck (by omega) (by decide), nI_cl (by omega), hk, lt_k, if_neg (by decide), if_pos z3, B11_3 h (by omega) ht hk, cb_k]
theorem Bs4 (h : M 279 17 = nI n) (hn : n + 2 ≤ 16) (ht : t < 6) (hk : M 280 (6 + t) = nI 4) : f_X7_sizeOf (nI t) M = some (M 280 (12 + t) - (100 : Int32), (lvm (lvm M (n) 13) (n + 1) 10)) := by
  unfold f_X7_sizeOf
  rw [l_6, nI_add, nI_ck (by omega) (by decide), nI_cl (by omega), hk, lt_k, if_neg (by decide), if_neg (by decide), if_pos (show nI 4 = (4 : Int32) from rfl), B13 h (by omega) ht, cb_k]
theorem Bs5 (h : M 279 17 = nI n) (hn : n + 3 ≤ 16) (ht : t < 6) (hk : M 280 (6 + t) = nI 5) : f_X7_sizeOf (nI t) M = some ((2 : Int32) * (M 280 (12 + t) - (100 : Int32)), (lvm (lvm (lvm M (n) 14) (n + 1) 13) (n + 1 + 1) 10)) := by
  unfold f_X7_sizeOf
  rw [l_6, nI_add, nI_ck (by omega) (by decide), nI_cl (by omega), hk, lt_k, if_neg (by decide), if_neg (by decide), if_neg (by decide), if_pos (show nI 5 = (5 : Int32) from rfl), lvm_k h (by omega), cv_k, B13 lvm_n (by omega) ht, cb_k, lvm_c (c := 280) (by omega) (by omega)]
theorem B23_4 (h : M 279 17 = nI n) (hn : n + 4 ≤ 16) (ht : t < 6) (hk : M 280 (6 + t) = nI 4) : f_X7_mark23 (nI t) M = some (nI t - (M 280 (12 + t) - (100 : Int32)), (lvm (lvm (lvm (lvm M (n) 23) (n + 1) 20) (n + 1 + 1) 13) (n + 1 + 1 + 1) 10)) := by
  unfold f_X7_mark23
  rw [lvm_k h (by omega), cv_k, B20 lvm_n (by omega) ht, cb_k, Bs4 lvm_n (by omega) ht (by rw [lvm_c (by omega) (by omega), lvm_c (by omega) (by omega)]; exact hk), cb_k, lvm_c (c := 280) (by omega) (by omega), lvm_c (c := 280) (by omega) (by omega)]
theorem B23_5 (h : M 279 17 = nI n) (hn : n + 5 ≤ 16) (ht : t < 6) (hk : M 280 (6 + t) = nI 5) : f_X7_mark23 (nI t) M = some (nI t - ((2 : Int32) * (M 280 (12 + t) - (100 : Int32))), (lvm (lvm (lvm (lvm (lvm M (n) 23) (n + 1) 20) (n + 1 + 1) 14) (n + 1 + 1 + 1) 13) (n + 1 + 1 + 1 + 1) 10)) := by
  unfold f_X7_mark23
  rw [lvm_k h (by omega), cv_k, B20 lvm_n (by omega) ht, cb_k, Bs5 lvm_n (by omega) ht (by rw [lvm_c (by omega) (by omega), lvm_c (by omega) (by omega)]; exact hk), cb_k, lvm_c (c := 280) (by omega) (by omega), lvm_c (c := 280) (by omega) (by omega)]
end ASK
theorem Inv.trace {M M' : Mem} {tn : Nat} (h : Inv M) (E : ∀ c, c ≠ 249 → c ≠ 250 → c ≠ 279 → c ≠ 289 → M' c = M c) (E9 : ∀ j, j ≠ 17 → M' 279 j = M 279 j) (h7 : I7 M' tn) : Inv M' := by
  obtain ⟨b, im, H, hn, nt, tl, tn', h1, h2, h3, h4, h5, h6, _⟩ := h
  exact ⟨b, im, H, hn, nt, tl, tn, h1.k (fun c _ _ => E c (by omega) (by omega) (by omega) (by omega)) (fun j _ => by rw [E 280 (by omega) (by omega) (by omega) (by omega)]), h2.k (fun c _ => E c (by omega) (by omega) (by omega) (by omega)) (fun j _ _ => by rw [E 280 (by omega) (by omega) (by omega) (by omega)]), h3.k (fun c _ => E c (by omega) (by omega) (by omega) (by omega)) (fun j _ => by rw [E 280 (by omega) (by omega) (by omega) (by omega)]) (E9 1 (by omega)), h4.k (fun c _ => E c (by omega) (by omega) (by omega) (by omega)), h5.k (E 16 (by omega) (by omega) (by omega) (by omega)) (E 281 (by omega) (by omega) (by omega) (by omega)) (by rw [E 15 (by omega) (by omega) (by omega) (by omega)]) (E9 3 (by omega)), h6.k (E 0 (by omega) (by omega) (by omega) (by omega)) (E9 4 (by omega)) (E9 5 (by omega)), h7⟩
theorem Sim_ask (x y : Int32) : Sim (f_X6_ask x y) (f_X7_ask x y) := by
  intro M h
  obtain ⟨b, im, H, hn, nt, tl, tn, h1, h2, h3, h4, h5, h6, h7⟩ := id h
  have hl := h1.2.2.lt
  rcases tooth_cases x (n := b 0) (by omega) with ⟨ga0, gb0⟩ | ⟨t, ht, rfl, ga0, gb0⟩
  · exact ⟨_, M, M, by unfold f_X6_ask; rw [ga0 M h1.1.teeth, cb_k, if_pos rfl], by unfold f_X7_ask; rw [gb0 M h1.2.1.f0, cb_k, if_pos rfl], h⟩
  rcases W_cases y (lo := 0) (hi := 1) (a := (0 : Int32)) (b := (1 : Int32)) (a' := (0 : Int64)) (b' := (1 : Int64)) rfl rfl (by decide) (by decide) (by decide) (by decide) with ⟨ga1, gb1⟩ | ⟨k, lk, hk, rfl, ga1, gb1⟩
  · exact ⟨_, M, M, by unfold f_X6_ask; rw [ga0 M h1.1.teeth, cb_k, if_neg (by decide), ga1 M, cb_k, if_pos rfl], by unfold f_X7_ask; rw [gb0 M h1.2.1.f0, cb_k, if_neg (by decide), gb1 M, cb_k, if_pos rfl], h⟩
  obtain ⟨w, _⟩ := h1.2.2.wf (by omega)
  have ht6 : t < 6 := by omega
  obtain ⟨⟨k1, k5⟩, _⟩ := w.2.2.2.2.2.1 t ht
  have ek : M 5 t = nI (b (6 + t)) := h1.1.kind ht
  have sk : M 280 (6 + t) = nI (b (6 + t)) := h1.2.1.zJ (by unfold rel; omega)
  have e6 : M 6 t = M 280 (12 + t) := by rw [show M 6 t = nI (b (12 + t)) from h1.1.tuned ht, h1.2.1.zJ (k := 12 + t) (by unfold rel; omega)]
  have e7 : M 7 t = M 280 (18 + t) := by rw [show M 7 t = nI (b (18 + t)) from h1.1.rings ht, h1.2.1.zJ (k := 18 + t) (by unfold rel; omega)]
  have cM : up2 M 249 2 0 249 2 = nI 0 := up2_s _ _ _ _
  have c5 : up2 M 249 2 0 5 t = nI (b (6 + t)) := by rw [up2_c (by omega)]; exact ek
  have c6 : up2 M 249 2 0 6 t = M 280 (12 + t) := by rw [up2_c (by omega)]; exact e6
  have c7 : up2 M 249 2 0 7 t = M 280 (18 + t) := by rw [up2_c (by omega)]; exact e7
  have hK : ∀ v Mc, f_X0_answer 24 (nI k) (nI t) 0 (up2 M 249 2 0) = some (v, Mc) → f_X6_ask (nI t) (nI k) M = some (v, Mc) := by
    intro v Mc e
    unfold f_X6_ask f_X0_start
    rw [ga0 M h1.1.teeth, cb_k, if_neg (by decide), ga1 M, cb_k, if_neg (by decide), cb_id, lt_k, e, cb_k]
  rcases (show k = 0 ∨ k = 1 by omega) with rfl | rfl
  · rcases (show b (6 + t) = 1 ∨ b (6 + t) = 2 ∨ b (6 + t) = 3 ∨ b (6 + t) = 4 ∨ b (6 + t) = 5 by omega) with q | q | q | q | q
    · rw [q] at ek sk c5
      have eC := N0_1 (d := 18) (dep := 0) (n := 0) cM (by omega) ht6 (by omega) c5
      rw [c6, c7] at eC
      obtain ⟨Mc, hMc⟩ : ∃ Mc, Mc = (lv (lv (lv (lv (up2 M 249 2 0) (0) 11) (0 + 1) 10) (0 + 1 + 1) 21) (0 + 1 + 1 + 1) 20) := ⟨_, rfl⟩
      rw [← hMc] at eC
      have fc : ∀ c, c ≠ 249 → c ≠ 250 → Mc c = M c := fun c a1 a2 => by rw [hMc]; rw [lv_c a1 a2]; rw [lv_c a1 a2]; rw [lv_c a1 a2]; rw [lv_c a1 a2]; rw [up2_c a1]
      have sM : Mc 280 (6 + t) = nI 1 := by rw [fc 280 (by omega) (by omega)]; exact sk
      have eM := Bs1 (M := up2 Mc 279 17 0) (n := 0) (t := t) (up2_s _ _ _ _) (by omega) ht6 (by rw [up2_c (by omega)]; exact sM)
      rw [up2_c (c := 280) (by omega), fc 280 (by omega) (by omega)] at eM
      have s : isS Mc 0 b := h1.2.1.kept (fun j _ _ => by rw [fc 280 (by omega) (by omega)])
      refine ⟨_, Mc, _, hK _ _ eC, ?_, h.trace (M' := (lvm (lvm (lvm (lvm (up2 Mc 279 17 0) (0) 11) (0 + 1) 10) (0 + 1 + 1) 21) (0 + 1 + 1 + 1) 20)) (tn := 4) (fun c a1 a2 a3 a4 => ?_) (fun j hj => ?_) ⟨by omega, ?_, ?_, fun j hj => ?_⟩⟩
      · unfold f_X7_ask
        rw [gb0 Mc s.f0, cb_k, if_neg (by decide), gb1 Mc, cb_k, if_neg (by decide), lt_k, if_pos z0, eM, cb_k]
      · rw [lvm_c a3 a4]; rw [lvm_c a3 a4]; rw [lvm_c a3 a4]; rw [lvm_c a3 a4]; rw [up2_c a3, fc c a1 a2]
      · unfold lvm
        simp (disch := omega) only [up2_n]
        rw [fc 279 (by omega) (by omega)]
      · rw [lvm_c (by omega) (by omega)]; rw [lvm_c (by omega) (by omega)]; rw [lvm_c (by omega) (by omega)]; rw [lvm_c (by omega) (by omega)]; rw [up2_c (by omega), hMc]; exact lv_n
      · exact lvm_n
      · rw [hMc]
        rcases (show j = 0 ∨ j = 1 ∨ j = 2 ∨ j = 3 by omega) with rfl | rfl | rfl | rfl
        · simp (disch := omega) only [Nat.reduceAdd, lvm_c, lv_s, lv_o, lvm_s, lvm_o, up2_c]
        · simp (disch := omega) only [Nat.reduceAdd, lvm_c, lv_s, lv_o, lvm_s, lvm_o, up2_c]
        · simp (disch := omega) only [Nat.reduceAdd, lvm_c, lv_s, lv_o, lvm_s, lvm_o, up2_c]
        · simp (disch := omega) only [Nat.reduceAdd, lvm_c, lv_s, lv_o, lvm_s, lvm_o, up2_c]
    · rw [q] at ek sk c5
      have eC := N0_2 (d := 17) (dep := 0) (n := 0) cM (by omega) ht6 (by omega) c5
      rw [c6, c7] at eC
      obtain ⟨Mc, hMc⟩ : ∃ Mc, Mc = (lv (lv (lv (lv (lv (lv (up2 M 249 2 0) (0) 12) (0 + 1) 11) (0 + 1 + 1) 10) (0 + 1 + 1 + 1) 24) (0 + 1 + 1 + 1 + 1) 21) (0 + 1 + 1 + 1 + 1 + 1) 20) := ⟨_, rfl⟩
      rw [← hMc] at eC
      have fc : ∀ c, c ≠ 249 → c ≠ 250 → Mc c = M c := fun c a1 a2 => by rw [hMc]; rw [lv_c a1 a2]; rw [lv_c a1 a2]; rw [lv_c a1 a2]; rw [lv_c a1 a2]; rw [lv_c a1 a2]; rw [lv_c a1 a2]; rw [up2_c a1]
      have sM : Mc 280 (6 + t) = nI 2 := by rw [fc 280 (by omega) (by omega)]; exact sk
      have eM := Bs2 (M := up2 Mc 279 17 0) (n := 0) (t := t) (up2_s _ _ _ _) (by omega) ht6 (by rw [up2_c (by omega)]; exact sM)
      rw [up2_c (c := 280) (by omega), fc 280 (by omega) (by omega)] at eM
      have s : isS Mc 0 b := h1.2.1.kept (fun j _ _ => by rw [fc 280 (by omega) (by omega)])
      refine ⟨_, Mc, _, hK _ _ eC, ?_, h.trace (M' := (lvm (lvm (lvm (lvm (lvm (lvm (up2 Mc 279 17 0) (0) 12) (0 + 1) 11) (0 + 1 + 1) 10) (0 + 1 + 1 + 1) 24) (0 + 1 + 1 + 1 + 1) 21) (0 + 1 + 1 + 1 + 1 + 1) 20)) (tn := 6) (fun c a1 a2 a3 a4 => ?_) (fun j hj => ?_) ⟨by omega, ?_, ?_, fun j hj => ?_⟩⟩
      · unfold f_X7_ask
        rw [gb0 Mc s.f0, cb_k, if_neg (by decide), gb1 Mc, cb_k, if_neg (by decide), lt_k, if_pos z0, eM, cb_k]
      · rw [lvm_c a3 a4]; rw [lvm_c a3 a4]; rw [lvm_c a3 a4]; rw [lvm_c a3 a4]; rw [lvm_c a3 a4]; rw [lvm_c a3 a4]; rw [up2_c a3, fc c a1 a2]
      · unfold lvm
        simp (disch := omega) only [up2_n]
        rw [fc 279 (by omega) (by omega)]
      · rw [lvm_c (by omega) (by omega)]; rw [lvm_c (by omega) (by omega)]; rw [lvm_c (by omega) (by omega)]; rw [lvm_c (by omega) (by omega)]; rw [lvm_c (by omega) (by omega)]; rw [lvm_c (by omega) (by omega)]; rw [up2_c (by omega), hMc]; exact lv_n
      · exact lvm_n
      · rw [hMc]
        rcases (show j = 0 ∨ j = 1 ∨ j = 2 ∨ j = 3 ∨ j = 4 ∨ j = 5 by omega) with rfl | rfl | rfl | rfl | rfl | rfl
        · simp (disch := omega) only [Nat.reduceAdd, lvm_c, lv_s, lv_o, lvm_s, lvm_o, up2_c]
        · simp (disch := omega) only [Nat.reduceAdd, lvm_c, lv_s, lv_o, lvm_s, lvm_o, up2_c]
        · simp (disch := omega) only [Nat.reduceAdd, lvm_c, lv_s, lv_o, lvm_s, lvm_o, up2_c]
        · simp (disch := omega) only [Nat.reduceAdd, lvm_c, lv_s, lv_o, lvm_s, lvm_o, up2_c]
        · simp (disch := omega) only [Nat.reduceAdd, lvm_c, lv_s, lv_o, lvm_s, lvm_o, up2_c]
        · simp (disch := omega) only [Nat.reduceAdd, lvm_c, lv_s, lv_o, lvm_s, lvm_o, up2_c]
    · rw [q] at ek sk c5
      have eC := N0_3 (d := 18) (dep := 0) (n := 0) cM (by omega) ht6 (by omega) c5
      rw [c6, c7] at eC
      obtain ⟨Mc, hMc⟩ : ∃ Mc, Mc = (lv (lv (lv (lv (lv (up2 M 249 2 0) (0) 11) (0 + 1) 10) (0 + 1 + 1) 22) (0 + 1 + 1 + 1) 21) (0 + 1 + 1 + 1 + 1) 20) := ⟨_, rfl⟩
      rw [← hMc] at eC
      have fc : ∀ c, c ≠ 249 → c ≠ 250 → Mc c = M c := fun c a1 a2 => by rw [hMc]; rw [lv_c a1 a2]; rw [lv_c a1 a2]; rw [lv_c a1 a2]; rw [lv_c a1 a2]; rw [lv_c a1 a2]; rw [up2_c a1]
      have sM : Mc 280 (6 + t) = nI 3 := by rw [fc 280 (by omega) (by omega)]; exact sk
      have eM := Bs3 (M := up2 Mc 279 17 0) (n := 0) (t := t) (up2_s _ _ _ _) (by omega) ht6 (by rw [up2_c (by omega)]; exact sM)
      rw [up2_c (c := 280) (by omega), fc 280 (by omega) (by omega)] at eM
      have s : isS Mc 0 b := h1.2.1.kept (fun j _ _ => by rw [fc 280 (by omega) (by omega)])
      refine ⟨_, Mc, _, hK _ _ eC, ?_, h.trace (M' := (lvm (lvm (lvm (lvm (lvm (up2 Mc 279 17 0) (0) 11) (0 + 1) 10) (0 + 1 + 1) 22) (0 + 1 + 1 + 1) 21) (0 + 1 + 1 + 1 + 1) 20)) (tn := 5) (fun c a1 a2 a3 a4 => ?_) (fun j hj => ?_) ⟨by omega, ?_, ?_, fun j hj => ?_⟩⟩
      · unfold f_X7_ask
        rw [gb0 Mc s.f0, cb_k, if_neg (by decide), gb1 Mc, cb_k, if_neg (by decide), lt_k, if_pos z0, eM, cb_k]
      · rw [lvm_c a3 a4]; rw [lvm_c a3 a4]; rw [lvm_c a3 a4]; rw [lvm_c a3 a4]; rw [lvm_c a3 a4]; rw [up2_c a3, fc c a1 a2]
      · unfold lvm
        simp (disch := omega) only [up2_n]
        rw [fc 279 (by omega) (by omega)]
      · rw [lvm_c (by omega) (by omega)]; rw [lvm_c (by omega) (by omega)]; rw [lvm_c (by omega) (by omega)]; rw [lvm_c (by omega) (by omega)]; rw [lvm_c (by omega) (by omega)]; rw [up2_c (by omega), hMc]; exact lv_n
      · exact lvm_n
      · rw [hMc]
        rcases (show j = 0 ∨ j = 1 ∨ j = 2 ∨ j = 3 ∨ j = 4 by omega) with rfl | rfl | rfl | rfl | rfl
        · simp (disch := omega) only [Nat.reduceAdd, lvm_c, lv_s, lv_o, lvm_s, lvm_o, up2_c]
        · simp (disch := omega) only [Nat.reduceAdd, lvm_c, lv_s, lv_o, lvm_s, lvm_o, up2_c]
        · simp (disch := omega) only [Nat.reduceAdd, lvm_c, lv_s, lv_o, lvm_s, lvm_o, up2_c]
        · simp (disch := omega) only [Nat.reduceAdd, lvm_c, lv_s, lv_o, lvm_s, lvm_o, up2_c]
        · simp (disch := omega) only [Nat.reduceAdd, lvm_c, lv_s, lv_o, lvm_s, lvm_o, up2_c]
    · rw [q] at ek sk c5
      have eC := N0_4 (d := 21) (dep := 0) (n := 0) cM (by omega) ht6 (by omega) c5
      rw [c6] at eC
      obtain ⟨Mc, hMc⟩ : ∃ Mc, Mc = (lv (lv (up2 M 249 2 0) (0) 13) (0 + 1) 10) := ⟨_, rfl⟩
      rw [← hMc] at eC
      have fc : ∀ c, c ≠ 249 → c ≠ 250 → Mc c = M c := fun c a1 a2 => by rw [hMc]; rw [lv_c a1 a2]; rw [lv_c a1 a2]; rw [up2_c a1]
      have sM : Mc 280 (6 + t) = nI 4 := by rw [fc 280 (by omega) (by omega)]; exact sk
      have eM := Bs4 (M := up2 Mc 279 17 0) (n := 0) (t := t) (up2_s _ _ _ _) (by omega) ht6 (by rw [up2_c (by omega)]; exact sM)
      rw [up2_c (c := 280) (by omega), fc 280 (by omega) (by omega)] at eM
      have s : isS Mc 0 b := h1.2.1.kept (fun j _ _ => by rw [fc 280 (by omega) (by omega)])
      refine ⟨_, Mc, _, hK _ _ eC, ?_, h.trace (M' := (lvm (lvm (up2 Mc 279 17 0) (0) 13) (0 + 1) 10)) (tn := 2) (fun c a1 a2 a3 a4 => ?_) (fun j hj => ?_) ⟨by omega, ?_, ?_, fun j hj => ?_⟩⟩
      · unfold f_X7_ask
        rw [gb0 Mc s.f0, cb_k, if_neg (by decide), gb1 Mc, cb_k, if_neg (by decide), lt_k, if_pos z0, eM, cb_k]
      · rw [lvm_c a3 a4]; rw [lvm_c a3 a4]; rw [up2_c a3, fc c a1 a2]
      · unfold lvm
        simp (disch := omega) only [up2_n]
        rw [fc 279 (by omega) (by omega)]
      · rw [lvm_c (by omega) (by omega)]; rw [lvm_c (by omega) (by omega)]; rw [up2_c (by omega), hMc]; exact lv_n
      · exact lvm_n
      · rw [hMc]
        rcases (show j = 0 ∨ j = 1 by omega) with rfl | rfl
        · simp (disch := omega) only [Nat.reduceAdd, lvm_c, lv_s, lv_o, lvm_s, lvm_o, up2_c]
        · simp (disch := omega) only [Nat.reduceAdd, lvm_c, lv_s, lv_o, lvm_s, lvm_o, up2_c]
    · rw [q] at ek sk c5
      have eC := N0_5 (d := 20) (dep := 0) (n := 0) cM (by omega) ht6 (by omega) c5
      rw [c6] at eC
      obtain ⟨Mc, hMc⟩ : ∃ Mc, Mc = (lv (lv (lv (up2 M 249 2 0) (0) 14) (0 + 1) 13) (0 + 1 + 1) 10) := ⟨_, rfl⟩
      rw [← hMc] at eC
      have fc : ∀ c, c ≠ 249 → c ≠ 250 → Mc c = M c := fun c a1 a2 => by rw [hMc]; rw [lv_c a1 a2]; rw [lv_c a1 a2]; rw [lv_c a1 a2]; rw [up2_c a1]
      have sM : Mc 280 (6 + t) = nI 5 := by rw [fc 280 (by omega) (by omega)]; exact sk
      have eM := Bs5 (M := up2 Mc 279 17 0) (n := 0) (t := t) (up2_s _ _ _ _) (by omega) ht6 (by rw [up2_c (by omega)]; exact sM)
      rw [up2_c (c := 280) (by omega), fc 280 (by omega) (by omega)] at eM
      have s : isS Mc 0 b := h1.2.1.kept (fun j _ _ => by rw [fc 280 (by omega) (by omega)])
      refine ⟨_, Mc, _, hK _ _ eC, ?_, h.trace (M' := (lvm (lvm (lvm (up2 Mc 279 17 0) (0) 14) (0 + 1) 13) (0 + 1 + 1) 10)) (tn := 3) (fun c a1 a2 a3 a4 => ?_) (fun j hj => ?_) ⟨by omega, ?_, ?_, fun j hj => ?_⟩⟩
      · unfold f_X7_ask
        rw [gb0 Mc s.f0, cb_k, if_neg (by decide), gb1 Mc, cb_k, if_neg (by decide), lt_k, if_pos z0, eM, cb_k]
      · rw [lvm_c a3 a4]; rw [lvm_c a3 a4]; rw [lvm_c a3 a4]; rw [up2_c a3, fc c a1 a2]
      · unfold lvm
        simp (disch := omega) only [up2_n]
        rw [fc 279 (by omega) (by omega)]
      · rw [lvm_c (by omega) (by omega)]; rw [lvm_c (by omega) (by omega)]; rw [lvm_c (by omega) (by omega)]; rw [up2_c (by omega), hMc]; exact lv_n
      · exact lvm_n
      · rw [hMc]
        rcases (show j = 0 ∨ j = 1 ∨ j = 2 by omega) with rfl | rfl | rfl
        · simp (disch := omega) only [Nat.reduceAdd, lvm_c, lv_s, lv_o, lvm_s, lvm_o, up2_c]
        · simp (disch := omega) only [Nat.reduceAdd, lvm_c, lv_s, lv_o, lvm_s, lvm_o, up2_c]
        · simp (disch := omega) only [Nat.reduceAdd, lvm_c, lv_s, lv_o, lvm_s, lvm_o, up2_c]
  · rcases (show b (6 + t) = 1 ∨ b (6 + t) = 2 ∨ b (6 + t) = 3 ∨ b (6 + t) = 4 ∨ b (6 + t) = 5 by omega) with q | q | q | q | q
    · rw [q] at ek sk c5
      have eC := N1_1 (d := 21) (dep := 0) (n := 0) cM (by omega) ht6 (by omega) c5
      rw [c7] at eC
      obtain ⟨Mc, hMc⟩ : ∃ Mc, Mc = (lv (lv (up2 M 249 2 0) (0) 21) (0 + 1) 20) := ⟨_, rfl⟩
      rw [← hMc] at eC
      have fc : ∀ c, c ≠ 249 → c ≠ 250 → Mc c = M c := fun c a1 a2 => by rw [hMc]; rw [lv_c a1 a2]; rw [lv_c a1 a2]; rw [up2_c a1]
      have sM : Mc 280 (6 + t) = nI 1 := by rw [fc 280 (by omega) (by omega)]; exact sk
      have eM := Bm1 (M := up2 Mc 279 17 0) (n := 0) (t := t) (up2_s _ _ _ _) (by omega) ht6 (by rw [up2_c (by omega)]; exact sM)
      rw [up2_c (c := 280) (by omega), fc 280 (by omega) (by omega)] at eM
      have s : isS Mc 0 b := h1.2.1.kept (fun j _ _ => by rw [fc 280 (by omega) (by omega)])
      refine ⟨_, Mc, _, hK _ _ eC, ?_, h.trace (M' := (lvm (lvm (up2 Mc 279 17 0) (0) 21) (0 + 1) 20)) (tn := 2) (fun c a1 a2 a3 a4 => ?_) (fun j hj => ?_) ⟨by omega, ?_, ?_, fun j hj => ?_⟩⟩
      · unfold f_X7_ask
        rw [gb0 Mc s.f0, cb_k, if_neg (by decide), gb1 Mc, cb_k, if_neg (by decide), lt_k, if_neg (by decide), l_6, nI_add, nI_ck (by omega) (by decide), nI_cl (by omega), up2_c (c := 280) (by omega), sM, if_pos (by decide), eM, cb_k]
      · rw [lvm_c a3 a4]; rw [lvm_c a3 a4]; rw [up2_c a3, fc c a1 a2]
      · unfold lvm
        simp (disch := omega) only [up2_n]
        rw [fc 279 (by omega) (by omega)]
      · rw [lvm_c (by omega) (by omega)]; rw [lvm_c (by omega) (by omega)]; rw [up2_c (by omega), hMc]; exact lv_n
      · exact lvm_n
      · rw [hMc]
        rcases (show j = 0 ∨ j = 1 by omega) with rfl | rfl
        · simp (disch := omega) only [Nat.reduceAdd, lvm_c, lv_s, lv_o, lvm_s, lvm_o, up2_c]
        · simp (disch := omega) only [Nat.reduceAdd, lvm_c, lv_s, lv_o, lvm_s, lvm_o, up2_c]
    · rw [q] at ek sk c5
      have eC := N1_2 (d := 20) (dep := 0) (n := 0) cM (by omega) ht6 (by omega) c5
      rw [c7] at eC
      obtain ⟨Mc, hMc⟩ : ∃ Mc, Mc = (lv (lv (lv (up2 M 249 2 0) (0) 24) (0 + 1) 21) (0 + 1 + 1) 20) := ⟨_, rfl⟩
      rw [← hMc] at eC
      have fc : ∀ c, c ≠ 249 → c ≠ 250 → Mc c = M c := fun c a1 a2 => by rw [hMc]; rw [lv_c a1 a2]; rw [lv_c a1 a2]; rw [lv_c a1 a2]; rw [up2_c a1]
      have sM : Mc 280 (6 + t) = nI 2 := by rw [fc 280 (by omega) (by omega)]; exact sk
      have eM := Bm2 (M := up2 Mc 279 17 0) (n := 0) (t := t) (up2_s _ _ _ _) (by omega) ht6 (by rw [up2_c (by omega)]; exact sM)
      rw [up2_c (c := 280) (by omega), fc 280 (by omega) (by omega)] at eM
      have s : isS Mc 0 b := h1.2.1.kept (fun j _ _ => by rw [fc 280 (by omega) (by omega)])
      refine ⟨_, Mc, _, hK _ _ eC, ?_, h.trace (M' := (lvm (lvm (lvm (up2 Mc 279 17 0) (0) 24) (0 + 1) 21) (0 + 1 + 1) 20)) (tn := 3) (fun c a1 a2 a3 a4 => ?_) (fun j hj => ?_) ⟨by omega, ?_, ?_, fun j hj => ?_⟩⟩
      · unfold f_X7_ask
        rw [gb0 Mc s.f0, cb_k, if_neg (by decide), gb1 Mc, cb_k, if_neg (by decide), lt_k, if_neg (by decide), l_6, nI_add, nI_ck (by omega) (by decide), nI_cl (by omega), up2_c (c := 280) (by omega), sM, if_pos (by decide), eM, cb_k]
      · rw [lvm_c a3 a4]; rw [lvm_c a3 a4]; rw [lvm_c a3 a4]; rw [up2_c a3, fc c a1 a2]
      · unfold lvm
        simp (disch := omega) only [up2_n]
        rw [fc 279 (by omega) (by omega)]
      · rw [lvm_c (by omega) (by omega)]; rw [lvm_c (by omega) (by omega)]; rw [lvm_c (by omega) (by omega)]; rw [up2_c (by omega), hMc]; exact lv_n
      · exact lvm_n
      · rw [hMc]
        rcases (show j = 0 ∨ j = 1 ∨ j = 2 by omega) with rfl | rfl | rfl
        · simp (disch := omega) only [Nat.reduceAdd, lvm_c, lv_s, lv_o, lvm_s, lvm_o, up2_c]
        · simp (disch := omega) only [Nat.reduceAdd, lvm_c, lv_s, lv_o, lvm_s, lvm_o, up2_c]
        · simp (disch := omega) only [Nat.reduceAdd, lvm_c, lv_s, lv_o, lvm_s, lvm_o, up2_c]
    · rw [q] at ek sk c5
      have eC := N1_3 (d := 20) (dep := 0) (n := 0) cM (by omega) ht6 (by omega) c5
      rw [c7] at eC
      obtain ⟨Mc, hMc⟩ : ∃ Mc, Mc = (lv (lv (lv (up2 M 249 2 0) (0) 22) (0 + 1) 21) (0 + 1 + 1) 20) := ⟨_, rfl⟩
      rw [← hMc] at eC
      have fc : ∀ c, c ≠ 249 → c ≠ 250 → Mc c = M c := fun c a1 a2 => by rw [hMc]; rw [lv_c a1 a2]; rw [lv_c a1 a2]; rw [lv_c a1 a2]; rw [up2_c a1]
      have sM : Mc 280 (6 + t) = nI 3 := by rw [fc 280 (by omega) (by omega)]; exact sk
      have eM := Bm3 (M := up2 Mc 279 17 0) (n := 0) (t := t) (up2_s _ _ _ _) (by omega) ht6 (by rw [up2_c (by omega)]; exact sM)
      rw [up2_c (c := 280) (by omega), fc 280 (by omega) (by omega)] at eM
      have s : isS Mc 0 b := h1.2.1.kept (fun j _ _ => by rw [fc 280 (by omega) (by omega)])
      refine ⟨_, Mc, _, hK _ _ eC, ?_, h.trace (M' := (lvm (lvm (lvm (up2 Mc 279 17 0) (0) 22) (0 + 1) 21) (0 + 1 + 1) 20)) (tn := 3) (fun c a1 a2 a3 a4 => ?_) (fun j hj => ?_) ⟨by omega, ?_, ?_, fun j hj => ?_⟩⟩
      · unfold f_X7_ask
        rw [gb0 Mc s.f0, cb_k, if_neg (by decide), gb1 Mc, cb_k, if_neg (by decide), lt_k, if_neg (by decide), l_6, nI_add, nI_ck (by omega) (by decide), nI_cl (by omega), up2_c (c := 280) (by omega), sM, if_pos (by decide), eM, cb_k]
      · rw [lvm_c a3 a4]; rw [lvm_c a3 a4]; rw [lvm_c a3 a4]; rw [up2_c a3, fc c a1 a2]
      · unfold lvm
        simp (disch := omega) only [up2_n]
        rw [fc 279 (by omega) (by omega)]
      · rw [lvm_c (by omega) (by omega)]; rw [lvm_c (by omega) (by omega)]; rw [lvm_c (by omega) (by omega)]; rw [up2_c (by omega), hMc]; exact lv_n
      · exact lvm_n
      · rw [hMc]
        rcases (show j = 0 ∨ j = 1 ∨ j = 2 by omega) with rfl | rfl | rfl
        · simp (disch := omega) only [Nat.reduceAdd, lvm_c, lv_s, lv_o, lvm_s, lvm_o, up2_c]
        · simp (disch := omega) only [Nat.reduceAdd, lvm_c, lv_s, lv_o, lvm_s, lvm_o, up2_c]
        · simp (disch := omega) only [Nat.reduceAdd, lvm_c, lv_s, lv_o, lvm_s, lvm_o, up2_c]
    · rw [q] at ek sk c5
      have eC := N1_4 (d := 18) (dep := 0) (n := 0) cM (by omega) ht6 (by omega) c5
      rw [c6] at eC
      obtain ⟨Mc, hMc⟩ : ∃ Mc, Mc = (lv (lv (lv (lv (up2 M 249 2 0) (0) 23) (0 + 1) 20) (0 + 1 + 1) 13) (0 + 1 + 1 + 1) 10) := ⟨_, rfl⟩
      rw [← hMc] at eC
      have fc : ∀ c, c ≠ 249 → c ≠ 250 → Mc c = M c := fun c a1 a2 => by rw [hMc]; rw [lv_c a1 a2]; rw [lv_c a1 a2]; rw [lv_c a1 a2]; rw [lv_c a1 a2]; rw [up2_c a1]
      have sM : Mc 280 (6 + t) = nI 4 := by rw [fc 280 (by omega) (by omega)]; exact sk
      have eM := B23_4 (M := up2 Mc 279 17 0) (n := 0) (t := t) (up2_s _ _ _ _) (by omega) ht6 (by rw [up2_c (by omega)]; exact sM)
      rw [up2_c (c := 280) (by omega), fc 280 (by omega) (by omega)] at eM
      have s : isS Mc 0 b := h1.2.1.kept (fun j _ _ => by rw [fc 280 (by omega) (by omega)])
      refine ⟨_, Mc, _, hK _ _ eC, ?_, h.trace (M' := (lvm (lvm (lvm (lvm (up2 Mc 279 17 0) (0) 23) (0 + 1) 20) (0 + 1 + 1) 13) (0 + 1 + 1 + 1) 10)) (tn := 4) (fun c a1 a2 a3 a4 => ?_) (fun j hj => ?_) ⟨by omega, ?_, ?_, fun j hj => ?_⟩⟩
      · unfold f_X7_ask
        rw [gb0 Mc s.f0, cb_k, if_neg (by decide), gb1 Mc, cb_k, if_neg (by decide), lt_k, if_neg (by decide), l_6, nI_add, nI_ck (by omega) (by decide), nI_cl (by omega), up2_c (c := 280) (by omega), sM, if_neg (by decide), eM, cb_k]
      · rw [lvm_c a3 a4]; rw [lvm_c a3 a4]; rw [lvm_c a3 a4]; rw [lvm_c a3 a4]; rw [up2_c a3, fc c a1 a2]
      · unfold lvm
        simp (disch := omega) only [up2_n]
        rw [fc 279 (by omega) (by omega)]
      · rw [lvm_c (by omega) (by omega)]; rw [lvm_c (by omega) (by omega)]; rw [lvm_c (by omega) (by omega)]; rw [lvm_c (by omega) (by omega)]; rw [up2_c (by omega), hMc]; exact lv_n
      · exact lvm_n
      · rw [hMc]
        rcases (show j = 0 ∨ j = 1 ∨ j = 2 ∨ j = 3 by omega) with rfl | rfl | rfl | rfl
        · simp (disch := omega) only [Nat.reduceAdd, lvm_c, lv_s, lv_o, lvm_s, lvm_o, up2_c]
        · simp (disch := omega) only [Nat.reduceAdd, lvm_c, lv_s, lv_o, lvm_s, lvm_o, up2_c]
        · simp (disch := omega) only [Nat.reduceAdd, lvm_c, lv_s, lv_o, lvm_s, lvm_o, up2_c]
        · simp (disch := omega) only [Nat.reduceAdd, lvm_c, lv_s, lv_o, lvm_s, lvm_o, up2_c]
    · rw [q] at ek sk c5
      have eC := N1_5 (d := 18) (dep := 0) (n := 0) cM (by omega) ht6 (by omega) c5
      rw [c6] at eC
      obtain ⟨Mc, hMc⟩ : ∃ Mc, Mc = (lv (lv (lv (lv (lv (up2 M 249 2 0) (0) 23) (0 + 1) 20) (0 + 1 + 1) 14) (0 + 1 + 1 + 1) 13) (0 + 1 + 1 + 1 + 1) 10) := ⟨_, rfl⟩
      rw [← hMc] at eC
      have fc : ∀ c, c ≠ 249 → c ≠ 250 → Mc c = M c := fun c a1 a2 => by rw [hMc]; rw [lv_c a1 a2]; rw [lv_c a1 a2]; rw [lv_c a1 a2]; rw [lv_c a1 a2]; rw [lv_c a1 a2]; rw [up2_c a1]
      have sM : Mc 280 (6 + t) = nI 5 := by rw [fc 280 (by omega) (by omega)]; exact sk
      have eM := B23_5 (M := up2 Mc 279 17 0) (n := 0) (t := t) (up2_s _ _ _ _) (by omega) ht6 (by rw [up2_c (by omega)]; exact sM)
      rw [up2_c (c := 280) (by omega), fc 280 (by omega) (by omega)] at eM
      have s : isS Mc 0 b := h1.2.1.kept (fun j _ _ => by rw [fc 280 (by omega) (by omega)])
      refine ⟨_, Mc, _, hK _ _ eC, ?_, h.trace (M' := (lvm (lvm (lvm (lvm (lvm (up2 Mc 279 17 0) (0) 23) (0 + 1) 20) (0 + 1 + 1) 14) (0 + 1 + 1 + 1) 13) (0 + 1 + 1 + 1 + 1) 10)) (tn := 5) (fun c a1 a2 a3 a4 => ?_) (fun j hj => ?_) ⟨by omega, ?_, ?_, fun j hj => ?_⟩⟩
      · unfold f_X7_ask
        rw [gb0 Mc s.f0, cb_k, if_neg (by decide), gb1 Mc, cb_k, if_neg (by decide), lt_k, if_neg (by decide), l_6, nI_add, nI_ck (by omega) (by decide), nI_cl (by omega), up2_c (c := 280) (by omega), sM, if_neg (by decide), eM, cb_k]
      · rw [lvm_c a3 a4]; rw [lvm_c a3 a4]; rw [lvm_c a3 a4]; rw [lvm_c a3 a4]; rw [lvm_c a3 a4]; rw [up2_c a3, fc c a1 a2]
      · unfold lvm
        simp (disch := omega) only [up2_n]
        rw [fc 279 (by omega) (by omega)]
      · rw [lvm_c (by omega) (by omega)]; rw [lvm_c (by omega) (by omega)]; rw [lvm_c (by omega) (by omega)]; rw [lvm_c (by omega) (by omega)]; rw [lvm_c (by omega) (by omega)]; rw [up2_c (by omega), hMc]; exact lv_n
      · exact lvm_n
      · rw [hMc]
        rcases (show j = 0 ∨ j = 1 ∨ j = 2 ∨ j = 3 ∨ j = 4 by omega) with rfl | rfl | rfl | rfl | rfl
        · simp (disch := omega) only [Nat.reduceAdd, lvm_c, lv_s, lv_o, lvm_s, lvm_o, up2_c]
        · simp (disch := omega) only [Nat.reduceAdd, lvm_c, lv_s, lv_o, lvm_s, lvm_o, up2_c]
        · simp (disch := omega) only [Nat.reduceAdd, lvm_c, lv_s, lv_o, lvm_s, lvm_o, up2_c]
        · simp (disch := omega) only [Nat.reduceAdd, lvm_c, lv_s, lv_o, lvm_s, lvm_o, up2_c]
        · simp (disch := omega) only [Nat.reduceAdd, lvm_c, lv_s, lv_o, lvm_s, lvm_o, up2_c]
