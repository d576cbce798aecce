/-! the class's state in numbers, and its methods' answers -/
abbrev Ce : Type := Nat → Int32
def k_r0 (M : Mm) (c : Ce) : Mm := (fun b => if b = 0 then c else M.1 b, M.2)
theorem k_r0_0 (M : Mm) (c : Ce) : (k_r0 M c).1 0 = c := rfl
theorem k_r0_n (M : Mm) (c : Ce) {b : Nat} (h : ¬ b = 0) : (k_r0 M c).1 b = M.1 b := if_neg h
theorem k_r0_2 (M : Mm) (c : Ce) : (k_r0 M c).2 = M.2 := rfl
theorem k_r0_r (M : Mm) (c d : Ce) : k_r0 (k_r0 M c) d = k_r0 M d := by
  unfold k_r0
  congr 1
  funext b
  by_cases h : b = 0 <;> simp [h]
theorem k_r0_s (M : Mm) : k_r0 M (M.1 0) = M := by
  obtain ⟨a, b⟩ := M
  unfold k_r0
  congr 1
  funext b
  by_cases h : b = 0 <;> simp [h]
theorem k_up0 (M : Mm) (j : Nat) (v : Int32) : k_up M 0 j v = k_r0 M (upd (M.1 0) j v) := by
  unfold k_r0 k_up
  congr 1
  funext b
  by_cases h : b = 0 <;> simp [h]
theorem lp_of {σ : Type} {B : Tr → Tr} (I : σ → Prop) (L : σ → Ls) (M : σ → Mm) (μ : σ → Nat) (step : ∀ (k : Tr) (s : σ), I s → (∀ s', I s' → μ s' < μ s → k (L s') [] (M s')) → B k (L s) [] (M s)) (s : σ) (h : I s) : tt_lp B (L s) [] (M s) := by
  have key : ∀ (n : Nat) (s : σ), μ s < n → I s → tt_it B n (L s) [] (M s) := by
    intro n
    induction n with
    | zero => intro s h; omega
    | succ n ih => intro s hs hi; exact step _ s hi (fun s' hi' hm => ih s' (by omega) hi')
  exact ⟨μ s + 1, key _ s (by omega) h⟩
def vC (c : Ce) (x w : Int32) : Int32 := if x < 0 ∨ 32 ≤ x ∨ w < 0 ∨ ¬ w < 10 then 0 else c (w * 32 + x).toNatClampNeg
def pC (c : Ce) (x s : Int32) : Int32 := if x < 0 ∨ 32 ≤ x ∨ s < 0 ∨ ¬ s < 4 then -1 else c (320 + s * 32 + x).toNatClampNeg
/-- an index of a row -/
theorem k_ix {x : Int32} {n : Int32} {N : Nat} (hn : n.toInt = N) (h0 : ¬ x < 0) (h1 : x < n) : ∃ j : Nat, j < N ∧ x = nI j := by
  have hN : N < 2 ^ 31 := by
    have := Int32.toInt_lt n
    omega
  obtain ⟨j, hj, rfl⟩ := nI_of h0
  refine ⟨j, ?_, rfl⟩
  have := Int32.lt_iff_toInt_lt.mp h1
  rw [nI_toInt hj, hn] at this
  omega
theorem k_ix' {x : Int32} {n : Int32} {N : Nat} (hn : n.toInt = N) (h0 : ¬ x < 0) (h1 : ¬ n ≤ x) : ∃ j : Nat, j < N ∧ x = nI j := k_ix hn h0 (Int32.not_le.mp h1)
theorem k_vin {x w : Int32} (h0 : ¬ x < 0) (h1 : ¬ 32 ≤ x) (h2 : ¬ w < 0) (h3 : w < 10) : vp_in (w * 32 + x) 459 := by
  obtain ⟨j, hj, rfl⟩ := k_ix' (N := 32) (by decide) h0 h1
  obtain ⟨k, hk, rfl⟩ := k_ix (N := 10) (by decide) h2 h3
  rw [show (32 : Int32) = nI 32 from rfl, pk_mul, nI_add]
  exact vp_in_nI (by omega) (by omega)
theorem k_pin {x s : Int32} (h0 : ¬ x < 0) (h1 : ¬ 32 ≤ x) (h2 : ¬ s < 0) (h3 : s < 4) : vp_in (320 + s * 32 + x) 459 := by
  obtain ⟨j, hj, rfl⟩ := k_ix' (N := 32) (by decide) h0 h1
  obtain ⟨k, hk, rfl⟩ := k_ix (N := 4) (by decide) h2 h3
  rw [show (32 : Int32) = nI 32 from rfl, show (320 : Int32) = nI 320 from rfl, pk_mul, nI_add, nI_add]
  exact vp_in_nI (by omega) (by omega)
def f_value (x w : Int32) (M : Mm) : Option Rs := some (.inl (some (.int (vC (M.1 0) x w)), M))
theorem p_value (ad : Nat → Nat) (x0 x1 : Int32) (M : Mm) (r : Rs) (h : f_value x0 x1 M = some r) : T_X0_value_0 ad r [some (.ref (ad 2)), some (.int x0), some (.int x1)] [] M := by
  cases h
  simp only [T_X0_value_20, T_X0_value_0, tt_c, tt_lc, tt_il, tt_ll, tt_al, tt_is, tt_lsv, tt_as, tt_inc, tt_add, tt_sub, tt_mul, tt_and, tt_ladd, tt_lmul, tt_i2l, tt_lcmp, tt_dupr, tt_dup2, tt_eq0, tt_lt0, tt_le0, tt_ge0, tt_gt0, tt_eq2, tt_lt2, tt_ge2, tt_gt2, tt_le2, tt_gr, tt_gi, tt_pi, tt_gl, tt_pl, tt_ia, tt_st, tt_ir, tt_zr, tt_lr, tt_vr, tt_cv, tt_cs, tt_max, tt_min, tt_rem, tt_xor, tt_len, tt_cp, tt_thr, tt_xv, tt_xs, k_sv, k_cl, k_kz, List.getElem?_cons_zero, List.getElem?_cons_succ, List.drop_succ_cons, List.drop_zero, List.take_succ_cons, List.take_zero, List.reverse_cons, List.reverse_nil, List.nil_append, List.cons_append, List.length_cons, List.length_nil, Option.toList_some, Option.toList_none, Nat.reduceAdd, Nat.reduceLeDiff, true_and, and_true, sp_I, sp_II, sp_III, sp_JI, sp_JJ, sp_R2, sp_R5I, sp_V]
  refine ⟨fun c1 => ?_, fun c1 => ⟨fun c2 => ?_, fun c2 => ⟨fun c3 => ?_, fun c3 => ⟨fun c4 => ⟨k_vin c1 c2 c3 c4, ?_⟩, fun c4 => ?_⟩⟩⟩⟩ <;> simp [vC, *]
def f_parentOf (x s : Int32) (M : Mm) : Option Rs := some (.inl (some (.int (pC (M.1 0) x s)), M))
theorem p_parentOf (ad : Nat → Nat) (x0 x1 : Int32) (M : Mm) (r : Rs) (h : f_parentOf x0 x1 M = some r) : T_X0_parentOf_0 ad r [some (.ref (ad 2)), some (.int x0), some (.int x1)] [] M := by
  cases h
  simp only [T_X0_parentOf_19, T_X0_parentOf_0, tt_c, tt_lc, tt_il, tt_ll, tt_al, tt_is, tt_lsv, tt_as, tt_inc, tt_add, tt_sub, tt_mul, tt_and, tt_ladd, tt_lmul, tt_i2l, tt_lcmp, tt_dupr, tt_dup2, tt_eq0, tt_lt0, tt_le0, tt_ge0, tt_gt0, tt_eq2, tt_lt2, tt_ge2, tt_gt2, tt_le2, tt_gr, tt_gi, tt_pi, tt_gl, tt_pl, tt_ia, tt_st, tt_ir, tt_zr, tt_lr, tt_vr, tt_cv, tt_cs, tt_max, tt_min, tt_rem, tt_xor, tt_len, tt_cp, tt_thr, tt_xv, tt_xs, k_sv, k_cl, k_kz, List.getElem?_cons_zero, List.getElem?_cons_succ, List.drop_succ_cons, List.drop_zero, List.take_succ_cons, List.take_zero, List.reverse_cons, List.reverse_nil, List.nil_append, List.cons_append, List.length_cons, List.length_nil, Option.toList_some, Option.toList_none, Nat.reduceAdd, Nat.reduceLeDiff, true_and, and_true, sp_I, sp_II, sp_III, sp_JI, sp_JJ, sp_R2, sp_R5I, sp_V]
  refine ⟨fun c1 => ?_, fun c1 => ⟨fun c2 => ?_, fun c2 => ⟨fun c3 => ?_, fun c3 => ⟨fun c4 => ⟨k_pin c1 c2 c3 c4, ?_⟩, fun c4 => ?_⟩⟩⟩⟩ <;> simp [pC, *]
