/-! THE TWO SIDES: blocks are sent -/
/-- the same to every reader -/
def VE (a b : Ce) : Prop := (∀ y t, pC a y t = pC b y t) ∧ (∀ y u, vC a y u = vC b y u) ∧ ∀ k, figC a k = figC b k
section SN
variable {lo : Int32 → Nat} {d : Int32} {c c' : Ce} {m : Re}
theorem Iv_VE (h : VE c' c) (iv : Iv lo c) : Iv lo c' := by
  obtain ⟨h1, h2, h3⟩ := h
  refine Iv_cg iv h1 (fun y => h2 y 0) (fun y => h2 y 5) (fun y => h2 y 6) (fun y hy hz w => by rw [h2]; exact (iv.2.1 y hy hz).1 w) (lo_eq iv (fun y => h2 y 3) (fun y => h2 y 4) (h3 8)) (h3 0) (by rw [h3]; exact iv.2.2.2.2.2.2.2)
theorem Ok_VE (h : VE c' c) (o : Ok lo d c m) : Ok lo d c' m := by
  obtain ⟨h1, h2, h3⟩ := h
  refine ⟨Iv_VE ⟨h1, h2, h3⟩ o.1, ?_, ?_⟩
  · have := o.2.1
    unfold RlM at this ⊢
    simp only [h1, h2]
    exact this
  · have := o.2.2
    unfold RlF at this ⊢
    simp only [h3]
    exact this
theorem gC_cg (h1 : ∀ y t, pC c' y t = pC c y t) (h3 : ∀ y, vC c' y 3 = vC c y 3) (x s : Int32) : gC c' x s = gC c x s := by
  have : ∀ n p, gGo c' s n p = gGo c s n p := by
    intro n
    induction n with
    | zero => exact fun _ => rfl
    | succ n ih => exact fun p => by rw [gGo, gGo, h3, h1, ih]
  exact this 33 x
theorem pcC_cg (h1 : ∀ y t, pC c' y t = pC c y t) (h3 : ∀ y, vC c' y 3 = vC c y 3) (x : Int32) : pcC c' x = pcC c x := sumTo_congr (fun i _ => by rw [gC_cg h1 h3])
def haI (c : Ce) (x : Int32) : Int32 := if pcC c x < 3 then 0 else 1
def miI (c : Ce) (x : Int32) : Int32 := if pcC c x < 3 then (if flC c x = true then 0 else 1) else 0
theorem haI_cg (h1 : ∀ y t, pC c' y t = pC c y t) (h3 : ∀ y, vC c' y 3 = vC c y 3) (x : Int32) : haI c' x = haI c x := by
  unfold haI
  rw [pcC_cg h1 h3]
theorem miI_cg (h1 : ∀ y t, pC c' y t = pC c y t) (h3 : ∀ y, vC c' y 3 = vC c y 3) (x : Int32) : miI c' x = miI c x := by
  unfold miI flC
  rw [pcC_cg h1 h3, h3]
theorem bV_7 : bV 7 = false := by decide
theorem bV_8 : bV 8 = false := by decide
theorem bV_9 : bV 9 = false := by decide
theorem bF_1 : bF 1 = false := by decide
theorem bF_2 : bF 2 = false := by decide
theorem bF_3 : bF 3 = false := by decide
theorem bF_4 : bF 4 = false := by decide
theorem bF_5 : bF 5 = false := by decide
theorem rbC_pC (c : Ce) (x b y t : Int32) : pC (rbC c x b) y t = pC c y t := by
  have e1 : pC (rb1 c x b) y t = pC c y t := by
    unfold rb1
    rw [pC_af _ _ bF_2, pC_sv _ _ bV_7]
  unfold rbC
  split
  · split
    · exact e1
    · rw [pC_af _ _ bF_4, pC_sv _ _ bV_9, e1]
  · rw [pC_af _ _ bF_3, pC_sv _ _ bV_8, e1]
theorem rb1_v (c : Ce) {x : Int32} (b : Int32) (hx : bM x = false) (y u : Int32) : vC (rb1 c x b) y u = if y = x ∧ u = 7 then vC c x 7 + pcC c x * b else vC c y u := by
  unfold rb1
  rw [vC_af _ _ bF_2, vC_sv _ _ hx bV_7]
theorem rb1_f (c : Ce) (x b k : Int32) : figC (rb1 c x b) k = if k = 2 then figC c 2 + pcC c x * b else figC c k := by
  unfold rb1
  rw [figC_af _ _ bF_2, figC_sv _ _ bV_7, figC_sv _ _ bV_7]
theorem rb1_fl (c : Ce) {x : Int32} (b : Int32) (hx : bM x = false) : flC (rb1 c x b) x = flC c x := by
  unfold flC
  rw [rb1_v c b hx, if_neg (fun q => absurd q.2 (by decide))]
/-- what a value grows by -/
def dvC (c : Ce) (x u : Int32) : Int32 := if u = 7 then pcC c x else if u = 8 then haI c x else if u = 9 then miI c x else 0
def dfC (c : Ce) (x k : Int32) : Int32 := if k = 2 then pcC c x else if k = 3 then haI c x else if k = 4 then miI c x else 0
theorem rbC_v (c : Ce) {x : Int32} (b : Int32) (hx : bM x = false) (y u : Int32) : vC (rbC c x b) y u = vC c y u + (if y = x then dvC c x u * b else 0) := by
  unfold rbC dvC haI miI
  rw [rb1_fl c b hx]
  by_cases hyx : y = x
  · subst hyx
    rw [if_pos rfl]
    by_cases h3 : pcC c y < 3
    · simp only [if_pos h3]
      by_cases hf : flC c y = true
      · rw [if_pos hf, rb1_v c b hx]
        by_cases h7 : u = 7
        · simp [h7]
        · by_cases h8 : u = 8
          · simp [h8]
          · by_cases h9 : u = 9
            · simp [h9, hf]
            · simp [h7, h8, h9]
      · rw [if_neg hf, vC_af _ _ bF_4, vC_sv _ _ hx bV_9, rb1_v c b hx, rb1_v c b hx]
        by_cases h7 : u = 7
        · simp [h7]
        · by_cases h9 : u = 9
          · simp [h9, hf]
          · simp [h7, h9]
    · simp only [if_neg h3]
      rw [vC_af _ _ bF_3, vC_sv _ _ hx bV_8, rb1_v c b hx, rb1_v c b hx]
      by_cases h7 : u = 7
      · simp [h7]
      · by_cases h8 : u = 8
        · simp [h8]
        · simp [h7, h8]
  · rw [if_neg hyx, Int32.add_zero]
    have e1 : vC (rb1 c x b) y u = vC c y u := by rw [rb1_v c b hx, if_neg (fun q => hyx q.1)]
    split
    · split
      · exact e1
      · rw [vC_af _ _ bF_4, vC_sv _ _ hx bV_9, if_neg (fun q => hyx q.1), e1]
    · rw [vC_af _ _ bF_3, vC_sv _ _ hx bV_8, if_neg (fun q => hyx q.1), e1]
theorem rbC_f (c : Ce) {x : Int32} (b : Int32) (hx : bM x = false) (k : Int32) : figC (rbC c x b) k = figC c k + dfC c x k * b := by
  unfold rbC dfC haI miI
  rw [rb1_fl c b hx]
  by_cases h3 : pcC c x < 3
  · simp only [if_pos h3]
    by_cases hf : flC c x = true
    · rw [if_pos hf, rb1_f]
      by_cases h7 : k = 2
      · simp [h7]
      · simp [h7, hf]
    · rw [if_neg hf, figC_af _ _ bF_4, figC_sv _ _ bV_9, figC_sv _ _ bV_9, rb1_f, rb1_f]
      by_cases h7 : k = 2
      · simp [h7]
      · by_cases h9 : k = 4
        · simp [h9, hf]
        · simp [h7, h9]
  · simp only [if_neg h3]
    rw [figC_af _ _ bF_3, figC_sv _ _ bV_8, figC_sv _ _ bV_8, rb1_f, rb1_f]
    by_cases h7 : k = 2
    · simp [h7]
    · by_cases h8 : k = 3
      · simp [h8]
      · simp [h7, h8]
theorem rbI_eq (c : Ce) {x : Int32} (b : Int32) (hx : bM x = false) : rbI c x b = miI c x * b := by
  unfold rbI miI
  rw [rb1_fl c b hx]
  by_cases h3 : pcC c x < 3
  · simp only [if_pos h3]
    by_cases hf : flC c x = true
    · simp [hf]
    · simp [hf]
  · simp [h3]
/-- what the figures grow by, all in all -/
def tfC (c : Ce) (k : Int32) : Int32 := if k = 1 then 1 else sumTo (fun i => if jnC c (nI i) = true then dfC c (nI i) k else 0) 32
theorem dfC_1 (c : Ce) (x : Int32) : dfC c x 1 = 0 := rfl
theorem sb_n (c : Ce) (b : Int32) : ∀ n, n ≤ 32 → (∀ y t, pC (fold2 (sbF b) (0, afC c 1 b) n).2 y t = pC c y t) ∧ (∀ y u, vC (fold2 (sbF b) (0, afC c 1 b) n).2 y u = vC c y u + (if (∃ i, i < n ∧ y = nI i) ∧ jnC c y = true then dvC c y u * b else 0)) ∧ (∀ k, figC (fold2 (sbF b) (0, afC c 1 b) n).2 k = figC (afC c 1 b) k + sumTo (fun i => if jnC c (nI i) = true then dfC c (nI i) k else 0) n * b) ∧ (fold2 (sbF b) (0, afC c 1 b) n).1 = sumTo (fun i => if jnC c (nI i) = true then dfC c (nI i) 4 else 0) n * b := by
  intro n
  induction n with
  | zero =>
    intro _
    rw [fold2_0]
    refine ⟨fun y t => pC_af c b bF_1 y t, fun y u => ?_, fun k => ?_, ?_⟩
    · rw [vC_af c b bF_1, if_neg, Int32.add_zero]
      rintro ⟨⟨i, hi, -⟩, -⟩
      omega
    · simp [sumTo]
    · simp [sumTo]
  | succ n ih =>
    intro hn
    obtain ⟨h1, h2, h3, h4⟩ := ih (by omega)
    have hM := bM_n (show n < 32 by omega)
    rw [fold2_s]
    generalize fold2 (sbF b) (0, afC c 1 b) n = q at h1 h2 h3 h4 ⊢
    have hno : ¬ ∃ i, i < n ∧ nI n = nI i := by
      rintro ⟨i, hi, e⟩
      have := (nI_eq (by omega) (by omega)).mp e
      omega
    have e0 : jnC q.2 (nI n) = jnC c (nI n) := by
      unfold jnC
      rw [h2, if_neg (fun z => hno z.1), Int32.add_zero]
    have ev3 : ∀ y, vC q.2 y 3 = vC c y 3 := fun y => by
      rw [h2]
      have : dvC c y 3 = 0 := rfl
      rw [this]
      split <;> simp
    have epc := pcC_cg h1 ev3 (nI n)
    have eha := haI_cg h1 ev3 (nI n)
    have emi := miI_cg h1 ev3 (nI n)
    have edv : ∀ u, dvC q.2 (nI n) u = dvC c (nI n) u := fun u => by unfold dvC; rw [epc, eha, emi]
    have edf : ∀ k, dfC q.2 (nI n) k = dfC c (nI n) k := fun u => by unfold dfC; rw [epc, eha, emi]
    unfold sbF
    rw [e0]
    by_cases hj : jnC c (nI n) = true
    · simp only [hj, if_true, sumTo]
      refine ⟨fun y t => by rw [rbC_pC]; exact h1 y t, fun y u => ?_, fun k => ?_, ?_⟩
      · rw [rbC_v _ _ hM, h2, edv]
        by_cases hy : y = nI n
        · rw [if_pos hy, if_neg (fun z => hno (by rw [hy] at z; exact z.1)), if_pos ⟨⟨n, by omega, hy⟩, by rw [hy]; exact hj⟩, hy, Int32.add_zero]
        · rw [if_neg hy, Int32.add_zero]
          by_cases hc : (∃ i, i < n ∧ y = nI i) ∧ jnC c y = true
          · obtain ⟨⟨i, a1, a2⟩, a3⟩ := hc
            rw [if_pos ⟨⟨i, a1, a2⟩, a3⟩, if_pos ⟨⟨i, by omega, a2⟩, a3⟩]
          · rw [if_neg hc, if_neg]
            rintro ⟨⟨i, a1, a2⟩, a3⟩
            by_cases hin : i = n
            · subst hin
              exact hy a2
            · exact hc ⟨⟨i, by omega, a2⟩, a3⟩
      · rw [rbC_f _ _ hM, h3, edf, Int32.add_mul, Int32.add_assoc]
      · rw [rbI_eq _ _ hM, h4, emi, Int32.add_mul]
        rfl
    · simp only [hj, Bool.false_eq_true, if_false, sumTo, Int32.add_zero]
      refine ⟨h1, fun y u => ?_, h3, h4⟩
      rw [h2]
      by_cases hc : (∃ i, i < n ∧ y = nI i) ∧ jnC c y = true
      · obtain ⟨⟨i, a1, a2⟩, a3⟩ := hc
        rw [if_pos ⟨⟨i, a1, a2⟩, a3⟩, if_pos ⟨⟨i, by omega, a2⟩, a3⟩]
      · rw [if_neg hc, if_neg]
        rintro ⟨⟨i, a1, a2⟩, a3⟩
        by_cases hin : i = n
        · subst hin
          rw [a2] at a3
          exact hj a3
        · exact hc ⟨⟨i, by omega, a2⟩, a3⟩
theorem sb_p (c : Ce) (b y t : Int32) : pC (sbC c b).2 y t = pC c y t := (sb_n c b 32 (Nat.le_refl _)).1 y t
theorem sb_v (c : Ce) (b y u : Int32) : vC (sbC c b).2 y u = vC c y u + (if bM y = false ∧ jnC c y = true then dvC c y u * b else 0) := by
  refine ((sb_n c b 32 (Nat.le_refl _)).2.1 y u).trans ?_
  by_cases hc : bM y = false ∧ jnC c y = true
  · rw [if_pos hc, if_pos ⟨bM_of hc.1, hc.2⟩]
  · rw [if_neg hc, if_neg]
    rintro ⟨⟨i, a1, rfl⟩, a2⟩
    exact hc ⟨bM_n a1, a2⟩
theorem sb_f (c : Ce) (b k : Int32) : figC (sbC c b).2 k = figC c k + tfC c k * b := by
  refine ((sb_n c b 32 (Nat.le_refl _)).2.2.1 k).trans ?_
  unfold tfC
  rw [figC_af c b bF_1]
  by_cases hk : k = 1
  · subst hk
    rw [if_pos rfl, if_pos rfl]
    have : sumTo (fun i => if jnC c (nI i) = true then dfC c (nI i) 1 else 0) 32 = nI (cN (fun _ => false) 32) := sumTo_cN _ _ 32 (fun i _ => by simp [dfC_1])
    rw [this, cN_zero (fun _ _ => rfl)]
    simp [nI_0]
  · rw [if_neg hk, if_neg hk]
theorem sb_1 (c : Ce) (b : Int32) : (sbC c b).1 = figC (sbC c b).2 4 - figC c 4 := by
  rw [sb_f, Int32.add_comm, Int32.add_sub_cancel]
  exact (sb_n c b 32 (Nat.le_refl _)).2.2.2
end SN
