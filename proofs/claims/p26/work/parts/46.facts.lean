/-! what the questions answer, as the law reads them -/
section FA
variable {lo : Int32 → Nat} {c : Ce} {T F : Nat}
def rc (f : Nat → Bool) : Nat → Nat → Nat
  | _, 0 => 0
  | x, n + 1 => (if f x = true then 1 else 0) + rc f (x + 1) n
theorem rc_cN (f : Nat → Bool) : ∀ n x, cN f (x + n) = cN f x + rc f x n := by
  intro n
  induction n with
  | zero => exact fun x => rfl
  | succ n ih =>
    intro x
    rw [show x + (n + 1) = x + 1 + n by omega, ih (x + 1), cN, rc]
    omega
theorem ca_go (c : Ce) (a s : Int32) (i : Nat) (hi : i < 2 ^ 30) : ∀ n x b, x + n ≤ 32 → b ≤ i → (i - b < rc (fun j => decide (pC c (nI j) s = a)) x n → ∃ z, bM z = false ∧ pC c z s = a ∧ caGo c a s (nI i) n x (nI b) = z) ∧ (rc (fun j => decide (pC c (nI j) s = a)) x n ≤ i - b → caGo c a s (nI i) n x (nI b) = -1) := by
  intro n
  induction n with
  | zero => exact fun x b _ _ => ⟨fun h => absurd h (by rw [rc]; omega), fun _ => rfl⟩
  | succ n ih =>
    intro x b hx hb
    rw [rc, caGo]
    by_cases hp : pC c (nI x) s = a
    · rw [if_pos (by simpa using hp), if_pos hp]
      by_cases hbi : b = i
      · subst hbi
        rw [if_pos rfl]
        exact ⟨fun _ => ⟨nI x, bM_n (by omega), hp, rfl⟩, fun h => by omega⟩
      · rw [if_neg (fun q => hbi ((nI_eq (by omega) (by omega)).mp q)), nI_1]
        obtain ⟨h1, h2⟩ := ih (x + 1) (b + 1) (by omega) (by omega)
        exact ⟨fun h => h1 (by omega), fun h => h2 (by omega)⟩
    · rw [if_neg (by simpa using hp), if_neg hp, Nat.zero_add]
      exact ih (x + 1) b (by omega) hb
theorem ca_lt {a s : Int32} {i : Nat} (h : i < cnt c a s) : ∃ z, bM z = false ∧ pC c z s = a ∧ caC c a s (nI i) = z := by
  have hl := cnt_le c a s
  have h1 := rc_cN (fun j => decide (pC c (nI j) s = a)) 32 0
  rw [Nat.zero_add, cN, Nat.zero_add] at h1
  exact (ca_go c a s i (by omega) 32 0 0 (by omega) (by omega)).1 (by
    rw [← h1]
    exact h)
theorem ca_end (c : Ce) (a s : Int32) : caC c a s (nI (cnt c a s)) = -1 := by
  have hl := cnt_le c a s
  have h1 := rc_cN (fun j => decide (pC c (nI j) s = a)) 32 0
  rw [Nat.zero_add, cN, Nat.zero_add] at h1
  exact (ca_go c a s (cnt c a s) (by omega) 32 0 0 (by omega) (by omega)).2 (by
    rw [← h1]
    exact Nat.le_refl _)
theorem no_self (iv : Iv lo c) {x s : Int32} (hs : bS s = false) (hx : bM x = false) : ¬ pC c x s = x := fun h => by
  obtain ⟨k, e, he, h1⟩ := iv.2.2.2.2.2.1 s hs x hx
  cases k with
  | zero =>
    cases h1
    rw [eD_bM he] at hx
    cases hx
  | succ k =>
    have h2 := h1.2
    rw [h] at h2
    have := (en_uniq he he h1 h2).1
    omega
def stN (c : Ce) (x s : Int32) : Nat := cN (fun i => uC c (nI i) x s) 32
theorem stC_n (c : Ce) (x s : Int32) : stC c x s = nI (stN c x s) := sumTo_cN _ _ 32 (fun i _ => rfl)
theorem stN_le (c : Ce) (x s : Int32) : stN c x s ≤ 32 := cN_le _ _
theorem uC_self (c : Ce) (x s : Int32) : uC c x x s = true := by
  unfold uC
  rw [uGo, if_pos rfl]
theorem cN_add1 {f g : Nat → Bool} {n i : Nat} (hi : i < n) (hf : f i = false) (hg : g i = true) (h : ∀ j, j < n → f j = true → g j = true) : cN f n + 1 ≤ cN g n := by
  have h1 := cN_upd (f := f) (g := fun j => f j || decide (j = i)) hi (fun j _ hne => by simp [hne])
  simp only [hf, Bool.false_or, decide_true, if_true] at h1
  have h2 : cN (fun j => f j || decide (j = i)) n ≤ cN g n := cN_mono (fun j hj q => by
    simp only [Bool.or_eq_true, decide_eq_true_eq] at q
    rcases q with q | q
    · exact h j hj q
    · rw [q]
      exact hg)
  rw [if_neg (by decide)] at h1
  omega
theorem st_gt (iv : Iv lo c) {x s : Int32} (hs : bS s = false) (hx : bM x = false) : cnt c x s + 1 ≤ stN c x s := by
  have hn := no_self iv hs hx
  obtain ⟨i, hi, rfl⟩ := bM_of hx
  refine cN_add1 hi (by simpa using hn) (uC_self c _ s) (fun j hj q => ?_)
  have hM := bM_n hj
  simp only [decide_eq_true_eq] at q
  unfold uC
  rw [uGo]
  split
  · rfl
  · rw [if_neg (bM_ne100 hM), if_neg (bMm1 hM), q, uGo, if_pos rfl]
theorem g_end {s : Int32} : ∀ {k n : Nat} {x : Int32}, en c s (-1) k x → gGo c s n x = false := by
  intro k
  induction k with
  | zero =>
    intro n x h
    cases h
    cases n with
    | zero => rfl
    | succ n => rw [gGo, if_neg (by decide), if_pos rfl]
  | succ k ih =>
    intro n x h
    cases n with
    | zero => rfl
    | succ n =>
      rw [gGo, if_neg (bM_ne100 h.1), if_neg (bMm1 h.1)]
      split
      · rfl
      · exact ih h.2
theorem dC_cases (iv : Iv lo c) {x s : Int32} (hs : bS s = false) (hx : bM x = false) : (∃ k, 1 ≤ k ∧ k ≤ 32 ∧ en c s 100 k x ∧ dC c x s = nI k) ∨ (∃ k, 1 ≤ k ∧ k ≤ 32 ∧ en c s (-1) k x ∧ dC c x s = -1) := by
  obtain ⟨k, e, he, h1⟩ := iv.2.2.2.2.2.1 s hs x hx
  have hk := en_le he h1
  have h2 := dC_en he h1
  have k1 : 1 ≤ k := by
    cases k with
    | zero =>
      cases h1
      rw [eD_bM he] at hx
      cases hx
    | succ k => omega
  rcases he with rfl | rfl
  · exact Or.inl ⟨k, k1, hk, h1, h2⟩
  · exact Or.inr ⟨k, k1, hk, h1, h2⟩
theorem d_pos (iv : Iv lo c) {x s : Int32} (hs : bS s = false) (hx : bM x = false) : 0 < dC c x s ↔ ¬ dC c x s = -1 := by
  rcases dC_cases iv hs hx with ⟨k, k1, k2, -, h⟩ | ⟨k, -, -, -, h⟩
  · rw [h, show (0 : Int32) = nI 0 from rfl, nI_ltI (by omega) (by omega)]
    exact ⟨fun _ q => nIm1 (show 0 < 32 by omega) (by
      have h9 := congrArg Int32.toInt q
      rw [nI_toInt (by omega)] at h9
      have : (-1 : Int32).toInt = -1 := rfl
      omega), fun _ => by omega⟩
  · rw [h]
    exact ⟨fun q => absurd q (by decide), fun q => absurd rfl q⟩
theorem gC_d (iv : Iv lo c) {x s : Int32} (hs : bS s = false) (hx : bM x = false) (h : gC c x s = true) : 0 < dC c x s := by
  rw [d_pos iv hs hx]
  intro hd
  rcases dC_cases iv hs hx with ⟨k, k1, k2, -, e⟩ | ⟨k, -, -, h1, -⟩
  · rw [e] at hd
    have h9 := congrArg Int32.toInt hd
    rw [nI_toInt (by omega)] at h9
    have : (-1 : Int32).toInt = -1 := rfl
    omega
  · rw [show gC c x s = false from g_end h1] at h
    cases h
theorem gC_fl {y s : Int32} (hy : bM y = false) (h3 : vC c y 3 = 1) : gC c y s = false := by
  unfold gC
  rw [gGo, if_neg (bM_ne100 hy), if_neg (bMm1 hy), if_pos h3]
theorem uGo_chd {x s : Int32} (hx : bM x = false) : ∀ n y, ¬ y = x → uGo c s x n y = true → ∃ z, bM z = false ∧ pC c z s = x := by
  intro n
  induction n with
  | zero => intro y _ h; cases h
  | succ n ih =>
    intro y hy h
    rw [uGo, if_neg hy] at h
    split at h
    · cases h
    · split at h
      · cases h
      · by_cases hp : pC c y s = x
        · refine ⟨y, ?_, hp⟩
          by_cases hb : bM y = false
          · exact hb
          · rw [pC_out (Or.inl (bMt hb))] at hp
            exact absurd hp.symm (bMm1 hx)
        · exact ih _ hp h
theorem uC_stp {x y s : Int32} (hx : bM x = false) (hy : ¬ y = x) (h : uC c y x s = true) : bS s = false ∧ 0 < cnt c x s := by
  obtain ⟨z, hz, hp⟩ := uGo_chd hx 33 y hy h
  have hs : bS s = false := by
    by_cases hs : bS s = false
    · exact hs
    · rw [pC_out (Or.inr (bSt hs))] at hp
      exact absurd hp.symm (bMm1 hx)
  exact ⟨hs, cnt_pos hz hp⟩
theorem gGo_fl {x s : Int32} (hx : bM x = false) (h3 : vC c x 3 = 1) : ∀ n y, uGo c s x n y = true → gGo c s n y = false := by
  intro n
  induction n with
  | zero => intro y _; rfl
  | succ n ih =>
    intro y h
    rw [uGo] at h
    rw [gGo]
    by_cases hy : y = x
    · rw [hy, if_neg (bM_ne100 hx), if_neg (bMm1 hx), if_pos h3]
    · rw [if_neg hy] at h
      split at h
      · cases h
      · next h1 =>
        split at h
        · cases h
        · next h2 =>
          rw [if_neg h1, if_neg h2]
          split
          · rfl
          · exact ih _ h
def haN (c : Ce) (x : Int32) : Nat := cN (fun i => !decide (nI i = x) && (uC c (nI i) x (vC c x 6) && gC c (nI i) (vC c x 6))) 32
theorem haC_n (c : Ce) (x : Int32) : haC c x = nI (haN c x) := sumTo_cN _ _ 32 (fun i _ => by
  by_cases h1 : nI i = x
  · simp [h1]
  · rw [if_neg h1]
    by_cases h2 : uC c (nI i) x (vC c x 6) = false
    · simp [h2]
    · rw [if_neg h2]
      simp only [Bool.not_eq_false] at h2
      by_cases h3 : gC c (nI i) (vC c x 6) = false
      · simp [h3]
      · simp only [Bool.not_eq_false] at h3
        simp [h1, h2, h3])
theorem haN_le (c : Ce) (x : Int32) : haN c x ≤ 32 := cN_le _ _
theorem haN_st {x : Int32} (hx : bM x = false) : haN c x + 1 ≤ stN c x (vC c x 6) := by
  obtain ⟨i, hi, rfl⟩ := bM_of hx
  refine cN_add1 hi (by simp) (uC_self c _ _) (fun j hj q => ?_)
  simp only [Bool.and_eq_true] at q
  exact q.2.1
theorem haN_0 {x : Int32} (hx : bM x = false) (h : ¬ haN c x = 0) : bS (vC c x 6) = false ∧ 0 < cnt c x (vC c x 6) := by
  obtain ⟨i, hi, q⟩ := cN_ex h
  simp only [Bool.and_eq_true, Bool.not_eq_true', decide_eq_false_iff_not] at q
  exact uC_stp hx q.1 q.2.1
theorem haN_f {x : Int32} (hx : bM x = false) (h3 : vC c x 3 = 1) : haN c x = 0 := cN_zero (fun i hi => by
  by_cases hu : uC c (nI i) x (vC c x 6) = true
  · have : gC c (nI i) (vC c x 6) = false := gGo_fl hx h3 33 _ hu
    simp [this]
  · simp only [Bool.not_eq_true] at hu
    simp [hu])
/-- sums over the stripes -/
def aS (f : Nat → Nat) : Nat → Nat
  | 0 => 0
  | n + 1 => aS f n + f n
theorem aS_congr {f g : Nat → Nat} {n : Nat} (h : ∀ i, i < n → f i = g i) : aS f n = aS g n := by
  induction n with
  | zero => rfl
  | succ n ih => rw [aS, aS, ih (fun i hi => h i (by omega)), h n (by omega)]
theorem aS_ge {f : Nat → Nat} {n i : Nat} (hi : i < n) : f i ≤ aS f n := by
  induction n with
  | zero => omega
  | succ n ih =>
    rw [aS]
    by_cases h : i = n
    · rw [h]
      omega
    · have := ih (by omega)
      omega
theorem aS_le {f : Nat → Nat} {b n : Nat} (h : ∀ i, i < n → f i ≤ b) : aS f n ≤ b * n := by
  induction n with
  | zero => exact Nat.zero_le _
  | succ n ih =>
    have h1 := ih (fun i hi => h i (by omega))
    have h2 := h n (by omega)
    rw [aS, Nat.mul_succ]
    omega
theorem aS_one {f : Nat → Nat} {n k : Nat} (hk : k < n) (h : ∀ i, i < n → ¬ i = k → f i = 0) : aS f n = f k := by
  induction n with
  | zero => omega
  | succ n ih =>
    rw [aS]
    by_cases hn : k = n
    · subst hn
      have : aS f k = 0 := by
        have := aS_le (f := f) (b := 0) (n := k) (fun i hi => by rw [h i (by omega) (by omega)]; exact Nat.le_refl _)
        omega
      omega
    · rw [ih (by omega) (fun i hi hne => h i (by omega) hne), h n (by omega) (fun q => hn q.symm)]
      omega
theorem aS_zero {f : Nat → Nat} {n : Nat} (h : ∀ i, i < n → f i = 0) : aS f n = 0 := by
  have := aS_le (f := f) (b := 0) (n := n) (fun i hi => by rw [h i hi]; exact Nat.le_refl _)
  omega
theorem aS_cN {f : Nat → Bool} {n : Nat} : aS (fun i => if f i = true then 1 else 0) n = cN f n := by
  induction n with
  | zero => rfl
  | succ n ih => rw [aS, cN, ih]
def chA (c : Ce) (x : Int32) (n : Nat) : Nat := aS (fun i => cnt c x (nI i)) n
def siA (c : Ce) (x : Int32) (n : Nat) : Nat := aS (fun i => if 0 < cnt c x (nI i) then 1 else 0) n
def beA (c : Ce) (x : Int32) (n : Nat) : Nat := aS (fun i => if 0 < cnt c x (nI i) then stN c x (nI i) - 1 else 0) n
def coA (c : Ce) (x : Int32) (n : Nat) : Nat := aS (fun i => if 0 < dC c x (nI i) then 1 else 0) n
theorem chA_4 (c : Ce) (x : Int32) : chA c x 4 = tot c x := by
  unfold chA tot
  simp only [aS]
  rw [show nI 0 = (0 : Int32) from rfl, show nI 1 = (1 : Int32) from rfl, show nI 2 = (2 : Int32) from rfl, show nI 3 = (3 : Int32) from rfl]
  omega
theorem chA_mono (c : Ce) (x : Int32) : ∀ {n m : Nat}, n ≤ m → chA c x n ≤ chA c x m := by
  intro n m h
  induction m with
  | zero =>
    have : n = 0 := by omega
    subst this
    exact Nat.le_refl _
  | succ m ih =>
    by_cases hn : n = m + 1
    · subst hn
      exact Nat.le_refl _
    · have := ih (by omega)
      unfold chA at this ⊢
      rw [aS]
      omega
theorem chA_le (c : Ce) (x : Int32) {n : Nat} (h : n ≤ 4) : chA c x n ≤ 128 := by
  have := chA_mono c x h
  have := tot_le c x
  rw [chA_4] at *
  omega
theorem siA_le (c : Ce) (x : Int32) {n : Nat} (h : n ≤ 4) : siA c x n ≤ 4 := by
  have := aS_le (f := fun i => if 0 < cnt c x (nI i) then 1 else 0) (b := 1) (n := n) (fun i _ => by
    show (if _ then 1 else 0) ≤ 1
    split <;> omega)
  unfold siA
  omega
theorem beA_le (c : Ce) (x : Int32) {n : Nat} (h : n ≤ 4) : beA c x n ≤ 128 := by
  have := aS_le (f := fun i => if 0 < cnt c x (nI i) then stN c x (nI i) - 1 else 0) (b := 32) (n := n) (fun i _ => by
    have h1 := stN_le c x (nI i)
    have h2 : stN c x (nI i) - 1 ≤ 32 := Nat.le_trans (Nat.sub_le _ _) h1
    show (if _ then _ else 0) ≤ 32
    split
    · exact h2
    · omega)
  unfold beA
  omega
theorem coA_le (c : Ce) (x : Int32) {n : Nat} (h : n ≤ 4) : coA c x n ≤ 4 := by
  have := aS_le (f := fun i => if 0 < dC c x (nI i) then 1 else 0) (b := 1) (n := n) (fun i _ => by
    show (if _ then 1 else 0) ≤ 1
    split <;> omega)
  unfold coA
  omega
theorem siA_4 {x : Int32} (hk : Kc c x) : siA c x 4 ≤ 1 := by
  by_cases h : ∃ i, i < 4 ∧ ¬ cnt c x (nI i) = 0
  · obtain ⟨i, hi, hc⟩ := h
    have h6 := hk.2.2 _ (bS_n hi) hc
    have e : siA c x 4 = (if 0 < cnt c x (nI i) then 1 else 0) := aS_one hi (fun j hj hne => by
      have := cnt_other hk (bS_n hi) (bS_n hj) (fun q => hne ((nI_eq (by omega) (by omega)).mp q)) (Or.inr h6)
      show (if 0 < cnt c x (nI j) then 1 else 0) = 0
      rw [this]
      rfl)
    rw [e]
    split <;> omega
  · have e : siA c x 4 = 0 := aS_zero (fun i hi => by
      show (if 0 < cnt c x (nI i) then 1 else 0) = 0
      rw [if_neg]
      intro q
      exact h ⟨i, hi, by omega⟩)
    omega
theorem ha_be {x : Int32} (hx : bM x = false) : haN c x ≤ beA c x 4 := by
  by_cases h : haN c x = 0
  · omega
  · obtain ⟨h1, h2⟩ := haN_0 hx h
    have h3 := haN_st (c := c) hx
    obtain ⟨i, hi, e⟩ := bS_of h1
    rw [e] at h2 h3
    have := aS_ge (f := fun i => if 0 < cnt c x (nI i) then stN c x (nI i) - 1 else 0) hi
    simp only [if_pos h2] at this
    unfold beA
    omega
theorem pc_co (iv : Iv lo c) {x : Int32} (hx : bM x = false) : cN (fun i => gC c x (nI i)) 4 ≤ coA c x 4 := by
  have e : coA c x 4 = cN (fun i => decide (0 < dC c x (nI i))) 4 := by
    rw [← aS_cN]
    exact aS_congr (fun i _ => by by_cases h : 0 < dC c x (nI i) <;> simp [h])
  rw [e]
  exact cN_mono (fun i hi q => by simpa using gC_d iv (bS_n hi) hx q)
/-- the members that have joined -/
def jnN (c : Ce) (n : Nat) : Nat := cN (fun i => decide (vC c (nI i) 0 = 1)) n
theorem cnC_n (c : Ce) (s : Int32) : cnC c s = nI (cN (fun i => !decide (dC c (nI i) s = -1)) 32) := sumTo_cN _ _ 32 (fun i _ => by by_cases h : dC c (nI i) s = -1 <;> simp [h])
theorem oC_n (c : Ce) (s : Int32) : oC c s = nI (cN (fun i => orC c (nI i) s) 32) := sumTo_cN _ _ 32 (fun i _ => rfl)
theorem cN_or {f g h : Nat → Bool} {n : Nat} (hd : ∀ i, i < n → (f i = true → h i = true) ∧ (g i = true → h i = true) ∧ ¬ (f i = true ∧ g i = true)) : cN f n + cN g n ≤ cN h n := by
  induction n with
  | zero => exact Nat.le_refl _
  | succ n ih =>
    have h1 := ih (fun i hi => hd i (by omega))
    obtain ⟨a1, a2, a3⟩ := hd n (by omega)
    rw [cN, cN, cN]
    by_cases q1 : f n = true
    · rw [if_pos q1, if_pos (a1 q1), if_neg (fun q => a3 ⟨q1, q⟩)]
      omega
    · rw [if_neg q1]
      by_cases q2 : g n = true
      · rw [if_pos q2, if_pos (a2 q2)]
        omega
      · rw [if_neg q2]
        split <;> omega
theorem dC_unj (iv : Iv lo c) {x : Int32} (s : Int32) (hx : bM x = false) (h0 : ¬ vC c x 0 = 1) : dC c x s = -1 := by
  have h1 : en c s (-1) 1 x := ⟨hx, (iv.2.1 x hx (unj iv hx h0)).2 s⟩
  rw [dC_en (Or.inr rfl) h1, if_neg (by decide)]
theorem con_or (iv : Iv lo c) (s : Int32) : cN (fun i => !decide (dC c (nI i) s = -1)) 32 + cN (fun i => orC c (nI i) s) 32 ≤ jnN c 32 := cN_or (fun i hi => by
  have hM := bM_n hi
  refine ⟨fun h => ?_, fun h => ?_, fun h => ?_⟩
  · by_cases h0 : vC c (nI i) 0 = 1
    · simpa using h0
    · rw [dC_unj iv s hM h0] at h
      cases h
  · simp only [orC, Bool.and_eq_true] at h
    exact h.1
  · obtain ⟨h1, h2⟩ := h
    simp only [orC, Bool.and_eq_true, decide_eq_true_eq] at h2
    have h3 : en c s (-1) 1 (nI i) := ⟨hM, h2.2⟩
    rw [dC_en (Or.inr rfl) h3] at h1
    cases h1)
/-- no more different numbers with f than f has -/
theorem pigeonF : ∀ (n k : Nat) (f : Nat → Bool) (g : Nat → Nat), (∀ i, i < k → g i < n ∧ f (g i) = true) → (∀ i j, i < k → j < k → g i = g j → i = j) → k ≤ cN f n := by
  intro n
  induction n with
  | zero =>
    intro k f g h _
    cases k with
    | zero => exact Nat.le_refl _
    | succ k => exact absurd (h 0 (by omega)).1 (by omega)
  | succ n ih =>
    intro k f g h hi
    rw [cN]
    by_cases hf : f n = true
    · rw [if_pos hf]
      cases k with
      | zero => omega
      | succ k =>
        have := ih k f (fun i => if g i = n then g k else g i) (fun i hik => by
          have h1 := h i (by omega)
          have h2 := h k (by omega)
          split
          · next he =>
            have : ¬ g k = n := fun q => by
              have := hi i k (by omega) (by omega) (by omega)
              omega
            exact ⟨by omega, h2.2⟩
          · exact ⟨by omega, h1.2⟩) (fun i j hik hjk he => by
          have a1 := hi i k (by omega) (by omega)
          have a2 := hi j k (by omega) (by omega)
          have a3 := hi i j (by omega) (by omega)
          split at he <;> split at he
          · exact a3 (by omega)
          · have := a2 (by omega)
            omega
          · have := a1 (by omega)
            omega
          · exact a3 he)
        omega
    · rw [if_neg hf]
      refine ih k f g (fun i hik => ?_) hi
      obtain ⟨h1, h2⟩ := h i hik
      by_cases hg : g i = n
      · rw [hg] at h2
        exact absurd h2 hf
      · exact ⟨by omega, h2⟩
theorem dep_con {s : Int32} {k : Nat} {x : Int32} (h : en c s 100 k x) : k ≤ cN (fun i => !decide (dC c (nI i) s = -1)) 32 := by
  have he : eD (100 : Int32) := Or.inl rfl
  refine pigeonF 32 k _ (fun i => (wk c s i x).toNatClampNeg) (fun i hi => ?_) (fun i j hi hj hij => ?_)
  · have h1 := en_wk (i := i) (by omega) h
    obtain ⟨d, hd⟩ : ∃ d, k - i = d + 1 := ⟨k - i - 1, by omega⟩
    rw [hd] at h1
    obtain ⟨a, ha, hb⟩ := bM_of h1.1
    rw [hb] at h1 ⊢
    rw [nI_clamp (by omega)]
    refine ⟨ha, ?_⟩
    have hl := en_le he h1
    rw [dC_en he h1, if_pos rfl]
    simp only [Bool.not_eq_true', decide_eq_false_iff_not]
    intro q
    have h9 := congrArg Int32.toInt q
    rw [nI_toInt (by omega)] at h9
    have : (-1 : Int32).toInt = -1 := rfl
    omega
  · have h1 := en_wk (i := i) (by omega) h
    have h2 := en_wk (i := j) (by omega) h
    obtain ⟨d, hd⟩ : ∃ d, k - i = d + 1 := ⟨k - i - 1, by omega⟩
    obtain ⟨d', hd'⟩ : ∃ d, k - j = d + 1 := ⟨k - j - 1, by omega⟩
    have h3 := h1
    have h4 := h2
    rw [hd] at h3
    rw [hd'] at h4
    obtain ⟨a, ha, hb⟩ := bM_of h3.1
    obtain ⟨a', ha', hb'⟩ := bM_of h4.1
    rw [hb, hb', nI_clamp (by omega), nI_clamp (by omega)] at hij
    subst hij
    rw [hb] at h1
    rw [hb'] at h2
    have := (en_uniq he he h1 h2).1
    omega
theorem gd_le (iv : Iv lo c) {s : Int32} (hs : bS s = false) : ∃ q, q ≤ cN (fun i => !decide (dC c (nI i) s = -1)) 32 ∧ q ≤ 32 ∧ gdC c s = nI q := by
  have : ∀ n, n ≤ 32 → ∃ q, q ≤ cN (fun i => !decide (dC c (nI i) s = -1)) 32 ∧ q ≤ 32 ∧ foldTo (gdF c s) 0 n = nI q := by
    intro n
    induction n with
    | zero => exact fun _ => ⟨0, by omega, by omega, rfl⟩
    | succ n ih =>
      intro hn
      obtain ⟨q, q1, q2, q3⟩ := ih (by omega)
      rw [foldTo, q3]
      unfold gdF
      rcases dC_cases iv hs (bM_n (show n < 32 by omega)) with ⟨k, k1, k2, k3, k4⟩ | ⟨k, -, -, -, k4⟩
      · rw [k4]
        split
        · exact ⟨k, dep_con k3, k2, rfl⟩
        · exact ⟨q, q1, q2, rfl⟩
      · rw [k4, if_neg]
        · exact ⟨q, q1, q2, rfl⟩
        · intro h
          rw [Int32.lt_iff_toInt_lt, nI_toInt (by omega)] at h
          have : (-1 : Int32).toInt = -1 := rfl
          omega
  exact this 32 (Nat.le_refl _)
theorem rm_100 {s : Int32} (h9 : figC c 9 = nI F) (hF : F ≤ 8) : rmC c 100 s = decide (cnt c 100 s < F) := by
  have hl := cnt_le c 100 s
  unfold rmC
  rw [if_pos rfl, h9, chC_cnt]
  have : nI F ≤ nI (cnt c 100 s) ↔ F ≤ cnt c 100 s := nI_leI (by omega) (by omega)
  by_cases q : F ≤ cnt c 100 s
  · simp [this, q]
  · simp [this, q]
    omega
/-- who ranks before whom -/
theorem be_one {a b s : Int32} (h : ¬ a = b) : bI (beC c a b s) + bI (beC c b a s) = 1 := by
  unfold beC
  by_cases h1 : decide (vC c a 2 = s) = decide (vC c b 2 = s)
  · rw [if_pos h1, if_pos h1.symm]
    by_cases h2 : vC c a 1 = vC c b 1
    · rw [if_pos h2, if_pos h2.symm]
      by_cases h3 : b ≤ a
      · have h4 : ¬ a ≤ b := fun q => h (Int32.le_antisymm q h3)
        simp [h3, h4, bI]
      · have h4 : a ≤ b := (Int32.le_total a b).resolve_right h3
        simp [h3, h4, bI]
    · rw [if_neg h2, if_neg (Ne.symm h2)]
      by_cases h3 : vC c a 1 ≤ vC c b 1
      · have h4 : ¬ vC c b 1 ≤ vC c a 1 := fun q => h2 (Int32.le_antisymm h3 q)
        simp [h3, h4, bI]
      · have h4 : vC c b 1 ≤ vC c a 1 := (Int32.le_total _ _).resolve_left h3
        simp [h3, h4, bI]
  · rw [if_neg h1, if_neg (Ne.symm h1)]
    by_cases h2 : vC c a 2 = s <;> by_cases h3 : vC c b 2 = s <;> simp_all [bI]
theorem be_iff {a b s : Int32} : beC c a b s = true ↔ ((vC c a 2 = s ∧ ¬ vC c b 2 = s) ∨ ((vC c a 2 = s ↔ vC c b 2 = s) ∧ ((vC c b 1).toInt < (vC c a 1).toInt ∨ ((vC c a 1).toInt = (vC c b 1).toInt ∧ a.toInt < b.toInt)))) := by
  have e : vC c a 1 = vC c b 1 ↔ (vC c a 1).toInt = (vC c b 1).toInt := Int32.toInt_inj.symm
  have key : (if vC c a 1 = vC c b 1 then decide (¬ b ≤ a) else decide (¬ vC c a 1 ≤ vC c b 1)) = true ↔ ((vC c b 1).toInt < (vC c a 1).toInt ∨ ((vC c a 1).toInt = (vC c b 1).toInt ∧ a.toInt < b.toInt)) := by
    by_cases h : vC c a 1 = vC c b 1
    · have h' := e.mp h
      rw [if_pos h, decide_eq_true_eq, Int32.le_iff_toInt_le]
      omega
    · have h' : ¬ (vC c a 1).toInt = (vC c b 1).toInt := fun q => h (e.mpr q)
      rw [if_neg h, decide_eq_true_eq, Int32.le_iff_toInt_le]
      omega
  unfold beC
  by_cases pa : vC c a 2 = s <;> by_cases pb : vC c b 2 = s
  · rw [if_pos (by simp [pa, pb]), key]
    simp [pa, pb]
  · rw [if_neg (by simp [pa, pb])]
    simp [pa, pb]
  · rw [if_neg (by simp [pa, pb])]
    simp [pa, pb]
  · rw [if_pos (by simp [pa, pb]), key]
    simp [pa, pb]
theorem be_tr {a b d s : Int32} (h1 : beC c a b s = true) (h2 : beC c b d s = true) : beC c a d s = true := by
  rw [be_iff] at *
  generalize (vC c a 1).toInt = va at *
  generalize (vC c b 1).toInt = vb at *
  generalize (vC c d 1).toInt = vd at *
  by_cases pa : vC c a 2 = s <;> by_cases pb : vC c b 2 = s <;> by_cases pd : vC c d 2 = s <;> simp only [pa, pb, pd, true_and, and_true, not_true_eq_false, not_false_eq_true, and_false, false_and, or_false, false_or, iff_true, iff_false, true_iff, false_iff, or_true, true_or, iff_self] at h1 h2 ⊢
  all_goals first | omega | trivial
end FA
