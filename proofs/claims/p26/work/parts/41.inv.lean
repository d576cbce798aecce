/-! counting, walking up -/
def cN (f : Nat → Bool) : Nat → Nat
  | 0 => 0
  | n + 1 => cN f n + (if f n = true then 1 else 0)
theorem cN_le (f : Nat → Bool) (n : Nat) : cN f n ≤ n := by
  induction n with
  | zero => exact Nat.le_refl _
  | succ n ih =>
    rw [cN]
    split <;> omega
theorem sumTo_cN (f : Nat → Bool) (g : Nat → Int32) (n : Nat) (h : ∀ i, i < n → g i = if f i = true then 1 else 0) : sumTo g n = nI (cN f n) := by
  induction n with
  | zero => rfl
  | succ n ih =>
    rw [sumTo, cN, ih (fun i hi => h i (by omega)), h n (by omega)]
    split
    · rw [nI_succ]
    · simp
theorem sumTo_congr {f g : Nat → Int32} {n : Nat} (h : ∀ i, i < n → f i = g i) : sumTo f n = sumTo g n := by
  induction n with
  | zero => rfl
  | succ n ih => rw [sumTo, sumTo, ih (fun i hi => h i (by omega)), h n (by omega)]
theorem cN_congr {f g : Nat → Bool} {n : Nat} (h : ∀ i, i < n → f i = g i) : cN f n = cN g n := by
  induction n with
  | zero => rfl
  | succ n ih => rw [cN, cN, ih (fun i hi => h i (by omega)), h n (by omega)]
theorem cN_upd {f g : Nat → Bool} {n i : Nat} (hi : i < n) (h : ∀ j, j < n → ¬ j = i → f j = g j) : cN g n + (if f i = true then 1 else 0) = cN f n + (if g i = true then 1 else 0) := by
  induction n with
  | zero => omega
  | succ n ih =>
    rw [cN, cN]
    by_cases hn : i = n
    · subst hn
      rw [cN_congr (f := f) (g := g) (fun j hj => h j (by omega) (by omega))]
      omega
    · have := ih (by omega) (fun j hj hne => h j (by omega) hne)
      rw [h n (by omega) (by omega)]
      omega
theorem cN_pos {f : Nat → Bool} {n i : Nat} (hi : i < n) (h : f i = true) : 0 < cN f n := by
  induction n with
  | zero => omega
  | succ n ih =>
    rw [cN]
    by_cases hn : i = n
    · subst hn
      rw [if_pos h]
      omega
    · have := ih (by omega)
      omega
theorem cN_zero {f : Nat → Bool} {n : Nat} (h : ∀ i, i < n → f i = false) : cN f n = 0 := by
  induction n with
  | zero => rfl
  | succ n ih => rw [cN, ih (fun i hi => h i (by omega)), h n (by omega)]; rfl
theorem cN_ex {f : Nat → Bool} {n : Nat} (h : ¬ cN f n = 0) : ∃ i, i < n ∧ f i = true := by
  by_cases hh : ∃ i, i < n ∧ f i = true
  · exact hh
  · exact absurd (cN_zero (fun i hi => by
      cases hf : f i
      · rfl
      · exact absurd ⟨i, hi, hf⟩ hh)) h
def cnt (c : Ce) (y s : Int32) : Nat := cN (fun i => decide (pC c (nI i) s = y)) 32
def tot (c : Ce) (y : Int32) : Nat := cnt c y 0 + cnt c y 1 + cnt c y 2 + cnt c y 3
theorem cnt_le (c : Ce) (y s : Int32) : cnt c y s ≤ 32 := cN_le _ _
theorem tot_le (c : Ce) (y : Int32) : tot c y ≤ 128 := by
  have h0 := cnt_le c y 0
  have h1 := cnt_le c y 1
  have h2 := cnt_le c y 2
  have h3 := cnt_le c y 3
  unfold tot
  omega
theorem cnt_tot {c : Ce} {y s : Int32} (hs : bS s = false) : cnt c y s ≤ tot c y := by
  obtain ⟨j, hj, rfl⟩ := bS_of hs
  unfold tot
  have h : j = 0 ∨ j = 1 ∨ j = 2 ∨ j = 3 := by omega
  have e0 : nI 0 = 0 := rfl
  have e1 : nI 1 = 1 := rfl
  have e2 : nI 2 = 2 := rfl
  have e3 : nI 3 = 3 := rfl
  rcases h with rfl | rfl | rfl | rfl
  · rw [e0]; omega
  · rw [e1]; omega
  · rw [e2]; omega
  · rw [e3]; omega
theorem chC_cnt (c : Ce) (a s : Int32) : chC c a s = nI (cnt c a s) := sumTo_cN _ _ 32 (fun i _ => by by_cases h : pC c (nI i) s = a <;> simp [h])
theorem cnt_pos {c : Ce} {x y s : Int32} (hx : bM x = false) (h : pC c x s = y) : 0 < cnt c y s := by
  obtain ⟨i, hi, rfl⟩ := bM_of hx
  exact cN_pos hi (by simp [h])
theorem cnt_ex {c : Ce} {y s : Int32} (h : ¬ cnt c y s = 0) : ∃ x, bM x = false ∧ pC c x s = y := by
  obtain ⟨i, hi, h1⟩ := cN_ex h
  exact ⟨nI i, bM_n hi, by simpa using h1⟩
theorem cnt_zero {c : Ce} {y s : Int32} (h : cnt c y s = 0) {x : Int32} (hx : bM x = false) : ¬ pC c x s = y := fun h1 => by
  have := cnt_pos hx h1
  omega
theorem cnt_mv_ne (c : Ce) {x s : Int32} (p y : Int32) (hx : bM x = false) (hs : bS s = false) {t : Int32} (h : ¬ t = s) : cnt (mvC c x s p) y t = cnt c y t := by
  unfold cnt
  refine cN_congr (fun i _ => ?_)
  rw [pC_mv c p hx hs, if_neg (fun q => h q.2)]
theorem cnt_mv (c : Ce) {x s : Int32} (p y : Int32) (hx : bM x = false) (hs : bS s = false) : cnt (mvC c x s p) y s + (if pC c x s = y then 1 else 0) = cnt c y s + (if p = y then 1 else 0) := by
  obtain ⟨i, hi, rfl⟩ := bM_of hx
  have h := cN_upd (f := fun k => decide (pC c (nI k) s = y)) (g := fun k => decide (pC (mvC c (nI i) s p) (nI k) s = y)) hi (fun k hk hne => by
    have : ¬ nI k = nI i := fun q => hne ((nI_eq (by omega) (by omega)).mp q)
    rw [pC_mv c p hx hs, if_neg (fun q => this q.1)])
  have e : pC (mvC c (nI i) s p) (nI i) s = p := by rw [pC_mv c p hx hs, if_pos ⟨rfl, rfl⟩]
  simp only [decide_eq_true_eq, e] at h
  exact h
theorem tot_mv (c : Ce) {x s : Int32} (p y : Int32) (hx : bM x = false) (hs : bS s = false) : tot (mvC c x s p) y + (if pC c x s = y then 1 else 0) = tot c y + (if p = y then 1 else 0) := by
  have h := cnt_mv c p y hx hs
  have hn : ∀ t, ¬ t = s → cnt (mvC c x s p) y t = cnt c y t := fun t ht => cnt_mv_ne c p y hx hs ht
  obtain ⟨j, hj, rfl⟩ := bS_of hs
  have hh : j = 0 ∨ j = 1 ∨ j = 2 ∨ j = 3 := by omega
  have e0 : nI 0 = 0 := rfl
  have e1 : nI 1 = 1 := rfl
  have e2 : nI 2 = 2 := rfl
  have e3 : nI 3 = 3 := rfl
  unfold tot
  rcases hh with rfl | rfl | rfl | rfl
  · rw [e0] at h hn ⊢
    rw [hn 1 (by decide), hn 2 (by decide), hn 3 (by decide)]
    omega
  · rw [e1] at h hn ⊢
    rw [hn 0 (by decide), hn 2 (by decide), hn 3 (by decide)]
    omega
  · rw [e2] at h hn ⊢
    rw [hn 0 (by decide), hn 1 (by decide), hn 3 (by decide)]
    omega
  · rw [e3] at h hn ⊢
    rw [hn 0 (by decide), hn 1 (by decide), hn 2 (by decide)]
    omega
def Kc (c : Ce) (y : Int32) : Prop := vC c y 5 = nI (tot c y) ∧ (tot c y = 0 → vC c y 0 = 1 → vC c y 6 = -1) ∧ ∀ s, bS s = false → ¬ cnt c y s = 0 → vC c y 6 = s
theorem nIp (n : Nat) (h : 0 < n) : nI n + -1 = nI (n - 1) := by
  obtain ⟨k, rfl⟩ : ∃ k, n = k + 1 := ⟨n - 1, by omega⟩
  rw [pk_m1]
  rfl
theorem Kc_mv {c : Ce} {x s : Int32} (p : Int32) {y : Int32} (hx : bM x = false) (hs : bS s = false) (hy : bM y = false) (hk : Kc c y) (hp : p = y → ∀ t, bS t = false → ¬ t = s → cnt c y t = 0) : Kc (mvC c x s p) y := by
  obtain ⟨h5, h6, hc⟩ := hk
  have ht := tot_mv c p y hx hs
  have hcs := cnt_mv c p y hx hs
  have hl := tot_le c y
  have hl' := tot_le (mvC c x s p) y
  have hts := cnt_tot (c := mvC c x s p) (y := y) hs
  unfold Kc
  rw [vC_mv5 c p hx hs hy, vC_mv6 c p hx hs hy, h5]
  by_cases hq : pC c x s = y
  · have hcp := cnt_pos hx hq
    have htp := cnt_tot (c := c) (y := y) hs
    have h6s := hc s hs (by omega)
    by_cases hpy : p = y
    · rw [if_pos hq, if_pos hpy] at ht hcs
      simp only [if_pos hq, if_pos hpy]
      rw [nIp _ (by omega), nI_1, show tot c y - 1 + 1 = tot (mvC c x s p) y by omega, if_neg (nI_ne0 (by omega) (by omega))]
      refine ⟨rfl, fun h => by omega, fun t ht1 ht2 => ?_⟩
      by_cases hts : t = s
      · exact hts.symm
      · rw [cnt_mv_ne c p y hx hs hts] at ht2
        rw [← hc t ht1 ht2, h6s]
    · rw [if_pos hq, if_neg hpy] at ht hcs
      simp only [if_pos hq, if_neg hpy]
      rw [nIp _ (by omega), show tot c y - 1 = tot (mvC c x s p) y by omega]
      refine ⟨rfl, fun h _ => by rw [h]; rfl, fun t ht1 ht2 => ?_⟩
      have hts : t = s := by
        by_cases hts : t = s
        · exact hts
        · rw [cnt_mv_ne c p y hx hs hts] at ht2
          rw [← hc t ht1 ht2, h6s]
      subst hts
      rw [if_neg (nI_ne0 (by omega) (by omega))]
  · by_cases hpy : p = y
    · rw [if_neg hq, if_pos hpy] at ht hcs
      simp only [if_neg hq, if_pos hpy]
      rw [nI_1, show tot c y + 1 = tot (mvC c x s p) y by omega, if_neg (nI_ne0 (by omega) (by omega))]
      refine ⟨rfl, fun h => by omega, fun t ht1 ht2 => ?_⟩
      by_cases hts : t = s
      · exact hts.symm
      · rw [cnt_mv_ne c p y hx hs hts] at ht2
        exact absurd (hp hpy t ht1 hts) ht2
    · rw [if_neg hq, if_neg hpy] at ht hcs
      simp only [if_neg hq, if_neg hpy]
      rw [show tot c y = tot (mvC c x s p) y by omega] at h6 ⊢
      refine ⟨rfl, fun h h0 => h6 h (by rw [← h0, vC_mv_ne c p hx hs y (by decide) (by decide)]), fun t ht1 ht2 => ?_⟩
      by_cases hts : t = s
      · subst hts
        exact hc t ht1 (by omega)
      · rw [cnt_mv_ne c p y hx hs hts] at ht2
        exact hc t ht1 ht2
def en (c : Ce) (s e : Int32) : Nat → Int32 → Prop
  | 0, x => x = e
  | k + 1, x => bM x = false ∧ en c s e k (pC c x s)
def eD (e : Int32) : Prop := e = 100 ∨ e = -1
theorem bM_m1 : bM (-1) = true := by decide
theorem eD_bM {e : Int32} (h : eD e) : bM e = true := by
  rcases h with rfl | rfl
  · exact bM_100
  · exact bM_m1
theorem en_uniq {c : Ce} {s e e' : Int32} (he : eD e) (he' : eD e') : ∀ {k k' : Nat} {x : Int32}, en c s e k x → en c s e' k' x → k = k' ∧ e = e' := by
  intro k
  induction k with
  | zero =>
    intro k' x h h'
    cases h
    cases k' with
    | zero => exact ⟨rfl, h'⟩
    | succ k' =>
      have := h'.1
      rw [eD_bM he] at this
      cases this
  | succ k ih =>
    intro k' x h h'
    cases k' with
    | zero =>
      cases h'
      have := h.1
      rw [eD_bM he'] at this
      cases this
    | succ k' =>
      obtain ⟨h1, h2⟩ := ih h.2 h'.2
      exact ⟨by omega, h2⟩
def Te (c : Ce) (s x : Int32) : Prop := ∃ k e, eD e ∧ en c s e k x
theorem en_congr {c c' : Ce} {s : Int32} (h : ∀ x, pC c' x s = pC c x s) {e : Int32} : ∀ {k : Nat} {x : Int32}, en c s e k x → en c' s e k x := by
  intro k
  induction k with
  | zero => intro x h1; exact h1
  | succ k ih => intro x h1; exact ⟨h1.1, by rw [h]; exact ih h1.2⟩
theorem en_mv {c : Ce} {x s p : Int32} (hx : bM x = false) (hs : bS s = false) {e : Int32} : ∀ {k : Nat} {y : Int32}, (∀ j, j ≤ k → ¬ en c s e j x) → en c s e k y → en (mvC c x s p) s e k y := by
  intro k
  induction k with
  | zero => intro y _ h1; exact h1
  | succ k ih =>
    intro y hj h1
    refine ⟨h1.1, ?_⟩
    have hyx : ¬ y = x := by
      rintro rfl
      exact hj (k + 1) (Nat.le_refl _) h1
    rw [pC_mv c p hx hs, if_neg (fun q => hyx q.1)]
    exact ih (fun j hjk => hj j (by omega)) h1.2
theorem Te_mv {c : Ce} {x s p : Int32} (hx : bM x = false) (hs : bS s = false) (hp : Te (mvC c x s p) s p) {y : Int32} (h : Te c s y) : Te (mvC c x s p) s y := by
  obtain ⟨k, e, he, h⟩ := h
  induction k generalizing y with
  | zero => exact ⟨0, e, he, h⟩
  | succ k ih =>
    by_cases hyx : y = x
    · subst hyx
      obtain ⟨k', e', he', h'⟩ := hp
      exact ⟨k' + 1, e', he', hx, by rw [pC_mv c p hx hs, if_pos ⟨rfl, rfl⟩]; exact h'⟩
    · obtain ⟨k', e', he', h'⟩ := ih h.2
      exact ⟨k' + 1, e', he', h.1, by rw [pC_mv c p hx hs, if_neg (fun q => hyx q.1)]; exact h'⟩
theorem Te_end (c : Ce) (s : Int32) {e : Int32} (he : eD e) : Te c s e := ⟨0, e, he, rfl⟩
theorem pigeon : ∀ (n k : Nat) (f : Nat → Nat), (∀ i, i < k → f i < n) → (∀ i j, i < k → j < k → f i = f j → i = j) → k ≤ n := by
  intro n
  induction n with
  | zero =>
    intro k f h _
    cases k with
    | zero => exact Nat.le_refl _
    | succ k => exact absurd (h 0 (by omega)) (by omega)
  | succ n ih =>
    intro k f h hi
    cases k with
    | zero => omega
    | succ k =>
      have := ih k (fun i => if f i = n then f k else f i) (fun i hik => by
        have h1 := h i (by omega)
        have h2 := h k (by omega)
        split
        · next he =>
          have : ¬ f k = n := fun q => by
            have := hi i k (by omega) (by omega) (by omega)
            omega
          omega
        · omega) (fun i j hik hjk he => by
        have a1 := hi i k (by omega) (by omega)
        have a2 := hi j k (by omega) (by omega)
        have a3 := hi i j (by omega) (by omega)
        split at he <;> split at he
        · exact a3 (by omega)
        · have := a2 (by omega)
          omega
        · have := a1 (by omega)
          omega
        · exact a3 he)
      omega
def wk (c : Ce) (s : Int32) : Nat → Int32 → Int32
  | 0, x => x
  | i + 1, x => wk c s i (pC c x s)
theorem en_wk {c : Ce} {s e : Int32} : ∀ {i k : Nat} {x : Int32}, i ≤ k → en c s e k x → en c s e (k - i) (wk c s i x) := by
  intro i
  induction i with
  | zero => intro k x _ h; exact h
  | succ i ih =>
    intro k x hik h
    obtain ⟨k, rfl⟩ : ∃ k', k = k' + 1 := ⟨k - 1, by omega⟩
    rw [wk, show k + 1 - (i + 1) = k - i by omega]
    exact ih (by omega) h.2
theorem en_le {c : Ce} {s e : Int32} (he : eD e) {k : Nat} {x : Int32} (h : en c s e k x) : k ≤ 32 := by
  refine pigeon 32 k (fun i => (wk c s i x).toNatClampNeg) (fun i hi => ?_) (fun i j hi hj hij => ?_)
  · have h1 := en_wk (i := i) (by omega) h
    obtain ⟨d, hd⟩ : ∃ d, k - i = d + 1 := ⟨k - i - 1, by omega⟩
    rw [hd] at h1
    obtain ⟨a, ha, hb⟩ := bM_of h1.1
    rw [hb, nI_clamp (by omega)]
    exact ha
  · have h1 := en_wk (i := i) (by omega) h
    have h2 := en_wk (i := j) (by omega) h
    obtain ⟨d, hd⟩ : ∃ d, k - i = d + 1 := ⟨k - i - 1, by omega⟩
    obtain ⟨d', hd'⟩ : ∃ d, k - j = d + 1 := ⟨k - j - 1, by omega⟩
    have h3 := h1
    have h4 := h2
    rw [hd] at h3
    rw [hd'] at h4
    obtain ⟨a, ha, hb⟩ := bM_of h3.1
    obtain ⟨a', ha', hb'⟩ := bM_of h4.1
    rw [hb, hb', nI_clamp (by omega), nI_clamp (by omega)] at hij
    subst hij
    rw [hb] at h1
    rw [hb'] at h2
    have := (en_uniq he he h1 h2).1
    omega
