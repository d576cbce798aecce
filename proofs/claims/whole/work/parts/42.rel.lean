/-! THE TWO SIDES: what always holds of the class, and how the reference stands to it -/
def Iv (lo : Int32 → Nat) (c : Ce) : Prop :=
  (∀ x, bM x = false → vC c x 0 = 0 ∨ vC c x 0 = 1) ∧
  (∀ x, bM x = false → vC c x 0 = 0 → (∀ w, vC c x w = 0) ∧ ∀ s, pC c x s = -1) ∧
  (∀ x s, pC c x s = -1 ∨ pC c x s = 100 ∨ (bM (pC c x s) = false ∧ vC c (pC c x s) 0 = 1)) ∧
  (∀ x, bM x = false → vC c x 0 = 1 → (vC c x 3 = 0 ∧ vC c x 4 = -1) ∨ (vC c x 3 = 1 ∧ ∃ k, lo x ≤ k ∧ k ≤ 20 ∧ vC c x 4 = figC c 8 + nI k)) ∧
  (∀ y, bM y = false → Kc c y) ∧
  (∀ s, bS s = false → ∀ x, bM x = false → Te c s x) ∧
  figC c 0 = nI (cN (fun i => decide (vC c (nI i) 0 = 1)) 32) ∧
  (∃ k, 1 ≤ k ∧ k ≤ 20 ∧ figC c 10 = nI k)
def RlM (c : Ce) (m : Re) : Prop :=
  (∀ x, bM x = false → oR m x 0 = vC c x 0) ∧
  (∀ x, bM x = false → vC c x 0 = 1 → oR m x 1 = vC c x 1 ∧ oR m x 2 = vC c x 2 ∧ oR m x 3 = vC c x 3 ∧ (vC c x 3 = 1 → oR m x 4 = vC c x 4) ∧ oR m x 5 = vC c x 7 ∧ oR m x 6 = vC c x 8 ∧ oR m x 7 = vC c x 9 ∧ ∀ s, bS s = false → oR m x (8 + s) = pC c x s)
def RlF (d : Int32) (c : Ce) (m : Re) : Prop :=
  m 0 = figC c 9 ∧ m 1 = figC c 10 ∧ m 2 = figC c 8 ∧ m 4 = figC c 1 ∧ m 5 = figC c 2 ∧ m 6 = figC c 3 ∧ m 7 = figC c 4 ∧ m 8 = figC c 5 + d ∧ m 9 = figC c 6 ∧ m 10 = figC c 7
/-- a new parent that may be -/
def Gp (c : Ce) (s p : Int32) : Prop := p = -1 ∨ p = 100 ∨ (bM p = false ∧ vC c p 0 = 1 ∧ ∀ t, bS t = false → ¬ t = s → cnt c p t = 0)
theorem Iv_mv {lo : Int32 → Nat} {c : Ce} {x s p : Int32} (h : Iv lo c) (hx : bM x = false) (hj : vC c x 0 = 1) (hs : bS s = false) (hp : Gp c s p) (ht : Te (mvC c x s p) s p) : Iv lo (mvC c x s p) := by
  obtain ⟨i1, i2, i3, i4, i5, i6, i7, i8⟩ := h
  have e0 : ∀ y, vC (mvC c x s p) y 0 = vC c y 0 := fun y => vC_mv_ne c p hx hs y (by decide) (by decide)
  refine ⟨fun y hy => by rw [e0]; exact i1 y hy, fun y hy h0 => ?_, fun y t => ?_, fun y hy h0 => ?_, fun y hy => ?_, fun t ht' y hy => ?_, ?_, ?_⟩
  · rw [e0] at h0
    obtain ⟨j1, j2⟩ := i2 y hy h0
    have hyx : ¬ y = x := by
      rintro rfl
      rw [h0] at hj
      cases hj
    have hqy : ¬ pC c x s = y := by
      intro hq
      rcases i3 x s with h | h | h
      · rw [h] at hq
        rw [← hq] at hy
        cases hy
      · rw [h] at hq
        rw [← hq] at hy
        cases hy
      · rw [hq, h0] at h
        exact absurd h.2 (by decide)
    have hpy : ¬ p = y := by
      rintro rfl
      rcases hp with h | h | h
      · rw [h] at hy
        cases hy
      · rw [h] at hy
        cases hy
      · rw [h0] at h
        exact absurd h.2.1 (by decide)
    refine ⟨fun w => ?_, fun t => ?_⟩
    · by_cases h5 : w = 5
      · rw [h5, vC_mv5 c p hx hs hy, if_neg hpy, if_neg hqy]
        exact j1 5
      · by_cases h6 : w = 6
        · rw [h6, vC_mv6 c p hx hs hy, if_neg hpy, if_neg hqy]
          exact j1 6
        · rw [vC_mv_ne c p hx hs y h5 h6]
          exact j1 w
    · rw [pC_mv c p hx hs, if_neg (fun q => hyx q.1)]
      exact j2 t
  · rw [pC_mv c p hx hs]
    split
    · rcases hp with h | h | h
      · exact Or.inl h
      · exact Or.inr (Or.inl h)
      · exact Or.inr (Or.inr ⟨h.1, by rw [e0]; exact h.2.1⟩)
    · rw [e0]
      exact i3 y t
  · rw [e0] at h0
    rw [vC_mv_ne c p hx hs y (by decide) (by decide), vC_mv_ne c p hx hs y (by decide) (by decide), figC_mv c p hx hs]
    exact i4 y hy h0
  · refine Kc_mv p hx hs hy (i5 y hy) (fun hpy t ht1 ht2 => ?_)
    subst hpy
    rcases hp with h | h | h
    · rw [h] at hy
      cases hy
    · rw [h] at hy
      cases hy
    · exact h.2.2 t ht1 ht2
  · by_cases hts : t = s
    · subst hts
      exact Te_mv hx hs ht (i6 t ht' y hy)
    · obtain ⟨k, e, he, h1⟩ := i6 t ht' y hy
      exact ⟨k, e, he, en_congr (fun z => by rw [pC_mv c p hx hs, if_neg (fun q => hts q.2)]) h1⟩
  · rw [figC_mv c p hx hs, i7]
    exact congrArg nI (cN_congr (fun i _ => by rw [e0]))
  · rw [figC_mv c p hx hs]
    exact i8
theorem n8 {s : Int32} (hs : bS s = false) {j : Nat} (hj : j < 8) : ¬ nI j = 8 + s := by
  obtain ⟨i, hi, rfl⟩ := bS_of hs
  rw [show (8 : Int32) = nI 8 from rfl, nI_add, nI_eq (by omega) (by omega)]
  omega
theorem e8 {s t : Int32} (hs : bS s = false) (ht : bS t = false) : 8 + t = 8 + s ↔ t = s := by
  obtain ⟨i, hi, rfl⟩ := bS_of hs
  obtain ⟨j, hj, rfl⟩ := bS_of ht
  rw [show (8 : Int32) = nI 8 from rfl, nI_add, nI_add, nI_eq (by omega) (by omega), nI_eq (by omega) (by omega)]
  omega
theorem RlM_mv {c : Ce} {m : Re} {x s : Int32} (p : Int32) (h : RlM c m) (hx : bM x = false) (hs : bS s = false) : RlM (mvC c x s p) (upR m x (8 + s) p) := by
  obtain ⟨r0, r1⟩ := h
  have e0 : ∀ y, vC (mvC c x s p) y 0 = vC c y 0 := fun y => vC_mv_ne c p hx hs y (by decide) (by decide)
  have eo : ∀ y, bM y = false → ∀ j, j < 8 → oR (upR m x (8 + s) p) y (nI j) = oR m y (nI j) := fun y hy j hj => by
    rw [oR_up m p hx (bW_8 hs) hy (bW_n (by omega)), if_neg (fun q => n8 hs hj q.2)]
  refine ⟨fun y hy => ?_, fun y hy h0 => ?_⟩
  · rw [e0, ← r0 y hy]
    exact eo y hy 0 (by omega)
  · rw [e0] at h0
    obtain ⟨a1, a2, a3, a4, a5, a6, a7, a8⟩ := r1 y hy h0
    have ev : ∀ u, ¬ u = 5 → ¬ u = 6 → vC (mvC c x s p) y u = vC c y u := fun u h5 h6 => vC_mv_ne c p hx hs y h5 h6
    rw [ev 1 (by decide) (by decide), ev 2 (by decide) (by decide), ev 3 (by decide) (by decide), ev 4 (by decide) (by decide), ev 7 (by decide) (by decide), ev 8 (by decide) (by decide), ev 9 (by decide) (by decide)]
    refine ⟨(eo y hy 1 (by omega)).trans a1, (eo y hy 2 (by omega)).trans a2, (eo y hy 3 (by omega)).trans a3, fun h3 => (eo y hy 4 (by omega)).trans (a4 h3), (eo y hy 5 (by omega)).trans a5, (eo y hy 6 (by omega)).trans a6, (eo y hy 7 (by omega)).trans a7, fun t ht => ?_⟩
    rw [oR_up m p hx (bW_8 hs) hy (bW_8 ht), pC_mv c p hx hs]
    by_cases h1 : y = x ∧ t = s
    · rw [if_pos h1, if_pos ⟨h1.1, (e8 hs ht).mpr h1.2⟩]
    · rw [if_neg h1, if_neg (fun q => h1 ⟨q.1, (e8 hs ht).mp q.2⟩)]
      exact a8 t ht
theorem RlF_mv {d : Int32} {c : Ce} {m : Re} {x s : Int32} (p : Int32) (h : RlF d c m) (hx : bM x = false) (hs : bS s = false) : RlF d (mvC c x s p) (upR m x (8 + s) p) := by
  have hb := bW_8 hs
  unfold RlF at h ⊢
  simp only [figC_mv c p hx hs]
  rw [up_lo m p hx hb (by omega), up_lo m p hx hb (by omega), up_lo m p hx hb (by omega), up_lo m p hx hb (by omega), up_lo m p hx hb (by omega), up_lo m p hx hb (by omega), up_lo m p hx hb (by omega), up_lo m p hx hb (by omega), up_lo m p hx hb (by omega), up_lo m p hx hb (by omega)]
  exact h
/-! what both read -/
section RD
variable {lo : Int32 → Nat} {c : Ce} {m : Re}
theorem jR_eq (r : RlM c m) {x : Int32} (hx : bM x = false) : jR m x = decide (vC c x 0 = 1) := by
  unfold jR
  rw [r.1 x hx]
theorem unj (iv : Iv lo c) {x : Int32} (hx : bM x = false) (h : ¬ vC c x 0 = 1) : vC c x 0 = 0 := (iv.1 x hx).resolve_right h
theorem icR_eq (iv : Iv lo c) (r : RlM c m) {x a s : Int32} (hx : bM x = false) (hs : bS s = false) (ha : ¬ a = -1) : icR m x a s = decide (pC c x s = a) := by
  unfold icR
  rw [jR_eq r hx]
  by_cases h0 : vC c x 0 = 1
  · rw [(r.2 x hx h0).2.2.2.2.2.2.2 s hs]
    simp [h0]
  · have := (iv.2.1 x hx (unj iv hx h0)).2 s
    rw [this]
    simp [h0, Ne.symm ha]
theorem icR_m1 (r : RlM c m) {x s : Int32} (hx : bM x = false) (hs : bS s = false) : icR m x (-1) s = orC c x s := by
  unfold icR orC
  rw [jR_eq r hx]
  by_cases h0 : vC c x 0 = 1
  · rw [(r.2 x hx h0).2.2.2.2.2.2.2 s hs]
  · simp [h0]
theorem ciR_eq (iv : Iv lo c) (r : RlM c m) {a s : Int32} (hs : bS s = false) (ha : ¬ a = -1) : ciR m a s = chC c a s := sumTo_congr (fun i hi => by
  rw [icR_eq iv r (bM_n hi) hs ha]
  by_cases h : pC c (nI i) s = a <;> simp [bI, h])
theorem ciR_m1 (r : RlM c m) {s : Int32} (hs : bS s = false) : ciR m (-1) s = oC c s := sumTo_congr (fun i hi => by rw [icR_m1 r (bM_n hi) hs])
theorem ciR_cnt (iv : Iv lo c) (r : RlM c m) {a s : Int32} (hs : bS s = false) (ha : ¬ a = -1) : ciR m a s = nI (cnt c a s) := (ciR_eq iv r hs ha).trans (chC_cnt c a s)
theorem coR_eq (iv : Iv lo c) (r : RlM c m) {a : Int32} (ha : ¬ a = -1) : coR m a = nI (tot c a) := by
  unfold coR
  simp only [sumTo]
  rw [ciR_cnt iv r (bS_n (j := 0) (by omega)) ha, ciR_cnt iv r (bS_n (j := 1) (by omega)) ha, ciR_cnt iv r (bS_n (j := 2) (by omega)) ha, ciR_cnt iv r (bS_n (j := 3) (by omega)) ha, show (0 : Int32) = nI 0 from rfl, nI_add, nI_add, nI_add, nI_add]
  congr 1
  unfold tot
  rw [show nI 0 = (0 : Int32) from rfl, show nI 1 = (1 : Int32) from rfl, show nI 2 = (2 : Int32) from rfl, show nI 3 = (3 : Int32) from rfl]
  omega
theorem bMm1 {x : Int32} (h : bM x = false) : ¬ x = -1 := by
  rintro rfl
  cases h
theorem nI_le0 {n : Nat} (h : n < 2 ^ 31) : nI n ≤ 0 ↔ n = 0 := by
  rw [show (0 : Int32) = nI 0 from rfl, nI_leI h (by omega)]
  omega
/-- children in another stripe -/
theorem cnt_other {y s t : Int32} (hk : Kc c y) (hs : bS s = false) (ht : bS t = false) (hts : ¬ t = s) (h : tot c y = 0 ∨ vC c y 6 = s) : cnt c y t = 0 := by
  have h1 := cnt_tot (c := c) (y := y) ht
  by_cases h2 : cnt c y t = 0
  · exact h2
  · have h3 := hk.2.2 t ht h2
    rcases h with h | h
    · omega
    · rw [h] at h3
      exact absurd h3.symm hts
theorem tot_one {y s : Int32} (hk : Kc c y) (hs : bS s = false) (h : vC c y 6 = s) : tot c y = cnt c y s := by
  have hn : ∀ t, bS t = false → ¬ t = s → cnt c y t = 0 := fun t ht hts => cnt_other hk hs ht hts (Or.inr h)
  obtain ⟨j, hj, rfl⟩ := bS_of hs
  have hh : j = 0 ∨ j = 1 ∨ j = 2 ∨ j = 3 := by omega
  have e0 : nI 0 = 0 := rfl
  have e1 : nI 1 = 1 := rfl
  have e2 : nI 2 = 2 := rfl
  have e3 : nI 3 = 3 := rfl
  unfold tot
  rcases hh with rfl | rfl | rfl | rfl
  · rw [e0] at hn ⊢
    rw [hn 1 (by decide) (by decide), hn 2 (by decide) (by decide), hn 3 (by decide) (by decide)]
    omega
  · rw [e1] at hn ⊢
    rw [hn 0 (by decide) (by decide), hn 2 (by decide) (by decide), hn 3 (by decide) (by decide)]
    omega
  · rw [e2] at hn ⊢
    rw [hn 0 (by decide) (by decide), hn 1 (by decide) (by decide), hn 3 (by decide) (by decide)]
    omega
  · rw [e3] at hn ⊢
    rw [hn 0 (by decide) (by decide), hn 1 (by decide) (by decide), hn 2 (by decide) (by decide)]
    omega
theorem v5_0 {y : Int32} (hk : Kc c y) : vC c y 5 = 0 ↔ tot c y = 0 := by
  have := tot_le c y
  rw [hk.1, show (0 : Int32) = nI 0 from rfl, nI_eq (by omega) (by omega)]
theorem ieR_eq (iv : Iv lo c) (r : RlM c m) {a s : Int32} (ha : bM a = false) (hs : bS s = false) : ieR m a s = !(decide (vC c a 5 = 0) || decide (vC c a 6 = s)) := by
  have hk := iv.2.2.2.2.1 a ha
  have ht := tot_le c a
  have hc := cnt_le c a s
  unfold ieR
  rw [coR_eq iv r (bMm1 ha), ciR_cnt iv r hs (bMm1 ha)]
  have hle : (nI (tot c a) ≤ nI (cnt c a s)) ↔ tot c a ≤ cnt c a s := nI_leI (by omega) (by omega)
  by_cases h5 : vC c a 5 = 0
  · have := (v5_0 hk).mp h5
    simp [h5, hle]
    omega
  · have h5' : ¬ tot c a = 0 := fun q => h5 ((v5_0 hk).mpr q)
    by_cases h6 : vC c a 6 = s
    · have := tot_one hk hs h6
      simp [h6, hle]
      omega
    · have : cnt c a s = 0 := by
        by_cases h : cnt c a s = 0
        · exact h
        · exact absurd (hk.2.2 s hs h) h6
      simp [h5, h6, hle]
      omega
theorem cbR_eq (iv : Iv lo c) (r : RlM c m) {a s : Int32} (ha : bM a = false) (h0 : vC c a 0 = 1) (hs : bS s = false) : cbR m a s = cbC c a s := by
  unfold cbR cbC
  rw [ieR_eq iv r ha hs, (r.2 a ha h0).1, Bool.not_not]
  congr 1
  by_cases h : vC c a 1 ≤ 0
  · simp [h, Int32.not_lt.mpr h]
  · simp [h, Int32.not_le.mp h]
theorem cbC_other (iv : Iv lo c) {a s : Int32} (ha : bM a = false) (hs : bS s = false) (h : cbC c a s = true) : ∀ t, bS t = false → ¬ t = s → cnt c a t = 0 := fun t ht hts => by
  have hk := iv.2.2.2.2.1 a ha
  simp only [cbC, Bool.and_eq_true, Bool.or_eq_true, decide_eq_true_eq] at h
  exact cnt_other hk hs ht hts (h.2.imp (v5_0 hk).mp id)
def Gd (c : Ce) (x : Int32) : Prop := x = 100 ∨ x = -1 ∨ (bM x = false ∧ vC c x 0 = 1)
theorem Gd_p (iv : Iv lo c) (x s : Int32) : Gd c (pC c x s) := by
  rcases iv.2.2.1 x s with h | h | h
  · exact Or.inr (Or.inl h)
  · exact Or.inl h
  · exact Or.inr (Or.inr h)
theorem Gd_m {x : Int32} (h : Gd c x) (hx : bM x = false) : vC c x 0 = 1 := by
  rcases h with rfl | rfl | h
  · cases hx
  · cases hx
  · exact h.2
theorem dGo_en {s e : Int32} (he : eD e) : ∀ {k n j : Nat} {x : Int32}, k + 1 ≤ n → en c s e k x → dGo c s n (nI j) x = if e = 100 then nI (j + k) else -1 := by
  intro k
  induction k with
  | zero =>
    intro n j x hn h
    obtain ⟨n, rfl⟩ : ∃ n', n = n' + 1 := ⟨n - 1, by omega⟩
    cases h
    rw [dGo]
    rcases he with rfl | rfl
    · rfl
    · rfl
  | succ k ih =>
    intro n j x hn h
    obtain ⟨n, rfl⟩ : ∃ n', n = n' + 1 := ⟨n - 1, by omega⟩
    rw [dGo, if_neg (bM_ne100 h.1), if_neg (bMm1 h.1), nI_1, ih (by omega) h.2, show j + 1 + k = j + (k + 1) by omega]
theorem drO_en (iv : Iv lo c) (r : RlM c m) {s e : Int32} (hs : bS s = false) (he : eD e) : ∀ {k n j : Nat} {x : Int32}, k + 1 ≤ n → Gd c x → en c s e k x → drO m s n (nI j) x = some (if e = 100 then nI (j + k) else -1) := by
  intro k
  induction k with
  | zero =>
    intro n j x hn _ h
    obtain ⟨n, rfl⟩ : ∃ n', n = n' + 1 := ⟨n - 1, by omega⟩
    cases h
    rw [drO]
    rcases he with rfl | rfl
    · rfl
    · rfl
  | succ k ih =>
    intro n j x hn hg h
    obtain ⟨n, rfl⟩ : ∃ n', n = n' + 1 := ⟨n - 1, by omega⟩
    have h0 := Gd_m hg h.1
    rw [drO, if_neg (bM_ne100 h.1), if_neg (bMm1 h.1), if_pos h.1, nI_1, (r.2 x h.1 h0).2.2.2.2.2.2.2 s hs, ih (by omega) (Gd_p iv x s) h.2, show j + 1 + k = j + (k + 1) by omega]
theorem urO_en (iv : Iv lo c) (r : RlM c m) {s e : Int32} (hs : bS s = false) (he : eD e) (a : Int32) : ∀ {k n n' : Nat} {x : Int32}, k + 1 ≤ n → k + 1 ≤ n' → Gd c x → en c s e k x → urO m s a n x = some (uGo c s a n' x) := by
  intro k
  induction k with
  | zero =>
    intro n n' x hn hn' _ h
    obtain ⟨n, rfl⟩ : ∃ n', n = n' + 1 := ⟨n - 1, by omega⟩
    obtain ⟨n', rfl⟩ : ∃ n1, n' = n1 + 1 := ⟨n' - 1, by omega⟩
    cases h
    rw [urO, uGo]
    rcases he with rfl | rfl
    · by_cases h : (100 : Int32) = a <;> simp [h]
    · by_cases h : (-1 : Int32) = a <;> simp [h]
  | succ k ih =>
    intro n n' x hn hn' hg h
    obtain ⟨n, rfl⟩ : ∃ n', n = n' + 1 := ⟨n - 1, by omega⟩
    obtain ⟨n', rfl⟩ : ∃ n1, n' = n1 + 1 := ⟨n' - 1, by omega⟩
    have h0 := Gd_m hg h.1
    rw [urO, uGo, if_neg (bM_ne100 h.1), if_neg (bMm1 h.1), if_neg (bM_ne100 h.1), if_neg (bMm1 h.1), if_pos h.1, (r.2 x h.1 h0).2.2.2.2.2.2.2 s hs, ih (n := n) (n' := n') (by omega) (by omega) (Gd_p iv x s) h.2]
    split <;> rfl
theorem f01 (iv : Iv lo c) {x : Int32} (hx : bM x = false) (h0 : vC c x 0 = 1) : vC c x 3 = 0 ∨ vC c x 3 = 1 := (iv.2.2.2.1 x hx h0).imp And.left And.left
theorem gtO_en (iv : Iv lo c) (r : RlM c m) {s e : Int32} (hs : bS s = false) (he : eD e) {a : Int32} (ha : bM a = false) : ∀ {k n n' : Nat} {x : Int32}, k + 1 ≤ n → k + 1 ≤ n' → Gd c x → en c s e k x → gtO m s a n x = some (gGo c s n' x && !uGo c s a n' x) := by
  intro k
  induction k with
  | zero =>
    intro n n' x hn hn' _ h
    obtain ⟨n, rfl⟩ : ∃ n', n = n' + 1 := ⟨n - 1, by omega⟩
    obtain ⟨n', rfl⟩ : ∃ n1, n' = n1 + 1 := ⟨n' - 1, by omega⟩
    cases h
    rw [gtO, gGo, uGo]
    rcases he with rfl | rfl
    · simp [Ne.symm (bM_ne100 ha)]
    · simp
  | succ k ih =>
    intro n n' x hn hn' hg h
    obtain ⟨n, rfl⟩ : ∃ n', n = n' + 1 := ⟨n - 1, by omega⟩
    obtain ⟨n', rfl⟩ : ∃ n1, n' = n1 + 1 := ⟨n' - 1, by omega⟩
    have h0 := Gd_m hg h.1
    have r1 := r.2 x h.1 h0
    rw [gtO, gGo, uGo, if_neg (bM_ne100 h.1), if_neg (bMm1 h.1), if_neg (bM_ne100 h.1), if_neg (bMm1 h.1), if_neg (bM_ne100 h.1), if_neg (bMm1 h.1), if_pos h.1, r1.2.2.1, r1.2.2.2.2.2.2.2 s hs, ih (n := n) (n' := n') (by omega) (by omega) (Gd_p iv x s) h.2]
    rcases f01 iv h.1 h0 with h3 | h3
    · by_cases hxa : x = a <;> simp [h3, hxa]
    · simp [h3]
theorem gtO_en1 (iv : Iv lo c) (r : RlM c m) {s e : Int32} (hs : bS s = false) (he : eD e) : ∀ {k n n' : Nat} {x : Int32}, k + 1 ≤ n → k + 1 ≤ n' → Gd c x → en c s e k x → gtO m s (-1) n x = some (gGo c s n' x) := by
  intro k
  induction k with
  | zero =>
    intro n n' x hn hn' _ h
    obtain ⟨n, rfl⟩ : ∃ n', n = n' + 1 := ⟨n - 1, by omega⟩
    obtain ⟨n', rfl⟩ : ∃ n1, n' = n1 + 1 := ⟨n' - 1, by omega⟩
    cases h
    rw [gtO, gGo]
    rcases he with rfl | rfl
    · simp
    · simp
  | succ k ih =>
    intro n n' x hn hn' hg h
    obtain ⟨n, rfl⟩ : ∃ n', n = n' + 1 := ⟨n - 1, by omega⟩
    obtain ⟨n', rfl⟩ : ∃ n1, n' = n1 + 1 := ⟨n' - 1, by omega⟩
    have h0 := Gd_m hg h.1
    have r1 := r.2 x h.1 h0
    rw [gtO, gGo, if_neg (bM_ne100 h.1), if_neg (bMm1 h.1), if_neg (bM_ne100 h.1), if_neg (bMm1 h.1), if_pos h.1, r1.2.2.1, r1.2.2.2.2.2.2.2 s hs, ih (n := n) (n' := n') (by omega) (by omega) (Gd_p iv x s) h.2, if_neg (bMm1 h.1)]
    rcases f01 iv h.1 h0 with h3 | h3
    · simp [h3]
    · simp [h3]
theorem Gd_Te (iv : Iv lo c) {x s : Int32} (hs : bS s = false) (h : Gd c x) : Te c s x := by
  rcases h with rfl | rfl | h
  · exact Te_end c s (Or.inl rfl)
  · exact Te_end c s (Or.inr rfl)
  · exact iv.2.2.2.2.2.1 s hs x h.1
theorem dC_en {s e : Int32} {k : Nat} {x : Int32} (he : eD e) (h : en c s e k x) : dC c x s = if e = 100 then nI k else -1 := by
  have h1 := en_le he h
  have := dGo_en (n := 33) (j := 0) he (by omega) h
  rw [Nat.zero_add] at this
  exact this
theorem dR_eq (iv : Iv lo c) (r : RlM c m) {x s : Int32} (hs : bS s = false) (hg : Gd c x) : okR m x s = true ∧ dR m x s = dC c x s := by
  obtain ⟨k, e, he, h⟩ := Gd_Te iv hs hg
  have h1 := en_le he h
  have h2 := drO_en iv r hs he (n := 34) (j := 0) (by omega) hg h
  rw [Nat.zero_add] at h2
  have h3 : drO m s 34 0 x = some (if e = 100 then nI k else -1) := h2
  refine ⟨by rw [okR, h3]; rfl, ?_⟩
  rw [dR, h3, dC_en he h]
  rfl
theorem uR_eq (iv : Iv lo c) (r : RlM c m) {x s : Int32} (a : Int32) (hs : bS s = false) (hg : Gd c x) : uR m x a s = uC c x a s := by
  obtain ⟨k, e, he, h⟩ := Gd_Te iv hs hg
  have h1 := en_le he h
  rw [uR, urO_en iv r hs he a (n := 34) (n' := 33) (by omega) (by omega) hg h]
  rfl
theorem gtR_eq (iv : Iv lo c) (r : RlM c m) {x s a : Int32} (hs : bS s = false) (hg : Gd c x) (ha : bM a = false) : gtR m x s a = (gC c x s && !uC c x a s) := by
  obtain ⟨k, e, he, h⟩ := Gd_Te iv hs hg
  have h1 := en_le he h
  rw [gtR, gtO_en iv r hs he ha (n := 34) (n' := 33) (by omega) (by omega) hg h]
  rfl
theorem gtR_eq1 (iv : Iv lo c) (r : RlM c m) {x s : Int32} (hs : bS s = false) (hg : Gd c x) : gtR m x s (-1) = gC c x s := by
  obtain ⟨k, e, he, h⟩ := Gd_Te iv hs hg
  have h1 := en_le he h
  rw [gtR, gtO_en1 iv r hs he (n := 34) (n' := 33) (by omega) (by omega) hg h]
  rfl
theorem wfR_eq (iv : Iv lo c) (r : RlM c m) {s : Int32} (hs : bS s = false) : wfR m s = true := wfR_of (fun j hj hJ => by
  rw [jR_eq r (bM_n hj)] at hJ
  exact (dR_eq iv r hs (Or.inr (Or.inr ⟨bM_n hj, by simpa using hJ⟩))).1)
theorem wA_eq (iv : Iv lo c) (r : RlM c m) : wA m = true := by
  unfold wA
  rw [wfR_eq iv r (by decide), wfR_eq iv r (by decide), wfR_eq iv r (by decide), wfR_eq iv r (by decide)]
  rfl
theorem okA_eq (iv : Iv lo c) (r : RlM c m) {x : Int32} (hg : Gd c x) : okA m x = true := by
  unfold okA
  rw [(dR_eq iv r (by decide) hg).1, (dR_eq iv r (by decide) hg).1, (dR_eq iv r (by decide) hg).1, (dR_eq iv r (by decide) hg).1]
  rfl
theorem ahR_eq (r : RlM c m) {x y : Int32} (s : Int32) (hx : bM x = false) (hx0 : vC c x 0 = 1) (hy : bM y = false) (hy0 : vC c y 0 = 1) : ahR m x y s = beC c x y s := by
  unfold ahR beC
  rw [(r.2 x hx hx0).1, (r.2 x hx hx0).2.1, (r.2 y hy hy0).1, (r.2 y hy hy0).2.1]
theorem rmR_eq (iv : Iv lo c) (r : RlM c m) (hm : m 0 = figC c 9) {a s : Int32} (hs : bS s = false) (ha : a = 100 ∨ (bM a = false ∧ vC c a 0 = 1)) : rmR m a s = rmC c a s := by
  unfold rmR rmC
  by_cases h : a = 100
  · rw [if_pos h, if_pos h, hm, ciR_eq iv r hs (by decide)]
  · obtain ⟨h1, h0⟩ := ha.resolve_left h
    have hk := iv.2.2.2.2.1 a h1
    rw [if_neg h, if_neg h, (dR_eq iv r hs (Or.inr (Or.inr ⟨h1, h0⟩))).2, coR_eq iv r (bMm1 h1), ← hk.1, ieR_eq iv r h1 hs, (r.2 a h1 h0).1, cbC, Bool.not_not]
    by_cases h2 : vC c a 1 ≤ vC c a 5
    · simp [h2]
    · have h3 : (0 : Int32) < vC c a 1 := by
        have := tot_le c a
        have h4 : (0 : Int32) ≤ vC c a 5 := by
          rw [hk.1]
          exact nI_pos' (by omega)
        have h5 := Int32.not_le.mp h2
        rw [Int32.le_iff_toInt_le] at h4
        rw [Int32.lt_iff_toInt_lt] at h5 ⊢
        omega
      simp only [h2, h3, not_false_eq_true, decide_true, Bool.true_and, Bool.and_true]
      exact Bool.and_comm _ _
theorem rmC_unj (iv : Iv lo c) {a : Int32} (s : Int32) (ha : bM a = false) (h0 : ¬ vC c a 0 = 1) : rmC c a s = false := by
  have := (iv.2.1 a ha (unj iv ha h0)).1
  unfold rmC cbC
  rw [if_neg (bM_ne100 ha), this 1]
  simp
end RD
