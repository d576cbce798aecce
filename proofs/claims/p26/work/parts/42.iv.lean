/-! what always holds of the class -/
section RD
variable {lo : Int32 → Nat} {c c' : Ce}

def Iv (lo : Int32 → Nat) (c : Ce) : Prop :=
  (∀ x, bM x = false → vC c x 0 = 0 ∨ vC c x 0 = 1) ∧
  (∀ x, bM x = false → vC c x 0 = 0 → (∀ w, vC c x w = 0) ∧ ∀ s, pC c x s = -1) ∧
  (∀ x s, pC c x s = -1 ∨ pC c x s = 100 ∨ (bM (pC c x s) = false ∧ vC c (pC c x s) 0 = 1)) ∧
  (∀ x, bM x = false → vC c x 0 = 1 → (vC c x 3 = 0 ∧ vC c x 4 = -1) ∨ (vC c x 3 = 1 ∧ ∃ k, lo x ≤ k ∧ k ≤ 20 ∧ vC c x 4 = figC c 8 + nI k)) ∧
  (∀ y, bM y = false → Kc c y) ∧
  (∀ s, bS s = false → ∀ x, bM x = false → Te c s x) ∧
  figC c 0 = nI (cN (fun i => decide (vC c (nI i) 0 = 1)) 32) ∧
  (∃ k, 1 ≤ k ∧ k ≤ 20 ∧ figC c 10 = nI k)
def Gp (c : Ce) (s p : Int32) : Prop := p = -1 ∨ p = 100 ∨ (bM p = false ∧ vC c p 0 = 1 ∧ ∀ t, bS t = false → ¬ t = s → cnt c p t = 0)
theorem Iv_mv {lo : Int32 → Nat} {c : Ce} {x s p : Int32} (h : Iv lo c) (hx : bM x = false) (hj : vC c x 0 = 1) (hs : bS s = false) (hp : Gp c s p) (ht : Te (mvC c x s p) s p) : Iv lo (mvC c x s p) := by
  obtain ⟨i1, i2, i3, i4, i5, i6, i7, i8⟩ := h
  have e0 : ∀ y, vC (mvC c x s p) y 0 = vC c y 0 := fun y => vC_mv_ne c p hx hs y (by decide) (by decide)
  refine ⟨fun y hy => by rw [e0]; exact i1 y hy, fun y hy h0 => ?_, fun y t => ?_, fun y hy h0 => ?_, fun y hy => ?_, fun t ht' y hy => ?_, ?_, ?_⟩
  · rw [e0] at h0
    obtain ⟨j1, j2⟩ := i2 y hy h0
    have hyx : ¬ y = x := by
      rintro rfl
      rw [h0] at hj
      cases hj
    have hqy : ¬ pC c x s = y := by
      intro hq
      rcases i3 x s with h | h | h
      · rw [h] at hq
        rw [← hq] at hy
        cases hy
      · rw [h] at hq
        rw [← hq] at hy
        cases hy
      · rw [hq, h0] at h
        exact absurd h.2 (by decide)
    have hpy : ¬ p = y := by
      rintro rfl
      rcases hp with h | h | h
      · rw [h] at hy
        cases hy
      · rw [h] at hy
        cases hy
      · rw [h0] at h
        exact absurd h.2.1 (by decide)
    refine ⟨fun w => ?_, fun t => ?_⟩
    · by_cases h5 : w = 5
      · rw [h5, vC_mv5 c p hx hs hy, if_neg hpy, if_neg hqy]
        exact j1 5
      · by_cases h6 : w = 6
        · rw [h6, vC_mv6 c p hx hs hy, if_neg hpy, if_neg hqy]
          exact j1 6
        · rw [vC_mv_ne c p hx hs y h5 h6]
          exact j1 w
    · rw [pC_mv c p hx hs, if_neg (fun q => hyx q.1)]
      exact j2 t
  · rw [pC_mv c p hx hs]
    split
    · rcases hp with h | h | h
      · exact Or.inl h
      · exact Or.inr (Or.inl h)
      · exact Or.inr (Or.inr ⟨h.1, by rw [e0]; exact h.2.1⟩)
    · rw [e0]
      exact i3 y t
  · rw [e0] at h0
    rw [vC_mv_ne c p hx hs y (by decide) (by decide), vC_mv_ne c p hx hs y (by decide) (by decide), figC_mv c p hx hs]
    exact i4 y hy h0
  · refine Kc_mv p hx hs hy (i5 y hy) (fun hpy t ht1 ht2 => ?_)
    subst hpy
    rcases hp with h | h | h
    · rw [h] at hy
      cases hy
    · rw [h] at hy
      cases hy
    · exact h.2.2 t ht1 ht2
  · by_cases hts : t = s
    · subst hts
      exact Te_mv hx hs ht (i6 t ht' y hy)
    · obtain ⟨k, e, he, h1⟩ := i6 t ht' y hy
      exact ⟨k, e, he, en_congr (fun z => by rw [pC_mv c p hx hs, if_neg (fun q => hts q.2)]) h1⟩
  · rw [figC_mv c p hx hs, i7]
    exact congrArg nI (cN_congr (fun i _ => by rw [e0]))
  · rw [figC_mv c p hx hs]
    exact i8
theorem unj (iv : Iv lo c) {x : Int32} (hx : bM x = false) (h : ¬ vC c x 0 = 1) : vC c x 0 = 0 := (iv.1 x hx).resolve_right h
theorem bMm1 {x : Int32} (h : bM x = false) : ¬ x = -1 := by
  rintro rfl
  cases h
theorem nI_le0 {n : Nat} (h : n < 2 ^ 31) : nI n ≤ 0 ↔ n = 0 := by
  rw [show (0 : Int32) = nI 0 from rfl, nI_leI h (by omega)]
  omega
theorem cnt_other {y s t : Int32} (hk : Kc c y) (hs : bS s = false) (ht : bS t = false) (hts : ¬ t = s) (h : tot c y = 0 ∨ vC c y 6 = s) : cnt c y t = 0 := by
  have h1 := cnt_tot (c := c) (y := y) ht
  by_cases h2 : cnt c y t = 0
  · exact h2
  · have h3 := hk.2.2 t ht h2
    rcases h with h | h
    · omega
    · rw [h] at h3
      exact absurd h3.symm hts
theorem tot_one {y s : Int32} (hk : Kc c y) (hs : bS s = false) (h : vC c y 6 = s) : tot c y = cnt c y s := by
  have hn : ∀ t, bS t = false → ¬ t = s → cnt c y t = 0 := fun t ht hts => cnt_other hk hs ht hts (Or.inr h)
  obtain ⟨j, hj, rfl⟩ := bS_of hs
  have hh : j = 0 ∨ j = 1 ∨ j = 2 ∨ j = 3 := by omega
  have e0 : nI 0 = 0 := rfl
  have e1 : nI 1 = 1 := rfl
  have e2 : nI 2 = 2 := rfl
  have e3 : nI 3 = 3 := rfl
  unfold tot
  rcases hh with rfl | rfl | rfl | rfl
  · rw [e0] at hn ⊢
    rw [hn 1 (by decide) (by decide), hn 2 (by decide) (by decide), hn 3 (by decide) (by decide)]
    omega
  · rw [e1] at hn ⊢
    rw [hn 0 (by decide) (by decide), hn 2 (by decide) (by decide), hn 3 (by decide) (by decide)]
    omega
  · rw [e2] at hn ⊢
    rw [hn 0 (by decide) (by decide), hn 1 (by decide) (by decide), hn 3 (by decide) (by decide)]
    omega
  · rw [e3] at hn ⊢
    rw [hn 0 (by decide) (by decide), hn 1 (by decide) (by decide), hn 2 (by decide) (by decide)]
    omega
theorem v5_0 {y : Int32} (hk : Kc c y) : vC c y 5 = 0 ↔ tot c y = 0 := by
  have := tot_le c y
  rw [hk.1, show (0 : Int32) = nI 0 from rfl, nI_eq (by omega) (by omega)]
theorem cbC_other (iv : Iv lo c) {a s : Int32} (ha : bM a = false) (hs : bS s = false) (h : cbC c a s = true) : ∀ t, bS t = false → ¬ t = s → cnt c a t = 0 := fun t ht hts => by
  have hk := iv.2.2.2.2.1 a ha
  simp only [cbC, Bool.and_eq_true, Bool.or_eq_true, decide_eq_true_eq] at h
  exact cnt_other hk hs ht hts (h.2.imp (v5_0 hk).mp id)
def Gd (c : Ce) (x : Int32) : Prop := x = 100 ∨ x = -1 ∨ (bM x = false ∧ vC c x 0 = 1)
theorem Gd_p (iv : Iv lo c) (x s : Int32) : Gd c (pC c x s) := by
  rcases iv.2.2.1 x s with h | h | h
  · exact Or.inr (Or.inl h)
  · exact Or.inl h
  · exact Or.inr (Or.inr h)
theorem Gd_m {x : Int32} (h : Gd c x) (hx : bM x = false) : vC c x 0 = 1 := by
  rcases h with rfl | rfl | h
  · cases hx
  · cases hx
  · exact h.2
theorem dGo_en {s e : Int32} (he : eD e) : ∀ {k n j : Nat} {x : Int32}, k + 1 ≤ n → en c s e k x → dGo c s n (nI j) x = if e = 100 then nI (j + k) else -1 := by
  intro k
  induction k with
  | zero =>
    intro n j x hn h
    obtain ⟨n, rfl⟩ : ∃ n', n = n' + 1 := ⟨n - 1, by omega⟩
    cases h
    rw [dGo]
    rcases he with rfl | rfl
    · rfl
    · rfl
  | succ k ih =>
    intro n j x hn h
    obtain ⟨n, rfl⟩ : ∃ n', n = n' + 1 := ⟨n - 1, by omega⟩
    rw [dGo, if_neg (bM_ne100 h.1), if_neg (bMm1 h.1), nI_1, ih (by omega) h.2, show j + 1 + k = j + (k + 1) by omega]
theorem f01 (iv : Iv lo c) {x : Int32} (hx : bM x = false) (h0 : vC c x 0 = 1) : vC c x 3 = 0 ∨ vC c x 3 = 1 := (iv.2.2.2.1 x hx h0).imp And.left And.left
theorem Gd_Te (iv : Iv lo c) {x s : Int32} (hs : bS s = false) (h : Gd c x) : Te c s x := by
  rcases h with rfl | rfl | h
  · exact Te_end c s (Or.inl rfl)
  · exact Te_end c s (Or.inr rfl)
  · exact iv.2.2.2.2.2.1 s hs x h.1
theorem dC_en {s e : Int32} {k : Nat} {x : Int32} (he : eD e) (h : en c s e k x) : dC c x s = if e = 100 then nI k else -1 := by
  have h1 := en_le he h
  have := dGo_en (n := 33) (j := 0) he (by omega) h
  rw [Nat.zero_add] at this
  exact this
theorem rmC_unj (iv : Iv lo c) {a : Int32} (s : Int32) (ha : bM a = false) (h0 : ¬ vC c a 0 = 1) : rmC c a s = false := by
  have := (iv.2.1 a ha (unj iv ha h0)).1
  unfold rmC cbC
  rw [if_neg (bM_ne100 ha), this 1]
  simp
theorem ch_j (iv : Iv lo c) {x a s : Int32} (hx : bM x = false) (ha : ¬ a = -1) (h : pC c x s = a) : vC c x 0 = 1 := by
  by_cases h0 : vC c x 0 = 1
  · exact h0
  · exact absurd (h.symm.trans ((iv.2.1 x hx (unj iv hx h0)).2 s)) ha
def Lc (c : Ce) (a s l : Int32) : Prop := l = -1 ∨ (bM l = false ∧ pC c l s = a)
theorem nIm1 {i : Nat} (h : i < 32) : ¬ nI i = -1 := bMm1 (bM_n h)
theorem lcC_ch (c : Ce) (a s : Int32) : Lc c a s (lcC c a s) := by
  have : ∀ n, n ≤ 32 → Lc c a s (foldTo (lcF c a s) (-1) n) := by
    intro n
    induction n with
    | zero => exact fun _ => Or.inl rfl
    | succ n ih =>
      intro hn
      have h2 := ih (by omega)
      rw [foldTo]
      generalize foldTo (lcF c a s) (-1) n = l at h2 ⊢
      have hM := bM_n (show n < 32 by omega)
      unfold lcF
      split
      · next hc =>
        split
        · exact Or.inr ⟨hM, hc⟩
        · split
          · exact Or.inr ⟨hM, hc⟩
          · exact h2
      · exact h2
  exact this 32 (Nat.le_refl _)
theorem lcC_no {a s : Int32} (h : lcC c a s = -1) : cnt c a s = 0 := by
  have : ∀ n, n ≤ 32 → foldTo (lcF c a s) (-1) n = -1 → ∀ i, i < n → ¬ pC c (nI i) s = a := by
    intro n
    induction n with
    | zero => exact fun _ _ i hi => by omega
    | succ n ih =>
      intro hn h i hi
      rw [foldTo] at h
      have hM := nIm1 (show n < 32 by omega)
      unfold lcF at h
      by_cases hc : pC c (nI n) s = a
      · rw [if_pos hc] at h
        split at h
        · exact absurd h hM
        · split at h
          · exact absurd h hM
          · next h3 _ => exact absurd h h3
      · rw [if_neg hc] at h
        by_cases hin : i = n
        · subst hin
          exact hc
        · exact ih (by omega) h i (by omega)
  exact cN_zero (fun i hi => by simpa using this 32 (Nat.le_refl _) h i hi)
def Lf (c : Ce) (a s l : Int32) : Prop := l = -1 ∨ (bM l = false ∧ pC c l s = a ∧ cbC c l s = true)
theorem en_orph {x s : Int32} (hx : bM x = false) (hp : pC c x s = -1) (j : Nat) : ¬ en c s 100 j x := fun h => by
  have h1 : en c s (-1) 1 x := ⟨hx, hp⟩
  have := (en_uniq (Or.inl rfl) (Or.inr rfl) h h1).2
  cases this
theorem uGo_orph {x s : Int32} (hx : bM x = false) (hp : pC c x s = -1) : ∀ {k n : Nat} {a : Int32}, en c s 100 k a → uGo c s x n a = false := by
  intro k
  induction k with
  | zero =>
    intro n a h
    cases h
    cases n with
    | zero => rfl
    | succ n => rw [uGo, if_neg (Ne.symm (bM_ne100 hx)), if_pos rfl]
  | succ k ih =>
    intro n a h
    cases n with
    | zero => rfl
    | succ n =>
      have : ¬ a = x := by
        rintro rfl
        exact en_orph hx hp _ h
      rw [uGo, if_neg this, if_neg (bM_ne100 h.1), if_neg (bMm1 h.1)]
      exact ih h.2
theorem dC_con (iv : Iv lo c) {x s : Int32} (hs : bS s = false) (hx : bM x = false) (h : ¬ dC c x s = -1) : ∃ k, en c s 100 k x := by
  obtain ⟨k, e, he, h1⟩ := iv.2.2.2.2.2.1 s hs x hx
  rcases he with rfl | rfl
  · exact ⟨k, h1⟩
  · exact absurd (dC_en (Or.inr rfl) h1) h
theorem rmC_con (iv : Iv lo c) {a s : Int32} (hs : bS s = false) (ha : bM a = false) (h : rmC c a s = true) : (∃ k, en c s 100 k a) ∧ cbC c a s = true := by
  unfold rmC at h
  rw [if_neg (bM_ne100 ha)] at h
  simp only [Bool.and_eq_true, decide_eq_true_eq] at h
  exact ⟨dC_con iv hs ha h.2, h.1.1⟩
def Pv (c c' : Ce) : Prop := (∀ y u, ¬ u = 5 → ¬ u = 6 → vC c' y u = vC c y u) ∧ (∀ k, ¬ k = 6 → ¬ k = 7 → figC c' k = figC c k)
theorem Pv_r (c : Ce) : Pv c c := ⟨fun _ _ _ _ => rfl, fun _ _ _ => rfl⟩
theorem Pv_t {a b c : Ce} (h : Pv a b) (g : Pv b c) : Pv a c := ⟨fun y u h5 h6 => (g.1 y u h5 h6).trans (h.1 y u h5 h6), fun k h5 h6 => (g.2 k h5 h6).trans (h.2 k h5 h6)⟩
theorem Pv_mv (c : Ce) {x s : Int32} (p : Int32) (hx : bM x = false) (hs : bS s = false) : Pv c (mvC c x s p) := ⟨fun y _ h5 h6 => vC_mv_ne c p hx hs y h5 h6, fun k _ _ => figC_mv c p hx hs k⟩
theorem bF_6 : bF 6 = false := by decide
theorem bF_7 : bF 7 = false := by decide
theorem Pv_af (c : Ce) {k : Int32} (v : Int32) (hk : k = 6 ∨ k = 7) : Pv c (afC c k v) := by
  have hb : bF k = false := by rcases hk with rfl | rfl <;> decide
  refine ⟨fun y u _ _ => vC_af c v hb y u, fun t h6 h7 => ?_⟩
  rw [figC_af c v hb, if_neg]
  rintro rfl
  rcases hk with h | h
  · exact h6 h
  · exact h7 h
theorem en_af (c : Ce) {k : Int32} (v : Int32) (hk : bF k = false) {s e : Int32} {n : Nat} {x : Int32} (h : en c s e n x) : en (afC c k v) s e n x := en_congr (fun z => pC_af c v hk z s) h
theorem cnt_af (c : Ce) {k : Int32} (v : Int32) (hk : bF k = false) (y s : Int32) : cnt (afC c k v) y s = cnt c y s := cN_congr (fun i _ => by rw [pC_af c v hk])
theorem tot_af (c : Ce) {k : Int32} (v : Int32) (hk : bF k = false) (y : Int32) : tot (afC c k v) y = tot c y := by
  unfold tot
  rw [cnt_af c v hk, cnt_af c v hk, cnt_af c v hk, cnt_af c v hk]
theorem Iv_af (iv : Iv lo c) {k : Int32} (v : Int32) (hk : bF k = false) (h0 : ¬ k = 0) (h8 : ¬ k = 8) (h10 : ¬ k = 10) : Iv lo (afC c k v) := by
  obtain ⟨i1, i2, i3, i4, i5, i6, i7, i8⟩ := iv
  unfold Iv
  simp only [vC_af c v hk, pC_af c v hk]
  refine ⟨i1, i2, i3, ?_, fun y hy => ?_, fun s hs x hx => ?_, ?_, ?_⟩
  · rw [figC_af c v hk, if_neg (Ne.symm h8)]
    exact i4
  · have := i5 y hy
    unfold Kc at this ⊢
    simp only [vC_af c v hk, tot_af c v hk, cnt_af c v hk]
    exact this
  · obtain ⟨n, e, he, h⟩ := i6 s hs x hx
    exact ⟨n, e, he, en_af c v hk h⟩
  · rw [figC_af c v hk, if_neg (Ne.symm h0)]
    exact i7
  · rw [figC_af c v hk, if_neg (Ne.symm h10)]
    exact i8
theorem cnt_cg (hp : ∀ y t, pC c' y t = pC c y t) (y s : Int32) : cnt c' y s = cnt c y s := cN_congr (fun i _ => by rw [hp])
theorem tot_cg (hp : ∀ y t, pC c' y t = pC c y t) (y : Int32) : tot c' y = tot c y := by
  unfold tot
  rw [cnt_cg hp, cnt_cg hp, cnt_cg hp, cnt_cg hp]
theorem Te_cg (hp : ∀ y t, pC c' y t = pC c y t) {s x : Int32} (h : Te c s x) : Te c' s x := by
  obtain ⟨k, e, he, h⟩ := h
  exact ⟨k, e, he, en_congr (fun z => hp z s) h⟩
theorem Iv_cg {lo' : Int32 → Nat} (iv : Iv lo c) (hp : ∀ y t, pC c' y t = pC c y t) (h0 : ∀ y, vC c' y 0 = vC c y 0) (h5 : ∀ y, vC c' y 5 = vC c y 5) (h6 : ∀ y, vC c' y 6 = vC c y 6) (hu : ∀ y, bM y = false → vC c y 0 = 0 → ∀ w, vC c' y w = 0) (h4 : ∀ x, bM x = false → vC c x 0 = 1 → (vC c' x 3 = 0 ∧ vC c' x 4 = -1) ∨ (vC c' x 3 = 1 ∧ ∃ k, lo' x ≤ k ∧ k ≤ 20 ∧ vC c' x 4 = figC c' 8 + nI k)) (hf0 : figC c' 0 = figC c 0) (h8 : ∃ k, 1 ≤ k ∧ k ≤ 20 ∧ figC c' 10 = nI k) : Iv lo' c' := by
  obtain ⟨i1, i2, i3, i4, i5, i6, i7, i8⟩ := iv
  unfold Iv
  simp only [h0, hp]
  refine ⟨i1, fun y hy hz => ⟨hu y hy hz, (i2 y hy hz).2⟩, i3, h4, fun y hy => ?_, fun s hs x hx => Te_cg hp (i6 s hs x hx), hf0.trans i7, h8⟩
  have := i5 y hy
  unfold Kc at this ⊢
  simp only [h0, h5, h6, tot_cg hp, cnt_cg hp]
  exact this
theorem lo_eq (iv : Iv lo c) (h3 : ∀ y, vC c' y 3 = vC c y 3) (h4 : ∀ y, vC c' y 4 = vC c y 4) (h8 : figC c' 8 = figC c 8) : ∀ x, bM x = false → vC c x 0 = 1 → (vC c' x 3 = 0 ∧ vC c' x 4 = -1) ∨ (vC c' x 3 = 1 ∧ ∃ k, lo x ≤ k ∧ k ≤ 20 ∧ vC c' x 4 = figC c' 8 + nI k) := fun x hx h0 => by
  rw [h3, h4, h8]
  exact iv.2.2.2.1 x hx h0
theorem toG_eq {x : Int32} (hx : bM x = false) : ∀ j, j ≤ 10 → ∀ c, (∀ y u, vC (fold2 (toG x) c j) y u = if y = x ∧ (∃ i, i < j ∧ u = nI i) then 0 else vC c y u) ∧ (∀ y t, pC (fold2 (toG x) c j) y t = pC c y t) ∧ ∀ k, figC (fold2 (toG x) c j) k = figC c k := by
  intro j
  induction j with
  | zero =>
    intro _ c
    rw [fold2_0]
    exact ⟨fun y u => by rw [if_neg]; rintro ⟨-, i, hi, -⟩; omega, fun _ _ => rfl, fun _ => rfl⟩
  | succ j ih =>
    intro hj c
    obtain ⟨h1, h2, h3⟩ := ih (by omega) c
    rw [fold2_s]
    have hV : bV (nI j) = false := by
      simp only [bV, Bool.or_eq_false_iff, decide_eq_false_iff_not, Decidable.not_not]
      refine ⟨nI_pos (by omega), ?_⟩
      rw [show (10 : Int32) = nI 10 from rfl, nI_ltI (by omega) (by omega)]
      omega
    unfold toG at h1 h2 h3 ⊢
    refine ⟨fun y u => ?_, fun y t => by rw [pC_sv _ _ hV]; exact h2 y t, fun k => by rw [figC_sv _ _ hV]; exact h3 k⟩
    rw [vC_sv _ _ hx hV]
    by_cases e : y = x ∧ u = nI j
    · rw [if_pos e, if_pos ⟨e.1, j, by omega, e.2⟩]
    · rw [if_neg e, h1]
      by_cases hc : y = x ∧ ∃ i, i < j ∧ u = nI i
      · obtain ⟨a1, i, a2, a3⟩ := hc
        rw [if_pos ⟨a1, i, a2, a3⟩, if_pos ⟨a1, i, by omega, a3⟩]
      · rw [if_neg hc, if_neg]
        rintro ⟨a1, i, a2, a3⟩
        by_cases hij : i = j
        · subst hij
          exact e ⟨a1, a3⟩
        · exact hc ⟨a1, i, by omega, a3⟩
theorem figC_mv' (c : Ce) (x s p k : Int32) : figC (mvC c x s p) k = figC c k := by
  by_cases hx : bM x = false
  · by_cases hs : bS s = false
    · exact figC_mv c p hx hs k
    · have hs' := bSt hs
      simp only [bS, Bool.or_eq_true, decide_eq_true_eq] at hs'
      unfold mvC
      rw [if_pos (Or.inr (Or.inr hs'))]
  · have hx' := bMt hx
    simp only [bM, Bool.or_eq_true, decide_eq_true_eq] at hx'
    unfold mvC
    rw [if_pos (hx'.elim Or.inl (fun q => Or.inr (Or.inl ((m32 x).mpr q))))]
theorem fig_cutN (a s k : Int32) : ∀ n c, figC (cutN a s n c) k = figC c k := by
  intro n
  induction n with
  | zero => exact fun _ => rfl
  | succ n ih => exact fun c => (ih _).trans (figC_mv' c _ _ _ k)
theorem fig_toF (x k : Int32) : ∀ j c, figC (fold2 (toF x) c j) k = figC c k := by
  intro j
  induction j with
  | zero => exact fun c => by rw [fold2_0]
  | succ j ih =>
    intro c
    rw [fold2_s]
    exact (figC_mv' _ _ _ _ k).trans ((fig_cutN _ _ k _ _).trans (ih c))
theorem bF_0 : bF 0 = false := by decide
theorem bV_0 : bV 0 = false := by decide
theorem bV_1 : bV 1 = false := by decide
theorem bV_2 : bV 2 = false := by decide
theorem bV_3 : bV 3 = false := by decide
theorem bV_4 : bV 4 = false := by decide
theorem vC_ti (c : Ce) {x : Int32} (b p : Int32) (hx : bM x = false) (y u : Int32) : vC (tiC c x b p) y u = if y = x ∧ u = 6 then -1 else if y = x ∧ u = 4 then -1 else if y = x ∧ u = 2 then p else if y = x ∧ u = 1 then b else if y = x ∧ u = 0 then 1 else vC c y u := by
  unfold tiC
  rw [vC_af _ _ bF_0, vC_sv _ _ hx bV_6, vC_sv _ _ hx bV_4, vC_sv _ _ hx bV_2, vC_sv _ _ hx bV_1, vC_sv _ _ hx bV_0]
theorem pC_ti (c : Ce) (x b p y t : Int32) : pC (tiC c x b p) y t = pC c y t := by
  unfold tiC
  rw [pC_af _ _ bF_0, pC_sv _ _ bV_6, pC_sv _ _ bV_4, pC_sv _ _ bV_2, pC_sv _ _ bV_1, pC_sv _ _ bV_0]
theorem figC_ti (c : Ce) (x b p k : Int32) : figC (tiC c x b p) k = if k = 0 then figC c 0 + 1 else figC c k := by
  unfold tiC
  rw [figC_af _ _ bF_0, figC_sv _ _ bV_6, figC_sv _ _ bV_4, figC_sv _ _ bV_2, figC_sv _ _ bV_1, figC_sv _ _ bV_0, figC_sv _ _ bV_6, figC_sv _ _ bV_4, figC_sv _ _ bV_2, figC_sv _ _ bV_1, figC_sv _ _ bV_0]
theorem Iv_sf (iv : Iv lo c) {k : Int32} (v : Int32) (hk : bF k = false) (h0 : ¬ k = 0) (h8 : ¬ k = 8) (h10 : k = 10 → ∃ j, 1 ≤ j ∧ j ≤ 20 ∧ v = nI j) : Iv lo (sfC c k v) := by
  refine Iv_cg iv (fun y t => pC_sf c v hk y t) (fun y => vC_sf c v hk y 0) (fun y => vC_sf c v hk y 5) (fun y => vC_sf c v hk y 6) (fun y hy hz w => by rw [vC_sf c v hk]; exact (iv.2.1 y hy hz).1 w) (lo_eq iv (fun y => vC_sf c v hk y 3) (fun y => vC_sf c v hk y 4) (by rw [figC_sf c v hk, if_neg (Ne.symm h8)])) (by rw [figC_sf c v hk, if_neg (Ne.symm h0)]) ?_
  rw [figC_sf c v hk]
  by_cases q : (10 : Int32) = k
  · rw [if_pos q]
    exact h10 q.symm
  · rw [if_neg q]
    exact iv.2.2.2.2.2.2.2
theorem bF_9 : bF 9 = false := by decide
theorem bF_10 : bF 10 = false := by decide
theorem bF_8 : bF 8 = false := by decide
theorem bR_of1 {w : Int32} {n : Nat} (hn : n + 1 < 2 ^ 31) (h : bR w 1 (nI n) = false) : ∃ j : Nat, 1 ≤ j ∧ j ≤ n ∧ w = nI j := by
  simp only [bR, Bool.or_eq_false_iff, decide_eq_false_iff_not, Decidable.not_not] at h
  obtain ⟨h1, h2⟩ := h
  have h0 : ¬ w < 0 := by
    intro q
    apply h1
    rw [Int32.lt_iff_toInt_lt] at q ⊢
    have e0 : (0 : Int32).toInt = 0 := rfl
    have e1 : (1 : Int32).toInt = 1 := rfl
    omega
  obtain ⟨j, hj, rfl⟩ := nI_of h0
  rw [nI_leI (by omega) (by omega)] at h2
  rw [show (1 : Int32) = nI 1 from rfl, nI_ltI (by omega) (by omega)] at h1
  exact ⟨j, by omega, h2, rfl⟩
theorem cutC_0 {a s : Int32} {b : Nat} (hb : b ≤ 32) (h : cnt c a s ≤ b) : cutC c a s (nI b) = c := by
  have hl := cnt_le c a s
  unfold cutC
  rw [chC_cnt, nI_toInt (by omega), nI_toInt (by omega), show ((cnt c a s : Int) - (b : Int)).toNat = 0 by omega]
  rfl
def VE (a b : Ce) : Prop := (∀ y t, pC a y t = pC b y t) ∧ (∀ y u, vC a y u = vC b y u) ∧ ∀ k, figC a k = figC b k
theorem Iv_VE (h : VE c' c) (iv : Iv lo c) : Iv lo c' := by
  obtain ⟨h1, h2, h3⟩ := h
  refine Iv_cg iv h1 (fun y => h2 y 0) (fun y => h2 y 5) (fun y => h2 y 6) (fun y hy hz w => by rw [h2]; exact (iv.2.1 y hy hz).1 w) (lo_eq iv (fun y => h2 y 3) (fun y => h2 y 4) (h3 8)) (h3 0) (by rw [h3]; exact iv.2.2.2.2.2.2.2)
theorem gC_cg (h1 : ∀ y t, pC c' y t = pC c y t) (h3 : ∀ y, vC c' y 3 = vC c y 3) (x s : Int32) : gC c' x s = gC c x s := by
  have : ∀ n p, gGo c' s n p = gGo c s n p := by
    intro n
    induction n with
    | zero => exact fun _ => rfl
    | succ n ih => exact fun p => by rw [gGo, gGo, h3, h1, ih]
  exact this 33 x
theorem pcC_cg (h1 : ∀ y t, pC c' y t = pC c y t) (h3 : ∀ y, vC c' y 3 = vC c y 3) (x : Int32) : pcC c' x = pcC c x := sumTo_congr (fun i _ => by rw [gC_cg h1 h3])
def haI (c : Ce) (x : Int32) : Int32 := if pcC c x < 3 then 0 else 1
def miI (c : Ce) (x : Int32) : Int32 := if pcC c x < 3 then (if flC c x = true then 0 else 1) else 0
theorem haI_cg (h1 : ∀ y t, pC c' y t = pC c y t) (h3 : ∀ y, vC c' y 3 = vC c y 3) (x : Int32) : haI c' x = haI c x := by
  unfold haI
  rw [pcC_cg h1 h3]
theorem miI_cg (h1 : ∀ y t, pC c' y t = pC c y t) (h3 : ∀ y, vC c' y 3 = vC c y 3) (x : Int32) : miI c' x = miI c x := by
  unfold miI flC
  rw [pcC_cg h1 h3, h3]
theorem bV_7 : bV 7 = false := by decide
theorem bV_8 : bV 8 = false := by decide
theorem bV_9 : bV 9 = false := by decide
theorem bF_1 : bF 1 = false := by decide
theorem bF_2 : bF 2 = false := by decide
theorem bF_3 : bF 3 = false := by decide
theorem bF_4 : bF 4 = false := by decide
theorem bF_5 : bF 5 = false := by decide
theorem rbC_pC (c : Ce) (x b y t : Int32) : pC (rbC c x b) y t = pC c y t := by
  have e1 : pC (rb1 c x b) y t = pC c y t := by
    unfold rb1
    rw [pC_af _ _ bF_2, pC_sv _ _ bV_7]
  unfold rbC
  split
  · split
    · exact e1
    · rw [pC_af _ _ bF_4, pC_sv _ _ bV_9, e1]
  · rw [pC_af _ _ bF_3, pC_sv _ _ bV_8, e1]
theorem rb1_v (c : Ce) {x : Int32} (b : Int32) (hx : bM x = false) (y u : Int32) : vC (rb1 c x b) y u = if y = x ∧ u = 7 then vC c x 7 + pcC c x * b else vC c y u := by
  unfold rb1
  rw [vC_af _ _ bF_2, vC_sv _ _ hx bV_7]
theorem rb1_f (c : Ce) (x b k : Int32) : figC (rb1 c x b) k = if k = 2 then figC c 2 + pcC c x * b else figC c k := by
  unfold rb1
  rw [figC_af _ _ bF_2, figC_sv _ _ bV_7, figC_sv _ _ bV_7]
theorem rb1_fl (c : Ce) {x : Int32} (b : Int32) (hx : bM x = false) : flC (rb1 c x b) x = flC c x := by
  unfold flC
  rw [rb1_v c b hx, if_neg (fun q => absurd q.2 (by decide))]
def dvC (c : Ce) (x u : Int32) : Int32 := if u = 7 then pcC c x else if u = 8 then haI c x else if u = 9 then miI c x else 0
def dfC (c : Ce) (x k : Int32) : Int32 := if k = 2 then pcC c x else if k = 3 then haI c x else if k = 4 then miI c x else 0
theorem rbC_v (c : Ce) {x : Int32} (b : Int32) (hx : bM x = false) (y u : Int32) : vC (rbC c x b) y u = vC c y u + (if y = x then dvC c x u * b else 0) := by
  unfold rbC dvC haI miI
  rw [rb1_fl c b hx]
  by_cases hyx : y = x
  · subst hyx
    rw [if_pos rfl]
    by_cases h3 : pcC c y < 3
    · simp only [if_pos h3]
      by_cases hf : flC c y = true
      · rw [if_pos hf, rb1_v c b hx]
        by_cases h7 : u = 7
        · simp [h7]
        · by_cases h8 : u = 8
          · simp [h8]
          · by_cases h9 : u = 9
            · simp [h9, hf]
            · simp [h7, h8, h9]
      · rw [if_neg hf, vC_af _ _ bF_4, vC_sv _ _ hx bV_9, rb1_v c b hx, rb1_v c b hx]
        by_cases h7 : u = 7
        · simp [h7]
        · by_cases h9 : u = 9
          · simp [h9, hf]
          · simp [h7, h9]
    · simp only [if_neg h3]
      rw [vC_af _ _ bF_3, vC_sv _ _ hx bV_8, rb1_v c b hx, rb1_v c b hx]
      by_cases h7 : u = 7
      · simp [h7]
      · by_cases h8 : u = 8
        · simp [h8]
        · simp [h7, h8]
  · rw [if_neg hyx, Int32.add_zero]
    have e1 : vC (rb1 c x b) y u = vC c y u := by rw [rb1_v c b hx, if_neg (fun q => hyx q.1)]
    split
    · split
      · exact e1
      · rw [vC_af _ _ bF_4, vC_sv _ _ hx bV_9, if_neg (fun q => hyx q.1), e1]
    · rw [vC_af _ _ bF_3, vC_sv _ _ hx bV_8, if_neg (fun q => hyx q.1), e1]
theorem rbC_f (c : Ce) {x : Int32} (b : Int32) (hx : bM x = false) (k : Int32) : figC (rbC c x b) k = figC c k + dfC c x k * b := by
  unfold rbC dfC haI miI
  rw [rb1_fl c b hx]
  by_cases h3 : pcC c x < 3
  · simp only [if_pos h3]
    by_cases hf : flC c x = true
    · rw [if_pos hf, rb1_f]
      by_cases h7 : k = 2
      · simp [h7]
      · simp [h7, hf]
    · rw [if_neg hf, figC_af _ _ bF_4, figC_sv _ _ bV_9, figC_sv _ _ bV_9, rb1_f, rb1_f]
      by_cases h7 : k = 2
      · simp [h7]
      · by_cases h9 : k = 4
        · simp [h9, hf]
        · simp [h7, h9]
  · simp only [if_neg h3]
    rw [figC_af _ _ bF_3, figC_sv _ _ bV_8, figC_sv _ _ bV_8, rb1_f, rb1_f]
    by_cases h7 : k = 2
    · simp [h7]
    · by_cases h8 : k = 3
      · simp [h8]
      · simp [h7, h8]
theorem rbI_eq (c : Ce) {x : Int32} (b : Int32) (hx : bM x = false) : rbI c x b = miI c x * b := by
  unfold rbI miI
  rw [rb1_fl c b hx]
  by_cases h3 : pcC c x < 3
  · simp only [if_pos h3]
    by_cases hf : flC c x = true
    · simp [hf]
    · simp [hf]
  · simp [h3]
def tfC (c : Ce) (k : Int32) : Int32 := if k = 1 then 1 else sumTo (fun i => if jnC c (nI i) = true then dfC c (nI i) k else 0) 32
theorem dfC_1 (c : Ce) (x : Int32) : dfC c x 1 = 0 := rfl
theorem sb_n (c : Ce) (b : Int32) : ∀ n, n ≤ 32 → (∀ y t, pC (fold2 (sbF b) (0, afC c 1 b) n).2 y t = pC c y t) ∧ (∀ y u, vC (fold2 (sbF b) (0, afC c 1 b) n).2 y u = vC c y u + (if (∃ i, i < n ∧ y = nI i) ∧ jnC c y = true then dvC c y u * b else 0)) ∧ (∀ k, figC (fold2 (sbF b) (0, afC c 1 b) n).2 k = figC (afC c 1 b) k + sumTo (fun i => if jnC c (nI i) = true then dfC c (nI i) k else 0) n * b) ∧ (fold2 (sbF b) (0, afC c 1 b) n).1 = sumTo (fun i => if jnC c (nI i) = true then dfC c (nI i) 4 else 0) n * b := by
  intro n
  induction n with
  | zero =>
    intro _
    rw [fold2_0]
    refine ⟨fun y t => pC_af c b bF_1 y t, fun y u => ?_, fun k => ?_, ?_⟩
    · rw [vC_af c b bF_1, if_neg, Int32.add_zero]
      rintro ⟨⟨i, hi, -⟩, -⟩
      omega
    · simp [sumTo]
    · simp [sumTo]
  | succ n ih =>
    intro hn
    obtain ⟨h1, h2, h3, h4⟩ := ih (by omega)
    have hM := bM_n (show n < 32 by omega)
    rw [fold2_s]
    generalize fold2 (sbF b) (0, afC c 1 b) n = q at h1 h2 h3 h4 ⊢
    have hno : ¬ ∃ i, i < n ∧ nI n = nI i := by
      rintro ⟨i, hi, e⟩
      have := (nI_eq (by omega) (by omega)).mp e
      omega
    have e0 : jnC q.2 (nI n) = jnC c (nI n) := by
      unfold jnC
      rw [h2, if_neg (fun z => hno z.1), Int32.add_zero]
    have ev3 : ∀ y, vC q.2 y 3 = vC c y 3 := fun y => by
      rw [h2]
      have : dvC c y 3 = 0 := rfl
      rw [this]
      split <;> simp
    have epc := pcC_cg h1 ev3 (nI n)
    have eha := haI_cg h1 ev3 (nI n)
    have emi := miI_cg h1 ev3 (nI n)
    have edv : ∀ u, dvC q.2 (nI n) u = dvC c (nI n) u := fun u => by unfold dvC; rw [epc, eha, emi]
    have edf : ∀ k, dfC q.2 (nI n) k = dfC c (nI n) k := fun u => by unfold dfC; rw [epc, eha, emi]
    unfold sbF
    rw [e0]
    by_cases hj : jnC c (nI n) = true
    · simp only [hj, if_true, sumTo]
      refine ⟨fun y t => by rw [rbC_pC]; exact h1 y t, fun y u => ?_, fun k => ?_, ?_⟩
      · rw [rbC_v _ _ hM, h2, edv]
        by_cases hy : y = nI n
        · rw [if_pos hy, if_neg (fun z => hno (by rw [hy] at z; exact z.1)), if_pos ⟨⟨n, by omega, hy⟩, by rw [hy]; exact hj⟩, hy, Int32.add_zero]
        · rw [if_neg hy, Int32.add_zero]
          by_cases hc : (∃ i, i < n ∧ y = nI i) ∧ jnC c y = true
          · obtain ⟨⟨i, a1, a2⟩, a3⟩ := hc
            rw [if_pos ⟨⟨i, a1, a2⟩, a3⟩, if_pos ⟨⟨i, by omega, a2⟩, a3⟩]
          · rw [if_neg hc, if_neg]
            rintro ⟨⟨i, a1, a2⟩, a3⟩
            by_cases hin : i = n
            · subst hin
              exact hy a2
            · exact hc ⟨⟨i, by omega, a2⟩, a3⟩
      · rw [rbC_f _ _ hM, h3, edf, Int32.add_mul, Int32.add_assoc]
      · rw [rbI_eq _ _ hM, h4, emi, Int32.add_mul]
        rfl
    · simp only [hj, Bool.false_eq_true, if_false, sumTo, Int32.add_zero]
      refine ⟨h1, fun y u => ?_, h3, h4⟩
      rw [h2]
      by_cases hc : (∃ i, i < n ∧ y = nI i) ∧ jnC c y = true
      · obtain ⟨⟨i, a1, a2⟩, a3⟩ := hc
        rw [if_pos ⟨⟨i, a1, a2⟩, a3⟩, if_pos ⟨⟨i, by omega, a2⟩, a3⟩]
      · rw [if_neg hc, if_neg]
        rintro ⟨⟨i, a1, a2⟩, a3⟩
        by_cases hin : i = n
        · subst hin
          rw [a2] at a3
          exact hj a3
        · exact hc ⟨⟨i, by omega, a2⟩, a3⟩
theorem sb_p (c : Ce) (b y t : Int32) : pC (sbC c b).2 y t = pC c y t := (sb_n c b 32 (Nat.le_refl _)).1 y t
theorem sb_v (c : Ce) (b y u : Int32) : vC (sbC c b).2 y u = vC c y u + (if bM y = false ∧ jnC c y = true then dvC c y u * b else 0) := by
  refine ((sb_n c b 32 (Nat.le_refl _)).2.1 y u).trans ?_
  by_cases hc : bM y = false ∧ jnC c y = true
  · rw [if_pos hc, if_pos ⟨bM_of hc.1, hc.2⟩]
  · rw [if_neg hc, if_neg]
    rintro ⟨⟨i, a1, rfl⟩, a2⟩
    exact hc ⟨bM_n a1, a2⟩
theorem sb_f (c : Ce) (b k : Int32) : figC (sbC c b).2 k = figC c k + tfC c k * b := by
  refine ((sb_n c b 32 (Nat.le_refl _)).2.2.1 k).trans ?_
  unfold tfC
  rw [figC_af c b bF_1]
  by_cases hk : k = 1
  · subst hk
    rw [if_pos rfl, if_pos rfl]
    have : sumTo (fun i => if jnC c (nI i) = true then dfC c (nI i) 1 else 0) 32 = nI (cN (fun _ => false) 32) := sumTo_cN _ _ 32 (fun i _ => by simp [dfC_1])
    rw [this, cN_zero (fun _ _ => rfl)]
    simp [nI_0]
  · rw [if_neg hk, if_neg hk]
theorem sb_1 (c : Ce) (b : Int32) : (sbC c b).1 = figC (sbC c b).2 4 - figC c 4 := by
  rw [sb_f, Int32.add_comm, Int32.add_sub_cancel]
  exact (sb_n c b 32 (Nat.le_refl _)).2.2.2
theorem Iv_lo {lo' : Int32 → Nat} (iv : Iv lo c) (h : ∀ x, bM x = false → vC c x 0 = 1 → lo' x ≤ lo x ∨ (lo' x ≤ 1 ∧ ¬ vC c x 4 = figC c 8) ∨ vC c x 3 = 0) : Iv lo' c := by
  obtain ⟨i1, i2, i3, i4, i5, i6, i7, i8⟩ := iv
  refine ⟨i1, i2, i3, fun x hx h0 => ?_, i5, i6, i7, i8⟩
  rcases i4 x hx h0 with q | ⟨q3, k, k1, k2, k3⟩
  · exact Or.inl q
  · refine Or.inr ⟨q3, k, ?_, k2, k3⟩
    rcases h x hx h0 with p | p | p
    · omega
    · have : ¬ k = 0 := by
        rintro rfl
        apply p.2
        rw [k3, nI_0, Int32.add_zero]
      omega
    · rw [q3] at p
      cases p
def loN (n : Nat) : Int32 → Nat := fun y => if y.toNatClampNeg < n then 1 else 0
def Pw (c c' : Ce) : Prop := ∀ k, ¬ k = 0 → ¬ k = 5 → ¬ k = 6 → ¬ k = 7 → figC c' k = figC c k
theorem nf_id (iv : Iv (fun _ => 1) c) : nfC c = c := by
  have : ∀ n, n ≤ 32 → fold2 nfF c n = c := by
    intro n
    induction n with
    | zero => exact fun _ => fold2_0 _ _
    | succ n ih =>
      intro hn
      rw [fold2_s, ih (by omega)]
      have hM := bM_n (show n < 32 by omega)
      unfold nfF flC
      by_cases h3 : vC c (nI n) 3 = 1
      · have h0 : vC c (nI n) 0 = 1 := by
          by_cases q : vC c (nI n) 0 = 1
          · exact q
          · rw [(iv.2.1 _ hM (unj iv hM q)).1 3] at h3
            cases h3
        rw [if_pos (by simp [h3]), if_neg]
        intro h4
        rcases iv.2.2.2.1 _ hM h0 with q | ⟨-, k, k1, k2, k3⟩
        · rw [q.1] at h3
          cases h3
        · rw [k3] at h4
          have h5 : nI k = 0 := by
            have := congrArg (· - figC c 8) h4
            simp only [Int32.sub_self] at this
            rw [Int32.add_comm, Int32.add_sub_cancel] at this
            exact this
          have k1' : 1 ≤ k := k1
          exact nI_ne0 (by omega) (by omega) h5
      · rw [if_neg (by simpa using h3)]
  exact this 32 (Nat.le_refl _)
theorem nIs1 (n : Nat) (h : 1 ≤ n) : nI n - 1 = nI (n - 1) := by
  rw [show (1 : Int32) = nI 1 from rfl, pk_sub h]
theorem qt_ok (iv : Iv (fun _ => 1) c) : ∃ q, q ≤ 200 ∧ qtC c = nI q ∧ ∀ x, bM x = false → vC c x 0 = 1 → ∀ k, 1 ≤ k → k ≤ 20 → vC c x 3 = 1 → vC c x 4 = figC c 8 + nI k → q + 1 ≤ k := by
  have : ∀ n, n ≤ 32 → ∃ q, q ≤ 200 ∧ foldTo (qtF c) 200 n = nI q ∧ ∀ i, i < n → vC c (nI i) 0 = 1 → ∀ k, 1 ≤ k → k ≤ 20 → vC c (nI i) 3 = 1 → vC c (nI i) 4 = figC c 8 + nI k → q + 1 ≤ k := by
    intro n
    induction n with
    | zero => exact fun _ => ⟨200, Nat.le_refl _, rfl, fun i hi => by omega⟩
    | succ n ih =>
      intro hn
      obtain ⟨q, q1, q2, q3⟩ := ih (by omega)
      have hM := bM_n (show n < 32 by omega)
      rw [foldTo, q2]
      unfold qtF flC
      by_cases h3 : vC c (nI n) 3 = 1
      · have h0 : vC c (nI n) 0 = 1 := by
          by_cases z : vC c (nI n) 0 = 1
          · exact z
          · rw [(iv.2.1 _ hM (unj iv hM z)).1 3] at h3
            cases h3
        rcases iv.2.2.2.1 _ hM h0 with z | ⟨-, k, k1, k2, k3⟩
        · rw [z.1] at h3
          cases h3
        · have k1' : 1 ≤ k := k1
          have e : vC c (nI n) 4 - figC c 8 - 1 = nI (k - 1) := by
            rw [k3, Int32.add_comm, Int32.add_sub_cancel, nIs1 k k1']
          rw [if_neg (by simp [h3]), e]
          have hu : ∀ k', k' ≤ 20 → vC c (nI n) 4 = figC c 8 + nI k' → k' = k := fun k' hk' e' => by
            rw [k3] at e'
            have := congrArg (· - figC c 8) e'
            rw [Int32.add_comm, Int32.add_sub_cancel, Int32.add_comm, Int32.add_sub_cancel] at this
            exact ((nI_eq (by omega) (by omega)).mp this).symm
          by_cases hl : nI (k - 1) < nI q
          · rw [if_pos hl]
            rw [nI_ltI (by omega) (by omega)] at hl
            refine ⟨k - 1, by omega, rfl, fun i hi g0 k' g1 g2 g3 g4 => ?_⟩
            by_cases hin : i = n
            · subst hin
              have := hu k' g2 g4
              omega
            · have := q3 i (by omega) g0 k' g1 g2 g3 g4
              omega
          · rw [if_neg hl]
            rw [nI_ltI (by omega) (by omega)] at hl
            refine ⟨q, q1, rfl, fun i hi g0 k' g1 g2 g3 g4 => ?_⟩
            by_cases hin : i = n
            · subst hin
              have := hu k' g2 g4
              omega
            · exact q3 i (by omega) g0 k' g1 g2 g3 g4
      · rw [if_pos (by simpa using h3)]
        refine ⟨q, q1, rfl, fun i hi g0 k' g1 g2 g3 g4 => ?_⟩
        by_cases hin : i = n
        · subst hin
          exact absurd g3 h3
        · exact q3 i (by omega) g0 k' g1 g2 g3 g4
  obtain ⟨q, q1, q2, q3⟩ := this 32 (Nat.le_refl _)
  refine ⟨q, q1, q2, fun x hx h0 k k1 k2 k3 k4 => ?_⟩
  obtain ⟨i, hi, rfl⟩ := bM_of hx
  exact q3 i hi h0 k k1 k2 k3 k4
theorem al_ok (iv : Iv (fun _ => 1) c) {l : Nat} (hl : 1 ≤ l) (hl2 : l ≤ 200) : ∃ al, 1 ≤ al ∧ al ≤ l ∧ alC c (nI l) = nI al ∧ ∀ x, bM x = false → vC c x 0 = 1 → ∀ k, 1 ≤ k → k ≤ 20 → vC c x 3 = 1 → vC c x 4 = figC c 8 + nI k → al ≤ k := by
  obtain ⟨q, q1, q2, q3⟩ := qt_ok iv
  unfold alC
  rw [q2, show (1 : Int32) = nI 1 from rfl, nI_add]
  by_cases h1 : nI (1 + q) < nI l
  · simp only [if_pos h1]
    rw [nI_ltI (by omega) (by omega)] at h1
    by_cases h2 : nI 1 < nI (1 + q)
    · rw [if_pos h2]
      refine ⟨1 + q, by omega, by omega, rfl, fun x hx h0 k k1 k2 k3 k4 => ?_⟩
      have := q3 x hx h0 k k1 k2 k3 k4
      omega
    · rw [if_neg h2]
      exact ⟨1, by omega, by omega, rfl, fun x hx h0 k k1 k2 k3 k4 => k1⟩
  · simp only [if_neg h1]
    rw [nI_ltI (by omega) (by omega)] at h1
    by_cases h2 : nI 1 < nI l
    · rw [if_pos h2]
      refine ⟨l, by omega, by omega, rfl, fun x hx h0 k k1 k2 k3 k4 => ?_⟩
      have := q3 x hx h0 k k1 k2 k3 k4
      omega
    · rw [if_neg h2]
      exact ⟨1, by omega, by omega, rfl, fun x hx h0 k k1 k2 k3 k4 => k1⟩
theorem jn_af (c : Ce) {k : Int32} (v : Int32) (hk : bF k = false) (x : Int32) : jnC (afC c k v) x = jnC c x := by
  unfold jnC
  rw [vC_af c v hk]
theorem dv_cg (h1 : ∀ y t, pC c' y t = pC c y t) (h3 : ∀ y, vC c' y 3 = vC c y 3) (x u : Int32) : dvC c' x u = dvC c x u := by
  unfold dvC
  rw [pcC_cg h1 h3, haI_cg h1 h3, miI_cg h1 h3]
theorem tf_cg (h1 : ∀ y t, pC c' y t = pC c y t) (h3 : ∀ y, vC c' y 3 = vC c y 3) (h0 : ∀ y, vC c' y 0 = vC c y 0) (k : Int32) : tfC c' k = tfC c k := by
  unfold tfC
  by_cases hk : k = 1
  · rw [if_pos hk, if_pos hk]
  · rw [if_neg hk, if_neg hk]
    refine sumTo_congr (fun i _ => ?_)
    unfold jnC dfC
    rw [h0, pcC_cg h1 h3, haI_cg h1 h3, miI_cg h1 h3]
theorem dvC_3 (c : Ce) (y : Int32) : dvC c y 3 = 0 := rfl
theorem dvC_0 (c : Ce) (y : Int32) : dvC c y 0 = 0 := rfl
theorem dvC_4 (c : Ce) (y : Int32) : dvC c y 4 = 0 := rfl
theorem sb_ne (c : Ce) (b y : Int32) {u : Int32} (h : ∀ x, dvC c x u = 0) : vC (sbC c b).2 y u = vC c y u := by
  rw [sb_v, h]
  split <;> simp
def ciC (c : Ce) (i : Nat) : Ce := afC (sbC c (nI i)).2 8 (nI i - 1)
theorem ci_p (c : Ce) (i : Nat) (y t : Int32) : pC (ciC c i) y t = pC c y t := by
  unfold ciC
  rw [pC_af _ _ bF_8, sb_p]
theorem ci_v (c : Ce) (i : Nat) (y u : Int32) : vC (ciC c i) y u = vC c y u + (if bM y = false ∧ jnC c y = true then dvC c y u * nI i else 0) := by
  unfold ciC
  rw [vC_af _ _ bF_8, sb_v]
theorem ci_f (c : Ce) (i : Nat) (k : Int32) : figC (ciC c i) k = (figC c k + tfC c k * nI i) + (if k = 8 then nI i - 1 else 0) := by
  unfold ciC
  rw [figC_af _ _ bF_8, sb_f, sb_f]
  by_cases hk : k = 8
  · rw [if_pos hk, if_pos hk, hk]
  · rw [if_neg hk, if_neg hk, Int32.add_zero]
theorem tfC_8 (c : Ce) : tfC c 8 = 0 := by
  unfold tfC
  rw [if_neg (by decide)]
  have : sumTo (fun i => if jnC c (nI i) = true then dfC c (nI i) 8 else 0) 32 = nI (cN (fun _ => false) 32) := sumTo_cN _ _ 32 (fun i _ => by simp [show dfC c (nI i) 8 = 0 from rfl])
  rw [this, cN_zero (fun _ _ => rfl)]
  rfl
theorem ci_1 (c : Ce) : VE (ciC c 1) (sbC c 1).2 := by
  refine ⟨fun y t => by rw [ci_p, sb_p], fun y u => by rw [ci_v, sb_v]; rfl, fun k => ?_⟩
  rw [ci_f, sb_f, show nI 1 - 1 = 0 from rfl]
  split <;> rw [Int32.add_zero] <;> rfl
theorem ci_s (c : Ce) (i : Nat) (h : 1 ≤ i) : VE (ciC c (i + 1)) (sbC (afC (ciC c i) 8 1) 1).2 := by
  have hp : ∀ y t, pC (afC (ciC c i) 8 1) y t = pC c y t := fun y t => by rw [pC_af _ _ bF_8, ci_p]
  have h3 : ∀ y, vC (afC (ciC c i) 8 1) y 3 = vC c y 3 := fun y => by
    rw [vC_af _ _ bF_8, ci_v, dvC_3]
    split <;> simp
  have h0 : ∀ y, vC (afC (ciC c i) 8 1) y 0 = vC c y 0 := fun y => by
    rw [vC_af _ _ bF_8, ci_v, dvC_0]
    split <;> simp
  refine ⟨fun y t => by rw [ci_p, sb_p, hp], fun y u => ?_, fun k => ?_⟩
  · rw [ci_v, sb_v, dv_cg hp h3, vC_af _ _ bF_8, ci_v]
    have hj : jnC (afC (ciC c i) 8 1) y = jnC c y := by
      unfold jnC
      rw [h0]
    rw [hj, nI_succ]
    split
    · rw [Int32.mul_add, Int32.add_assoc]
    · simp
  · rw [ci_f, sb_f, tf_cg hp h3 h0, figC_af _ _ bF_8, ci_f, ci_f]
    by_cases hk : k = 8
    · rw [hk, if_pos rfl, if_pos rfl, if_pos rfl, tfC_8]
      simp only [Int32.zero_mul, Int32.add_zero]
      rw [nIs1 _ (by omega), nIs1 _ h, Int32.add_assoc, nI_1]
      congr 2
      omega
    · rw [if_neg hk, if_neg hk, if_neg hk, nI_succ, Int32.add_zero, Int32.add_zero, Int32.mul_add, Int32.add_assoc]
end RD
