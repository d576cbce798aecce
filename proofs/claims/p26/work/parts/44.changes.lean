/-! children are cut, members go and come -/
section CG
variable {lo : Int32 → Nat} {c c' : Ce}
def Bm (c : Ce) : Prop := ∀ y, bM y = false → vC c y 0 = 1 → ∃ b : Nat, b ≤ 8 ∧ vC c y 1 = nI b ∧ tot c y ≤ b
def Bs (F : Nat) (c : Ce) : Prop := figC c 9 = nI F ∧ ∀ s, bS s = false → cnt c 100 s ≤ F
theorem Bd_of {F : Nat} (h1 : 1 ≤ F) (h2 : F ≤ 8) (m : Bm c) (s : Bs F c) : Bd c := ⟨m, F, h1, h2, s.1, s.2⟩
theorem Bm_sh (hB : Bm c) (hp : ∀ y t, pC c' y t = -1 ∨ pC c' y t = pC c y t) (hv : ∀ y, bM y = false → vC c' y 0 = 1 → vC c y 0 = 1 ∧ vC c' y 1 = vC c y 1) : Bm c' := fun y hy h0 => by
  obtain ⟨g0, g1⟩ := hv y hy h0
  obtain ⟨b, q1, q2, q3⟩ := hB y hy g0
  have := tot_sh hp (bMm1 hy)
  exact ⟨b, q1, g1.trans q2, by omega⟩
theorem Iv_rm (iv : Iv lo c) {x s : Int32} (hx : bM x = false) (h0 : vC c x 0 = 1) (hs : bS s = false) : Iv lo (mvC c x s (-1)) := Iv_mv iv hx h0 hs (Or.inl rfl) (Te_end _ s (Or.inr rfl))
theorem cut_iv {a s : Int32} {b : Nat} (hb : b ≤ 32) (ha : ¬ a = -1) (hs : bS s = false) : ∀ (k : Nat) (c : Ce), Iv lo c → (cnt c a s = b + k ∨ (k = 0 ∧ cnt c a s ≤ b)) → Iv lo (cutN a s k c) ∧ Pv c (cutN a s k c) ∧ (∀ y t, pC (cutN a s k c) y t = pC c y t ∨ (t = s ∧ pC c y t = a ∧ pC (cutN a s k c) y t = -1)) ∧ cnt (cutN a s k c) a s = cnt c a s - k := by
  intro k
  induction k with
  | zero =>
    intro c iv hk
    exact ⟨iv, Pv_r c, fun _ _ => Or.inl rfl, rfl⟩
  | succ k ih =>
    intro c iv hk
    have hk' : cnt c a s = b + (k + 1) := by omega
    have hne : ¬ lcC c a s = -1 := fun q => by
      have := lcC_no q
      omega
    obtain ⟨g1, g2⟩ := (lcC_ch c a s).resolve_left hne
    have g0 := ch_j iv g1 ha g2
    rw [cutN]
    have o1 := Iv_rm iv g1 g0 hs
    have hc := cnt_mv c (-1) a g1 hs
    rw [if_pos g2, if_neg (Ne.symm ha)] at hc
    obtain ⟨h2, h3, h4, h5⟩ := ih _ o1 (Or.inl (by omega))
    refine ⟨h2, Pv_t (Pv_mv c (-1) g1 hs) h3, fun y t => ?_, by omega⟩
    have e := pC_mv c (-1) g1 hs y t
    by_cases hyt : y = lcC c a s ∧ t = s
    · rw [if_pos hyt] at e
      refine Or.inr ⟨hyt.2, by rw [hyt.1, hyt.2]; exact g2, ?_⟩
      rcases h4 y t with q | q
      · rw [q, e]
      · exact q.2.2
    · rw [if_neg hyt] at e
      rcases h4 y t with q | q
      · exact Or.inl (q.trans e)
      · exact Or.inr ⟨q.1, by rw [← e]; exact q.2.1, q.2.2⟩
theorem cutC_iv {a s : Int32} {b : Nat} (hb : b ≤ 32) (ha : ¬ a = -1) (hs : bS s = false) (iv : Iv lo c) : Iv lo (cutC c a s (nI b)) ∧ Pv c (cutC c a s (nI b)) ∧ (∀ y t, pC (cutC c a s (nI b)) y t = pC c y t ∨ (t = s ∧ pC c y t = a ∧ pC (cutC c a s (nI b)) y t = -1)) ∧ cnt (cutC c a s (nI b)) a s ≤ b := by
  have hl := cnt_le c a s
  have e : ((chC c a s).toInt - (nI b).toInt).toNat = cnt c a s - b := by
    rw [chC_cnt, nI_toInt (by omega), nI_toInt (by omega)]
    omega
  obtain ⟨h2, h3, h4, h5⟩ := cut_iv (lo := lo) hb ha hs (cnt c a s - b) c iv (by omega)
  unfold cutC
  rw [e]
  exact ⟨h2, h3, h4, by omega⟩
theorem toF_iv {x : Int32} (hx : bM x = false) : ∀ j, j ≤ 4 → ∀ c, Iv lo c → vC c x 0 = 1 → Iv lo (fold2 (toF x) c j) ∧ Pv c (fold2 (toF x) c j) ∧ ∀ y i, i < 4 → pC (fold2 (toF x) c j) y (nI i) = if i < j ∧ (y = x ∨ pC c y (nI i) = x) then -1 else pC c y (nI i) := by
  intro j
  induction j with
  | zero =>
    intro _ c h h0
    rw [fold2_0]
    exact ⟨h, Pv_r c, fun y i _ => by rw [if_neg (fun q => by omega)]⟩
  | succ j ih =>
    intro hj c h h0
    obtain ⟨o1, p1, q1⟩ := ih (by omega) c h h0
    rw [fold2_s]
    generalize fold2 (toF x) c j = c1 at o1 p1 q1 ⊢
    have hS := bS_n (show j < 4 by omega)
    obtain ⟨o2, p2, q2, n2⟩ := cutC_iv (b := 0) (by omega) (bMm1 hx) hS o1
    have h02 : vC (cutC c1 x (nI j) (nI 0)) x 0 = 1 := by
      rw [p2.1 x 0 (by decide) (by decide), p1.1 x 0 (by decide) (by decide)]
      exact h0
    have o3 := Iv_rm o2 hx h02 hS
    refine ⟨o3, Pv_t p1 (Pv_t p2 (Pv_mv _ (-1) hx hS)), fun y i hi => ?_⟩
    show pC (mvC (cutC c1 x (nI j) (nI 0)) x (nI j) (-1)) y (nI i) = _
    rw [pC_mv _ (-1) hx hS]
    have hij : nI i = nI j ↔ i = j := nI_eq (by omega) (by omega)
    by_cases e : i = j
    · subst e
      have q1' := q1 y i hi
      rw [if_neg (fun q => by omega)] at q1'
      by_cases hyx : y = x
      · rw [if_pos ⟨hyx, rfl⟩, if_pos ⟨by omega, Or.inl hyx⟩]
      · rw [if_neg (fun q => hyx q.1)]
        by_cases hp : pC c y (nI i) = x
        · rw [if_pos ⟨by omega, Or.inr hp⟩]
          rcases q2 y (nI i) with q | q
          · have hy : bM y = false := by
              by_cases hy : bM y = false
              · exact hy
              · rw [pC_out (Or.inl (bMt hy))] at hp
                exact absurd hp.symm (bMm1 hx)
            rw [q1', hp] at q
            have := cnt_pos (c := cutC c1 x (nI i) (nI 0)) hy q
            omega
          · exact q.2.2
        · rw [if_neg (fun q => q.2.elim hyx hp)]
          rcases q2 y (nI i) with q | q
          · exact q.trans q1'
          · rw [q1'] at q
            exact absurd q.2.1 hp
    · rw [if_neg (fun q => e (hij.mp q.2))]
      have q3 : pC (cutC c1 x (nI j) (nI 0)) y (nI i) = pC c1 y (nI i) := by
        rcases q2 y (nI i) with q | q
        · exact q
        · exact absurd (hij.mp q.1) e
      rw [q3, q1 y i hi]
      have : (i < j ∧ (y = x ∨ pC c y (nI i) = x)) ↔ (i < j + 1 ∧ (y = x ∨ pC c y (nI i) = x)) := by
        constructor
        · exact fun q => ⟨by omega, q.2⟩
        · exact fun q => ⟨by omega, q.2⟩
      by_cases hc : i < j ∧ (y = x ∨ pC c y (nI i) = x)
      · rw [if_pos hc, if_pos (this.mp hc)]
      · rw [if_neg hc, if_neg (fun q => hc (this.mpr q))]
theorem toC_iv (h : Iv lo c) {x : Int32} (hx : bM x = false) (h0 : vC c x 0 = 1) : Iv lo (toC c x) ∧ (∀ y u, ¬ u = 5 → ¬ u = 6 → vC (toC c x) y u = if y = x then 0 else vC c y u) ∧ (∀ k, ¬ k = 0 → ¬ k = 6 → ¬ k = 7 → figC (toC c x) k = figC c k) ∧ ∀ y t, pC (toC c x) y t = -1 ∨ pC (toC c x) y t = pC c y t := by
  obtain ⟨o1, p1, q1⟩ := toF_iv hx 4 (Nat.le_refl _) c h h0
  obtain ⟨t1, t2, t3⟩ := toG_eq hx 10 (Nat.le_refl _) (fold2 (toF x) c 4)
  have ec : toC c x = afC (fold2 (toG x) (fold2 (toF x) c 4) 10) 0 (-1) := rfl
  generalize fold2 (toF x) c 4 = c1 at o1 p1 q1 t1 t2 t3 ec
  generalize fold2 (toG x) c1 10 = c2 at t1 t2 t3 ec
  have hv : ∀ y u, vC (toC c x) y u = if y = x then 0 else vC c1 y u := fun y u => by
    rw [ec, vC_af _ _ bF_0, t1]
    by_cases hy : y = x
    · rw [if_pos hy]
      by_cases hu : bV u = false
      · obtain ⟨i, hi, hui⟩ := bV_of hu
        rw [if_pos ⟨hy, i, hi, hui⟩]
      · rw [if_neg, vC_out (Or.inr (bVt hu))]
        rintro ⟨-, i, hi, rfl⟩
        refine hu ?_
        simp only [bV, Bool.or_eq_false_iff, decide_eq_false_iff_not, Decidable.not_not]
        refine ⟨nI_pos (by omega), ?_⟩
        rw [show (10 : Int32) = nI 10 from rfl, nI_ltI (by omega) (by omega)]
        exact hi
    · rw [if_neg hy, if_neg (fun q => hy q.1)]
  have hp : ∀ y t, pC (toC c x) y t = pC c1 y t := fun y t => by rw [ec, pC_af _ _ bF_0]; exact t2 y t
  have hf : ∀ k, figC (toC c x) k = if k = 0 then figC c1 0 + -1 else figC c1 k := fun k => by
    rw [ec, figC_af _ _ bF_0, t3, t3]
  have hpx : ∀ t, pC c1 x t = -1 := fun t => by
    by_cases ht : bS t = false
    · obtain ⟨i, hi, rfl⟩ := bS_of ht
      rw [q1 x i hi, if_pos ⟨hi, Or.inl rfl⟩]
    · exact pC_out (Or.inr (bSt ht))
  have hnx : ∀ y t, ¬ pC c1 y t = x := fun y t q => by
    by_cases ht : bS t = false
    · obtain ⟨i, hi, rfl⟩ := bS_of ht
      rw [q1 y i hi] at q
      by_cases hc : i < 4 ∧ (y = x ∨ pC c y (nI i) = x)
      · rw [if_pos hc] at q
        exact bMm1 hx q.symm
      · rw [if_neg hc] at q
        exact hc ⟨hi, Or.inr q⟩
    · rw [pC_out (Or.inr (bSt ht))] at q
      exact bMm1 hx q.symm
  have hcx : ∀ t, cnt c1 x t = 0 := fun t => cN_zero (fun i _ => by simpa using hnx (nI i) t)
  have htx : tot c1 x = 0 := by
    unfold tot
    rw [hcx, hcx, hcx, hcx]
  obtain ⟨i1, i2, i3, i4, i5, i6, i7, i8⟩ := o1
  refine ⟨⟨fun y hy => ?_, fun y hy hz => ?_, fun y t => ?_, fun y hy hz => ?_, fun y hy => ?_, fun s hs y hy => Te_cg hp (i6 s hs y hy), ?_, ?_⟩, fun y u h5 h6 => ?_, fun k hk0 hk6 hk7 => ?_, fun y t => ?_⟩
  · rw [hv]
    split
    · exact Or.inl rfl
    · exact i1 y hy
  · rw [hv] at hz
    by_cases hyx : y = x
    · refine ⟨fun w => by rw [hv, if_pos hyx], fun t => by rw [hp, hyx]; exact hpx t⟩
    · rw [if_neg hyx] at hz
      obtain ⟨j1, j2⟩ := i2 y hy hz
      exact ⟨fun w => by rw [hv, if_neg hyx]; exact j1 w, fun t => by rw [hp]; exact j2 t⟩
  · rw [hp, hv, if_neg (hnx y t)]
    exact i3 y t
  · rw [hv] at hz
    by_cases hyx : y = x
    · rw [if_pos hyx] at hz
      cases hz
    · rw [if_neg hyx] at hz
      rw [hv, hv, if_neg hyx, if_neg hyx, hf, if_neg (by decide)]
      exact i4 y hy hz
  · unfold Kc
    simp only [tot_cg hp, cnt_cg hp, hv]
    by_cases hyx : y = x
    · simp only [if_pos hyx]
      rw [hyx, htx]
      exact ⟨rfl, fun _ q => (by cases q), fun s _ q => absurd (hcx s) q⟩
    · simp only [if_neg hyx]
      exact i5 y hy
  · rw [hf, if_pos rfl, i7]
    obtain ⟨j, hj, rfl⟩ := bM_of hx
    have h01 : vC c1 (nI j) 0 = 1 := by rw [p1.1 _ 0 (by decide) (by decide)]; exact h0
    have hh := cN_upd (f := fun i => decide (vC c1 (nI i) 0 = 1)) (g := fun i => decide (vC (toC c (nI j)) (nI i) 0 = 1)) hj (fun i hi hne => by
      rw [hv, if_neg (fun q => hne ((nI_eq (by omega) (by omega)).mp q))])
    have e1 : vC (toC c (nI j)) (nI j) 0 = 0 := by rw [hv, if_pos rfl]
    simp only [decide_eq_true_eq, e1, h01, if_true] at hh
    rw [if_neg (by decide)] at hh
    have := cN_pos (f := fun i => decide (vC c1 (nI i) 0 = 1)) hj (by simp [h01])
    rw [nIp _ this]
    congr 1
    omega
  · rw [hf, if_neg (by decide)]
    exact i8
  · rw [hv]
    split
    · rfl
    · exact p1.1 y u h5 h6
  · rw [hf, if_neg hk0]
    exact p1.2 k hk6 hk7
  · rw [hp]
    by_cases ht : bS t = false
    · obtain ⟨i, hi, rfl⟩ := bS_of ht
      rw [q1 y i hi]
      split
      · exact Or.inl rfl
      · exact Or.inr rfl
    · exact Or.inl (pC_out (Or.inr (bSt ht)))
theorem toC_bd (iv : Iv lo c) (hB : Bd c) {x : Int32} (hx : bM x = false) (h0 : vC c x 0 = 1) : Bd (toC c x) := by
  obtain ⟨-, h2, h3, h4⟩ := toC_iv iv hx h0
  refine Bd_sh hB h4 (fun y _ hz => ?_) (h3 9 (by decide) (by decide) (by decide))
  rw [h2 y 0 (by decide) (by decide)] at hz
  by_cases hyx : y = x
  · rw [if_pos hyx] at hz
    cases hz
  · rw [if_neg hyx] at hz
    exact ⟨hz, by rw [h2 y 1 (by decide) (by decide), if_neg hyx]⟩
theorem tiC_iv (h : Iv lo c) {x : Int32} (b p : Int32) (hx : bM x = false) (h0 : vC c x 0 = 0) : Iv lo (tiC c x b p) ∧ (∀ y, ¬ y = x → ∀ u, vC (tiC c x b p) y u = vC c y u) ∧ vC (tiC c x b p) x 0 = 1 ∧ vC (tiC c x b p) x 1 = b ∧ vC (tiC c x b p) x 7 = 0 ∧ vC (tiC c x b p) x 8 = 0 ∧ vC (tiC c x b p) x 9 = 0 ∧ tot (tiC c x b p) x = 0 := by
  obtain ⟨i1, i2, i3, i4, i5, i6, i7, i8⟩ := h
  obtain ⟨z1, z2⟩ := i2 x hx h0
  have hn : ∀ y, ¬ y = x → ∀ u, vC (tiC c x b p) y u = vC c y u := fun y hy u => by
    rw [vC_ti c b p hx, if_neg (fun q => hy q.1), if_neg (fun q => hy q.1), if_neg (fun q => hy q.1), if_neg (fun q => hy q.1), if_neg (fun q => hy q.1)]
  have hp : ∀ y t, pC (tiC c x b p) y t = pC c y t := fun y t => pC_ti c x b p y t
  have x0 : vC (tiC c x b p) x 0 = 1 := by rw [vC_ti c b p hx]; simp
  have x1 : vC (tiC c x b p) x 1 = b := by rw [vC_ti c b p hx]; simp
  have x3 : vC (tiC c x b p) x 3 = 0 := by rw [vC_ti c b p hx]; simp [z1]
  have x4 : vC (tiC c x b p) x 4 = -1 := by rw [vC_ti c b p hx]; simp
  have x5 : vC (tiC c x b p) x 5 = 0 := by rw [vC_ti c b p hx]; simp [z1]
  have x6 : vC (tiC c x b p) x 6 = -1 := by rw [vC_ti c b p hx]; simp
  have x7 : vC (tiC c x b p) x 7 = 0 := by rw [vC_ti c b p hx]; simp [z1]
  have x8 : vC (tiC c x b p) x 8 = 0 := by rw [vC_ti c b p hx]; simp [z1]
  have x9 : vC (tiC c x b p) x 9 = 0 := by rw [vC_ti c b p hx]; simp [z1]
  have htx : tot c x = 0 := (v5_0 (i5 x hx)).mp (z1 5)
  refine ⟨⟨fun y hy => ?_, fun y hy hz => ?_, fun y t => ?_, fun y hy hz => ?_, fun y hy => ?_, fun s hs y hy => Te_cg hp (i6 s hs y hy), ?_, ?_⟩, hn, x0, x1, x7, x8, x9, (tot_cg hp x).trans htx⟩
  · by_cases hyx : y = x
    · rw [hyx]
      exact Or.inr x0
    · rw [hn y hyx]
      exact i1 y hy
  · by_cases hyx : y = x
    · rw [hyx, x0] at hz
      cases hz
    · rw [hn y hyx] at hz
      obtain ⟨j1, j2⟩ := i2 y hy hz
      exact ⟨fun w => by rw [hn y hyx]; exact j1 w, fun t => by rw [hp]; exact j2 t⟩
  · rw [hp]
    rcases i3 y t with q | q | q
    · exact Or.inl q
    · exact Or.inr (Or.inl q)
    · refine Or.inr (Or.inr ⟨q.1, ?_⟩)
      by_cases hyx : pC c y t = x
      · rw [hyx]
        exact x0
      · rw [hn _ hyx]
        exact q.2
  · by_cases hyx : y = x
    · rw [hyx]
      exact Or.inl ⟨x3, x4⟩
    · rw [hn y hyx] at hz
      rw [hn y hyx, hn y hyx, figC_ti, if_neg (by decide)]
      exact i4 y hy hz
  · unfold Kc
    simp only [tot_cg hp, cnt_cg hp]
    by_cases hyx : y = x
    · rw [hyx, x5, x6, htx]
      refine ⟨rfl, fun _ _ => rfl, fun s hs q => ?_⟩
      have := cnt_tot (c := c) (y := x) hs
      omega
    · simp only [hn y hyx]
      exact i5 y hy
  · rw [figC_ti, if_pos rfl, i7]
    obtain ⟨j, hj, rfl⟩ := bM_of hx
    have hh := cN_upd (f := fun i => decide (vC c (nI i) 0 = 1)) (g := fun i => decide (vC (tiC c (nI j) b p) (nI i) 0 = 1)) hj (fun i hi hne => by
      rw [hn _ (fun q => hne ((nI_eq (by omega) (by omega)).mp q))])
    simp only [decide_eq_true_eq, h0, x0, if_true] at hh
    rw [if_neg (by decide)] at hh
    rw [nI_1]
    congr 1
    omega
  · rw [figC_ti, if_neg (by decide)]
    exact i8
theorem tiC_bd (iv : Iv lo c) (hB : Bd c) {x : Int32} {b : Nat} (p : Int32) (hb : b ≤ 8) (hx : bM x = false) (h0 : vC c x 0 = 0) : Bd (tiC c x (nI b) p) := by
  obtain ⟨-, hn, -, x1, -, -, -, xt⟩ := tiC_iv iv (nI b) p hx h0
  obtain ⟨b1, F, f1, f2, f3, f4⟩ := hB
  have hp : ∀ y t, pC (tiC c x (nI b) p) y t = pC c y t := fun y t => pC_ti c x _ p y t
  refine ⟨fun y hy hz => ?_, F, f1, f2, ?_, fun s hs => by rw [cnt_cg hp]; exact f4 s hs⟩
  · by_cases hyx : y = x
    · rw [hyx]
      exact ⟨b, hb, x1, by omega⟩
    · rw [hn y hyx] at hz
      rw [hn y hyx, tot_cg hp]
      exact b1 y hy hz
  · rw [figC_ti, if_neg (by decide)]
    exact f3
/-- the bound of a member is set, and its children are cut -/
theorem sb_iv (iv : Iv lo c) (hB : Bd c) {x : Int32} {b : Nat} (hb : b ≤ 8) (hx : bM x = false) (h0 : vC c x 0 = 1) : Iv lo (cutC (svC c x 1 (nI b)) x (vC (svC c x 1 (nI b)) x 6) (nI b)) ∧ Bd (cutC (svC c x 1 (nI b)) x (vC (svC c x 1 (nI b)) x 6) (nI b)) ∧ Pv (svC c x 1 (nI b)) (cutC (svC c x 1 (nI b)) x (vC (svC c x 1 (nI b)) x 6) (nI b)) := by
  have hp0 : ∀ y t, pC (svC c x 1 (nI b)) y t = pC c y t := fun y t => pC_sv c _ bV_1 y t
  have hv0 : ∀ y u, vC (svC c x 1 (nI b)) y u = if y = x ∧ u = 1 then nI b else vC c y u := fun y u => vC_sv c _ hx bV_1 y u
  have hv1 : ∀ y u, ¬ u = 1 → vC (svC c x 1 (nI b)) y u = vC c y u := fun y u hu => vC_sv_ne c _ bV_1 y hu
  have i1 : Iv lo (svC c x 1 (nI b)) := by
    refine Iv_cg iv hp0 (fun y => hv1 y 0 (by decide)) (fun y => hv1 y 5 (by decide)) (fun y => hv1 y 6 (by decide)) (fun y hy hz w => ?_) (lo_eq iv (fun y => hv1 y 3 (by decide)) (fun y => hv1 y 4 (by decide)) (figC_sv c _ bV_1 8)) (figC_sv c _ bV_1 0) (by rw [figC_sv c _ bV_1]; exact iv.2.2.2.2.2.2.2)
    rw [hv0, if_neg]
    · exact (iv.2.1 y hy hz).1 w
    · rintro ⟨rfl, -⟩
      rw [h0] at hz
      cases hz
  obtain ⟨b1, F, f1, f2, f3, f4⟩ := hB
  have hf9 : figC (svC c x 1 (nI b)) 9 = nI F := (figC_sv c _ bV_1 9).trans f3
  have h10 : vC (svC c x 1 (nI b)) x 0 = 1 := (hv1 x 0 (by decide)).trans h0
  have h11 : vC (svC c x 1 (nI b)) x 1 = nI b := by rw [hv0, if_pos ⟨rfl, rfl⟩]
  have m1 : ∀ y, bM y = false → ¬ y = x → vC (svC c x 1 (nI b)) y 0 = 1 → ∃ b' : Nat, b' ≤ 8 ∧ vC (svC c x 1 (nI b)) y 1 = nI b' ∧ tot (svC c x 1 (nI b)) y ≤ b' := fun y hy hyx hz => by
    rw [hv1 y 0 (by decide)] at hz
    rw [hv0, if_neg (fun q => hyx q.1), tot_cg hp0]
    exact b1 y hy hz
  have s1 : ∀ s, bS s = false → cnt (svC c x 1 (nI b)) 100 s ≤ F := fun s hs => by rw [cnt_cg hp0]; exact f4 s hs
  generalize svC c x 1 (nI b) = d at *
  have hk := i1.2.2.2.2.1 x hx
  by_cases ht : tot d x = 0
  · rw [hk.2.1 ht h10]
    have e1 : cnt d x (-1) = 0 := cN_zero (fun i _ => by
      rw [pC_out (Or.inr (by decide))]
      simpa using Ne.symm (bMm1 hx))
    rw [cutC_0 (by omega) (by omega)]
    refine ⟨i1, ⟨fun y hy hz => ?_, F, f1, f2, hf9, s1⟩, Pv_r d⟩
    by_cases hyx : y = x
    · rw [hyx]
      exact ⟨b, hb, h11, by omega⟩
    · exact m1 y hy hyx hz
  · have hex : ∃ i, i < 4 ∧ ¬ cnt d x (nI i) = 0 := by
      by_cases q0 : cnt d x (nI 0) = 0
      · by_cases q1 : cnt d x (nI 1) = 0
        · by_cases q2 : cnt d x (nI 2) = 0
          · refine ⟨3, by omega, fun q3 => ht ?_⟩
            unfold tot
            rw [show (0 : Int32) = nI 0 from rfl, show (1 : Int32) = nI 1 from rfl, show (2 : Int32) = nI 2 from rfl, show (3 : Int32) = nI 3 from rfl, q0, q1, q2, q3]
          · exact ⟨2, by omega, q2⟩
        · exact ⟨1, by omega, q1⟩
      · exact ⟨0, by omega, q0⟩
    obtain ⟨i, hi, hc⟩ := hex
    have hS := bS_n hi
    have h6 := hk.2.2 _ hS hc
    rw [h6]
    obtain ⟨o2, p2, q2, n2⟩ := cutC_iv (b := b) (by omega) (bMm1 hx) hS i1
    have hp : ∀ y t, pC (cutC d x (nI i) (nI b)) y t = -1 ∨ pC (cutC d x (nI i) (nI b)) y t = pC d y t := fun y t => (q2 y t).elim Or.inr (fun q => Or.inl q.2.2)
    generalize cutC d x (nI i) (nI b) = d' at *
    refine ⟨o2, ⟨fun y hy hz => ?_, F, f1, f2, (p2.2 9 (by decide) (by decide)).trans hf9, fun s hs => ?_⟩, p2⟩
    · rw [p2.1 y 1 (by decide) (by decide)]
      rw [p2.1 y 0 (by decide) (by decide)] at hz
      by_cases hyx : y = x
      · subst hyx
        refine ⟨b, hb, h11, ?_⟩
        have hk2 := o2.2.2.2.2.1 y hy
        by_cases hc2 : cnt d' y (nI i) = 0
        · have hz0 : ∀ t, bS t = false → cnt d' y t = 0 := fun t hts => by
            by_cases hti : t = nI i
            · rw [hti]
              exact hc2
            · have h1 := cnt_other hk hS hts hti (Or.inr h6)
              have := cnt_sh hp (bMm1 hy) t
              omega
          have e0 := hz0 0 (by decide)
          have e1 := hz0 1 (by decide)
          have e2 := hz0 2 (by decide)
          have e3 := hz0 3 (by decide)
          unfold tot
          omega
        · have := tot_one hk2 hS (hk2.2.2 _ hS hc2)
          omega
      · obtain ⟨b', g1, g2, g3⟩ := m1 y hy hyx hz
        have := tot_sh hp (bMm1 hy)
        exact ⟨b', g1, g2, by omega⟩
    · have := cnt_sh hp (y := 100) (by decide) s
      have := s1 s hs
      omega
/-- the source's bound is set, and its children are cut -/
theorem ss_iv (iv : Iv lo c) (hB : Bd c) {F : Nat} (hF1 : 1 ≤ F) (hF2 : F ≤ 8) : Iv lo (fold2 (ssF (nI F)) (sfC c 9 (nI F)) 4) ∧ Bd (fold2 (ssF (nI F)) (sfC c 9 (nI F)) 4) ∧ Pv (sfC c 9 (nI F)) (fold2 (ssF (nI F)) (sfC c 9 (nI F)) 4) := by
  obtain ⟨b1, F0, -, -, -, -⟩ := hB
  have hp0 : ∀ y t, pC (sfC c 9 (nI F)) y t = pC c y t := fun y t => pC_sf c _ bF_9 y t
  have hv0 : ∀ y u, vC (sfC c 9 (nI F)) y u = vC c y u := fun y u => vC_sf c _ bF_9 y u
  have i1 : Iv lo (sfC c 9 (nI F)) := Iv_sf iv _ bF_9 (by decide) (by decide) (fun q => (by cases q))
  have m1 : Bm (sfC c 9 (nI F)) := fun y hy hz => by
    rw [hv0] at hz
    rw [hv0, tot_cg hp0]
    exact b1 y hy hz
  have f1 : figC (sfC c 9 (nI F)) 9 = nI F := by rw [figC_sf c _ bF_9, if_pos rfl]
  generalize sfC c 9 (nI F) = d at *
  have key : ∀ j, j ≤ 4 → Iv lo (fold2 (ssF (nI F)) d j) ∧ Bm (fold2 (ssF (nI F)) d j) ∧ Pv d (fold2 (ssF (nI F)) d j) ∧ ∀ i, i < j → cnt (fold2 (ssF (nI F)) d j) 100 (nI i) ≤ F := by
    intro j
    induction j with
    | zero =>
      intro _
      rw [fold2_0]
      exact ⟨i1, m1, Pv_r d, fun i hi => by omega⟩
    | succ j ih =>
      intro hj
      obtain ⟨g1, g2, g3, g4⟩ := ih (by omega)
      rw [fold2_s]
      generalize fold2 (ssF (nI F)) d j = d1 at g1 g2 g3 g4 ⊢
      have hS := bS_n (show j < 4 by omega)
      obtain ⟨o2, p2, q2, n2⟩ := cutC_iv (a := 100) (b := F) (by omega) (by decide) hS g1
      have hp : ∀ y t, pC (cutC d1 100 (nI j) (nI F)) y t = -1 ∨ pC (cutC d1 100 (nI j) (nI F)) y t = pC d1 y t := fun y t => (q2 y t).elim Or.inr (fun q => Or.inl q.2.2)
      refine ⟨o2, Bm_sh g2 hp (fun y _ hz => ?_), Pv_t g3 p2, fun i hi => ?_⟩
      · have hz' : vC (cutC d1 100 (nI j) (nI F)) y 0 = 1 := hz
        rw [p2.1 y 0 (by decide) (by decide)] at hz'
        exact ⟨hz', p2.1 y 1 (by decide) (by decide)⟩
      · show cnt (cutC d1 100 (nI j) (nI F)) 100 (nI i) ≤ F
        by_cases hij : i = j
        · rw [hij]
          exact n2
        · have := cnt_sh hp (y := 100) (by decide) (nI i)
          have := g4 i (by omega)
          omega
  obtain ⟨g1, g2, g3, g4⟩ := key 4 (Nat.le_refl _)
  refine ⟨g1, Bd_of hF1 hF2 g2 ⟨(g3.2 9 (by decide) (by decide)).trans f1, fun s hs => ?_⟩, g3⟩
  obtain ⟨i, hi, rfl⟩ := bS_of hs
  exact g4 i hi
end CG
