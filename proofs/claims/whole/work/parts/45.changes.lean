/-! THE TWO SIDES: children are cut, members go and come -/
section CG
variable {lo : Int32 → Nat} {d : Int32} {c c' : Ce} {m m' : Re}
theorem cnt_cg (hp : ∀ y t, pC c' y t = pC c y t) (y s : Int32) : cnt c' y s = cnt c y s := cN_congr (fun i _ => by rw [hp])
theorem tot_cg (hp : ∀ y t, pC c' y t = pC c y t) (y : Int32) : tot c' y = tot c y := by
  unfold tot
  rw [cnt_cg hp, cnt_cg hp, cnt_cg hp, cnt_cg hp]
theorem Te_cg (hp : ∀ y t, pC c' y t = pC c y t) {s x : Int32} (h : Te c s x) : Te c' s x := by
  obtain ⟨k, e, he, h⟩ := h
  exact ⟨k, e, he, en_congr (fun z => hp z s) h⟩
/-- the same trees and the same members -/
theorem Iv_cg {lo' : Int32 → Nat} (iv : Iv lo c) (hp : ∀ y t, pC c' y t = pC c y t) (h0 : ∀ y, vC c' y 0 = vC c y 0) (h5 : ∀ y, vC c' y 5 = vC c y 5) (h6 : ∀ y, vC c' y 6 = vC c y 6) (hu : ∀ y, bM y = false → vC c y 0 = 0 → ∀ w, vC c' y w = 0) (h4 : ∀ x, bM x = false → vC c x 0 = 1 → (vC c' x 3 = 0 ∧ vC c' x 4 = -1) ∨ (vC c' x 3 = 1 ∧ ∃ k, lo' x ≤ k ∧ k ≤ 20 ∧ vC c' x 4 = figC c' 8 + nI k)) (hf0 : figC c' 0 = figC c 0) (h8 : ∃ k, 1 ≤ k ∧ k ≤ 20 ∧ figC c' 10 = nI k) : Iv lo' c' := by
  obtain ⟨i1, i2, i3, i4, i5, i6, i7, i8⟩ := iv
  unfold Iv
  simp only [h0, hp]
  refine ⟨i1, fun y hy hz => ⟨hu y hy hz, (i2 y hy hz).2⟩, i3, h4, fun y hy => ?_, fun s hs x hx => Te_cg hp (i6 s hs x hx), hf0.trans i7, h8⟩
  have := i5 y hy
  unfold Kc at this ⊢
  simp only [h0, h5, h6, tot_cg hp, cnt_cg hp]
  exact this
theorem lo_eq (iv : Iv lo c) (h3 : ∀ y, vC c' y 3 = vC c y 3) (h4 : ∀ y, vC c' y 4 = vC c y 4) (h8 : figC c' 8 = figC c 8) : ∀ x, bM x = false → vC c x 0 = 1 → (vC c' x 3 = 0 ∧ vC c' x 4 = -1) ∨ (vC c' x 3 = 1 ∧ ∃ k, lo x ≤ k ∧ k ≤ 20 ∧ vC c' x 4 = figC c' 8 + nI k) := fun x hx h0 => by
  rw [h3, h4, h8]
  exact iv.2.2.2.1 x hx h0
theorem cut_ok {a s : Int32} {b : Nat} (hb : b ≤ 32) (ha : ¬ a = -1) (hs : bS s = false) : ∀ (k : Nat) (c : Ce) (m : Re) (n : Nat), Ok lo d c m → (cnt c a s = b + k ∨ (k = 0 ∧ cnt c a s ≤ b)) → k + 1 ≤ n → ∃ m', cuO a s (nI b) n m = some m' ∧ Ok lo d (cutN a s k c) m' ∧ Pv c (cutN a s k c) ∧ (∀ y t, pC (cutN a s k c) y t = pC c y t ∨ (t = s ∧ pC c y t = a ∧ pC (cutN a s k c) y t = -1)) ∧ cnt (cutN a s k c) a s = cnt c a s - k := by
  intro k
  induction k with
  | zero =>
    intro c m n h hk hn
    obtain ⟨n, rfl⟩ : ∃ n', n = n' + 1 := ⟨n - 1, by omega⟩
    have hl := cnt_le c a s
    have hk' : cnt c a s ≤ b := by omega
    rw [cuO, ciR_cnt h.1 h.2.1 hs ha, if_pos ((nI_leI (by omega) (by omega)).mpr hk')]
    exact ⟨m, rfl, h, Pv_r c, fun _ _ => Or.inl rfl, rfl⟩
  | succ k ih =>
    intro c m n h hk hn
    obtain ⟨n, rfl⟩ : ∃ n', n = n' + 1 := ⟨n - 1, by omega⟩
    have hl := cnt_le c a s
    have hk' : cnt c a s = b + (k + 1) := by omega
    have hne : ¬ lcC c a s = -1 := fun q => by
      have := lcC_no q
      omega
    obtain ⟨g1, g2⟩ := (lcC_ch c a s).resolve_left hne
    have g0 := ch_j h.1 g1 ha g2
    rw [cuO, ciR_cnt h.1 h.2.1 hs ha, if_neg (fun q => by
      have := (nI_leI (by omega) (by omega)).mp q
      omega), lrR_eq h.1 h.2.1 hs ha, if_pos g1, cutN]
    have o1 := Ok_rm h g1 g0 hs
    have hc := cnt_mv c (-1) a g1 hs
    rw [if_pos g2, if_neg (Ne.symm ha)] at hc
    obtain ⟨m', h1, h2, h3, h4, h5⟩ := ih _ _ n o1 (Or.inl (by omega)) (by omega)
    refine ⟨m', h1, h2, Pv_t (Pv_mv c (-1) g1 hs) h3, fun y t => ?_, by omega⟩
    have e := pC_mv c (-1) g1 hs y t
    by_cases hyt : y = lcC c a s ∧ t = s
    · rw [if_pos hyt] at e
      refine Or.inr ⟨hyt.2, by rw [hyt.1, hyt.2]; exact g2, ?_⟩
      rcases h4 y t with q | q
      · rw [q, e]
      · exact q.2.2
    · rw [if_neg hyt] at e
      rcases h4 y t with q | q
      · exact Or.inl (q.trans e)
      · exact Or.inr ⟨q.1, by rw [← e]; exact q.2.1, q.2.2⟩
theorem cutC_ok {a s : Int32} {b : Nat} (hb : b ≤ 32) (ha : ¬ a = -1) (hs : bS s = false) (h : Ok lo d c m) : ∃ m', cuO a s (nI b) 40 m = some m' ∧ Ok lo d (cutC c a s (nI b)) m' ∧ Pv c (cutC c a s (nI b)) ∧ (∀ y t, pC (cutC c a s (nI b)) y t = pC c y t ∨ (t = s ∧ pC c y t = a ∧ pC (cutC c a s (nI b)) y t = -1)) ∧ cnt (cutC c a s (nI b)) a s ≤ b := by
  have hl := cnt_le c a s
  have e : ((chC c a s).toInt - (nI b).toInt).toNat = cnt c a s - b := by
    rw [chC_cnt, nI_toInt (by omega), nI_toInt (by omega)]
    omega
  obtain ⟨m', h1, h2, h3, h4, h5⟩ := cut_ok (lo := lo) (d := d) hb ha hs (cnt c a s - b) c m 40 h (by omega) (by omega)
  unfold cutC
  rw [e]
  exact ⟨m', h1, h2, h3, h4, by omega⟩
/-- a member is taken out of the trees -/
theorem toF_ok {x : Int32} (hx : bM x = false) : ∀ j, j ≤ 4 → ∀ c m, Ok lo d c m → vC c x 0 = 1 → (∃ m', Ok lo d (fold2 (toF x) c j) m') ∧ Pv c (fold2 (toF x) c j) ∧ ∀ y i, i < 4 → pC (fold2 (toF x) c j) y (nI i) = if i < j ∧ (y = x ∨ pC c y (nI i) = x) then -1 else pC c y (nI i) := by
  intro j
  induction j with
  | zero =>
    intro _ c m h h0
    rw [fold2_0]
    exact ⟨⟨m, h⟩, Pv_r c, fun y i _ => by rw [if_neg (fun q => by omega)]⟩
  | succ j ih =>
    intro hj c m h h0
    obtain ⟨⟨m1, o1⟩, p1, q1⟩ := ih (by omega) c m h h0
    rw [fold2_s]
    generalize fold2 (toF x) c j = c1 at o1 p1 q1 ⊢
    have hS := bS_n (show j < 4 by omega)
    obtain ⟨m2, -, o2, p2, q2, n2⟩ := cutC_ok (b := 0) (by omega) (bMm1 hx) hS o1
    have h02 : vC (cutC c1 x (nI j) (nI 0)) x 0 = 1 := by
      rw [p2.1 x 0 (by decide) (by decide), p1.1 x 0 (by decide) (by decide)]
      exact h0
    have o3 := Ok_rm o2 hx h02 hS
    refine ⟨⟨_, o3⟩, Pv_t p1 (Pv_t p2 (Pv_mv _ (-1) hx hS)), fun y i hi => ?_⟩
    show pC (mvC (cutC c1 x (nI j) (nI 0)) x (nI j) (-1)) y (nI i) = _
    rw [pC_mv _ (-1) hx hS]
    have hij : nI i = nI j ↔ i = j := nI_eq (by omega) (by omega)
    by_cases e : i = j
    · subst e
      have q1' := q1 y i hi
      rw [if_neg (fun q => by omega)] at q1'
      by_cases hyx : y = x
      · rw [if_pos ⟨hyx, rfl⟩, if_pos ⟨by omega, Or.inl hyx⟩]
      · rw [if_neg (fun q => hyx q.1)]
        by_cases hp : pC c y (nI i) = x
        · rw [if_pos ⟨by omega, Or.inr hp⟩]
          rcases q2 y (nI i) with q | q
          · have hy : bM y = false := by
              by_cases hy : bM y = false
              · exact hy
              · rw [pC_out (Or.inl (bMt hy))] at hp
                exact absurd hp.symm (bMm1 hx)
            rw [q1', hp] at q
            have := cnt_pos (c := cutC c1 x (nI i) (nI 0)) hy q
            omega
          · exact q.2.2
        · rw [if_neg (fun q => q.2.elim hyx hp)]
          rcases q2 y (nI i) with q | q
          · exact q.trans q1'
          · rw [q1'] at q
            exact absurd q.2.1 hp
    · rw [if_neg (fun q => e (hij.mp q.2))]
      have q3 : pC (cutC c1 x (nI j) (nI 0)) y (nI i) = pC c1 y (nI i) := by
        rcases q2 y (nI i) with q | q
        · exact q
        · exact absurd (hij.mp q.1) e
      rw [q3, q1 y i hi]
      have : (i < j ∧ (y = x ∨ pC c y (nI i) = x)) ↔ (i < j + 1 ∧ (y = x ∨ pC c y (nI i) = x)) := by
        constructor
        · exact fun q => ⟨by omega, q.2⟩
        · exact fun q => ⟨by omega, q.2⟩
      by_cases hc : i < j ∧ (y = x ∨ pC c y (nI i) = x)
      · rw [if_pos hc, if_pos (this.mp hc)]
      · rw [if_neg hc, if_neg (fun q => hc (this.mpr q))]
theorem toG_eq {x : Int32} (hx : bM x = false) : ∀ j, j ≤ 10 → ∀ c, (∀ y u, vC (fold2 (toG x) c j) y u = if y = x ∧ (∃ i, i < j ∧ u = nI i) then 0 else vC c y u) ∧ (∀ y t, pC (fold2 (toG x) c j) y t = pC c y t) ∧ ∀ k, figC (fold2 (toG x) c j) k = figC c k := by
  intro j
  induction j with
  | zero =>
    intro _ c
    rw [fold2_0]
    exact ⟨fun y u => by rw [if_neg]; rintro ⟨-, i, hi, -⟩; omega, fun _ _ => rfl, fun _ => rfl⟩
  | succ j ih =>
    intro hj c
    obtain ⟨h1, h2, h3⟩ := ih (by omega) c
    rw [fold2_s]
    have hV : bV (nI j) = false := by
      simp only [bV, Bool.or_eq_false_iff, decide_eq_false_iff_not, Decidable.not_not]
      refine ⟨nI_pos (by omega), ?_⟩
      rw [show (10 : Int32) = nI 10 from rfl, nI_ltI (by omega) (by omega)]
      omega
    unfold toG at h1 h2 h3 ⊢
    refine ⟨fun y u => ?_, fun y t => by rw [pC_sv _ _ hV]; exact h2 y t, fun k => by rw [figC_sv _ _ hV]; exact h3 k⟩
    rw [vC_sv _ _ hx hV]
    by_cases e : y = x ∧ u = nI j
    · rw [if_pos e, if_pos ⟨e.1, j, by omega, e.2⟩]
    · rw [if_neg e, h1]
      by_cases hc : y = x ∧ ∃ i, i < j ∧ u = nI i
      · obtain ⟨a1, i, a2, a3⟩ := hc
        rw [if_pos ⟨a1, i, a2, a3⟩, if_pos ⟨a1, i, by omega, a3⟩]
      · rw [if_neg hc, if_neg]
        rintro ⟨a1, i, a2, a3⟩
        by_cases hij : i = j
        · subst hij
          exact e ⟨a1, a3⟩
        · exact hc ⟨a1, i, by omega, a3⟩
end CG
