/-! an orphan is attached: what stays, what comes -/
/-- children within the bounds -/
def Bd (c : Ce) : Prop := (∀ y, bM y = false → vC c y 0 = 1 → ∃ b : Nat, b ≤ 8 ∧ vC c y 1 = nI b ∧ tot c y ≤ b) ∧ ∃ F : Nat, 1 ≤ F ∧ F ≤ 8 ∧ figC c 9 = nI F ∧ ∀ s, bS s = false → cnt c 100 s ≤ F
section AT
variable {lo : Int32 → Nat} {c c' : Ce}
theorem cN_mono {f g : Nat → Bool} {n : Nat} (h : ∀ i, i < n → f i = true → g i = true) : cN f n ≤ cN g n := by
  induction n with
  | zero => exact Nat.le_refl _
  | succ n ih =>
    have h1 := ih (fun i hi => h i (by omega))
    have h2 := h n (by omega)
    rw [cN, cN]
    by_cases q : f n = true
    · rw [if_pos q, if_pos (h2 q)]
      omega
    · rw [if_neg q]
      split <;> omega
theorem Bd_cg (hB : Bd c) (hp : ∀ y t, pC c' y t = pC c y t) (h0 : ∀ y, vC c' y 0 = vC c y 0) (h1 : ∀ y, vC c' y 1 = vC c y 1) (h9 : figC c' 9 = figC c 9) : Bd c' := by
  unfold Bd at hB ⊢
  simp only [h0, h1, h9, tot_cg hp, cnt_cg hp]
  exact hB
theorem Bd_af (hB : Bd c) {k : Int32} (v : Int32) (hk : bF k = false) (h9 : ¬ k = 9) : Bd (afC c k v) :=
  Bd_cg hB (fun y t => pC_af c v hk y t) (fun y => vC_af c v hk y 0) (fun y => vC_af c v hk y 1) (by rw [figC_af c v hk, if_neg (Ne.symm h9)])
theorem cnt_sh (hp : ∀ y t, pC c' y t = -1 ∨ pC c' y t = pC c y t) {y : Int32} (hy : ¬ y = -1) (t : Int32) : cnt c' y t ≤ cnt c y t := cN_mono (fun i _ h => by
  simp only [decide_eq_true_eq] at h ⊢
  rcases hp (nI i) t with q | q
  · rw [q] at h
    exact absurd h.symm hy
  · exact q ▸ h)
theorem tot_sh (hp : ∀ y t, pC c' y t = -1 ∨ pC c' y t = pC c y t) {y : Int32} (hy : ¬ y = -1) : tot c' y ≤ tot c y := by
  have h0 := cnt_sh hp hy 0
  have h1 := cnt_sh hp hy 1
  have h2 := cnt_sh hp hy 2
  have h3 := cnt_sh hp hy 3
  unfold tot
  omega
theorem Bd_sh (hB : Bd c) (hp : ∀ y t, pC c' y t = -1 ∨ pC c' y t = pC c y t) (hv : ∀ y, bM y = false → vC c' y 0 = 1 → vC c y 0 = 1 ∧ vC c' y 1 = vC c y 1) (h9 : figC c' 9 = figC c 9) : Bd c' := by
  obtain ⟨b1, F, f1, f2, f3, f4⟩ := hB
  refine ⟨fun y hy h0 => ?_, F, f1, f2, h9.trans f3, fun s hs => ?_⟩
  · obtain ⟨g0, g1⟩ := hv y hy h0
    obtain ⟨b, q1, q2, q3⟩ := b1 y hy g0
    have := tot_sh hp (bMm1 hy)
    exact ⟨b, q1, g1.trans q2, by omega⟩
  · have := cnt_sh hp (y := 100) (by decide) s
    have := f4 s hs
    omega
theorem Bd_rm (hB : Bd c) {x s : Int32} (hx : bM x = false) (hs : bS s = false) : Bd (mvC c x s (-1)) :=
  Bd_sh hB (fun y t => by
    rw [pC_mv c (-1) hx hs]
    split
    · exact Or.inl rfl
    · exact Or.inr rfl) (fun y _ h0 => by
    rw [vC_mv_ne c (-1) hx hs y (by decide) (by decide)] at h0
    exact ⟨h0, vC_mv_ne c (-1) hx hs y (by decide) (by decide)⟩) (figC_mv c (-1) hx hs 9)
theorem nlt_of {a b : Nat} (ha : a < 2 ^ 31) (hb : b < 2 ^ 31) (h : ¬ nI a ≤ nI b) : b < a := by
  rw [nI_leI ha hb] at h
  omega
theorem Bd_add (iv : Iv lo c) (hB : Bd c) {x s a : Int32} (hx : bM x = false) (hs : bS s = false) (hp : pC c x s = -1) (ha : a = 100 ∨ (bM a = false ∧ vC c a 0 = 1)) (hr : rmC c a s = true) : Bd (mvC c x s a) := by
  obtain ⟨b1, F, f1, f2, f3, f4⟩ := hB
  refine ⟨fun y hy h0 => ?_, F, f1, f2, (figC_mv c a hx hs 9).trans f3, fun t ht => ?_⟩
  · rw [vC_mv_ne c a hx hs y (by decide) (by decide)] at h0
    obtain ⟨b, q1, q2, q3⟩ := b1 y hy h0
    refine ⟨b, q1, (vC_mv_ne c a hx hs y (by decide) (by decide)).trans q2, ?_⟩
    have h1 := tot_mv c a y hx hs
    rw [hp, if_neg (fun q => bMm1 hy q.symm)] at h1
    by_cases hay : a = y
    · subst hay
      rw [if_pos rfl] at h1
      have hk := iv.2.2.2.2.1 a hy
      have hl := tot_le c a
      unfold rmC at hr
      rw [if_neg (bM_ne100 hy)] at hr
      simp only [Bool.and_eq_true, decide_eq_true_eq] at hr
      have h2 := hr.1.2
      rw [q2, hk.1] at h2
      have := nlt_of (by omega) (by omega) h2
      omega
    · rw [if_neg hay] at h1
      omega
  · by_cases hts : t = s
    · subst hts
      have h1 := cnt_mv c a 100 hx ht
      rw [hp, if_neg (by decide)] at h1
      by_cases h100 : a = 100
      · rw [if_pos h100] at h1
        unfold rmC at hr
        rw [if_pos h100, f3, chC_cnt] at hr
        simp only [decide_eq_true_eq] at hr
        have hl := cnt_le c 100 t
        have := nlt_of (by omega) (by omega) hr
        omega
      · rw [if_neg h100] at h1
        have := f4 t ht
        omega
    · rw [cnt_mv_ne c a 100 hx hs hts]
      exact f4 t ht
theorem Bd_sw (hB : Bd c) {x l s a : Int32} (hx : bM x = false) (hl : bM l = false) (hs : bS s = false) (hlp : pC c l s = a) (ha : ¬ a = -1) (hp : pC (mvC c l s (-1)) x s = -1) : Bd (mvC (mvC c l s (-1)) x s a) := by
  obtain ⟨b1, F, f1, f2, f3, f4⟩ := hB
  refine ⟨fun y hy h0 => ?_, F, f1, f2, (figC_mv _ a hx hs 9).trans ((figC_mv c (-1) hl hs 9).trans f3), fun t ht => ?_⟩
  · rw [vC_mv_ne _ a hx hs y (by decide) (by decide), vC_mv_ne c (-1) hl hs y (by decide) (by decide)] at h0
    obtain ⟨b, q1, q2, q3⟩ := b1 y hy h0
    refine ⟨b, q1, (vC_mv_ne _ a hx hs y (by decide) (by decide)).trans ((vC_mv_ne c (-1) hl hs y (by decide) (by decide)).trans q2), ?_⟩
    have h1 := tot_mv (mvC c l s (-1)) a y hx hs
    have h2 := tot_mv c (-1) y hl hs
    rw [hp] at h1
    rw [hlp] at h2
    have e : ¬ (-1 : Int32) = y := fun q => bMm1 hy q.symm
    rw [if_neg e] at h1 h2
    omega
  · by_cases hts : t = s
    · subst hts
      have h1 := cnt_mv (mvC c l t (-1)) a 100 hx ht
      have h2 := cnt_mv c (-1) 100 hl ht
      rw [hp] at h1
      rw [hlp] at h2
      have e : ¬ (-1 : Int32) = 100 := by decide
      rw [if_neg e] at h1 h2
      have := f4 t ht
      omega
    · rw [cnt_mv_ne _ a 100 hx hs hts, cnt_mv_ne c (-1) 100 hl hs hts]
      exact f4 t ht
theorem fiC_ch (c : Ce) (a s : Int32) : Lf c a s (fiC c a s) := by
  have : ∀ n, n ≤ 32 → Lf c a s (foldTo (fiF c a s) (-1) n) := by
    intro n
    induction n with
    | zero => exact fun _ => Or.inl rfl
    | succ n ih =>
      intro hn
      have h2 := ih (by omega)
      rw [foldTo]
      generalize foldTo (fiF c a s) (-1) n = l at h2 ⊢
      have hM := bM_n (show n < 32 by omega)
      unfold fiF
      split
      · next hc =>
        split
        · exact h2
        · next hb =>
          simp only [Bool.not_eq_false] at hb
          split
          · exact Or.inr ⟨hM, hc, hb⟩
          · split
            · exact Or.inr ⟨hM, hc, hb⟩
            · exact h2
      · exact h2
  exact this 32 (Nat.le_refl _)
theorem smC_ch (c : Ce) (s : Int32) : smC c s = -1 ∨ (bM (smC c s) = false ∧ rmC c (smC c s) s = true) := by
  have : ∀ n, n ≤ 32 → (fold2 (smF c s) (-1, -1) n).1 = -1 ∨ (bM (fold2 (smF c s) (-1, -1) n).1 = false ∧ rmC c (fold2 (smF c s) (-1, -1) n).1 s = true) := by
    intro n
    induction n with
    | zero => exact fun _ => Or.inl (by rw [fold2_0])
    | succ n ih =>
      intro hn
      have h2 := ih (by omega)
      rw [fold2_s]
      generalize fold2 (smF c s) (-1, -1) n = q at h2 ⊢
      have hM := bM_n (show n < 32 by omega)
      unfold smF
      split
      · exact h2
      · next hr =>
        simp only [Bool.not_eq_false] at hr
        split
        · exact Or.inr ⟨hM, hr⟩
        · split
          · exact h2
          · exact Or.inr ⟨hM, hr⟩
  exact this 32 (Nat.le_refl _)
theorem smC_no {s : Int32} (h : smC c s = -1) : ∀ i, i < 32 → rmC c (nI i) s = false := by
  have : ∀ n, n ≤ 32 → (fold2 (smF c s) (-1, -1) n).1 = -1 → ∀ i, i < n → rmC c (nI i) s = false := by
    intro n
    induction n with
    | zero => exact fun _ _ i hi => by omega
    | succ n ih =>
      intro hn h i hi
      rw [fold2_s] at h
      have hM := nIm1 (show n < 32 by omega)
      unfold smF at h
      by_cases hr : rmC c (nI n) s = false
      · rw [if_pos hr] at h
        by_cases hin : i = n
        · rw [hin]
          exact hr
        · exact ih (by omega) h i (by omega)
      · rw [if_neg hr] at h
        split at h
        · exact absurd h hM
        · next h1 =>
          split at h
          · exact absurd h h1
          · exact absurd h hM
  exact this 32 (Nat.le_refl _) h
theorem rmC_j (iv : Iv lo c) {a s : Int32} (ha : bM a = false) (h : rmC c a s = true) : vC c a 0 = 1 := by
  by_cases h0 : vC c a 0 = 1
  · exact h0
  · rw [rmC_unj iv s ha h0] at h
    cases h
theorem at_iv {s : Int32} (hs : bS s = false) : ∀ (n : Nat) (c : Ce) (x a : Int32) (k : Nat), Iv lo c → Bd c → bM x = false → vC c x 0 = 1 → pC c x s = -1 → (a = 100 ∨ (bM a = false ∧ vC c a 0 = 1)) → en c s 100 k a → n + k = 33 → Iv lo (atGo s n c x a) ∧ Bd (atGo s n c x a) ∧ Pv c (atGo s n c x a) ∧ (∀ z j, j ≤ k → en c s 100 j z → en (atGo s n c x a) s 100 j z) ∧ ((∃ j, en (atGo s n c x a) s 100 j x) ∨ (atGo s n c x a = c ∧ smC c s = -1)) := by
  intro n
  induction n with
  | zero =>
    intro c x a k iv hB hx h0 hp ha hk hn
    have := en_le (Or.inl rfl) hk
    omega
  | succ n ih =>
    intro c x a k iv hB hx h0 hp ha hk hn
    have ha1 : ¬ a = -1 := by
      rcases ha with rfl | ha
      · decide
      · exact bMm1 ha.1
    rw [atGo]
    by_cases c1 : rmC c a s = true
    · rw [if_pos c1]
      have hg : Gp c s a := ha.elim (fun q => Or.inr (Or.inl q)) (fun q => Or.inr (Or.inr ⟨q.1, q.2, cbC_other iv q.1 hs (rmC_con iv hs q.1 c1).2⟩))
      have e1 : en (mvC c x s a) s 100 k a := en_mv hx hs (fun j _ => en_orph hx hp j) hk
      exact ⟨Iv_mv iv hx h0 hs hg ⟨k, 100, Or.inl rfl, e1⟩, Bd_add iv hB hx hs hp ha c1, Pv_mv c a hx hs, fun z j _ hz => en_mv hx hs (fun j _ => en_orph hx hp j) hz, Or.inl ⟨k + 1, hx, by rw [pC_mv c a hx hs, if_pos ⟨rfl, rfl⟩]; exact e1⟩⟩
    · rw [if_neg c1]
      by_cases c2 : ¬ lcC c a s = -1 ∧ beC c x (lcC c a s) s = true ∧ cbC c x s = true
      · rw [if_pos c2]
        obtain ⟨hl1, hbe, hcb⟩ := c2
        obtain ⟨hl, hlp⟩ := (lcC_ch c a s).resolve_left hl1
        have hl0 := ch_j iv hl ha1 hlp
        generalize lcC c a s = l at hl hlp hl0 hl1
        have hxl : ¬ x = l := by
          rintro rfl
          exact ha1 (hlp.symm.trans hp)
        have hlk : ∀ j, j ≤ k → ¬ en c s 100 j l := fun j hj hjl => by
          have h1 : en c s 100 (k + 1) l := ⟨hl, by rw [hlp]; exact hk⟩
          have := (en_uniq (Or.inl rfl) (Or.inl rfl) hjl h1).1
          omega
        have i1 : Iv lo (mvC c l s (-1)) := Iv_mv iv hl hl0 hs (Or.inl rfl) (Te_end _ s (Or.inr rfl))
        have e1 : en (mvC c l s (-1)) s 100 k a := en_mv hl hs hlk hk
        have p1 : pC (mvC c l s (-1)) x s = -1 := by rw [pC_mv c (-1) hl hs, if_neg (fun q => hxl q.1)]; exact hp
        have v1 : ∀ y, vC (mvC c l s (-1)) y 0 = vC c y 0 := fun y => vC_mv_ne c (-1) hl hs y (by decide) (by decide)
        have hg : Gp (mvC c l s (-1)) s a := by
          rcases ha with q | q
          · exact Or.inr (Or.inl q)
          · refine Or.inr (Or.inr ⟨q.1, by rw [v1]; exact q.2, fun t ht hts => ?_⟩)
            rw [cnt_mv_ne c (-1) a hl hs hts]
            have hk := iv.2.2.2.2.1 a q.1
            have hc := cnt_pos hl hlp
            exact cnt_other hk hs ht hts (Or.inr (hk.2.2 s hs (by omega)))
        have e2 : en (mvC (mvC c l s (-1)) x s a) s 100 k a := en_mv hx hs (fun j _ => en_orph hx p1 j) e1
        have i2 : Iv lo (mvC (mvC c l s (-1)) x s a) := Iv_mv i1 hx (by rw [v1]; exact h0) hs hg ⟨k, 100, Or.inl rfl, e2⟩
        have ec : tpC c x l s = afC (mvC (mvC c l s (-1)) x s a) 6 1 := by
          unfold tpC
          rw [hlp]
        have i3 : Iv lo (tpC c x l s) := by
          rw [ec]
          exact Iv_af i2 1 bF_6 (by decide) (by decide) (by decide)
        have b3 : Bd (tpC c x l s) := by
          rw [ec]
          exact Bd_af (Bd_sw hB hx hl hs hlp ha1 p1) 1 bF_6 (by decide)
        have pv : Pv c (tpC c x l s) := by
          rw [ec]
          exact Pv_t (Pv_mv c (-1) hl hs) (Pv_t (Pv_mv _ a hx hs) (Pv_af _ 1 (Or.inl rfl)))
        have p3 : pC (tpC c x l s) l s = -1 := by
          rw [ec, pC_af _ 1 bF_6, pC_mv _ a hx hs, if_neg (fun q => hxl q.1.symm), pC_mv c (-1) hl hs, if_pos ⟨rfl, rfl⟩]
        have e3 : en (tpC c x l s) s 100 (k + 1) x := by
          rw [ec]
          exact en_af _ 1 bF_6 ⟨hx, by rw [pC_mv _ a hx hs, if_pos ⟨rfl, rfl⟩]; exact e2⟩
        obtain ⟨g1, g2, g3, g4, -⟩ := ih (tpC c x l s) l x (k + 1) i3 b3 hl (by rw [pv.1 l 0 (by decide) (by decide)]; exact hl0) p3 (Or.inr ⟨hx, by rw [pv.1 x 0 (by decide) (by decide)]; exact h0⟩) e3 (by omega)
        refine ⟨g1, g2, Pv_t pv g3, fun z j hj hz => g4 z j (by omega) ?_, Or.inl ⟨k + 1, g4 x (k + 1) (Nat.le_refl _) e3⟩⟩
        rw [ec]
        exact en_af _ 1 bF_6 (en_mv hx hs (fun j _ => en_orph hx p1 j) (en_mv hl hs (fun i hi => hlk i (by omega)) hz))
      · rw [if_neg c2]
        have f2 := fiC_ch c a s
        by_cases c3 : fiC c a s = -1
        · rw [if_pos c3]
          unfold asC
          by_cases c4 : smC c s = -1
          · rw [if_pos c4]
            exact ⟨iv, hB, Pv_r c, fun _ _ _ hz => hz, Or.inr ⟨rfl, c4⟩⟩
          · obtain ⟨g3, g5⟩ := (smC_ch c s).resolve_left c4
            have g4 := rmC_j iv g3 g5
            rw [if_neg c4]
            obtain ⟨⟨k', hk'⟩, hcb⟩ := rmC_con iv hs g3 g5
            have hg : Gp c s (smC c s) := Or.inr (Or.inr ⟨g3, g4, cbC_other iv g3 hs hcb⟩)
            have e1 : en (mvC c x s (smC c s)) s 100 k' (smC c s) := en_mv hx hs (fun j _ => en_orph hx hp j) hk'
            exact ⟨Iv_af (Iv_mv iv hx h0 hs hg ⟨k', 100, Or.inl rfl, e1⟩) 1 bF_7 (by decide) (by decide) (by decide), Bd_af (Bd_add iv hB hx hs hp (Or.inr ⟨g3, g4⟩) g5) 1 bF_7 (by decide), Pv_t (Pv_mv c _ hx hs) (Pv_af _ 1 (Or.inr rfl)), fun z j _ hz => en_af _ 1 bF_7 (en_mv hx hs (fun j _ => en_orph hx hp j) hz), Or.inl ⟨k' + 1, en_af _ 1 bF_7 ⟨hx, by rw [pC_mv c _ hx hs, if_pos ⟨rfl, rfl⟩]; exact e1⟩⟩⟩
        · rw [if_neg c3]
          obtain ⟨g1, g2, -⟩ := f2.resolve_left c3
          obtain ⟨q1, q2, q3, q4, q5⟩ := ih c x (fiC c a s) (k + 1) iv hB hx h0 hp (Or.inr ⟨g1, ch_j iv g1 ha1 g2⟩) ⟨g1, by rw [g2]; exact hk⟩ (by omega)
          exact ⟨q1, q2, q3, fun z j hj hz => q4 z j (by omega) hz, q5⟩
theorem atC_iv {s : Int32} (hs : bS s = false) {x : Int32} (iv : Iv lo c) (hB : Bd c) (hx : bM x = false) (h0 : vC c x 0 = 1) (hp : pC c x s = -1) : Iv lo (atC c x s) ∧ Bd (atC c x s) ∧ Pv c (atC c x s) ∧ ((∃ j, en (atC c x s) s 100 j x) ∨ (atC c x s = c ∧ smC c s = -1)) := by
  obtain ⟨h1, h2, h3, -, h4⟩ := at_iv hs 33 c x 100 0 iv hB hx h0 hp (Or.inl rfl) rfl rfl
  exact ⟨h1, h2, h3, h4⟩
theorem fold2_inv {σ : Type} {F : Nat → σ → σ} (P : σ → Prop) (N : Nat) (step : ∀ j a, j < N → P a → P (F j a)) : ∀ n, n ≤ N → ∀ a, P a → P (fold2 F a n) := by
  intro n
  induction n with
  | zero =>
    intro _ a h
    rw [fold2_0]
    exact h
  | succ n ih =>
    intro hn a h
    rw [fold2_s]
    exact step n _ (by omega) (ih (by omega) a h)
theorem aoC_iv (iv : Iv lo c) (hB : Bd c) : Iv lo (aoC c) ∧ Bd (aoC c) ∧ Pv c (aoC c) := by
  refine fold2_inv (F := aoG) (fun a => Iv lo a ∧ Bd a ∧ Pv c a) 4 (fun j a hj hab => ?_) 4 (Nat.le_refl _) c ⟨iv, hB, Pv_r c⟩
  refine fold2_inv (F := aoF (nI j)) (fun a => Iv lo a ∧ Bd a ∧ Pv c a) 32 (fun i b hi hb => ?_) 32 (Nat.le_refl _) a hab
  unfold aoF
  by_cases ho : orC b (nI i) (nI j) = true
  · rw [if_pos ho]
    simp only [orC, Bool.and_eq_true, decide_eq_true_eq] at ho
    obtain ⟨h1, h2, h3, -⟩ := atC_iv (bS_n hj) hb.1 hb.2.1 (bM_n hi) ho.1 ho.2
    exact ⟨h1, h2, Pv_t hb.2.2 h3⟩
  · rw [if_neg ho]
    exact hb
end AT
