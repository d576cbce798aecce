/-! THE TWO SIDES: an orphan is attached alike on both -/
/-- the class and the reference stand alike -/
def Ok (lo : Int32 → Nat) (d : Int32) (c : Ce) (m : Re) : Prop := Iv lo c ∧ RlM c m ∧ RlF d c m
section AO
variable {lo : Int32 → Nat} {d : Int32} {c : Ce} {m : Re}
/-- an orphan comes under a place that the source reaches -/
theorem Ok_mv (h : Ok lo d c m) {x s a : Int32} {k : Nat} (hx : bM x = false) (h0 : vC c x 0 = 1) (hs : bS s = false) (hp : pC c x s = -1) (hg : Gp c s a) (ha : en c s 100 k a) : Ok lo d (mvC c x s a) (upR m x (8 + s) a) ∧ en (mvC c x s a) s 100 (k + 1) x := by
  have h1 : en (mvC c x s a) s 100 k a := en_mv hx hs (fun j _ => en_orph hx hp j) ha
  exact ⟨⟨Iv_mv h.1 hx h0 hs hg ⟨k, 100, Or.inl rfl, h1⟩, RlM_mv a h.2.1 hx hs, RlF_mv a h.2.2 hx hs⟩, hx, by rw [pC_mv c a hx hs, if_pos ⟨rfl, rfl⟩]; exact h1⟩
/-- a child is let go -/
theorem Ok_rm (h : Ok lo d c m) {x s : Int32} (hx : bM x = false) (h0 : vC c x 0 = 1) (hs : bS s = false) : Ok lo d (mvC c x s (-1)) (upR m x (8 + s) (-1)) :=
  ⟨Iv_mv h.1 hx h0 hs (Or.inl rfl) (Te_end _ s (Or.inr rfl)), RlM_mv (-1) h.2.1 hx hs, RlF_mv (-1) h.2.2 hx hs⟩
theorem asR_same (h : Ok lo d c m) {x s : Int32} (hx : bM x = false) (h0 : vC c x 0 = 1) (hs : bS s = false) (hp : pC c x s = -1) : asR m x s (-1) = m := by
  have h1 : oR m x (8 + s) = -1 := ((h.2.1.2 x hx h0).2.2.2.2.2.2.2 s hs).trans hp
  unfold asR
  rw [if_pos rfl, Int32.add_zero, upd_same]
  unfold upR
  rw [← h1]
  exact upd_same m _
theorem at_ok {s : Int32} (hs : bS s = false) : ∀ (n : Nat) (c : Ce) (m : Re) (x a : Int32) (k : Nat), Ok lo d c m → bM x = false → vC c x 0 = 1 → pC c x s = -1 → (a = 100 ∨ (bM a = false ∧ vC c a 0 = 1)) → en c s 100 k a → n + k = 33 → ∃ m', arO s (n + 2) m x a = some m' ∧ Ok lo d (atGo s n c x a) m' ∧ Pv c (atGo s n c x a) := by
  intro n
  induction n with
  | zero =>
    intro c m x a k h hx h0 hp ha hk hn
    have := en_le (Or.inl rfl) hk
    omega
  | succ n ih =>
    intro c m x a k h hx h0 hp ha hk hn
    have iv := h.1
    have r := h.2.1
    have ha1 : ¬ a = -1 := by
      rcases ha with rfl | ha
      · decide
      · exact bMm1 ha.1
    have hga : Gd c a := ha.imp id Or.inr
    have hok : a = 100 ∨ (bM a = false ∧ okR m a s = true) := ha.imp id (fun q => ⟨q.1, (dR_eq iv r hs hga).1⟩)
    rw [arO, atGo, if_pos hx, if_neg ha1, if_pos hok, rmR_eq iv r h.2.2.1 hs ha, lrR_eq iv r hs ha1]
    by_cases c1 : rmC c a s = true
    · rw [if_pos c1, if_pos c1]
      have hg : Gp c s a := ha.elim (fun q => Or.inr (Or.inl q)) (fun q => Or.inr (Or.inr ⟨q.1, q.2, cbC_other iv q.1 hs (rmC_con iv hs q.1 c1).2⟩))
      exact ⟨_, rfl, (Ok_mv h hx h0 hs hp hg hk).1, Pv_mv c a hx hs⟩
    · rw [if_neg c1, if_neg c1]
      by_cases c2 : ¬ lcC c a s = -1 ∧ beC c x (lcC c a s) s = true ∧ cbC c x s = true
      · rw [if_pos c2]
        obtain ⟨hl1, hbe, hcb⟩ := c2
        obtain ⟨hl, hlp⟩ := (lcC_ch c a s).resolve_left hl1
        have hl0 := ch_j iv hl ha1 hlp
        have c2' : ¬ lcC c a s = -1 ∧ ahR m x (lcC c a s) s = true ∧ cbR m x s = true := ⟨hl1, by rw [ahR_eq r s hx h0 hl hl0]; exact hbe, by rw [cbR_eq iv r hx h0 hs]; exact hcb⟩
        rw [if_pos c2']
        generalize lcC c a s = l at hl hlp hl0 hl1
        have hxl : ¬ x = l := by
          rintro rfl
          exact ha1 (hlp.symm.trans hp)
        have o1 := Ok_rm h hl hl0 hs
        have e1 : en (mvC c l s (-1)) s 100 k a := en_mv hl hs (fun j hj hjl => by
          have h1 : en c s 100 (k + 1) l := ⟨hl, by rw [hlp]; exact hk⟩
          have := (en_uniq (Or.inl rfl) (Or.inl rfl) hjl h1).1
          omega) hk
        have p1 : pC (mvC c l s (-1)) x s = -1 := by rw [pC_mv c (-1) hl hs, if_neg (fun q => hxl q.1)]; exact hp
        have v1 : ∀ y, vC (mvC c l s (-1)) y 0 = vC c y 0 := fun y => vC_mv_ne c (-1) hl hs y (by decide) (by decide)
        have hg : Gp (mvC c l s (-1)) s a := by
          rcases ha with q | q
          · exact Or.inr (Or.inl q)
          · refine Or.inr (Or.inr ⟨q.1, by rw [v1]; exact q.2, fun t ht hts => ?_⟩)
            rw [cnt_mv_ne c (-1) a hl hs hts]
            have hk := iv.2.2.2.2.1 a q.1
            have hc := cnt_pos hl hlp
            exact cnt_other hk hs ht hts (Or.inr (hk.2.2 s hs (by omega)))
        obtain ⟨o2, e2⟩ := Ok_mv o1 hx (by rw [v1]; exact h0) hs p1 hg e1
        have ec : tpC c x l s = afC (mvC (mvC c l s (-1)) x s a) 6 1 := by
          unfold tpC
          rw [hlp]
        have em : tpR m x a l s = upd (upR (upR m l (8 + s) (-1)) x (8 + s) a) 9 (upR (upR m l (8 + s) (-1)) x (8 + s) a 9 + 1) := by
          unfold tpR
          rw [upR_comm m a (-1) hx hl (bW_8 hs) (bW_8 hs) hxl]
        have o3 : Ok lo d (tpC c x l s) (tpR m x a l s) := by
          rw [ec, em]
          exact ⟨Iv_af o2.1 1 bF_6 (by decide) (by decide) (by decide), RlM_upd (RlM_af o2.2.1 1 bF_6) _ (by omega), RlF_9 o2.2.2⟩
        have pv : Pv c (tpC c x l s) := by
          rw [ec]
          exact Pv_t (Pv_mv c (-1) hl hs) (Pv_t (Pv_mv _ a hx hs) (Pv_af _ 1 (Or.inl rfl)))
        have p3 : pC (tpC c x l s) l s = -1 := by
          rw [ec, pC_af _ 1 bF_6, pC_mv _ a hx hs, if_neg (fun q => hxl q.1.symm), pC_mv c (-1) hl hs, if_pos ⟨rfl, rfl⟩]
        have e3 : en (tpC c x l s) s 100 (k + 1) x := by
          rw [ec]
          exact en_af _ 1 bF_6 e2
        obtain ⟨m', h1, h2, h3⟩ := ih (tpC c x l s) (tpR m x a l s) l x (k + 1) o3 hl (by rw [pv.1 l 0 (by decide) (by decide)]; exact hl0) p3 (Or.inr ⟨hx, by rw [pv.1 x 0 (by decide) (by decide)]; exact h0⟩) e3 (by omega)
        exact ⟨m', h1, h2, Pv_t pv h3⟩
      · rw [if_neg c2]
        have c2' : ¬ (¬ lcC c a s = -1 ∧ ahR m x (lcC c a s) s = true ∧ cbR m x s = true) := fun q => by
          obtain ⟨hl, hlp⟩ := (lcC_ch c a s).resolve_left q.1
          have hl0 := ch_j iv hl ha1 hlp
          rw [ahR_eq r s hx h0 hl hl0, cbR_eq iv r hx h0 hs] at q
          exact c2 q
        rw [if_neg c2']
        obtain ⟨f1, f2⟩ := firR_eq iv r hs ha1
        rw [f1]
        by_cases c3 : fiC c a s = -1
        · rw [if_pos c3, c3, arO, if_pos hx, if_pos rfl, if_pos (wfR_eq iv r hs)]
          obtain ⟨g1, g2⟩ := nrR_eq iv r h.2.2.1 hs hx hp
          rw [g1]
          refine ⟨_, rfl, ?_⟩
          unfold asC
          by_cases c4 : smC c s = -1
          · rw [if_pos c4, c4, asR_same h hx h0 hs hp]
            exact ⟨h, Pv_r c⟩
          · obtain ⟨g3, g4, g5⟩ := g2.resolve_left c4
            rw [if_neg c4]
            obtain ⟨⟨k', hk'⟩, hcb⟩ := rmC_con iv hs g3 g5
            have hg : Gp c s (smC c s) := Or.inr (Or.inr ⟨g3, g4, cbC_other iv g3 hs hcb⟩)
            obtain ⟨o2, -⟩ := Ok_mv h hx h0 hs hp hg hk'
            have em : asR m x s (smC c s) = upd (upR m x (8 + s) (smC c s)) 10 (upR m x (8 + s) (smC c s) 10 + 1) := by
              unfold asR
              rw [if_neg c4, up_lo m _ hx (bW_8 hs) (by omega)]
              obtain ⟨i, hi, rfl⟩ := bM_of hx
              obtain ⟨j, hj, hj'⟩ := bW_of (bW_8 hs)
              rw [hj']
              unfold upR
              rw [ix_r hi hj]
              exact upd_comm m _ _ (by omega)
            rw [em]
            exact ⟨⟨Iv_af o2.1 1 bF_7 (by decide) (by decide) (by decide), RlM_upd (RlM_af o2.2.1 1 bF_7) _ (by omega), RlF_10 o2.2.2⟩, Pv_t (Pv_mv c _ hx hs) (Pv_af _ 1 (Or.inr rfl))⟩
        · rw [if_neg c3]
          obtain ⟨g1, g2, -⟩ := f2.resolve_left c3
          exact ih c m x (fiC c a s) (k + 1) h hx h0 hp (Or.inr ⟨g1, ch_j iv g1 ha1 g2⟩) ⟨g1, by rw [g2]; exact hk⟩ (by omega)
theorem atC_ok {s : Int32} (hs : bS s = false) {x : Int32} (h : Ok lo d c m) (hx : bM x = false) (h0 : vC c x 0 = 1) (hp : pC c x s = -1) : ∃ m', arO s 35 m x 100 = some m' ∧ Ok lo d (atC c x s) m' ∧ Pv c (atC c x s) :=
  at_ok hs 33 c m x 100 0 h hx h0 hp (Or.inl rfl) rfl rfl
/-- steps alike -/
theorem goO_fold {σ τ : Type} {F : Nat → σ → σ} {G : Nat → τ → Option τ} (P : Nat → σ → τ → Prop) (N : Nat) (step : ∀ j a b, j < N → P j a b → ∃ b', G j b = some b' ∧ P (j + 1) (F j a) b') : ∀ (n j : Nat) (a0 : σ) (b : τ), n + j = N → P j (fold2 F a0 j) b → ∃ b', goO G n j b = some b' ∧ P N (fold2 F a0 N) b' := by
  intro n
  induction n with
  | zero =>
    intro j a0 b hj hp
    have : j = N := by omega
    subst this
    exact ⟨b, rfl, hp⟩
  | succ n ih =>
    intro j a0 b hj hp
    obtain ⟨b1, h1, h2⟩ := step j _ b (by omega) hp
    obtain ⟨b', h3, h4⟩ := ih (j + 1) a0 b1 (by omega) (by rw [fold2_s]; exact h2)
    exact ⟨b', by rw [goO, h1]; exact h3, h4⟩
theorem aoC_ok (h : Ok lo d c m) : ∃ m', aaO m = some m' ∧ Ok lo d (aoC c) m' ∧ Pv c (aoC c) := by
  refine goO_fold (F := aoG) (G := aaG) (fun _ a b => Ok lo d a b ∧ Pv c a) 4 (fun j a b hj hab => ?_) 4 0 c m rfl ⟨by rw [fold2_0]; exact h, by rw [fold2_0]; exact Pv_r c⟩
  refine goO_fold (F := aoF (nI j)) (G := aaF (nI j)) (fun _ a b => Ok lo d a b ∧ Pv c a) 32 (fun i a' b' hi hab' => ?_) 32 0 a b rfl (by rw [fold2_0]; exact hab)
  obtain ⟨h1, h2⟩ := hab'
  have hM := bM_n (show i < 32 by omega)
  have hS := bS_n (show j < 4 by omega)
  unfold aaF aoF
  rw [icR_m1 h1.2.1 hM hS]
  by_cases ho : orC a' (nI i) (nI j) = true
  · rw [if_pos ho, if_pos ho]
    simp only [orC, Bool.and_eq_true, decide_eq_true_eq] at ho
    obtain ⟨m', h3, h4, h5⟩ := atC_ok hS h1 hM ho.1 ho.2
    exact ⟨m', h3, h4, Pv_t h2 h5⟩
  · rw [if_neg ho, if_neg ho]
    exact ⟨b', rfl, h1, h2⟩
end AO
