/-! THE LAW: the changes of a turn -/
section OO
variable {ad : Nat → Nat} {M : Mm} {k : Tr} {b n F T m : Nat} {g4 g5 g6 g7 g8 g9 g10 g11 g12 : Option Value} {y : Int32}
theorem kr0_0 (M : Mm) (c : Ce) : (k_r0 M c).1 0 = c := rfl
theorem xi {es : List (String × Int32)} {o : Option Rs} {v : Int32} {M' : Mm} (h : o = some (.inl (some (.int v), M'))) : wX es o = some (.inl (some (.int v), M')) := by
  rw [h]
  rfl
theorem xn {o : Option Rs} {v : Int32} {M' : Mm} (h : o = some (.inl (some (.int v), M'))) : wN o = some (.inl (some (.int v), M')) := by
  rw [h]
  rfl
theorem csC_n (c : Ce) (x : Int32) : csC c x = nI (cN (fun i => !decide (dC c x (nI i) = -1)) 4) := sumTo_cN _ _ 4 (fun i _ => by by_cases h : dC c x (nI i) = -1 <;> simp [h])
theorem jnCt {c : Ce} {x : Int32} (h : vC c x 0 = 1) : jnC c x = true := by simp [jnC, h]
theorem jnCf {c : Ce} {x : Int32} (h : ¬ vC c x 0 = 1) : jnC c x = false := by simp [jnC, h]
theorem o_join {bb pp : Nat} (h : LI F T M) (hm : m < 24) (hb : bb ≤ 8) (hp : pp ≤ 3) : ∃ told M', sw_join ad [.ref (ad 0), .int (nI m), .int (nI bb), .int (nI pp)] M = some (.inl (some (.int told), M')) ∧ LI F T M' ∧ Td (diC (M.1 4 0) (M.1 0)) told M' := by
  have hM := bM_n (show m < 32 by omega)
  have e0 : sw_join ad [.ref (ad 0), .int (nI m), .int (nI bb), .int (nI pp)] M = wX es3 (f_join (nI m) (nI bb) (nI pp) M) := if_pos rfl
  have r1 : bR (nI bb) 0 8 = false := bR_n (n := 8) hb (by omega)
  have r2 : bR (nI pp) 0 3 = false := bR_n (n := 3) hp (by omega)
  by_cases hj : vC (M.1 0) (nI m) 0 = 1
  · exact ⟨-902, M, e0.trans (xw (by simp [f_join, hM, r1, r2, jnCt hj]) w3_S), h, Or.inr ⟨rfl, rfl⟩⟩
  · refine ⟨_, _, e0.trans (xi (by simp [f_join, hM, r1, r2, jnCf hj]; rfl)), LI_op h (j_join h.1 (nI pp) hm hb hj) h.2.1, Or.inl ?_⟩
    have := cN_le (fun i => !decide (dC (joC (M.1 0) (nI m) (nI bb) (nI pp)) (nI m) (nI i) = -1)) 4
    rw [csC_n]
    exact nI_pos' (by omega)
theorem o_leave (h : LI F T M) (hm : m < 24) : ∃ told M', sw_leave ad [.ref (ad 0), .int (nI m)] M = some (.inl (some (.int told), M')) ∧ LI F T M' ∧ Td (diC (M.1 4 0) (M.1 0)) told M' := by
  have hM := bM_n (show m < 32 by omega)
  have e0 : sw_leave ad [.ref (ad 0), .int (nI m)] M = wX es2 (f_leave (nI m) M) := if_pos rfl
  by_cases hj : vC (M.1 0) (nI m) 0 = 1
  · refine ⟨_, _, e0.trans (xi (by simp [f_leave, hM, jnCt hj]; rfl)), LI_op h (j_leave h.1 hM hj) h.2.1, Or.inl ?_⟩
    have := tot_le (M.1 0) (nI m)
    rw [(h.1.1.1.2.2.2.2.1 _ hM).1]
    exact nI_pos' (by omega)
  · exact ⟨-902, M, e0.trans (xw (by simp [f_leave, hM, jnCf hj]) w2_S), h, Or.inr ⟨rfl, rfl⟩⟩
theorem o_fail (h : LI F T M) (hT : T ≤ 1000) (hm : m < 24) : ∃ told M', sw_fail ad [.ref (ad 0), .int (nI m)] M = some (.inl (some (.int told), M')) ∧ LI F T M' ∧ Td (diC (M.1 4 0) (M.1 0)) told M' := by
  have hM := bM_n (show m < 32 by omega)
  have e0 : sw_fail ad [.ref (ad 0), .int (nI m)] M = wX es2 (f_fail (nI m) M) := if_pos rfl
  by_cases hj : vC (M.1 0) (nI m) 0 = 1
  · by_cases hf : vC (M.1 0) (nI m) 3 = 1
    · exact ⟨-902, M, e0.trans (xw (by simp [f_fail, hM, jnCt hj, flC, hf]) w2_S), h, Or.inr ⟨rfl, rfl⟩⟩
    · refine ⟨_, _, e0.trans (xi (by simp [f_fail, hM, jnCt hj, flC, hf]; rfl)), LI_op h (j_fail h.1 hM hj) h.2.1, Or.inl ?_⟩
      obtain ⟨q, q1, q2, q3⟩ := h.1.1.1.2.2.2.2.2.2.2
      rw [h.1.2.1, q3, nI_add]
      exact nI_pos' (by omega)
  · exact ⟨-902, M, e0.trans (xw (by simp [f_fail, hM, jnCf hj]) w2_S), h, Or.inr ⟨rfl, rfl⟩⟩
theorem o_setBound {bb : Nat} (h : LI F T M) (hm : m < 24) (hb : bb ≤ 8) : ∃ told M', sw_setBound ad [.ref (ad 0), .int (nI m), .int (nI bb)] M = some (.inl (some (.int told), M')) ∧ LI F T M' ∧ Td (diC (M.1 4 0) (M.1 0)) told M' := by
  have hM := bM_n (show m < 32 by omega)
  have e0 : sw_setBound ad [.ref (ad 0), .int (nI m), .int (nI bb)] M = wX es3 (f_setBound (nI m) (nI bb) M) := if_pos rfl
  have r1 : bR (nI bb) 0 8 = false := bR_n (n := 8) hb (by omega)
  by_cases hj : vC (M.1 0) (nI m) 0 = 1
  · refine ⟨_, _, e0.trans (xi (by simp [f_setBound, hM, r1, jnCt hj]; rfl)), LI_op h (j_setBound h.1 hb hM hj) h.2.1, Or.inl ?_⟩
    obtain ⟨q, q1, q2, q3⟩ := h.1.1.2.1.1 _ hM hj
    rw [q2]
    exact nI_pos' (by omega)
  · exact ⟨-902, M, e0.trans (xw (by simp [f_setBound, hM, r1, jnCf hj]) w3_S), h, Or.inr ⟨rfl, rfl⟩⟩
theorem o_rejoin {s : Nat} (h : LI F T M) (hm : m < 24) (hs : s < 4) : ∃ told M', sw_rejoin ad [.ref (ad 0), .int (nI m), .int (nI s)] M = some (.inl (some (.int told), M')) ∧ LI F T M' ∧ ((told = -1 ∧ wrC (M'.1 0) (nI s) = 0 ∧ rmC (M'.1 0) 100 (nI s) = false) ∨ (¬ told = -1 ∧ Td (diC (M.1 4 0) (M.1 0)) told M')) := by
  have hM := bM_n (show m < 32 by omega)
  have hS := bS_n hs
  have e0 : sw_rejoin ad [.ref (ad 0), .int (nI m), .int (nI s)] M = wX es2 (f_rejoin (nI m) (nI s) M) := if_pos rfl
  by_cases hj : vC (M.1 0) (nI m) 0 = 1
  · obtain ⟨j1, j2⟩ := j_rejoin h.1 hM hS hj
    refine ⟨_, _, e0.trans (xi (by simp [f_rejoin, hM, hS, jnCt hj]; rfl)), LI_op h j1 h.2.1, ?_⟩
    have h3 := j1.1.1.2.2.1 (nI m) (nI s)
    generalize rjC (M.1 0) (nI m) (nI s) = c' at j1 j2 h3 ⊢
    rcases h3 with q | q | q
    · exact Or.inl ⟨q, j2 q⟩
    · rw [q]
      exact Or.inr ⟨by decide, Or.inl (by decide)⟩
    · refine Or.inr ⟨bMm1 q.1, Or.inl ?_⟩
      obtain ⟨i, hi, e⟩ := bM_of q.1
      rw [e]
      exact nI_pos' (by omega)
  · exact ⟨-902, M, e0.trans (xw (by simp [f_rejoin, hM, hS, jnCf hj]) w2_S), h, Or.inr ⟨by decide, Or.inr ⟨rfl, rfl⟩⟩⟩
theorem o_setSource {F' : Nat} (h : LI F T M) (h1 : 1 ≤ F') (h2 : F' ≤ 8) : ∃ M', sn_setSource ad [.ref (ad 0), .int (nI F')] M = some (.inl (some (.int (nI F)), M')) ∧ LI F' T M' := by
  have e0 : sn_setSource ad [.ref (ad 0), .int (nI F')] M = wN (f_setSource (nI F') M) := if_pos rfl
  have r1 : bR (nI F') 1 8 = false := by
    have hh : F' = 1 ∨ F' = 2 ∨ F' = 3 ∨ F' = 4 ∨ F' = 5 ∨ F' = 6 ∨ F' = 7 ∨ F' = 8 := by omega
    rcases hh with rfl | rfl | rfl | rfl | rfl | rfl | rfl | rfl <;> decide
  refine ⟨_, e0.trans (xn (by simp [f_setSource, r1, h.1.2.2])), LI_op h (j_setSource h.1 h1 h2) h2⟩
theorem o_setDelay {d : Nat} (h : LI F T M) (h1 : 1 ≤ d) (h2 : d ≤ 8) : ∃ told M', sn_setDelay ad [.ref (ad 0), .int (nI d)] M = some (.inl (some (.int told), M')) ∧ LI F T M' ∧ 0 ≤ told := by
  have e0 : sn_setDelay ad [.ref (ad 0), .int (nI d)] M = wN (f_setDelay (nI d) M) := if_pos rfl
  have r1 : bR (nI d) 1 20 = false := by
    have hh : d = 1 ∨ d = 2 ∨ d = 3 ∨ d = 4 ∨ d = 5 ∨ d = 6 ∨ d = 7 ∨ d = 8 := by omega
    rcases hh with rfl | rfl | rfl | rfl | rfl | rfl | rfl | rfl <;> decide
  refine ⟨_, _, e0.trans (xn (by simp [f_setDelay, r1]; rfl)), LI_op h (j_setDelay h.1 h1 (by omega)) h.2.1, ?_⟩
  obtain ⟨q, q1, q2, q3⟩ := h.1.1.1.2.2.2.2.2.2.2
  rw [q3]
  exact nI_pos' (by omega)
theorem o_tick {l : Nat} (h : LI F T M) (h1 : 1 ≤ l) (h2 : l ≤ 12) : ∃ told M', sn_tick ad [.ref (ad 0), .int (nI l)] M = some (.inl (some (.int told), M')) ∧ LI F (T + l) M' ∧ 0 ≤ told := by
  have e0 : sn_tick ad [.ref (ad 0), .int (nI l)] M = wN (f_tick (nI l) M) := if_pos rfl
  have r1 : bR (nI l) 1 200 = false := by
    have hh : l = 1 ∨ l = 2 ∨ l = 3 ∨ l = 4 ∨ l = 5 ∨ l = 6 ∨ l = 7 ∨ l = 8 ∨ l = 9 ∨ l = 10 ∨ l = 11 ∨ l = 12 := by omega
    rcases hh with rfl | rfl | rfl | rfl | rfl | rfl | rfl | rfl | rfl | rfl | rfl | rfl <;> decide
  obtain ⟨k1, r, k2, k3⟩ := j_tick h.1 (l := l) (by omega)
  have e1 : f_tick (nI l) M = some (.inl (some (.int (nI r)), k_r0 (psM M) (tkC (M.1 0) (nI l)).2)) := by
    unfold f_tick
    rw [if_neg (by rw [r1]; decide), k3]
  exact ⟨_, _, e0.trans (xn e1), LI_op h k1 h.2.1, nI_pos' (by omega)⟩
theorem o_repair (h : LI F T M) : ∃ M', sp_V f_repair [] M = some (.inl (some (.int (reC (M'.1 0))), M')) ∧ LI F T M' :=
  ⟨k_r0 (psM M) (aoC (M.1 0)), by rw [kr0_0]; rfl, LI_op h (j_repair h.1) h.2.1⟩
end OO
