/-! fields, rows, returns, calls -/
theorem k_inX0 : ∀ w ∈ u_ws RX0 TX0 1, w ∈ k_G := by decide +kernel
theorem k_inX1 : ∀ w ∈ u_ws RX1 TX1 1, w ∈ k_G := by decide +kernel
theorem k_inX2 : ∀ w ∈ u_ws RX2 TX2 3, w ∈ k_G := by decide +kernel
theorem k_inX3 : ∀ w ∈ u_ws RX3 TX3 3, w ∈ k_G := by decide +kernel
section KM
variable {ad : Nat → Nat} {X : Cx} {cc : ByteArray} {own : String} {nL fr lo pc : Nat} {t t1 t2 : Tr}
theorem ss_gr {o o2 index ci N k : Nat} {C : String} {T : u_T} (C0 : k_C ad X cc own nL fr lo) (d : decode cc pc = .ok (.getfield index, 3)) (hin : ∀ w ∈ u_ws C T N, w ∈ k_G) (hc : vwCl[ci]? = some (C, T, N)) (hk : k < N) (hlink : Cond.fieldLink own index (T k).1 (T k).2.1 (T k).2.2.1 ∈ k_G)
    (hW : ∀ cI cL M, ∃ fs, (k_W ad cI cL M)[o]? = some (ad o, .inr (ci, fs)) ∧ fs[k]? = some (.ref (ad o2))) (k0 : Sd ad X (pc + 3) t) : Sd ad X pc (tt_gr ad o o2 t) := by
  obtain ⟨p, l, e, R, s, m, args, below, meth, c, Q, D, cI, cL, A0, H0, ck, cn⟩ := X
  obtain ⟨hx, hb, hml, hown, hts, hK, hD, hA, hR⟩ := C0
  intro L st M h H locs ls hP hS hl
  unfold tt_gr at h
  split at h
  · obtain ⟨rfl, h⟩ := h
    obtain ⟨fs, h1, h2⟩ := hW cI cL M
    exact va_get hx hb hts hin hown hK hP o h1 hc k hk (hts _ hlink) (fun _ h9 => h9) h2 d (k0 L _ M h H locs ls hP hS hl)
  · exact h.elim
theorem ss_gi {o j index ci N k : Nat} {C : String} {T : u_T} (C0 : k_C ad X cc own nL fr lo) (d : decode cc pc = .ok (.getfield index, 3)) (hin : ∀ w ∈ u_ws C T N, w ∈ k_G) (hc : vwCl[ci]? = some (C, T, N)) (hk : k < N) (hlink : Cond.fieldLink own index (T k).1 (T k).2.1 (T k).2.2.1 ∈ k_G)
    (hW : ∀ cI cL M, ∃ fs, (k_W ad cI cL M)[o]? = some (ad o, .inr (ci, fs)) ∧ fs[k]? = some (.int (M.1 4 j))) (k0 : Sd ad X (pc + 3) t) : Sd ad X pc (tt_gi ad o j t) := by
  obtain ⟨p, l, e, R, s, m, args, below, meth, c, Q, D, cI, cL, A0, H0, ck, cn⟩ := X
  obtain ⟨hx, hb, hml, hown, hts, hK, hD, hA, hR⟩ := C0
  intro L st M h H locs ls hP hS hl
  unfold tt_gi at h
  split at h
  · obtain ⟨rfl, h⟩ := h
    obtain ⟨fs, h1, h2⟩ := hW cI cL M
    exact va_get hx hb hts hin hown hK hP o h1 hc k hk (hts _ hlink) (fun _ h9 => h9) h2 d (k0 L _ M h H locs ls hP hS hl)
  · exact h.elim
theorem ss_pi {o j index ci N k : Nat} {C : String} {T : u_T} {ty0 : Nat → FieldType} (C0 : k_C ad X cc own nL fr lo) (d : decode cc pc = .ok (.putfield index, 3)) (hin : ∀ w ∈ u_ws C T N, w ∈ k_G) (hty : ∀ k, k < N → parseFieldDescriptor (T k).2.2.1 = some (ty0 k)) (hnm : ∀ a, a < N → ∀ b, b < N → a ≠ b → (T a).2.1 ≠ (T b).2.1) (hc : vwCl[ci]? = some (C, T, N)) (hk : k < N) (hfin : (T k).2.2.2 = false) (hd : parseFieldDescriptor (T k).2.2.1 = some .int) (hlink : Cond.fieldLink own index (T k).1 (T k).2.1 (T k).2.2.1 ∈ k_G)
    (hW : ∀ cI cL M v, ∃ fs, (k_W ad cI cL M)[o]? = some (ad o, .inr (ci, fs)) ∧ k < fs.length ∧ (k_W ad cI cL M).set o (ad o, .inr (ci, fs.set k (.int v))) = k_W ad cI cL (k_up M 4 j v)) (k0 : Sd ad X (pc + 3) t) : Sd ad X pc (tt_pi ad o j t) := by
  obtain ⟨p, l, e, R, s, m, args, below, meth, c, Q, D, cI, cL, A0, H0, ck, cn⟩ := X
  obtain ⟨hx, hb, hml, hown, hts, hK, hD, hA, hR⟩ := C0
  intro L st M h H locs ls hP hS hl
  unfold tt_pi at h
  split at h
  · next v a st1 =>
    obtain ⟨rfl, h⟩ := h
    obtain ⟨fs, h1, h2, h3⟩ := hW cI cL M v
    exact va_put hx hb hts hin ty0 hty hnm hown hK hP (hD M) hS o h1 hc k hk (hts _ hlink) (fun _ h9 => h9) hfin hd rfl rfl h2 d (fun H1 locs1 hP1 _ hS1 => k0 L _ _ h H1 locs1 ls (by rw [← h3]; exact hP1) hS1 hl)
  · exact h.elim
theorem ss_ia {o n r : Nat} (hW : ∀ cI cL M, (k_W ad cI cL M)[o]? = some (ad o, .inl (cI, n, .inl (M.1 r)))) (C0 : k_C ad X cc own nL fr lo) (d : decode cc pc = .ok (.iaload, 1)) (k0 : Sd ad X (pc + 1) t) : Sd ad X pc (tt_ia ad o n r t) := by
  obtain ⟨p, l, e, R, s, m, args, below, meth, c, Q, D, cI, cL, A0, H0, ck, cn⟩ := X
  obtain ⟨hx, hb, hml, hown, hts, hK, hD, hA, hR⟩ := C0
  intro L st M h H locs ls hP hS hl
  unfold tt_ia at h
  split at h
  · obtain ⟨rfl, hi, h⟩ := h
    exact va_iald hx hb hK hP o 0 (hW cI cL M) rfl hi d (k0 L _ M h H locs ls hP hS hl)
  · exact h.elim
theorem ss_st {o n r : Nat} (hW : ∀ cI cL M, (k_W ad cI cL M)[o]? = some (ad o, .inl (cI, n, .inl (M.1 r)))) (hU : ∀ cI cL M j x, (k_W ad cI cL M).set o (ad o, .inl (cI, n, .inl (upd (M.1 r) j x))) = k_W ad cI cL (k_up M r j x)) (C0 : k_C ad X cc own nL fr lo) (d : decode cc pc = .ok (.iastore, 1)) (k0 : Sd ad X (pc + 1) t) : Sd ad X pc (tt_st ad o n r t) := by
  obtain ⟨p, l, e, R, s, m, args, below, meth, c, Q, D, cI, cL, A0, H0, ck, cn⟩ := X
  obtain ⟨hx, hb, hml, hown, hts, hK, hD, hA, hR⟩ := C0
  intro L st M h H locs ls hP hS hl
  unfold tt_st at h
  split at h
  · obtain ⟨rfl, hi, h⟩ := h
    exact va_iast hx hb hK hP (hD M) hS o 0 (hW cI cL M) rfl hi d (fun H1 locs1 hP1 _ hS1 => k0 L _ _ h H1 locs1 ls (by rw [← hU]; exact hP1) hS1 hl)
  · exact h.elim
/-- the fields, one by one -/
theorem ss_X_trees {i : Nat} (C : k_C ad X cc own nL fr lo) (d : decode cc pc = .ok (.getfield i, 3)) (h : Cond.fieldLink own i "StripeTrees" "trees" "LStripeTrees$Trees;" ∈ k_G) (k : Sd ad X (pc + 3) t) : Sd ad X pc (tt_gr ad 0 1 t) := ss_gr (ci := 3) (k := 0) C d k_inX3 rfl (by decide) h (fun _ _ _ => ⟨_, rfl, rfl⟩) k
theorem ss_X_state {i : Nat} (C : k_C ad X cc own nL fr lo) (d : decode cc pc = .ok (.getfield i, 3)) (h : Cond.fieldLink own i "StripeTrees" "state" "LStripeTrees$State;" ∈ k_G) (k : Sd ad X (pc + 3) t) : Sd ad X pc (tt_gr ad 0 2 t) := ss_gr (ci := 3) (k := 1) C d k_inX3 rfl (by decide) h (fun _ _ _ => ⟨_, rfl, rfl⟩) k
theorem ss_X_undoStack {i : Nat} (C : k_C ad X cc own nL fr lo) (d : decode cc pc = .ok (.getfield i, 3)) (h : Cond.fieldLink own i "StripeTrees" "undoStack" "LStripeTrees$UndoStack;" ∈ k_G) (k : Sd ad X (pc + 3) t) : Sd ad X pc (tt_gr ad 0 3 t) := ss_gr (ci := 3) (k := 2) C d k_inX3 rfl (by decide) h (fun _ _ _ => ⟨_, rfl, rfl⟩) k
theorem ss_T_state {i : Nat} (C : k_C ad X cc own nL fr lo) (d : decode cc pc = .ok (.getfield i, 3)) (h : Cond.fieldLink own i "StripeTrees$Trees" "state" "LStripeTrees$State;" ∈ k_G) (k : Sd ad X (pc + 3) t) : Sd ad X pc (tt_gr ad 1 2 t) := ss_gr (ci := 1) (k := 0) C d k_inX1 rfl (by decide) h (fun _ _ _ => ⟨_, rfl, rfl⟩) k
theorem ss_S_cells {i : Nat} (C : k_C ad X cc own nL fr lo) (d : decode cc pc = .ok (.getfield i, 3)) (h : Cond.fieldLink own i "StripeTrees$State" "cells" "[I" ∈ k_G) (k : Sd ad X (pc + 3) t) : Sd ad X pc (tt_gr ad 2 4 t) := ss_gr (ci := 0) (k := 0) C d k_inX0 rfl (by decide) h (fun _ _ _ => ⟨_, rfl, rfl⟩) k
theorem ss_U_rows {i : Nat} (C : k_C ad X cc own nL fr lo) (d : decode cc pc = .ok (.getfield i, 3)) (h : Cond.fieldLink own i "StripeTrees$UndoStack" "rows" "[I" ∈ k_G) (k : Sd ad X (pc + 3) t) : Sd ad X pc (tt_gr ad 3 5 t) := ss_gr (ci := 2) (k := 0) C d k_inX2 rfl (by decide) h (fun _ _ _ => ⟨_, rfl, rfl⟩) k
theorem ss_U_saved {i : Nat} (C : k_C ad X cc own nL fr lo) (d : decode cc pc = .ok (.getfield i, 3)) (h : Cond.fieldLink own i "StripeTrees$UndoStack" "saved" "I" ∈ k_G) (k : Sd ad X (pc + 3) t) : Sd ad X pc (tt_gi ad 3 0 t) := ss_gi (ci := 2) (k := 1) C d k_inX2 rfl (by decide) h (fun _ _ _ => ⟨_, rfl, rfl⟩) k
theorem ss_U_next {i : Nat} (C : k_C ad X cc own nL fr lo) (d : decode cc pc = .ok (.getfield i, 3)) (h : Cond.fieldLink own i "StripeTrees$UndoStack" "next" "I" ∈ k_G) (k : Sd ad X (pc + 3) t) : Sd ad X pc (tt_gi ad 3 1 t) := ss_gi (ci := 2) (k := 2) C d k_inX2 rfl (by decide) h (fun _ _ _ => ⟨_, rfl, rfl⟩) k
theorem ss_U_saved_p {i : Nat} (C : k_C ad X cc own nL fr lo) (d : decode cc pc = .ok (.putfield i, 3)) (h : Cond.fieldLink own i "StripeTrees$UndoStack" "saved" "I" ∈ k_G) (k : Sd ad X (pc + 3) t) : Sd ad X pc (tt_pi ad 3 0 t) := ss_pi (ci := 2) (k := 1) C d k_inX2 tyX2_ok nmX2 rfl (by decide) rfl (by decide +kernel) h (fun _ _ _ _ => ⟨_, rfl, by simp, rfl⟩) k
theorem ss_U_next_p {i : Nat} (C : k_C ad X cc own nL fr lo) (d : decode cc pc = .ok (.putfield i, 3)) (h : Cond.fieldLink own i "StripeTrees$UndoStack" "next" "I" ∈ k_G) (k : Sd ad X (pc + 3) t) : Sd ad X pc (tt_pi ad 3 1 t) := ss_pi (ci := 2) (k := 2) C d k_inX2 tyX2_ok nmX2 rfl (by decide) rfl (by decide +kernel) h (fun _ _ _ _ => ⟨_, rfl, by simp, rfl⟩) k
theorem ss_ia4 (C : k_C ad X cc own nL fr lo) (d : decode cc pc = .ok (.iaload, 1)) (k : Sd ad X (pc + 1) t) : Sd ad X pc (tt_ia ad 4 459 0 t) := ss_ia (fun _ _ _ => rfl) C d k
theorem ss_ia5 (C : k_C ad X cc own nL fr lo) (d : decode cc pc = .ok (.iaload, 1)) (k : Sd ad X (pc + 1) t) : Sd ad X pc (tt_ia ad 5 1836 1 t) := ss_ia (fun _ _ _ => rfl) C d k
theorem ss_st4 (C : k_C ad X cc own nL fr lo) (d : decode cc pc = .ok (.iastore, 1)) (k : Sd ad X (pc + 1) t) : Sd ad X pc (tt_st ad 4 459 0 t) := ss_st (fun _ _ _ => rfl) (fun _ _ _ _ _ => rfl) C d k
end KM
