/-! THE TREES ARE SOUND: an instruction, a row -/
section KS
variable {ad : Nat → Nat} {X : Cx} {cc : ByteArray} {own : String} {nL fr lo pc : Nat} {t t1 t2 : Tr}
theorem ss_go {off : Int} {tgt : Nat} (C : k_C ad X cc own nL fr lo) (d : decode cc pc = .ok (.goto off, 3)) (ht : (pc : Int) + off = (tgt : Int)) (k : Sd ad X tgt t) : Sd ad X pc t := by
  obtain ⟨p, l, e, R, s, m, args, below, meth, c, Q, D, cI, cL, A0, H0, ck, cn⟩ := X
  obtain ⟨hx, hb, hml, hown, hts, hK, hD, hA, hR⟩ := C
  intro L st M h H locs ls hP hS hl
  exact lv_goto hx hb d ht (k L st M h H locs ls hP hS hl)
theorem ss_c {n : Int} {v : Int32} (C : k_C ad X cc own nL fr lo) (d : decode cc pc = .ok (.iconst n, 1)) (hv : Int32.ofInt n = v) (k : Sd ad X (pc + 1) t) : Sd ad X pc (tt_c v t) := by
  obtain ⟨p, l, e, R, s, m, args, below, meth, c, Q, D, cI, cL, A0, H0, ck, cn⟩ := X
  obtain ⟨hx, hb, hml, hown, hts, hK, hD, hA, hR⟩ := C
  intro L st M h H locs ls hP hS hl
  exact lv_iconst hx hb d hv (k L _ M h H locs ls hP hS hl)
theorem ss_bp {n : Int} {v : Int32} (C : k_C ad X cc own nL fr lo) (d : decode cc pc = .ok (.bipush n, 2)) (hv : (Int8.ofInt n).toInt32 = v) (k : Sd ad X (pc + 2) t) : Sd ad X pc (tt_c v t) := by
  obtain ⟨p, l, e, R, s, m, args, below, meth, c, Q, D, cI, cL, A0, H0, ck, cn⟩ := X
  obtain ⟨hx, hb, hml, hown, hts, hK, hD, hA, hR⟩ := C
  intro L st M h H locs ls hP hS hl
  exact lv_bipush hx hb d hv (k L _ M h H locs ls hP hS hl)
theorem ss_sp {n : Int} {v : Int32} (C : k_C ad X cc own nL fr lo) (d : decode cc pc = .ok (.sipush n, 3)) (hv : (Int16.ofInt n).toInt32 = v) (k : Sd ad X (pc + 3) t) : Sd ad X pc (tt_c v t) := by
  obtain ⟨p, l, e, R, s, m, args, below, meth, c, Q, D, cI, cL, A0, H0, ck, cn⟩ := X
  obtain ⟨hx, hb, hml, hown, hts, hK, hD, hA, hR⟩ := C
  intro L st M h H locs ls hP hS hl
  exact lv_sipush hx hb d hv (k L _ M h H locs ls hP hS hl)
theorem ss_lc {n : Fin 2} {v : Int64} (C : k_C ad X cc own nL fr lo) (d : decode cc pc = .ok (.lconst n, 1)) (hv : Int64.ofNat (n : Nat) = v) (k : Sd ad X (pc + 1) t) : Sd ad X pc (tt_lc v t) := by
  obtain ⟨p, l, e, R, s, m, args, below, meth, c, Q, D, cI, cL, A0, H0, ck, cn⟩ := X
  obtain ⟨hx, hb, hml, hown, hts, hK, hD, hA, hR⟩ := C
  intro L st M h H locs ls hP hS hl
  exact lv_lconst hx hb d hv (k L _ M h H locs ls hP hS hl)
theorem ss_l2 {index : Nat} {v : Int64} (C : k_C ad X cc own nL fr lo) (d : decode cc pc = .ok (.ldc2_w index, 3)) (hw : Cond.constantLong own index v ∈ k_G) (k : Sd ad X (pc + 3) t) : Sd ad X pc (tt_lc v t) := by
  obtain ⟨p, l, e, R, s, m, args, below, meth, c, Q, D, cI, cL, A0, H0, ck, cn⟩ := X
  obtain ⟨hx, hb, hml, hown, hts, hK, hD, hA, hR⟩ := C
  intro L st M h H locs ls hP hS hl
  exact lv_ldc2 hx hb hown (hts _ hw) d (k L _ M h H locs ls hP hS hl)
theorem ss_il {i : Nat} (C : k_C ad X cc own nL fr lo) (d : decode cc pc = .ok (.iload i, 2)) (k : Sd ad X (pc + 2) t) : Sd ad X pc (tt_il i t) := by
  obtain ⟨p, l, e, R, s, m, args, below, meth, c, Q, D, cI, cL, A0, H0, ck, cn⟩ := X
  obtain ⟨hx, hb, hml, hown, hts, hK, hD, hA, hR⟩ := C
  intro L st M h H locs ls hP hS hl
  unfold tt_il at h
  split at h
  · next x hi => exact lv_iload hx hb d (k_has hl hi) (k L _ M h H locs ls hP hS hl)
  · exact h.elim
theorem ss_il0 {i : Nat} {f : Fin 4} (C : k_C ad X cc own nL fr lo) (d : decode cc pc = .ok (.iload_n f, 1)) (hf : (f : Nat) = i) (k : Sd ad X (pc + 1) t) : Sd ad X pc (tt_il i t) := by
  obtain ⟨p, l, e, R, s, m, args, below, meth, c, Q, D, cI, cL, A0, H0, ck, cn⟩ := X
  obtain ⟨hx, hb, hml, hown, hts, hK, hD, hA, hR⟩ := C
  intro L st M h H locs ls hP hS hl
  unfold tt_il at h
  split at h
  · next x hi => exact lv_iload_n hx hb d hf (k_has hl hi) (k L _ M h H locs ls hP hS hl)
  · exact h.elim
theorem ss_ll {i : Nat} (C : k_C ad X cc own nL fr lo) (d : decode cc pc = .ok (.lload i, 2)) (k : Sd ad X (pc + 2) t) : Sd ad X pc (tt_ll i t) := by
  obtain ⟨p, l, e, R, s, m, args, below, meth, c, Q, D, cI, cL, A0, H0, ck, cn⟩ := X
  obtain ⟨hx, hb, hml, hown, hts, hK, hD, hA, hR⟩ := C
  intro L st M h H locs ls hP hS hl
  unfold tt_ll at h
  split at h
  · next x hi => exact lv_lload hx hb d (k_has hl hi) (k L _ M h H locs ls hP hS hl)
  · exact h.elim
theorem ss_ll0 {i : Nat} {f : Fin 4} (C : k_C ad X cc own nL fr lo) (d : decode cc pc = .ok (.lload_n f, 1)) (hf : (f : Nat) = i) (k : Sd ad X (pc + 1) t) : Sd ad X pc (tt_ll i t) := by
  obtain ⟨p, l, e, R, s, m, args, below, meth, c, Q, D, cI, cL, A0, H0, ck, cn⟩ := X
  obtain ⟨hx, hb, hml, hown, hts, hK, hD, hA, hR⟩ := C
  intro L st M h H locs ls hP hS hl
  unfold tt_ll at h
  split at h
  · next x hi => exact lv_lload_n hx hb d hf (k_has hl hi) (k L _ M h H locs ls hP hS hl)
  · exact h.elim
theorem ss_al {i : Nat} (C : k_C ad X cc own nL fr lo) (d : decode cc pc = .ok (.aload i, 2)) (k : Sd ad X (pc + 2) t) : Sd ad X pc (tt_al i t) := by
  obtain ⟨p, l, e, R, s, m, args, below, meth, c, Q, D, cI, cL, A0, H0, ck, cn⟩ := X
  obtain ⟨hx, hb, hml, hown, hts, hK, hD, hA, hR⟩ := C
  intro L st M h H locs ls hP hS hl
  unfold tt_al at h
  split at h
  · next x hi => exact lv_aload hx hb d (k_has hl hi) (k L _ M h H locs ls hP hS hl)
  · exact h.elim
theorem ss_al0 {i : Nat} {f : Fin 4} (C : k_C ad X cc own nL fr lo) (d : decode cc pc = .ok (.aload_n f, 1)) (hf : (f : Nat) = i) (k : Sd ad X (pc + 1) t) : Sd ad X pc (tt_al i t) := by
  obtain ⟨p, l, e, R, s, m, args, below, meth, c, Q, D, cI, cL, A0, H0, ck, cn⟩ := X
  obtain ⟨hx, hb, hml, hown, hts, hK, hD, hA, hR⟩ := C
  intro L st M h H locs ls hP hS hl
  unfold tt_al at h
  split at h
  · next x hi => exact lv_aload_n hx hb d hf (k_has hl hi) (k L _ M h H locs ls hP hS hl)
  · exact h.elim
theorem ss_is {i : Nat} (C : k_C ad X cc own nL fr lo) (d : decode cc pc = .ok (.istore i, 2)) (hn : i < nL) (k : Sd ad X (pc + 2) t) : Sd ad X pc (tt_is i t) := by
  obtain ⟨p, l, e, R, s, m, args, below, meth, c, Q, D, cI, cL, A0, H0, ck, cn⟩ := X
  obtain ⟨hx, hb, hml, hown, hts, hK, hD, hA, hR⟩ := C
  intro L st M h H locs ls hP hS hl
  unfold tt_is at h
  split at h
  · exact lv_istore hx hb d hl (by rw [hml]; exact hn) rfl (fun ls' hl' => k _ _ M h H locs ls' hP hS (k_has_sv hl'))
  · exact h.elim
theorem ss_is0 {i : Nat} {f : Fin 4} (C : k_C ad X cc own nL fr lo) (d : decode cc pc = .ok (.istore_n f, 1)) (hf : (f : Nat) = i) (hn : i < nL) (k : Sd ad X (pc + 1) t) : Sd ad X pc (tt_is i t) := by
  obtain ⟨p, l, e, R, s, m, args, below, meth, c, Q, D, cI, cL, A0, H0, ck, cn⟩ := X
  obtain ⟨hx, hb, hml, hown, hts, hK, hD, hA, hR⟩ := C
  intro L st M h H locs ls hP hS hl
  unfold tt_is at h
  split at h
  · exact lv_istore_n hx hb d hf hl (by rw [hml]; exact hn) rfl (fun ls' hl' => k _ _ M h H locs ls' hP hS (k_has_sv hl'))
  · exact h.elim
theorem ss_ls {i : Nat} (C : k_C ad X cc own nL fr lo) (d : decode cc pc = .ok (.lstore i, 2)) (hn : i + 1 < nL) (k : Sd ad X (pc + 2) t) : Sd ad X pc (tt_lsv i t) := by
  obtain ⟨p, l, e, R, s, m, args, below, meth, c, Q, D, cI, cL, A0, H0, ck, cn⟩ := X
  obtain ⟨hx, hb, hml, hown, hts, hK, hD, hA, hR⟩ := C
  intro L st M h H locs ls hP hS hl
  unfold tt_lsv at h
  split at h
  · exact lv_lstore hx hb d hl (by rw [hml]; exact hn) rfl (fun ls' hl' => k _ _ M h H locs ls' hP hS (k_has_sv2 hl'))
  · exact h.elim
theorem ss_ls0 {i : Nat} {f : Fin 4} (C : k_C ad X cc own nL fr lo) (d : decode cc pc = .ok (.lstore_n f, 1)) (hf : (f : Nat) = i) (hn : i + 1 < nL) (k : Sd ad X (pc + 1) t) : Sd ad X pc (tt_lsv i t) := by
  obtain ⟨p, l, e, R, s, m, args, below, meth, c, Q, D, cI, cL, A0, H0, ck, cn⟩ := X
  obtain ⟨hx, hb, hml, hown, hts, hK, hD, hA, hR⟩ := C
  intro L st M h H locs ls hP hS hl
  unfold tt_lsv at h
  split at h
  · exact lv_lstore_n hx hb d hf hl (by rw [hml]; exact hn) rfl (fun ls' hl' => k _ _ M h H locs ls' hP hS (k_has_sv2 hl'))
  · exact h.elim
theorem ss_as {i : Nat} (C : k_C ad X cc own nL fr lo) (d : decode cc pc = .ok (.astore i, 2)) (hn : i < nL) (k : Sd ad X (pc + 2) t) : Sd ad X pc (tt_as i t) := by
  obtain ⟨p, l, e, R, s, m, args, below, meth, c, Q, D, cI, cL, A0, H0, ck, cn⟩ := X
  obtain ⟨hx, hb, hml, hown, hts, hK, hD, hA, hR⟩ := C
  intro L st M h H locs ls hP hS hl
  unfold tt_as at h
  split at h
  · exact lv_astore hx hb d hl (by rw [hml]; exact hn) rfl (fun ls' hl' => k _ _ M h H locs ls' hP hS (k_has_sv hl'))
  · exact h.elim
theorem ss_as0 {i : Nat} {f : Fin 4} (C : k_C ad X cc own nL fr lo) (d : decode cc pc = .ok (.astore_n f, 1)) (hf : (f : Nat) = i) (hn : i < nL) (k : Sd ad X (pc + 1) t) : Sd ad X pc (tt_as i t) := by
  obtain ⟨p, l, e, R, s, m, args, below, meth, c, Q, D, cI, cL, A0, H0, ck, cn⟩ := X
  obtain ⟨hx, hb, hml, hown, hts, hK, hD, hA, hR⟩ := C
  intro L st M h H locs ls hP hS hl
  unfold tt_as at h
  split at h
  · exact lv_astore_n hx hb d hf hl (by rw [hml]; exact hn) rfl (fun ls' hl' => k _ _ M h H locs ls' hP hS (k_has_sv hl'))
  · exact h.elim
theorem ss_inc {i : Nat} {n : Int} {v : Int32} (C : k_C ad X cc own nL fr lo) (d : decode cc pc = .ok (.iinc i n, 3)) (hv : Int32.ofInt n = v) (hn : i < nL) (k : Sd ad X (pc + 3) t) : Sd ad X pc (tt_inc i v t) := by
  obtain ⟨p, l, e, R, s, m, args, below, meth, c, Q, D, cI, cL, A0, H0, ck, cn⟩ := X
  obtain ⟨hx, hb, hml, hown, hts, hK, hD, hA, hR⟩ := C
  intro L st M h H locs ls hP hS hl
  unfold tt_inc at h
  split at h
  · next x hi =>
    obtain ⟨q, hq⟩ := List.getElem?_of_mem ((k_asc_mem L 0 i _).mpr ⟨i, by omega, hi⟩)
    exact lv_iinc hx hb d hl hq (by rw [hv]) (by rw [hml]; exact hn) rfl (fun ls' hl' => k _ _ M h H locs ls' hP hS (k_has_sv hl'))
  · exact h.elim
theorem ss_add (C : k_C ad X cc own nL fr lo) (d : decode cc pc = .ok (.iadd, 1)) (k : Sd ad X (pc + 1) t) : Sd ad X pc (tt_add t) := by
  obtain ⟨p, l, e, R, s, m, args, below, meth, c, Q, D, cI, cL, A0, H0, ck, cn⟩ := X
  obtain ⟨hx, hb, hml, hown, hts, hK, hD, hA, hR⟩ := C
  intro L st M h H locs ls hP hS hl
  unfold tt_add at h
  split at h
  · exact lv_iadd hx hb d (k L _ M h H locs ls hP hS hl)
  · exact h.elim
theorem ss_sub (C : k_C ad X cc own nL fr lo) (d : decode cc pc = .ok (.isub, 1)) (k : Sd ad X (pc + 1) t) : Sd ad X pc (tt_sub t) := by
  obtain ⟨p, l, e, R, s, m, args, below, meth, c, Q, D, cI, cL, A0, H0, ck, cn⟩ := X
  obtain ⟨hx, hb, hml, hown, hts, hK, hD, hA, hR⟩ := C
  intro L st M h H locs ls hP hS hl
  unfold tt_sub at h
  split at h
  · exact lv_isub hx hb d (k L _ M h H locs ls hP hS hl)
  · exact h.elim
theorem ss_mul (C : k_C ad X cc own nL fr lo) (d : decode cc pc = .ok (.imul, 1)) (k : Sd ad X (pc + 1) t) : Sd ad X pc (tt_mul t) := by
  obtain ⟨p, l, e, R, s, m, args, below, meth, c, Q, D, cI, cL, A0, H0, ck, cn⟩ := X
  obtain ⟨hx, hb, hml, hown, hts, hK, hD, hA, hR⟩ := C
  intro L st M h H locs ls hP hS hl
  unfold tt_mul at h
  split at h
  · exact lv_imul hx hb d (k L _ M h H locs ls hP hS hl)
  · exact h.elim
theorem ss_and (C : k_C ad X cc own nL fr lo) (d : decode cc pc = .ok (.iand, 1)) (k : Sd ad X (pc + 1) t) : Sd ad X pc (tt_and t) := by
  obtain ⟨p, l, e, R, s, m, args, below, meth, c, Q, D, cI, cL, A0, H0, ck, cn⟩ := X
  obtain ⟨hx, hb, hml, hown, hts, hK, hD, hA, hR⟩ := C
  intro L st M h H locs ls hP hS hl
  unfold tt_and at h
  split at h
  · exact lv_iand hx hb d (k L _ M h H locs ls hP hS hl)
  · exact h.elim
theorem ss_ladd (C : k_C ad X cc own nL fr lo) (d : decode cc pc = .ok (.ladd, 1)) (k : Sd ad X (pc + 1) t) : Sd ad X pc (tt_ladd t) := by
  obtain ⟨p, l, e, R, s, m, args, below, meth, c, Q, D, cI, cL, A0, H0, ck, cn⟩ := X
  obtain ⟨hx, hb, hml, hown, hts, hK, hD, hA, hR⟩ := C
  intro L st M h H locs ls hP hS hl
  unfold tt_ladd at h
  split at h
  · exact lv_ladd hx hb d (k L _ M h H locs ls hP hS hl)
  · exact h.elim
theorem ss_lmul (C : k_C ad X cc own nL fr lo) (d : decode cc pc = .ok (.lmul, 1)) (k : Sd ad X (pc + 1) t) : Sd ad X pc (tt_lmul t) := by
  obtain ⟨p, l, e, R, s, m, args, below, meth, c, Q, D, cI, cL, A0, H0, ck, cn⟩ := X
  obtain ⟨hx, hb, hml, hown, hts, hK, hD, hA, hR⟩ := C
  intro L st M h H locs ls hP hS hl
  unfold tt_lmul at h
  split at h
  · exact lv_lmul hx hb d (k L _ M h H locs ls hP hS hl)
  · exact h.elim
theorem ss_i2l (C : k_C ad X cc own nL fr lo) (d : decode cc pc = .ok (.i2l, 1)) (k : Sd ad X (pc + 1) t) : Sd ad X pc (tt_i2l t) := by
  obtain ⟨p, l, e, R, s, m, args, below, meth, c, Q, D, cI, cL, A0, H0, ck, cn⟩ := X
  obtain ⟨hx, hb, hml, hown, hts, hK, hD, hA, hR⟩ := C
  intro L st M h H locs ls hP hS hl
  unfold tt_i2l at h
  split at h
  · exact lv_i2l hx hb d rfl (k L _ M h H locs ls hP hS hl)
  · exact h.elim
theorem ss_lcmp (C : k_C ad X cc own nL fr lo) (d : decode cc pc = .ok (.lcmp, 1)) (k : Sd ad X (pc + 1) t) : Sd ad X pc (tt_lcmp t) := by
  obtain ⟨p, l, e, R, s, m, args, below, meth, c, Q, D, cI, cL, A0, H0, ck, cn⟩ := X
  obtain ⟨hx, hb, hml, hown, hts, hK, hD, hA, hR⟩ := C
  intro L st M h H locs ls hP hS hl
  unfold tt_lcmp at h
  split at h
  · exact W.lcmp hx hb d (k L _ M h H locs ls hP hS hl)
  · exact h.elim
theorem ss_dupr (C : k_C ad X cc own nL fr lo) (d : decode cc pc = .ok (.dup, 1)) (k : Sd ad X (pc + 1) t) : Sd ad X pc (tt_dupr t) := by
  obtain ⟨p, l, e, R, s, m, args, below, meth, c, Q, D, cI, cL, A0, H0, ck, cn⟩ := X
  obtain ⟨hx, hb, hml, hown, hts, hK, hD, hA, hR⟩ := C
  intro L st M h H locs ls hP hS hl
  unfold tt_dupr at h
  split at h
  · exact lv_dup hx hb d rfl (k L _ M h H locs ls hP hS hl)
  · exact h.elim
theorem ss_dup2 (C : k_C ad X cc own nL fr lo) (d : decode cc pc = .ok (.dup2, 1)) (k : Sd ad X (pc + 1) t) : Sd ad X pc (tt_dup2 t) := by
  obtain ⟨p, l, e, R, s, m, args, below, meth, c, Q, D, cI, cL, A0, H0, ck, cn⟩ := X
  obtain ⟨hx, hb, hml, hown, hts, hK, hD, hA, hR⟩ := C
  intro L st M h H locs ls hP hS hl
  unfold tt_dup2 at h
  split at h
  · exact lv_dup2_11 hx hb d rfl rfl (k L _ M h H locs ls hP hS hl)
  · exact h.elim
theorem ss_eq0 {off : Int} {tgt : Nat} (C : k_C ad X cc own nL fr lo) (d : decode cc pc = .ok (.ifCond .eq off, 3)) (ht : (pc : Int) + off = (tgt : Int)) (k1 : Sd ad X tgt t1) (k2 : Sd ad X (pc + 3) t2) : Sd ad X pc (tt_eq0 t1 t2) := by
  obtain ⟨p, l, e, R, s, m, args, below, meth, c, Q, D, cI, cL, A0, H0, ck, cn⟩ := X
  obtain ⟨hx, hb, hml, hown, hts, hK, hD, hA, hR⟩ := C
  intro L st M h H locs ls hP hS hl
  unfold tt_eq0 at h
  split at h
  · exact lv_if_eq hx hb d ht (fun q => k1 L _ M (h.1 q) H locs ls hP hS hl) (fun q => k2 L _ M (h.2 q) H locs ls hP hS hl)
  · exact h.elim
theorem ss_lt0 {off : Int} {tgt : Nat} (C : k_C ad X cc own nL fr lo) (d : decode cc pc = .ok (.ifCond .lt off, 3)) (ht : (pc : Int) + off = (tgt : Int)) (k1 : Sd ad X tgt t1) (k2 : Sd ad X (pc + 3) t2) : Sd ad X pc (tt_lt0 t1 t2) := by
  obtain ⟨p, l, e, R, s, m, args, below, meth, c, Q, D, cI, cL, A0, H0, ck, cn⟩ := X
  obtain ⟨hx, hb, hml, hown, hts, hK, hD, hA, hR⟩ := C
  intro L st M h H locs ls hP hS hl
  unfold tt_lt0 at h
  split at h
  · exact lv_if_lt hx hb d ht (fun q => k1 L _ M (h.1 q) H locs ls hP hS hl) (fun q => k2 L _ M (h.2 q) H locs ls hP hS hl)
  · exact h.elim
theorem ss_le0 {off : Int} {tgt : Nat} (C : k_C ad X cc own nL fr lo) (d : decode cc pc = .ok (.ifCond .le off, 3)) (ht : (pc : Int) + off = (tgt : Int)) (k1 : Sd ad X tgt t1) (k2 : Sd ad X (pc + 3) t2) : Sd ad X pc (tt_le0 t1 t2) := by
  obtain ⟨p, l, e, R, s, m, args, below, meth, c, Q, D, cI, cL, A0, H0, ck, cn⟩ := X
  obtain ⟨hx, hb, hml, hown, hts, hK, hD, hA, hR⟩ := C
  intro L st M h H locs ls hP hS hl
  unfold tt_le0 at h
  split at h
  · exact lv_if_le hx hb d ht (fun q => k1 L _ M (h.1 q) H locs ls hP hS hl) (fun q => k2 L _ M (h.2 q) H locs ls hP hS hl)
  · exact h.elim
theorem ss_ge0 {off : Int} {tgt : Nat} (C : k_C ad X cc own nL fr lo) (d : decode cc pc = .ok (.ifCond .ge off, 3)) (ht : (pc : Int) + off = (tgt : Int)) (k1 : Sd ad X tgt t1) (k2 : Sd ad X (pc + 3) t2) : Sd ad X pc (tt_ge0 t1 t2) := by
  obtain ⟨p, l, e, R, s, m, args, below, meth, c, Q, D, cI, cL, A0, H0, ck, cn⟩ := X
  obtain ⟨hx, hb, hml, hown, hts, hK, hD, hA, hR⟩ := C
  intro L st M h H locs ls hP hS hl
  unfold tt_ge0 at h
  split at h
  · exact lv_if_ge hx hb d ht (fun q => k1 L _ M (h.1 q) H locs ls hP hS hl) (fun q => k2 L _ M (h.2 q) H locs ls hP hS hl)
  · exact h.elim
theorem ss_gt0 {off : Int} {tgt : Nat} (C : k_C ad X cc own nL fr lo) (d : decode cc pc = .ok (.ifCond .gt off, 3)) (ht : (pc : Int) + off = (tgt : Int)) (k1 : Sd ad X tgt t1) (k2 : Sd ad X (pc + 3) t2) : Sd ad X pc (tt_gt0 t1 t2) := by
  obtain ⟨p, l, e, R, s, m, args, below, meth, c, Q, D, cI, cL, A0, H0, ck, cn⟩ := X
  obtain ⟨hx, hb, hml, hown, hts, hK, hD, hA, hR⟩ := C
  intro L st M h H locs ls hP hS hl
  unfold tt_gt0 at h
  split at h
  · exact lv_if_gt hx hb d ht (fun q => k1 L _ M (h.1 q) H locs ls hP hS hl) (fun q => k2 L _ M (h.2 q) H locs ls hP hS hl)
  · exact h.elim
theorem ss_eq2 {off : Int} {tgt : Nat} (C : k_C ad X cc own nL fr lo) (d : decode cc pc = .ok (.if_icmp .eq off, 3)) (ht : (pc : Int) + off = (tgt : Int)) (k1 : Sd ad X tgt t1) (k2 : Sd ad X (pc + 3) t2) : Sd ad X pc (tt_eq2 t1 t2) := by
  obtain ⟨p, l, e, R, s, m, args, below, meth, c, Q, D, cI, cL, A0, H0, ck, cn⟩ := X
  obtain ⟨hx, hb, hml, hown, hts, hK, hD, hA, hR⟩ := C
  intro L st M h H locs ls hP hS hl
  unfold tt_eq2 at h
  split at h
  · exact lv_icmp_eq hx hb d ht (fun q => k1 L _ M (h.1 q) H locs ls hP hS hl) (fun q => k2 L _ M (h.2 q) H locs ls hP hS hl)
  · exact h.elim
theorem ss_lt2 {off : Int} {tgt : Nat} (C : k_C ad X cc own nL fr lo) (d : decode cc pc = .ok (.if_icmp .lt off, 3)) (ht : (pc : Int) + off = (tgt : Int)) (k1 : Sd ad X tgt t1) (k2 : Sd ad X (pc + 3) t2) : Sd ad X pc (tt_lt2 t1 t2) := by
  obtain ⟨p, l, e, R, s, m, args, below, meth, c, Q, D, cI, cL, A0, H0, ck, cn⟩ := X
  obtain ⟨hx, hb, hml, hown, hts, hK, hD, hA, hR⟩ := C
  intro L st M h H locs ls hP hS hl
  unfold tt_lt2 at h
  split at h
  · exact lv_icmp_lt hx hb d ht (fun q => k1 L _ M (h.1 q) H locs ls hP hS hl) (fun q => k2 L _ M (h.2 q) H locs ls hP hS hl)
  · exact h.elim
theorem ss_ge2 {off : Int} {tgt : Nat} (C : k_C ad X cc own nL fr lo) (d : decode cc pc = .ok (.if_icmp .ge off, 3)) (ht : (pc : Int) + off = (tgt : Int)) (k1 : Sd ad X tgt t1) (k2 : Sd ad X (pc + 3) t2) : Sd ad X pc (tt_ge2 t1 t2) := by
  obtain ⟨p, l, e, R, s, m, args, below, meth, c, Q, D, cI, cL, A0, H0, ck, cn⟩ := X
  obtain ⟨hx, hb, hml, hown, hts, hK, hD, hA, hR⟩ := C
  intro L st M h H locs ls hP hS hl
  unfold tt_ge2 at h
  split at h
  · exact lv_icmp_ge hx hb d ht (fun q => k1 L _ M (h.1 q) H locs ls hP hS hl) (fun q => k2 L _ M (h.2 q) H locs ls hP hS hl)
  · exact h.elim
theorem ss_gt2 {off : Int} {tgt : Nat} (C : k_C ad X cc own nL fr lo) (d : decode cc pc = .ok (.if_icmp .gt off, 3)) (ht : (pc : Int) + off = (tgt : Int)) (k1 : Sd ad X tgt t1) (k2 : Sd ad X (pc + 3) t2) : Sd ad X pc (tt_gt2 t1 t2) := by
  obtain ⟨p, l, e, R, s, m, args, below, meth, c, Q, D, cI, cL, A0, H0, ck, cn⟩ := X
  obtain ⟨hx, hb, hml, hown, hts, hK, hD, hA, hR⟩ := C
  intro L st M h H locs ls hP hS hl
  unfold tt_gt2 at h
  split at h
  · exact lv_icmp_gt hx hb d ht (fun q => k1 L _ M (h.1 q) H locs ls hP hS hl) (fun q => k2 L _ M (h.2 q) H locs ls hP hS hl)
  · exact h.elim
theorem ss_le2 {off : Int} {tgt : Nat} (C : k_C ad X cc own nL fr lo) (d : decode cc pc = .ok (.if_icmp .le off, 3)) (ht : (pc : Int) + off = (tgt : Int)) (k1 : Sd ad X tgt t1) (k2 : Sd ad X (pc + 3) t2) : Sd ad X pc (tt_le2 t1 t2) := by
  obtain ⟨p, l, e, R, s, m, args, below, meth, c, Q, D, cI, cL, A0, H0, ck, cn⟩ := X
  obtain ⟨hx, hb, hml, hown, hts, hK, hD, hA, hR⟩ := C
  intro L st M h H locs ls hP hS hl
  unfold tt_le2 at h
  split at h
  · exact lv_icmp_le hx hb d ht (fun q => k1 L _ M (h.1 q) H locs ls hP hS hl) (fun q => k2 L _ M (h.2 q) H locs ls hP hS hl)
  · exact h.elim
theorem ss_ne0 {off : Int} {tgt : Nat} (C : k_C ad X cc own nL fr lo) (d : decode cc pc = .ok (.ifCond .ne off, 3)) (ht : (pc : Int) + off = (tgt : Int)) (k1 : Sd ad X tgt t1) (k2 : Sd ad X (pc + 3) t2) : Sd ad X pc (tt_eq0 t2 t1) := by
  obtain ⟨p, l, e, R, s, m, args, below, meth, c, Q, D, cI, cL, A0, H0, ck, cn⟩ := X
  obtain ⟨hx, hb, hml, hown, hts, hK, hD, hA, hR⟩ := C
  intro L st M h H locs ls hP hS hl
  unfold tt_eq0 at h
  split at h
  · exact lv_if_ne hx hb d ht (fun q => k1 L _ M (h.2 q) H locs ls hP hS hl) (fun q => k2 L _ M (h.1 q) H locs ls hP hS hl)
  · exact h.elim
theorem ss_ne2 {off : Int} {tgt : Nat} (C : k_C ad X cc own nL fr lo) (d : decode cc pc = .ok (.if_icmp .ne off, 3)) (ht : (pc : Int) + off = (tgt : Int)) (k1 : Sd ad X tgt t1) (k2 : Sd ad X (pc + 3) t2) : Sd ad X pc (tt_eq2 t2 t1) := by
  obtain ⟨p, l, e, R, s, m, args, below, meth, c, Q, D, cI, cL, A0, H0, ck, cn⟩ := X
  obtain ⟨hx, hb, hml, hown, hts, hK, hD, hA, hR⟩ := C
  intro L st M h H locs ls hP hS hl
  unfold tt_eq2 at h
  split at h
  · exact lv_icmp_ne hx hb d ht (fun q => k1 L _ M (h.2 q) H locs ls hP hS hl) (fun q => k2 L _ M (h.1 q) H locs ls hP hS hl)
  · exact h.elim
theorem ss_lp {B : Tr → Tr} (h : ∀ k : Tr, Sd ad X pc k → Sd ad X pc (B k)) : Sd ad X pc (tt_lp B) := by
  have key : ∀ n, Sd ad X pc (tt_it B n) := by
    intro n
    induction n with
    | zero => exact fun L st M q => q.elim
    | succ n ih => exact h _ ih
  intro L st M ⟨n, q⟩
  exact key n L st M q
end KS
