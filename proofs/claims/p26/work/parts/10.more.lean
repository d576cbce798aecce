/-! more instructions: Math.min, Math.max, System.arraycopy, lengths, remainders, switches; throws -/
def tt_rem (t : Tr) : Tr := fun L st M => match st with
  | .int y :: .int x :: st => ¬ y = 0 ∧ t L (.int (x - x / y * y) :: st) M
  | _ => False
def tt_xor (t : Tr) : Tr := fun L st M => match st with
  | .int y :: .int x :: st => t L (.int (x ^^^ y) :: st) M
  | _ => False
def tt_len (ad : Nat → Nat) (o n : Nat) (t : Tr) : Tr := fun L st M => match st with
  | .ref a :: st => a = ad o ∧ t L (.int (Int32.ofNat n) :: st) M
  | _ => False
def k_cp (M : Mm) (r0 r1 sp dp n : Nat) : Mm := (fun b => if b = r1 then va_cpy (M.1 r0) (M.1 r1) sp dp n else M.1 b, M.2)
def tt_cp (ad : Nat → Nat) (o0 n0 r0 o1 n1 r1 : Nat) (t : Tr) : Tr := fun L st M => match st with
  | .int n :: .int dp :: .ref a1 :: .int sp :: .ref a0 :: st => a0 = ad o0 ∧ a1 = ad o1 ∧ ¬ sp < 0 ∧ ¬ dp < 0 ∧ ¬ n < 0 ∧ sp.toNatClampNeg + n.toNatClampNeg ≤ n0 ∧ dp.toNatClampNeg + n.toNatClampNeg ≤ n1 ∧ st.length ≤ 4 ∧ t L st (k_cp M r0 r1 sp.toNatClampNeg dp.toNatClampNeg n.toNatClampNeg)
  | _ => False
/-- a table switch: the way at x, and the default's -/
def tt_sw (lo : Int) (ts : List Tr) (dt : Tr) : Tr := fun L st M => match st with
  | .int x :: st => if x.toInt < lo ∨ lo + ts.length ≤ x.toInt then dt L st M else match ts[(x.toInt - lo).toNat]? with
    | some t => t L st M
    | none => False
  | _ => False
section KO
variable {ad : Nat → Nat} {X : Cx} {cc : ByteArray} {own : String} {nL fr lo pc : Nat} {t t1 t2 : Tr} {res : Rs}
theorem ss_rem (C : k_C ad X cc own nL fr lo) (d : decode cc pc = .ok (.irem, 1)) (k : Sd ad X (pc + 1) t) : Sd ad X pc (tt_rem t) := by
  obtain ⟨p, l, e, R, s, m, args, below, meth, c, Q, D, cI, cL, A0, H0, ck, cn⟩ := X
  obtain ⟨hx, hb, hml, hown, hts, hK, hD, hA, hR⟩ := C
  intro L st M h H locs ls hP hS hl
  unfold tt_rem at h
  split at h
  · exact lv_irem hx hb d h.1 (k L _ M h.2 H locs ls hP hS hl)
  · exact h.elim
theorem ss_xor (C : k_C ad X cc own nL fr lo) (d : decode cc pc = .ok (.ixor, 1)) (k : Sd ad X (pc + 1) t) : Sd ad X pc (tt_xor t) := by
  obtain ⟨p, l, e, R, s, m, args, below, meth, c, Q, D, cI, cL, A0, H0, ck, cn⟩ := X
  obtain ⟨hx, hb, hml, hown, hts, hK, hD, hA, hR⟩ := C
  intro L st M h H locs ls hP hS hl
  unfold tt_xor at h
  split at h
  · exact lv_ixor hx hb d (k L _ M h H locs ls hP hS hl)
  · exact h.elim
theorem ss_len5 (C : k_C ad X cc own nL fr lo) (d : decode cc pc = .ok (.arraylength, 1)) (k : Sd ad X (pc + 1) t) : Sd ad X pc (tt_len ad 5 1836 t) := by
  obtain ⟨p, l, e, R, s, m, args, below, meth, c, Q, D, cI, cL, A0, H0, ck, cn⟩ := X
  obtain ⟨hx, hb, hml, hown, hts, hK, hD, hA, hR⟩ := C
  intro L st M h H locs ls hP hS hl
  unfold tt_len at h
  split at h
  · obtain ⟨rfl, h⟩ := h
    exact va_alen hx hb hK hP 5 0 rfl rfl rfl d (k L _ M h H locs ls hP hS hl)
  · exact h.elim
theorem ss_max {index : Nat} (C : k_C ad X cc own nL fr lo) (d : decode cc pc = .ok (.invokestatic index, 3)) (w1 : Cond.methodLink own index Lib.Math.max.name ∈ k_G) (w2 : Cond.static Lib.Math.max.name ∈ k_G) (w3 : Cond.initialized "java/lang/Math" ∈ k_G) (w4 : Cond.code Lib.Math.max.name Lib.Math.max.code 2 (some .int) ∈ k_G) (hfl : (Nat.ble 1 fr && Nat.ble 21 lo) = true) (k : Sd ad X (pc + 3) t) : Sd ad X pc (tt_max t) := by
  obtain ⟨p, l, e, R, s, m, args, below, meth, c, Q, D, cI, cL, A0, H0, ck, cn⟩ := X
  obtain ⟨hx, hb, hml, hown, hts, hK, hD, hA, hR⟩ := C
  rw [Bool.and_eq_true] at hfl
  intro L st M h H locs ls hP hS hl
  unfold tt_max at h
  split at h
  · have := k_len _ h.1
    have := Nat.le_of_ble_eq_true hfl.1
    have := Nat.le_of_ble_eq_true hfl.2
    exact va_mmax hx hb hl.1.symm hown (hts _ w1) (hts _ w2) (hts _ w3) (hts _ w4) (by omega) (by omega) hR.2.2.1 hR.2.2.2 d (k L _ M h.2 H locs ls hP hS hl)
  · exact h.elim
theorem ss_min {index : Nat} (C : k_C ad X cc own nL fr lo) (d : decode cc pc = .ok (.invokestatic index, 3)) (w1 : Cond.methodLink own index Lib.Math.min.name ∈ k_G) (w2 : Cond.static Lib.Math.min.name ∈ k_G) (w3 : Cond.initialized "java/lang/Math" ∈ k_G) (w4 : Cond.code Lib.Math.min.name Lib.Math.min.code 2 (some .int) ∈ k_G) (hfl : (Nat.ble 1 fr && Nat.ble 21 lo) = true) (k : Sd ad X (pc + 3) t) : Sd ad X pc (tt_min t) := by
  obtain ⟨p, l, e, R, s, m, args, below, meth, c, Q, D, cI, cL, A0, H0, ck, cn⟩ := X
  obtain ⟨hx, hb, hml, hown, hts, hK, hD, hA, hR⟩ := C
  rw [Bool.and_eq_true] at hfl
  intro L st M h H locs ls hP hS hl
  unfold tt_min at h
  split at h
  · have := k_len _ h.1
    have := Nat.le_of_ble_eq_true hfl.1
    have := Nat.le_of_ble_eq_true hfl.2
    exact va_mmin hx hb hl.1.symm hown (hts _ w1) (hts _ w2) (hts _ w3) (hts _ w4) (by omega) (by omega) hR.2.2.1 hR.2.2.2 d (k L _ M h.2 H locs ls hP hS hl)
  · exact h.elim
theorem ss_cp {index o0 n0 r0 o1 n1 r1 : Nat} (h0 : ∀ cI cL M, (k_W ad cI cL M)[o0]? = some (ad o0, .inl (cI, n0, .inl (M.1 r0)))) (h1 : ∀ cI cL M, (k_W ad cI cL M)[o1]? = some (ad o1, .inl (cI, n1, .inl (M.1 r1))))
    (hU : ∀ cI cL M sp dp n, (k_W ad cI cL M).set o1 (ad o1, .inl (cI, n1, .inl (va_cpy (M.1 r0) (M.1 r1) sp dp n))) = k_W ad cI cL (k_cp M r0 r1 sp dp n))
    (C : k_C ad X cc own nL fr lo) (d : decode cc pc = .ok (.invokestatic index, 3)) (w1 : Cond.methodLink own index arraycopyName ∈ k_G) (w2 : Cond.native arraycopyName ∈ k_G) (w3 : Cond.static arraycopyName ∈ k_G) (w4 : Cond.initialized "java/lang/System" ∈ k_G) (hfl : (Nat.ble 1 fr && Nat.ble (8 + (nativeFrameWords "java/lang/System" "arraycopy" 5 + 11)) lo) = true) (k : Sd ad X (pc + 3) t) : Sd ad X pc (tt_cp ad o0 n0 r0 o1 n1 r1 t) := by
  obtain ⟨p, l, e, R, s, m, args, below, meth, c, Q, D, cI, cL, A0, H0, ck, cn⟩ := X
  obtain ⟨hx, hb, hml, hown, hts, hK, hD, hA, hR⟩ := C
  rw [Bool.and_eq_true] at hfl
  intro L st M h H locs ls hP hS hl
  unfold tt_cp at h
  split at h
  · obtain ⟨rfl, rfl, g1, g2, g3, g4, g5, g6, h⟩ := h
    have q1 := k_len _ g6
    have q2 := Nat.le_of_ble_eq_true hfl.1
    have q3 := Nat.le_of_ble_eq_true hfl.2
    have q4 := hR.1
    have q5 := hR.2.1
    exact va_copyi hx hb hl.1.symm hown (hts _ w1) (hts _ w2) (hts _ w3) (hts _ w4) hK hP (hD M) hS o0 o1 0 0 (h0 cI cL M) (h1 cI cL M) rfl rfl rfl g1 g2 g3 g4 g5 (fun _ _ => rfl) (Nat.le_trans q2 q4) (by omega) d (fun H1 locs1 hP1 _ hS1 => k L _ _ h H1 locs1 ls (by rw [← hU]; exact hP1) hS1 hl)
  · exact h.elim
theorem ss_cpTo {index : Nat} (C : k_C ad X cc own nL fr lo) (d : decode cc pc = .ok (.invokestatic index, 3)) (w1 : Cond.methodLink own index arraycopyName ∈ k_G) (w2 : Cond.native arraycopyName ∈ k_G) (w3 : Cond.static arraycopyName ∈ k_G) (w4 : Cond.initialized "java/lang/System" ∈ k_G) (hfl : (Nat.ble 1 fr && Nat.ble (8 + (nativeFrameWords "java/lang/System" "arraycopy" 5 + 11)) lo) = true) (k : Sd ad X (pc + 3) t) : Sd ad X pc (tt_cp ad 4 459 0 5 1836 1 t) := ss_cp (fun _ _ _ => rfl) (fun _ _ _ => rfl) (fun _ _ _ _ _ _ => rfl) C d w1 w2 w3 w4 hfl k
theorem ss_cpFrom {index : Nat} (C : k_C ad X cc own nL fr lo) (d : decode cc pc = .ok (.invokestatic index, 3)) (w1 : Cond.methodLink own index arraycopyName ∈ k_G) (w2 : Cond.native arraycopyName ∈ k_G) (w3 : Cond.static arraycopyName ∈ k_G) (w4 : Cond.initialized "java/lang/System" ∈ k_G) (hfl : (Nat.ble 1 fr && Nat.ble (8 + (nativeFrameWords "java/lang/System" "arraycopy" 5 + 11)) lo) = true) (k : Sd ad X (pc + 3) t) : Sd ad X pc (tt_cp ad 5 1836 1 4 459 0 t) := ss_cp (fun _ _ _ => rfl) (fun _ _ _ => rfl) (fun _ _ _ _ _ _ => rfl) C d w1 w2 w3 w4 hfl k
/-- the ways of a table switch, one by one -/
def k_sws (ad : Nat → Nat) (X : Cx) (pc : Nat) : List Int → List Tr → Prop
  | [], [] => True
  | o :: os, t :: ts => (∃ tgt : Nat, (pc : Int) + o = (tgt : Int) ∧ Sd ad X tgt t) ∧ k_sws ad X pc os ts
  | _, _ => False
theorem k_sws_at : ∀ (os : List Int) (ts : List Tr), k_sws ad X pc os ts → os.length = ts.length ∧ ∀ (k : Nat) (t : Tr), ts[k]? = some t → ∃ (o : Int) (tgt : Nat), os[k]? = some o ∧ (pc : Int) + o = (tgt : Int) ∧ Sd ad X tgt t
  | [], [], _ => ⟨rfl, fun k t h => by simp at h⟩
  | o :: os, t :: ts, h => by
    obtain ⟨⟨tgt, h1, h2⟩, h3⟩ := h
    obtain ⟨g1, g2⟩ := k_sws_at os ts h3
    refine ⟨by simp [g1], fun k t' hk => ?_⟩
    cases k with
    | zero =>
      simp at hk
      subst hk
      exact ⟨o, tgt, rfl, h1, h2⟩
    | succ k =>
      obtain ⟨o', tgt', a, b⟩ := g2 k t' (by simpa using hk)
      exact ⟨o', tgt', by simpa using a, b⟩
  | [], t :: ts, h => h.elim
  | o :: os, [], h => h.elim
theorem k_sws_n : k_sws ad X pc [] [] := trivial
theorem k_sws_c {o : Int} {os : List Int} {ts : List Tr} {tgt : Nat} (h : (pc : Int) + o = (tgt : Int)) (k : Sd ad X tgt t) (r : k_sws ad X pc os ts) : k_sws ad X pc (o :: os) (t :: ts) := ⟨⟨tgt, h, k⟩, r⟩
theorem ss_sw {dflt lo0 hi : Int} {offs : Array Int} {len tgt : Nat} {ts : List Tr} (C : k_C ad X cc own nL fr lo) (d : decode cc pc = .ok (.tableswitch dflt lo0 hi offs, len)) (hh : hi + 1 = lo0 + (ts.length : Int)) (ht : (pc : Int) + dflt = (tgt : Int)) (kd : Sd ad X tgt t) (ks : k_sws ad X pc offs.toList ts) : Sd ad X pc (tt_sw lo0 ts t) := by
  have hat := k_sws_at _ _ ks
  obtain ⟨p, l, e, R, s, m, args, below, meth, c, Q, D, cI, cL, A0, H0, ck, cn⟩ := X
  obtain ⟨hx, hb, hml, hown, hts, hK, hD, hA, hR⟩ := C
  intro L st M h H locs ls hP hS hl
  unfold tt_sw at h
  split at h
  · next x st =>
    split at h
    · next hc => exact lv_tableOut hx hb d (by omega) ht (kd L _ M h H locs ls hP hS hl)
    · next hc =>
      split at h
      · next t' ht' =>
        obtain ⟨o, tg, a1, a2, a3⟩ := hat.2 _ _ ht'
        exact lv_tableIn hx hb d (by omega) (by omega) (by rw [← Array.getElem?_toList]; exact a1) a2 (a3 L _ M h H locs ls hP hS hl)
      · exact h.elim
  · exact h.elim
end KO
