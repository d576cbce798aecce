/-! THE LAW: its catching methods, and what its own walk needs -/
def k_bump (X : Cx) : Cx := match X with
  | (p, l, e, R, s, m, args, below, meth, c, Q, D, cI, cL, A0, H0, ck, cn) => (p, l, e, R, s, m, args, below, meth, c, Q, D, cI, cL, A0, H0, ck + 1, cn + 6)
def k_ncs : List (String × String) := [(k_IAE, k_IOE), (k_ISE, k_IOE), (k_ISE, k_IAE)]
def k_Z2 (A : Nat → Prop) (U : State) (H : Heap) : Prop := k_Z A U H ∧ ∀ q ∈ k_ncs, va_Nc q.1 q.2 U
theorem k_Z2.next {A0 B : Nat → Prop} {s U : State} {H0 H : Heap} {locs : List Loc} (h : k_Z2 A0 s H0) (hS : va_S A0 H0 H locs) (hB : ∀ q, B q → A0 q) (hW : s.WarmedH U.vm) : k_Z2 B U H := ⟨h.1.next hS hB hW, fun q hq => (h.2 q hq).moved hW.alike⟩
theorem k_Z2.same {A : Nat → Prop} {u U : State} {H : Heap} (hv : U.vm = u.vm) (h : k_Z2 A u H) : k_Z2 A U H := ⟨h.1.same hv, fun q hq => (h.2 q hq).moved (by rw [hv]; exact Vm.Alike.refl _)⟩
/-- more cells and slots are no harm -/
theorem Sd_bump {ad : Nat → Nat} {X : Cx} {pc : Nat} {t : Tr} (h : Sd ad (k_bump X) pc t) : Sd ad X pc t := by
  obtain ⟨p, l, e, R, s, m, args, below, meth, c, Q, D, cI, cL, A0, H0, ck, cn⟩ := X
  intro L st M ht H locs ls hP hS hl
  exact W.widen (k := ck + 1) (n := cn + 6) (by omega) (by omega) (h L st M ht H locs ls hP hS hl)
def k_TW (X : Cx) (hh : List (Nat × Nat × Nat × Nat)) : Prop := match X with
  | (p, l, e, R, s, m, args, below, meth, c, Q, D, cI, cL, A0, H0, ck, cn) => k_Z2 A0 s s.heap ∧ H0 = s.heap ∧ c.exceptionTable.toList = tableOf hh ∧ ck + 1 ≤ R.cells ∧ cn + 6 ≤ R.slots
theorem k_Cb {ad : Nat → Nat} {X : Cx} {cc : ByteArray} {own : String} {nL fr lo : Nat} {hh : List (Nat × Nat × Nat × Nat)} (C0 : k_C ad X cc own nL fr lo) (T0 : k_TW X hh) : k_C ad (k_bump X) cc own nL fr lo := by
  obtain ⟨p, l, e, R, s, m, args, below, meth, c, Q, D, cI, cL, A0, H0, ck, cn⟩ := X
  obtain ⟨hx, hb, hml, hown, hts, hK, hD, hA, hR⟩ := C0
  obtain ⟨-, -, -, h1, h2⟩ := T0
  exact ⟨hx, hb, hml, hown, hts, hK, hD, hA, hR.1, hR.2.1, h1, h2⟩
def tt_th : List (String × Tr) → String → Tr
  | [], _ => fun _ _ _ => False
  | (e, t) :: r, E => if E = e then t else tt_th r E
def tt_xc (ad : Nat → Nat) (o n : Nat) (F : Sp) (t : Tr) (th : String → Tr) : Tr := fun L st M => match st.drop n with
  | .ref a :: rest => a = ad o ∧ rest.length ≤ 4 ∧ (match F (st.take n).reverse M with
    | some (.inl r) => t L (r.1.toList ++ rest) r.2
    | some (.inr e) => ∀ q : Nat, th e.1 L [.ref q] e.2
    | none => False)
  | _ => False
/-- where a throw of the class E goes -/
def k_cat (ad : Nat → Nat) (X : Cx) (own : String) (hh : List (Nat × Nat × Nat × Nat)) (pc : Nat) (th : String → Tr) (E : String) : Prop :=
  ∃ (pre : List ExceptionTableEntry) (x : ExceptionTableEntry) (suf : List ExceptionTableEntry), tableOf hh = pre ++ x :: suf ∧ (∀ z ∈ pre, covers z pc = false ∨ (z.catchType ≠ 0 ∧ ∃ nm : String, Cond.classLink own z.catchType nm ∈ k_G ∧ (E, nm) ∈ k_ncs)) ∧ covers x pc = true ∧ x.catchType ≠ 0 ∧ Cond.classLink own x.catchType E ∈ k_G ∧ E ∈ [k_ISE, k_IAE, k_IOE] ∧ Sd ad (k_bump X) x.handlerPc (th E)
section KX
variable {ad : Nat → Nat} {X : Cx} {cc : ByteArray} {own : String} {nL fr lo pc : Nat} {t : Tr} {th : String → Tr} {hh : List (Nat × Nat × Nat × Nat)}
theorem ss_xc {o n index mL fr2 lo2 : Nat} {C : String} {y : MethodName} {cb : ByteArray} {ret : Option FieldType} {F : Sp} (ho : k_rc o C) (C0 : k_C ad X cc own nL fr lo) (T0 : k_TW X hh) (d : decode cc pc = .ok (.invokevirtual index, 3)) (hw : k_wv own index y cb mL ret n) (hyC : y.cls = C) (hc : k_cv ad X y cb mL ret fr2 lo2 (fun As => .ref (ad o) :: As) F) (hcx : k_ct ad X y cb mL ret fr2 lo2 (fun As => .ref (ad o) :: As) F) (hfl : ((fr2 + 1).ble fr && (8 + (mL + 11) + lo2).ble lo) = true) (hcat : ∀ As M e, F As M = some (.inr e) → k_cat ad X own hh pc th e.1) (k : Sd ad (k_bump X) (pc + 3) t) : Sd ad X pc (tt_xc ad o n F t th) := by
  intro L st M h
  unfold tt_xc at h
  split at h
  · next a rest hst =>
    obtain ⟨ha, hlen, h⟩ := h
    split at h
    · next r hF =>
      refine ss_cv (F := F) ho C0 d hw hyC hc hfl (Sd_bump k) L st M ?_
      unfold tt_cv
      rw [hst]
      exact ⟨ha, hlen, by rw [hF]; exact h⟩
    · next r hF =>
      subst ha
      obtain ⟨pre, x, suf, x1, x2, x3, x4, x5, x6, x7⟩ := hcat _ M r hF
      obtain ⟨p, l, e, R, s, m, args, below, meth, c, Q, D, cI, cL, A0, H0, ck, cn⟩ := X
      obtain ⟨hx, hb, hml, hown, hts, hK, hD, hA, hR⟩ := C0
      intro H locs ls hP hS hl
      subst hyC
      rw [Bool.and_eq_true] at hfl
      obtain ⟨w1, w2, w3, w4, w5, w6, w7, w8⟩ := hw
      obtain ⟨hZ, rfl, htab, hc1, hc2⟩ := T0
      have hM := hcx _ M r hF H.size
      have hl4 := k_len rest hlen
      have hst2 : st = (st.take n).reverse.reverse ++ .ref (ad o) :: rest := by
        rw [List.reverse_reverse, ← hst, List.take_append_drop]
      have hn : (st.take n).reverse.length = n := by
        rw [List.length_reverse, List.length_take]
        have : (st.drop n).length = (Value.ref (ad o) :: rest).length := by rw [hst]
        rw [List.length_drop, List.length_cons] at this
        omega
      obtain ⟨ci, q, hc1', hc2', hc3'⟩ := ho
      obtain ⟨fs, hfs⟩ := hc3' ad cI cL M
      have hG : GoodIn k_G (wsV own index y.cls y (Cond.code y cb mL ret :: k_G)) := by
        intro w hw
        unfold wsV at hw
        rcases List.mem_append.mp hw with hw | hw
        · simp only [List.mem_cons, List.not_mem_nil, or_false] at hw
          rcases hw with rfl | rfl | rfl | rfl
          · exact k_good _ w1
          · exact k_good _ w2
          · exact k_good _ w3
          · exact k_good _ w4
        · exact k_cons w5 w hw
      have hfr : fr2 + 1 ≤ R.frames ∧ 8 + (mL + 11) + lo2 ≤ R.locals := ⟨Nat.le_trans (Nat.le_of_ble_eq_true hfl.1) hR.1, Nat.le_trans (Nat.le_of_ble_eq_true hfl.2) hR.2.1⟩
      have hAA := k_AA (M := M) (D := D) hD hA hS
      refine k_callx (vx_runV (As := (st.take n).reverse) (rest := rest) ⟨hx, hb, hml, hown, hts⟩ hM (cwV n hts hG rfl rfl rfl ⟨rfl, w6, w7, w8⟩ hfr) ⟨k_preZ, ?_, fun U hU hW => ⟨rfl, by rw [hU], ⟨by rw [hU]; exact hP, va_K.moved hW.alike hK⟩, by rw [hU]; exact hZ.1.next hS hAA hW⟩⟩ rfl hn (by rw [← hml]; exact hl.1) hst2 (lv_room hl4) d ⟨hc1, hc2⟩) hS (fun q _ z => hAA q z) hAA ?_
      · have := va_recv hK hP hc1' hfs
        rw [hc2'] at this
        exact this
      · intro H1 locs1 ce q9 hP1 hS1 hce hcv hcl
        refine vx_catch hown pre x suf (htab.trans x1) (fun z hz => ?_) x3 x4 (hts _ x5) (va_Nw.use rfl (hZ.1.2.2.2.1 r.1 x6)) hce hcv hcl (x7 L _ r.2 (h q9) H1 locs1 ls hP1 hS1 hl)
        rcases x2 z hz with q1 | ⟨q1, nm, q2, q3⟩
        · exact Or.inl q1
        · exact Or.inr ⟨q1, nm, hts _ q2, hZ.2 _ q3⟩
    · exact h.elim
  · exact h.elim
/-- the law's own row of one long -/
def tt_l9 (ad : Nat → Nat) (t : Tr) : Tr := fun L st M => match st with
  | .long x :: .int i :: .ref a :: st => a = ad 9 ∧ vp_in i 1 ∧ t L st (k_uL M (i.toNatClampNeg + 1) x)
  | _ => False
def tt_la (ad : Nat → Nat) (t : Tr) : Tr := fun L st M => match st with
  | .int i :: .ref a :: st => a = ad 9 ∧ vp_in i 1 ∧ t L (.long (M.2 (i.toNatClampNeg + 1)) :: st) M
  | _ => False
theorem k_l9 (M : Mm) (j : Nat) (x : Int64) : vp_updL (fun i => M.2 (i + 1)) j x = fun i => (k_uL M (j + 1) x).2 (i + 1) := by
  funext i
  by_cases h : i = j
  · simp [vp_updL, k_uL, h]
  · simp [vp_updL, k_uL, h]
theorem k_W9 (ad : Nat → Nat) (cI cL : ClassId) (M : Mm) (j : Nat) (x : Int64) : (k_W ad cI cL M).set 9 (ad 9, .inl (cL, 1, .inr (.inl (vp_updL (fun i => M.2 (i + 1)) j x)))) = k_W ad cI cL (k_uL M (j + 1) x) := by
  rw [k_l9]
  have h0 : (k_uL M (j + 1) x).2 0 = M.2 0 := by simp [k_uL, vp_updL]
  unfold k_W
  rw [h0]
  rfl
theorem ss_l9 (C0 : k_C ad X cc own nL fr lo) (d : decode cc pc = .ok (.lastore, 1)) (k0 : Sd ad X (pc + 1) t) : Sd ad X pc (tt_l9 ad t) := by
  obtain ⟨p, l, e, R, s, m, args, below, meth, c, Q, D, cI, cL, A0, H0, ck, cn⟩ := X
  obtain ⟨hx, hb, hml, hown, hts, hK, hD, hA, hR⟩ := C0
  intro L st M h H locs ls hP hS hl
  unfold tt_l9 at h
  split at h
  · obtain ⟨rfl, hi, h⟩ := h
    exact va_last hx hb hK hP (hD M) hS 9 1 rfl rfl hi d (fun H1 locs1 hP1 _ hS1 => k0 L _ _ h H1 locs1 ls (by rw [← k_W9]; exact hP1) hS1 hl)
  · exact h.elim
theorem ss_la (C0 : k_C ad X cc own nL fr lo) (d : decode cc pc = .ok (.laload, 1)) (k0 : Sd ad X (pc + 1) t) : Sd ad X pc (tt_la ad t) := by
  obtain ⟨p, l, e, R, s, m, args, below, meth, c, Q, D, cI, cL, A0, H0, ck, cn⟩ := X
  obtain ⟨hx, hb, hml, hown, hts, hK, hD, hA, hR⟩ := C0
  intro L st M h H locs ls hP hS hl
  unfold tt_la at h
  split at h
  · obtain ⟨rfl, hi, h⟩ := h
    exact va_lald hx hb hK hP 9 1 rfl rfl hi d (k0 L _ M h H locs ls hP hS hl)
  · exact h.elim
end KX
/-- a catching method's contract -/
def k_Wr (l : Launch) (ad : Nat → Nat) (D : va_G) (cI cL : ClassId) (y : MethodName) (cc : ByteArray) (nL : Nat) (hh : List (Nat × Nat × Nat × Nat)) (fr lo : Nat) (F : Sp) : Prop :=
  ∀ (As : List Value) (M : Mm) (r : Option Value × Mm), F As M = some (.inl r) → ∀ sz : Nat, vx_Met l y (Cond.codeWith y cc nL (some .int) hh :: k_G) ({ frames := fr, cells := 1, slots := 6, locals := lo }) (va_Pc As (fun U => U.heap.size = sz ∧ k_B ad D cI cL M U ∧ k_Z2 (k_A ad sz) U U.heap)) (fun _ st oc t => oc = .returned r.1 ∧ k_B ad D cI cL r.2 t ∧ va_F (k_A ad sz) st t) (fun _ _ _ => False) 1 6 (k_A ad sz)
theorem k_wr {l : Launch} {ad : Nat → Nat} {D : va_G} {cI cL : ClassId} {y : MethodName} {cc : ByteArray} {nL fr lo : Nat} {hh : List (Nat × Nat × Nat × Nat)} {F : Sp} {tree : Rs → Tr} (hI : k_I ad) (hy : plainName y.cls = true)
    (hs : ∀ (X : Cx) (res : Rs), X.2.1 = l → (X.2.2.2.2.2.2.2.2.2.2.2.1 = D ∧ X.2.2.2.2.2.2.2.2.2.2.2.2.1 = cI ∧ X.2.2.2.2.2.2.2.2.2.2.2.2.2.1 = cL) → k_C ad X cc y.cls nL fr lo → k_E ad (k_bump X) (some .int) res → k_TW X hh → Sd ad X 0 (tree res))
    (hp : ∀ As M r, F As M = some (.inl r) → ((lg_sl As).length ≤ nL ∧ ∃ L : Ls, (∀ q ∈ k_asc 0 L, q ∈ lv_args 0 As) ∧ tree (.inl r) L [] M)) :
    k_Wr l ad D cI cL y cc nL hh fr lo F := by
  intro As M r hF sz
  obtain ⟨hlen, L, hL, ht⟩ := hp As M r hF
  refine vx_ofWH (cc := cc) (maxL := nL) (ret := some .int) (hh := hh) hy rfl ?_
  intro p e s m args below meth c s₁ B hml hv
  obtain ⟨rfl, hsz, ⟨hP, hK⟩, hZ⟩ := hv
  have hts := atoms_spec (ws := Cond.codeWith y cc nL (some .int) hh :: k_G) B.pre
  have htab := vx_table (x := y) B (hts _ List.mem_cons_self)
  subst hsz
  have hl := lv_entry As (n := nL) hlen
  rw [lg_entry_eq]
  generalize (lg_sl As ++ List.replicate (nL - (lg_sl As).length) Slot.unset).toArray = ls at hl ⊢
  have hl2 : lv_has ls c.maxLocals (k_asc 0 L) := by rw [hml]; exact ⟨hl.1, hl.2.1, fun q hq => hl.2.2 q (hL q hq)⟩
  exact hs (p, l, e, _, s, m, _, below, meth, c, _, D, cI, cL, k_A ad s.heap.size, s.heap, 0, 0) (.inl r) rfl ⟨rfl, rfl, rfl⟩
    ⟨B.exec, B.bytes, hml, findClass_of_methodNamed B.named, fun w hw => hts w (List.mem_cons_of_mem _ hw), hK, k_WD hI _ cI cL, fun q hq => Or.inr hq, Nat.le_refl _, Nat.le_refl _, Nat.zero_le _, Nat.zero_le _⟩
    ⟨B.returns, B.notSynchronized, fun o M1 H locs he hP1 hS1 t hQ => by
      cases he
      obtain ⟨oc, b1, b2, ⟨h1, h2, h3⟩, b4⟩ := hQ
      exact ⟨oc, b1, b2, Or.inl ⟨⟨h1, ⟨by rw [h2]; exact hP1, va_K.moved h3.alike hK⟩, hS1.F h2⟩, b4⟩⟩⟩
    ⟨hZ, rfl, htab, Nat.le_refl _, Nat.le_refl _⟩ L [] M ht s.heap [] ls hP va_S.rf hl2
