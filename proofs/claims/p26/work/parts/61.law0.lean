/-! THE LAW: its catching methods, and what its own walk needs -/
def k_bump (X : Cx) : Cx := match X with
  | (p, l, e, R, s, m, args, below, meth, c, Q, D, cI, cL, A0, H0, ck, cn) => (p, l, e, R, s, m, args, below, meth, c, Q, D, cI, cL, A0, H0, ck + 1, cn + 6)
def k_ncs : List (String × String) := [(k_IAE, k_IOE), (k_ISE, k_IOE), (k_ISE, k_IAE)]
def k_Z2 (A : Nat → Prop) (U : State) (H : Heap) : Prop := k_Z A U H ∧ ∀ q ∈ k_ncs, va_Nc q.1 q.2 U
theorem k_Z2.next {A0 B : Nat → Prop} {s U : State} {H0 H : Heap} {locs : List Loc} (h : k_Z2 A0 s H0) (hS : va_S A0 H0 H locs) (hB : ∀ q, B q → A0 q) (hW : s.WarmedH U.vm) : k_Z2 B U H := ⟨h.1.next hS hB hW, fun q hq => (h.2 q hq).moved hW.alike⟩
theorem k_Z2.same {A : Nat → Prop} {u U : State} {H : Heap} (hv : U.vm = u.vm) (h : k_Z2 A u H) : k_Z2 A U H := ⟨h.1.same hv, fun q hq => (h.2 q hq).moved (by rw [hv]; exact Vm.Alike.refl _)⟩
/-- more cells and slots are no harm -/
theorem Sd_bump {ad : Nat → Nat} {X : Cx} {pc : Nat} {t : Tr} (h : Sd ad (k_bump X) pc t) : Sd ad X pc t := by
  obtain ⟨p, l, e, R, s, m, args, below, meth, c, Q, D, cI, cL, A0, H0, ck, cn⟩ := X
  intro L st M ht H locs ls hP hS hl
  exact W.widen (k := ck + 1) (n := cn + 6) (by omega) (by omega) (h L st M ht H locs ls hP hS hl)
def k_TW (X : Cx) (hh : List (Nat × Nat × Nat × Nat)) : Prop := match X with
  | (p, l, e, R, s, m, args, below, meth, c, Q, D, cI, cL, A0, H0, ck, cn) => k_Z2 A0 s s.heap ∧ H0 = s.heap ∧ c.exceptionTable.toList = tableOf hh ∧ ck + 1 ≤ R.cells ∧ cn + 6 ≤ R.slots
theorem k_Cb {ad : Nat → Nat} {X : Cx} {cc : ByteArray} {own : String} {nL fr lo : Nat} {hh : List (Nat × Nat × Nat × Nat)} (C0 : k_C ad X cc own nL fr lo) (T0 : k_TW X hh) : k_C ad (k_bump X) cc own nL fr lo := by
  obtain ⟨p, l, e, R, s, m, args, below, meth, c, Q, D, cI, cL, A0, H0, ck, cn⟩ := X
  obtain ⟨hx, hb, hml, hown, hts, hK, hD, hA, hR⟩ := C0
  obtain ⟨-, -, -, h1, h2⟩ := T0
  exact ⟨hx, hb, hml, hown, hts, hK, hD, hA, hR.1, hR.2.1, h1, h2⟩
def tt_th : List (String × Tr) → String → Tr
  | [], _ => fun _ _ _ => False
  | (e, t) :: r, E => if E = e then t else tt_th r E
def tt_xc (ad : Nat → Nat) (o n : Nat) (F : Sp) (t : Tr) (th : String → Tr) : Tr := fun L st M => match st.drop n with
  | .ref a :: rest => a = ad o ∧ rest.length ≤ 4 ∧ (match F (st.take n).reverse M with
    | some (.inl r) => t L (r.1.toList ++ rest) r.2
    | some (.inr e) => ∀ q : Nat, th e.1 L [.ref q] e.2
    | none => False)
  | _ => False
/-- where a throw of the class E goes -/
def k_cat (ad : Nat → Nat) (X : Cx) (own : String) (hh : List (Nat × Nat × Nat × Nat)) (pc : Nat) (th : String → Tr) (E : String) : Prop :=
  ∃ (pre : List ExceptionTableEntry) (x : ExceptionTableEntry) (suf : List ExceptionTableEntry), tableOf hh = pre ++ x :: suf ∧ (∀ z ∈ pre, covers z pc = false ∨ (z.catchType ≠ 0 ∧ ∃ nm : String, Cond.classLink own z.catchType nm ∈ k_G ∧ (E, nm) ∈ k_ncs)) ∧ covers x pc = true ∧ x.catchType ≠ 0 ∧ Cond.classLink own x.catchType E ∈ k_G ∧ E ∈ [k_ISE, k_IAE, k_IOE] ∧ Sd ad (k_bump X) x.handlerPc (th E)
section KX
variable {ad : Nat → Nat} {X : Cx} {cc : ByteArray} {own : String} {nL fr lo pc : Nat} {t : Tr} {th : String → Tr} {hh : List (Nat × Nat × Nat × Nat)}
theorem ss_xc {o n index mL fr2 lo2 : Nat} {C : String} {y : MethodName} {cb : ByteArray} {ret : Option FieldType} {F : Sp} (ho : k_rc o C) (C0 : k_C ad X cc own nL fr lo) (T0 : k_TW X hh) (d : decode cc pc = .ok (.invokevirtual index, 3)) (hw : k_wv own index y cb mL ret n) (hyC : y.cls = C) (hc : k_cv ad X y cb mL ret fr2 lo2 (fun As => .ref (ad o) :: As) F) (hcx : k_ct ad X y cb mL ret fr2 lo2 (fun As => .ref (ad o) :: As) F) (hfl : ((fr2 + 1).ble fr && (8 + (mL + 11) + lo2).ble lo) = true) (hcat : ∀ As M e, F As M = some (.inr e) → k_cat ad X own hh pc th e.1) (k : Sd ad (k_bump X) (pc + 3) t) : Sd ad X pc (tt_xc ad o n F t th) := by
  intro L st M h
  unfold tt_xc at h
  split at h
  · next a rest hst =>
    obtain ⟨ha, hlen, h⟩ := h
    split at h
    · next r hF =>
      refine ss_cv (F := F) ho C0 d hw hyC hc hfl (Sd_bump k) L st M ?_
      unfold tt_cv
      rw [hst]
      exact ⟨ha, hlen, by rw [hF]; exact h⟩
    · next r hF =>
      subst ha
      obtain ⟨pre, x, suf, x1, x2, x3, x4, x5, x6, x7⟩ := hcat _ M r hF
      obtain ⟨p, l, e, R, s, m, args, below, meth, c, Q, D, cI, cL, A0, H0, ck, cn⟩ := X
      obtain ⟨hx, hb, hml, hown, hts, hK, hD, hA, hR⟩ := C0
      intro H locs ls hP hS hl
      subst hyC
      rw [Bool.and_eq_true] at hfl
      obtain ⟨w1, w2, w3, w4, w5, w6, w7, w8⟩ := hw
      obtain ⟨hZ, rfl, htab, hc1, hc2⟩ := T0
      have hM := hcx _ M r hF H.size
      have hl4 := k_len rest hlen
      have hst2 : st = (st.take n).reverse.reverse ++ .ref (ad o) :: rest := by
        rw [List.reverse_reverse, ← hst, List.take_append_drop]
      have hn : (st.take n).reverse.length = n := by
        rw [List.length_reverse, List.length_take]
        have : (st.drop n).length = (Value.ref (ad o) :: rest).length := by rw [hst]
        rw [List.length_drop, List.length_cons] at this
        omega
      obtain ⟨ci, q, hc1', hc2', hc3'⟩ := ho
      obtain ⟨fs, hfs⟩ := hc3' ad cI cL M
      have hG : GoodIn k_G (wsV own index y.cls y (Cond.code y cb mL ret :: k_G)) := by
        intro w hw
        unfold wsV at hw
        rcases List.mem_append.mp hw with hw | hw
        · simp only [List.mem_cons, List.not_mem_nil, or_false] at hw
          rcases hw with rfl | rfl | rfl | rfl
          · exact k_good _ w1
          · exact k_good _ w2
          · exact k_good _ w3
          · exact k_good _ w4
        · exact k_cons w5 w hw
      have hfr : fr2 + 1 ≤ R.frames ∧ 8 + (mL + 11) + lo2 ≤ R.locals := ⟨Nat.le_trans (Nat.le_of_ble_eq_true hfl.1) hR.1, Nat.le_trans (Nat.le_of_ble_eq_true hfl.2) hR.2.1⟩
      have hAA := k_AA (M := M) (D := D) hD hA hS
      refine k_callx (vx_runV (As := (st.take n).reverse) (rest := rest) ⟨hx, hb, hml, hown, hts⟩ hM (cwV n hts hG rfl rfl rfl ⟨rfl, w6, w7, w8⟩ hfr) ⟨k_preZ, ?_, fun U hU hW => ⟨rfl, by rw [hU], ⟨by rw [hU]; exact hP, va_K.moved hW.alike hK⟩, by rw [hU]; exact hZ.1.next hS hAA hW⟩⟩ rfl hn (by rw [← hml]; exact hl.1) hst2 (lv_room hl4) d ⟨hc1, hc2⟩) hS (fun q _ z => hAA q z) hAA ?_
      · have := va_recv hK hP hc1' hfs
        rw [hc2'] at this
        exact this
      · intro H1 locs1 ce q9 hP1 hS1 hce hcv hcl
        refine vx_catch hown pre x suf (htab.trans x1) (fun z hz => ?_) x3 x4 (hts _ x5) (va_Nw.use rfl (hZ.1.2.2.2.1 r.1 x6)) hce hcv hcl (x7 L _ r.2 (h q9) H1 locs1 ls hP1 hS1 hl)
        rcases x2 z hz with q1 | ⟨q1, nm, q2, q3⟩
        · exact Or.inl q1
        · exact Or.inr ⟨q1, nm, hts _ q2, hZ.2 _ q3⟩
    · exact h.elim
  · exact h.elim
end KX
/-- a catching method's contract -/
def k_Wr (l : Launch) (ad : Nat → Nat) (D : va_G) (cI cL : ClassId) (y : MethodName) (cc : ByteArray) (nL : Nat) (hh : List (Nat × Nat × Nat × Nat)) (fr lo : Nat) (F : Sp) : Prop :=
  ∀ (As : List Value) (M : Mm) (r : Option Value × Mm), F As M = some (.inl r) → ∀ sz : Nat, vx_Met l y (Cond.codeWith y cc nL (some .int) hh :: k_G) ({ frames := fr, cells := 1, slots := 6, locals := lo }) (va_Pc As (fun U => U.heap.size = sz ∧ k_B ad D cI cL M U ∧ k_Z2 (k_A ad sz) U U.heap)) (fun _ st oc t => oc = .returned r.1 ∧ k_B ad D cI cL r.2 t ∧ va_F (k_A ad sz) st t) (fun _ _ _ => False) 1 6 (k_A ad sz)
theorem k_wr {l : Launch} {ad : Nat → Nat} {D : va_G} {cI cL : ClassId} {y : MethodName} {cc : ByteArray} {nL fr lo : Nat} {hh : List (Nat × Nat × Nat × Nat)} {F : Sp} {tree : Rs → Tr} (hI : k_I ad) (hy : plainName y.cls = true)
    (hs : ∀ (X : Cx) (res : Rs), X.2.1 = l → (X.2.2.2.2.2.2.2.2.2.2.2.1 = D ∧ X.2.2.2.2.2.2.2.2.2.2.2.2.1 = cI ∧ X.2.2.2.2.2.2.2.2.2.2.2.2.2.1 = cL) → k_C ad X cc y.cls nL fr lo → k_E ad (k_bump X) (some .int) res → k_TW X hh → Sd ad X 0 (tree res))
    (hp : ∀ As M r, F As M = some (.inl r) → ((lg_sl As).length ≤ nL ∧ ∃ L : Ls, (∀ q ∈ k_asc 0 L, q ∈ lv_args 0 As) ∧ tree (.inl r) L [] M)) :
    k_Wr l ad D cI cL y cc nL hh fr lo F := by
  intro As M r hF sz
  obtain ⟨hlen, L, hL, ht⟩ := hp As M r hF
  refine vx_ofWH (cc := cc) (maxL := nL) (ret := some .int) (hh := hh) hy rfl ?_
  intro p e s m args below meth c s₁ B hml hv
  obtain ⟨rfl, hsz, ⟨hP, hK⟩, hZ⟩ := hv
  have hts := atoms_spec (ws := Cond.codeWith y cc nL (some .int) hh :: k_G) B.pre
  have htab := vx_table (x := y) B (hts _ List.mem_cons_self)
  subst hsz
  have hl := lv_entry As (n := nL) hlen
  rw [lg_entry_eq]
  generalize (lg_sl As ++ List.replicate (nL - (lg_sl As).length) Slot.unset).toArray = ls at hl ⊢
  have hl2 : lv_has ls c.maxLocals (k_asc 0 L) := by rw [hml]; exact ⟨hl.1, hl.2.1, fun q hq => hl.2.2 q (hL q hq)⟩
  exact hs (p, l, e, _, s, m, _, below, meth, c, _, D, cI, cL, k_A ad s.heap.size, s.heap, 0, 0) (.inl r) rfl ⟨rfl, rfl, rfl⟩
    ⟨B.exec, B.bytes, hml, findClass_of_methodNamed B.named, fun w hw => hts w (List.mem_cons_of_mem _ hw), hK, k_WD hI _ cI cL, fun q hq => Or.inr hq, Nat.le_refl _, Nat.le_refl _, Nat.zero_le _, Nat.zero_le _⟩
    ⟨B.returns, B.notSynchronized, fun o M1 H locs he hP1 hS1 t hQ => by
      cases he
      obtain ⟨oc, b1, b2, ⟨h1, h2, h3⟩, b4⟩ := hQ
      exact ⟨oc, b1, b2, Or.inl ⟨⟨h1, ⟨by rw [h2]; exact hP1, va_K.moved h3.alike hK⟩, hS1.F h2⟩, b4⟩⟩⟩
    ⟨hZ, rfl, htab, Nat.le_refl _, Nat.le_refl _⟩ L [] M ht s.heap [] ls hP va_S.rf hl2
def k_TL (X : Cx) : Prop := match X with
  | (p, l, e, R, s, m, args, below, meth, c, Q, D, cI, cL, A0, H0, ck, cn) => k_Z2 A0 s s.heap ∧ H0 = s.heap ∧ ck + 1 ≤ R.cells ∧ cn + 6 ≤ R.slots
def k_SC (X : Cx) (b L : Nat) (xs : Nat → Int32) : Prop := match X with
  | (p, l, e, R, s, m, args, below, meth, c, Q, D, cI, cL, A0, H0, ck, cn) => va_X b L xs s H0 ∧ b < H0.size ∧ ¬ A0 b
def k_cw (ad : Nat → Nat) (X : Cx) (y : MethodName) (cb : ByteArray) (mL : Nat) (hh : List (Nat × Nat × Nat × Nat)) (fr lo : Nat) (F : Sp) : Prop := match X with
  | (_, l, _, _, _, _, _, _, _, _, _, D, cI, cL, _, _, _, _) => k_Wr l ad D cI cL y cb mL hh fr lo F
def k_wsw (own : String) (index : Nat) (y : MethodName) (cb : ByteArray) (mL : Nat) (hh : List (Nat × Nat × Nat × Nat)) (n : Nat) : Prop :=
  Cond.methodLink own index y ∈ k_G ∧ Cond.static y ∈ k_G ∧ Cond.initialized y.cls ∈ k_G ∧ Cond.codeWith y cb mL (some .int) hh ∈ k_G ∧ y.cls ≠ "java/lang/invoke/MethodHandle" ∧ y.cls ≠ "java/lang/invoke/VarHandle" ∧ (parseMethodDescriptor y.desc).map (fun d => d.parameters.length) = some n
def tt_no : Tr := fun _ _ _ => False
def tt_sl (b L : Nat) (xs : Nat → Int32) (t : Tr) : Tr := fun F st M => match st with
  | .int i :: .ref a :: st => a = b ∧ vp_in i L ∧ t F (.int (xs i.toNatClampNeg) :: st) M
  | _ => False
def tt_sn (b L : Nat) (t : Tr) : Tr := fun F st M => match st with
  | .ref a :: st => a = b ∧ t F (.int (nI L) :: st) M
  | _ => False
theorem ss_no {ad : Nat → Nat} {X : Cx} {pc : Nat} : Sd ad X pc tt_no := fun L st M h => h.elim
section KL
variable {ad : Nat → Nat} {X : Cx} {cc : ByteArray} {own : String} {nL fr lo pc b L : Nat} {xs : Nat → Int32} {t : Tr}
theorem ss_sl (C0 : k_C ad X cc own nL fr lo) (S0 : k_SC X b L xs) (d : decode cc pc = .ok (.iaload, 1)) (k0 : Sd ad X (pc + 1) t) : Sd ad X pc (tt_sl b L xs t) := by
  obtain ⟨p, l, e, R, s, m, args, below, meth, c, Q, D, cI, cL, A0, H0, ck, cn⟩ := X
  obtain ⟨hx, hb, hml, hown, hts, hK, hD, hA, hR⟩ := C0
  intro F st M h H locs ls hP hS hl
  unfold tt_sl at h
  split at h
  · obtain ⟨rfl, hi, h⟩ := h
    exact va_sld hx hb S0.1 S0.2.1 S0.2.2 hS hi d (k0 F _ M h H locs ls hP hS hl)
  · exact h.elim
theorem ss_sn (C0 : k_C ad X cc own nL fr lo) (S0 : k_SC X b L xs) (d : decode cc pc = .ok (.arraylength, 1)) (k0 : Sd ad X (pc + 1) t) : Sd ad X pc (tt_sn b L t) := by
  obtain ⟨p, l, e, R, s, m, args, below, meth, c, Q, D, cI, cL, A0, H0, ck, cn⟩ := X
  obtain ⟨hx, hb, hml, hown, hts, hK, hD, hA, hR⟩ := C0
  intro F st M h H locs ls hP hS hl
  unfold tt_sn at h
  split at h
  · obtain ⟨rfl, h⟩ := h
    exact va_slen hx hb S0.1 S0.2.1 S0.2.2 hS d (k0 F _ M h H locs ls hP hS hl)
  · exact h.elim
theorem k_CbL (C0 : k_C ad X cc own nL fr lo) (T0 : k_TL X) : k_C ad (k_bump X) cc own nL fr lo := by
  obtain ⟨p, l, e, R, s, m, args, below, meth, c, Q, D, cI, cL, A0, H0, ck, cn⟩ := X
  obtain ⟨hx, hb, hml, hown, hts, hK, hD, hA, hR⟩ := C0
  obtain ⟨-, -, h1, h2⟩ := T0
  exact ⟨hx, hb, hml, hown, hts, hK, hD, hA, hR.1, hR.2.1, h1, h2⟩
theorem k_SCb (S0 : k_SC X b L xs) : k_SC (k_bump X) b L xs := by
  obtain ⟨p, l, e, R, s, m, args, below, meth, c, Q, D, cI, cL, A0, H0, ck, cn⟩ := X
  have h : va_X b L xs s H0 ∧ b < H0.size ∧ ¬ A0 b := S0
  exact h
theorem k_cvB {y : MethodName} {cb : ByteArray} {mL fr2 lo2 : Nat} {ret : Option FieldType} {av : List Value → List Value} {F : Sp} (h : k_cv ad X y cb mL ret fr2 lo2 av F) : k_cv ad (k_bump X) y cb mL ret fr2 lo2 av F := by
  obtain ⟨p, l, e, R, s, m, args, below, meth, c, Q, D, cI, cL, A0, H0, ck, cn⟩ := X
  have h2 : k_Con l ad D cI cL y cb mL ret fr2 lo2 av F := h
  exact h2
theorem k_callw {p : Program} {l : Launch} {e : Env} {R : Room} {s : State} {m : MethodId} {args : Array Value} {below : List Frame} {meth : Method} {c : Code} {H : Heap} {locs : List Loc} {cells slots : Nat} {Q : State → Prop} {ls : Array Slot} {rest st0 : List Value} {A0 A1 : Nat → Prop} {H0 : Heap} {mc ms : Nat} {free : Addr → Prop} {D : va_G} {cI cL : ClassId} {r : Option Value × Mm}
    (hr : vx_Run p l e R s m args below meth c H locs cells slots mc ms (F0 m pc ls st0) rest (fun st oc t => oc = .returned r.1 ∧ k_B ad D cI cL r.2 t ∧ va_F A1 st t) (fun _ _ _ => False) free) (hS : va_S A0 H0 H locs) (hA : ∀ q, q < H.size → A1 q → A0 q) (hf : ∀ q, free q → A0 q)
    (kk : ∀ (H1 : Heap) (locs1 : List Loc), va_P D vwCl (k_W ad cI cL r.2) H1 → va_S A0 H0 H1 locs1 → W p l e R s m args below meth c H1 locs1 (cells + mc) (slots + ms) Q (F0 m (pc + 3) ls (r.1.toList ++ rest))) : W p l e R s m args below meth c H locs cells slots Q (F0 m pc ls st0) := by
  intro T hT X
  rcases hr T hT X with ⟨v, st₀, t, T', L, h0, X', hL, e1, e2, ⟨hv, hb, hz, hk⟩, st⟩ | ⟨q, st₀, t, T', L, E, ce, h0, X', hL, e1, e2, hh, hce, hcv, hcl, st⟩
  · cases hv
    rw [h0] at hz hk
    obtain ⟨t2, a1, b1⟩ := kk T'.heap (locs ++ L) (by rw [e1]; exact hb.1)
      ⟨Nat.le_trans hS.1 (by rw [e1]; exact hz), fun q h1 h2 => by rw [e1, hk q (Nat.lt_of_lt_of_le h1 hS.1) (fun z => h2 (hA q (Nat.lt_of_lt_of_le h1 hS.1) z))]; exact hS.2.1 q h1 h2, fun q hq => by
        rcases List.mem_append.mp hq with h | h
        · exact hS.2.2 q h
        · exact hf _ (hL q h)⟩ T' rfl X'
    exact ⟨t2, st t2 a1, b1⟩
  · exact hh.elim
theorem k_preZ2 {D : va_G} {cI cL : ClassId} {M : Mm} {sz : Nat} {av : List Value} : FrameBlind (va_Pc av (fun U => U.heap.size = sz ∧ k_B ad D cI cL M U ∧ k_Z2 (k_A ad sz) U U.heap)) :=
  fun a U g mk q => by
    obtain ⟨q0, q1, ⟨qP, qK⟩, qZ⟩ := q
    exact ⟨q0, q1, ⟨qP, va_K.moved (u := U) (U := U.calling g mk a) (Vm.Alike.refl U.vm) qK⟩, k_Z2.same (u := U) (U := U.calling g mk a) rfl qZ⟩
theorem ss_w {n index mL fr2 lo2 : Nat} {y : MethodName} {cb : ByteArray} {hh : List (Nat × Nat × Nat × Nat)} {F : Sp} (C0 : k_C ad X cc own nL fr lo) (T0 : k_TL X) (d : decode cc pc = .ok (.invokestatic index, 3)) (hw : k_wsw own index y cb mL hh n) (hc : k_cw ad X y cb mL hh fr2 lo2 F) (hfl : ((fr2 + 1).ble fr && (8 + (mL + 11) + lo2).ble lo) = true) (k : Sd ad (k_bump X) (pc + 3) t) : Sd ad X pc (tt_cs n F t) := by
  intro Lf st M h
  unfold tt_cs at h
  obtain ⟨hn0, hlen, h⟩ := h
  split at h
  · next r hF =>
    obtain ⟨p, l, e, R, s, m, args, below, meth, c, Q, D, cI, cL, A0, H0, ck, cn⟩ := X
    obtain ⟨hx, hb, hml, hown, hts, hK, hD, hA, hR⟩ := C0
    intro H locs ls hP hS hl
    rw [Bool.and_eq_true] at hfl
    obtain ⟨w1, w2, w3, w4, w5, w6, w7⟩ := hw
    obtain ⟨hZ, rfl, hc1, hc2⟩ := T0
    have hM := hc _ M r hF H.size
    have hl4 := k_len _ hlen
    have hst2 : st = (st.take n).reverse.reverse ++ st.drop n := by
      rw [List.reverse_reverse, List.take_append_drop]
    have hn : (st.take n).reverse.length = n := by
      rw [List.length_reverse, List.length_take]
      omega
    have hfr : fr2 + 1 ≤ R.frames ∧ 8 + (mL + 11) + lo2 ≤ R.locals := ⟨Nat.le_trans (Nat.le_of_ble_eq_true hfl.1) hR.1, Nat.le_trans (Nat.le_of_ble_eq_true hfl.2) hR.2.1⟩
    have hAA := k_AA (M := M) (D := D) hD hA hS
    have hG : GoodIn k_G (va_wsS own index y (Cond.codeWith y cb mL (some .int) hh :: k_G)) := by
      intro w hw
      unfold va_wsS at hw
      rcases List.mem_append.mp hw with hw | hw
      · simp only [List.mem_cons, List.not_mem_nil, or_false] at hw
        rcases hw with rfl | rfl | rfl
        · exact k_good _ w1
        · exact k_good _ w2
        · exact k_good _ w3
      · rcases List.mem_cons.mp hw with rfl | hw
        · exact k_good _ w4
        · exact k_good _ hw
    exact k_callw (vx_runSX (As := (st.take n).reverse) (rest := st.drop n) ⟨hx, hb, hml, hown, hts⟩ hM (vx_cwSW n hts hG rfl rfl rfl ⟨w5, w6, w7⟩ hfr) ⟨k_preZ2, fun U hU hW => ⟨rfl, by rw [hU], ⟨by rw [hU]; exact hP, va_K.moved hW.alike hK⟩, by rw [hU]; exact hZ.next hS hAA hW⟩⟩ rfl hn (by rw [← hml]; exact hl.1) hst2 (lv_room hl4) d ⟨hc1, hc2⟩) hS (fun q _ z => hAA q z) hAA (fun H1 locs1 hP1 hS1 => k Lf _ _ h H1 locs1 ls hP1 hS1 hl)
  · exact h.elim
end KL

/-! a constant, a shift, the law's own numbers -/
def tt_shr (t : Tr) : Tr := fun L st M => match st with
  | .int y :: .int x :: st => t L (.int (x >>> (y &&& 31)) :: st) M
  | _ => False
section KN
variable {ad : Nat → Nat} {X : Cx} {cc : ByteArray} {own : String} {nL fr lo pc : Nat} {t : Tr}
theorem ss_shr (C0 : k_C ad X cc own nL fr lo) (d : decode cc pc = .ok (.ishr, 1)) (k0 : Sd ad X (pc + 1) t) : Sd ad X pc (tt_shr t) := by
  obtain ⟨p, l, e, R, s, m, args, below, meth, c, Q, D, cI, cL, A0, H0, ck, cn⟩ := X
  obtain ⟨hx, hb, hml, hown, hts, hK, hD, hA, hR⟩ := C0
  intro L st M h H locs ls hP hS hl
  unfold tt_shr at h
  split at h
  · exact lv_ishr hx hb d (k0 L _ M h H locs ls hP hS hl)
  · exact h.elim
theorem ss_ldc {i : Nat} {v : Int32} (C0 : k_C ad X cc own nL fr lo) (d : decode cc pc = .ok (.ldc i, 2)) (hw : Cond.constant own i v ∈ k_G) (k0 : Sd ad X (pc + 2) t) : Sd ad X pc (tt_c v t) := by
  obtain ⟨p, l, e, R, s, m, args, below, meth, c, Q, D, cI, cL, A0, H0, ck, cn⟩ := X
  obtain ⟨hx, hb, hml, hown, hts, hK, hD, hA, hR⟩ := C0
  intro L st M h H locs ls hP hS hl
  exact lv_ldc hx hb hown (hts _ hw) d (k0 L _ M h H locs ls hP hS hl)
end KN
def wE : List (String × Int32) → String → Option Int32
  | [], _ => none
  | e :: r, E => if E = e.1 then some e.2 else wE r E
/-- what a catching method answers -/
def wX (es : List (String × Int32)) (r : Option Rs) : Option Rs := match r with
  | some (.inl (some (.int v), M)) => some (.inl (some (.int v), M))
  | some (.inr (E, M)) => (wE es E).map (fun k => .inl (some (.int k), M))
  | _ => none
/-- what it answers where nothing is thrown -/
def wN (r : Option Rs) : Option Rs := match r with
  | some (.inl (some (.int v), M)) => some (.inl (some (.int v), M))
  | _ => none
/-- a catching method's contract where nothing is thrown: no new cell -/
def k_WrN (l : Launch) (ad : Nat → Nat) (D : va_G) (cI cL : ClassId) (y : MethodName) (cc : ByteArray) (nL : Nat) (hh : List (Nat × Nat × Nat × Nat)) (fr lo : Nat) (F : Sp) : Prop :=
  ∀ (As : List Value) (M : Mm) (r : Option Value × Mm), F As M = some (.inl r) → ∀ sz : Nat, vx_Met l y (Cond.codeWith y cc nL (some .int) hh :: k_G) ({ frames := fr, cells := 0, slots := 0, locals := lo }) (va_Pc As (fun U => U.heap.size = sz ∧ k_B ad D cI cL M U)) (fun _ st oc t => oc = .returned r.1 ∧ k_B ad D cI cL r.2 t ∧ va_F (k_A ad sz) st t) (fun _ _ _ => False) 0 0 (k_A ad sz)
theorem k_wrN {l : Launch} {ad : Nat → Nat} {D : va_G} {cI cL : ClassId} {y : MethodName} {cc : ByteArray} {nL fr lo : Nat} {hh : List (Nat × Nat × Nat × Nat)} {F : Sp} {tree : Rs → Tr} (hI : k_I ad) (hy : plainName y.cls = true)
    (hs : ∀ (X : Cx) (res : Rs), X.2.1 = l → (X.2.2.2.2.2.2.2.2.2.2.2.1 = D ∧ X.2.2.2.2.2.2.2.2.2.2.2.2.1 = cI ∧ X.2.2.2.2.2.2.2.2.2.2.2.2.2.1 = cL) → k_C ad X cc y.cls nL fr lo → k_E ad X (some .int) res → Sd ad X 0 (tree res))
    (hp : ∀ As M r, F As M = some (.inl r) → ((lg_sl As).length ≤ nL ∧ ∃ L : Ls, (∀ q ∈ k_asc 0 L, q ∈ lv_args 0 As) ∧ tree (.inl r) L [] M)) :
    k_WrN l ad D cI cL y cc nL hh fr lo F := by
  intro As M r hF sz
  obtain ⟨hlen, L, hL, ht⟩ := hp As M r hF
  refine vx_ofWH (cc := cc) (maxL := nL) (ret := some .int) (hh := hh) hy rfl ?_
  intro p e s m args below meth c s₁ B hml hv
  obtain ⟨rfl, hsz, ⟨hP, hK⟩⟩ := hv
  have hts := atoms_spec (ws := Cond.codeWith y cc nL (some .int) hh :: k_G) B.pre
  subst hsz
  have hl := lv_entry As (n := nL) hlen
  rw [lg_entry_eq]
  generalize (lg_sl As ++ List.replicate (nL - (lg_sl As).length) Slot.unset).toArray = ls at hl ⊢
  have hl2 : lv_has ls c.maxLocals (k_asc 0 L) := by rw [hml]; exact ⟨hl.1, hl.2.1, fun q hq => hl.2.2 q (hL q hq)⟩
  exact hs (p, l, e, _, s, m, _, below, meth, c, _, D, cI, cL, k_A ad s.heap.size, s.heap, 0, 0) (.inl r) rfl ⟨rfl, rfl, rfl⟩
    ⟨B.exec, B.bytes, hml, findClass_of_methodNamed B.named, fun w hw => hts w (List.mem_cons_of_mem _ hw), hK, k_WD hI _ cI cL, fun q hq => Or.inr hq, Nat.le_refl _, Nat.le_refl _, Nat.zero_le _, Nat.zero_le _⟩
    ⟨B.returns, B.notSynchronized, fun o M1 H locs he hP1 hS1 t hQ => by
      cases he
      obtain ⟨oc, b1, b2, ⟨h1, h2, h3⟩, b4⟩ := hQ
      exact ⟨oc, b1, b2, Or.inl ⟨⟨h1, ⟨by rw [h2]; exact hP1, va_K.moved h3.alike hK⟩, hS1.F h2⟩, b4⟩⟩⟩
    L [] M ht s.heap [] ls hP va_S.rf hl2
def k_cn (ad : Nat → Nat) (X : Cx) (y : MethodName) (cb : ByteArray) (mL : Nat) (hh : List (Nat × Nat × Nat × Nat)) (fr lo : Nat) (F : Sp) : Prop := match X with
  | (_, l, _, _, _, _, _, _, _, _, _, D, cI, cL, _, _, _, _) => k_WrN l ad D cI cL y cb mL hh fr lo F
/-- a contract with more premises of the start, and with room -/
def k_ConP (Pz : (Nat → Prop) → State → Heap → Prop) (nc : Nat) (l : Launch) (ad : Nat → Nat) (D : va_G) (cI cL : ClassId) (y : MethodName) (cc : ByteArray) (nL : Nat) (ret : Option FieldType) (fr lo : Nat) (F : Sp) : Prop :=
  ∀ (As : List Value) (M : Mm) (r : Option Value × Mm), F As M = some (.inl r) → ∀ sz : Nat, Met l y (Cond.code y cc nL ret :: k_G) ({ frames := fr, cells := nc, slots := 6 * nc, locals := lo }) (va_Pc As (fun U => U.heap.size = sz ∧ k_B ad D cI cL M U ∧ Pz (k_A ad sz) U U.heap)) (fun _ st oc t => oc = .returned r.1 ∧ k_B ad D cI cL r.2 t ∧ va_F (k_A ad sz) st t) nc (6 * nc) (k_A ad sz)
def k_cp1 (Pz : (Nat → Prop) → State → Heap → Prop) (nc : Nat) (ad : Nat → Nat) (X : Cx) (y : MethodName) (cb : ByteArray) (mL : Nat) (ret : Option FieldType) (fr lo : Nat) (F : Sp) : Prop := match X with
  | (_, l, _, _, _, _, _, _, _, _, _, D, cI, cL, _, _, _, _) => k_ConP Pz nc l ad D cI cL y cb mL ret fr lo F
def k_bn (n : Nat) (X : Cx) : Cx := match X with
  | (p, l, e, R, s, m, args, below, meth, c, Q, D, cI, cL, A0, H0, ck, cn) => (p, l, e, R, s, m, args, below, meth, c, Q, D, cI, cL, A0, H0, ck + n, cn + 6 * n)
def k_bs : Nat → Cx → Cx
  | 0, X => X
  | n + 1, X => k_bump (k_bs n X)
theorem k_bs_eq (X : Cx) : ∀ n, k_bs n X = k_bn n X := by
  obtain ⟨p, l, e, R, s, m, args, below, meth, c, Q, D, cI, cL, A0, H0, ck, cn⟩ := X
  intro n
  induction n with
  | zero => rfl
  | succ n ih =>
    rw [k_bs, ih]
    rfl
/-- the premises hold wherever the walk is -/
def k_Pz (Pz : (Nat → Prop) → State → Heap → Prop) (ad : Nat → Nat) (X : Cx) : Prop := match X with
  | (_, _, _, _, s, _, _, _, _, _, _, _, _, _, A0, H0, _, _) => ∀ (H : Heap) (locs : List Loc), va_S A0 H0 H locs → ∀ (B : Nat → Prop), (∀ q, B q → A0 q) → ∀ U : State, s.WarmedH U.vm → Pz B U H
def k_Ps (Pz : (Nat → Prop) → State → Heap → Prop) : Prop := ∀ (A : Nat → Prop) (u U : State) (H : Heap), U.vm = u.vm → Pz A u H → Pz A U H
theorem k_Ps_Z : k_Ps k_Z2 := fun _ _ _ _ hv h => h.same hv
theorem k_Pz_Z {ad : Nat → Nat} {X : Cx} (T0 : k_TL X) : k_Pz k_Z2 ad X := by
  obtain ⟨p, l, e, R, s, m, args, below, meth, c, Q, D, cI, cL, A0, H0, ck, cn⟩ := X
  obtain ⟨hZ, rfl, -, -⟩ := T0
  exact fun H locs hS B hB U hW => hZ.next hS hB hW
def k_Xz (b L : Nat) (xs : Nat → Int32) : (Nat → Prop) → State → Heap → Prop := fun A U H => va_X b L xs U H ∧ b < H.size ∧ ¬ A b
theorem k_Ps_X (b L : Nat) (xs : Nat → Int32) : k_Ps (k_Xz b L xs) := fun _ _ _ _ hv h => ⟨h.1.moved (by rw [hv]; exact Vm.Alike.refl _), h.2⟩
theorem k_Pz_X {ad : Nat → Nat} {X : Cx} {b L : Nat} {xs : Nat → Int32} (S0 : k_SC X b L xs) : k_Pz (k_Xz b L xs) ad X := by
  obtain ⟨p, l, e, R, s, m, args, below, meth, c, Q, D, cI, cL, A0, H0, ck, cn⟩ := X
  obtain ⟨h1, h2, h3⟩ := S0
  exact fun H locs hS B hB U hW => ⟨(h1.kept (hS.2.1 b h2 h3)).moved hW.alike, Nat.lt_of_lt_of_le h2 hS.1, fun q => h3 (hB b q)⟩
section KQ
variable {ad : Nat → Nat} {X : Cx} {cc : ByteArray} {own : String} {nL fr lo pc : Nat} {t : Tr}
theorem ss_wn {n index mL fr2 lo2 : Nat} {y : MethodName} {cb : ByteArray} {hh : List (Nat × Nat × Nat × Nat)} {F : Sp} (C0 : k_C ad X cc own nL fr lo) (d : decode cc pc = .ok (.invokestatic index, 3)) (hw : k_wsw own index y cb mL hh n) (hc : k_cn ad X y cb mL hh fr2 lo2 F) (hfl : ((fr2 + 1).ble fr && (8 + (mL + 11) + lo2).ble lo) = true) (k : Sd ad X (pc + 3) t) : Sd ad X pc (tt_cs n F t) := by
  intro Lf st M h
  unfold tt_cs at h
  obtain ⟨hn0, hlen, h⟩ := h
  split at h
  · next r hF =>
    obtain ⟨p, l, e, R, s, m, args, below, meth, c, Q, D, cI, cL, A0, H0, ck, cn⟩ := X
    obtain ⟨hx, hb, hml, hown, hts, hK, hD, hA, hR⟩ := C0
    intro H locs ls hP hS hl
    rw [Bool.and_eq_true] at hfl
    obtain ⟨w1, w2, w3, w4, w5, w6, w7⟩ := hw
    have hM := hc _ M r hF H.size
    have hl4 := k_len _ hlen
    have hst2 : st = (st.take n).reverse.reverse ++ st.drop n := by
      rw [List.reverse_reverse, List.take_append_drop]
    have hn : (st.take n).reverse.length = n := by
      rw [List.length_reverse, List.length_take]
      omega
    have hfr : fr2 + 1 ≤ R.frames ∧ 8 + (mL + 11) + lo2 ≤ R.locals := ⟨Nat.le_trans (Nat.le_of_ble_eq_true hfl.1) hR.1, Nat.le_trans (Nat.le_of_ble_eq_true hfl.2) hR.2.1⟩
    have hAA := k_AA (M := M) (D := D) hD hA hS
    have hG : GoodIn k_G (va_wsS own index y (Cond.codeWith y cb mL (some .int) hh :: k_G)) := by
      intro w hw
      unfold va_wsS at hw
      rcases List.mem_append.mp hw with hw | hw
      · simp only [List.mem_cons, List.not_mem_nil, or_false] at hw
        rcases hw with rfl | rfl | rfl
        · exact k_good _ w1
        · exact k_good _ w2
        · exact k_good _ w3
      · rcases List.mem_cons.mp hw with rfl | hw
        · exact k_good _ w4
        · exact k_good _ hw
    exact k_callw (vx_runSX (As := (st.take n).reverse) (rest := st.drop n) ⟨hx, hb, hml, hown, hts⟩ hM (vx_cwSW n hts hG rfl rfl rfl ⟨w5, w6, w7⟩ hfr) ⟨k_pre, fun U hU hW => ⟨rfl, by rw [hU], by rw [hU]; exact hP, va_K.moved hW.alike hK⟩⟩ rfl hn (by rw [← hml]; exact hl.1) hst2 (lv_room hl4) d ⟨hR.2.2.1, hR.2.2.2⟩) hS (fun q _ z => hAA q z) hAA (fun H1 locs1 hP1 hS1 => k Lf _ _ h H1 locs1 ls hP1 hS1 hl)
  · exact h.elim
def k_room (n : Nat) (X : Cx) : Prop := match X with
  | (_, _, _, R, _, _, _, _, _, _, _, _, _, _, _, _, ck, cn) => ck + n ≤ R.cells ∧ cn + 6 * n ≤ R.slots
theorem ss_p {Pz : (Nat → Prop) → State → Heap → Prop} {nc n index mL fr2 lo2 : Nat} {y : MethodName} {cb : ByteArray} {ret : Option FieldType} {F : Sp} (hPs : k_Ps Pz) (hPz : k_Pz Pz ad X) (C0 : k_C ad X cc own nL fr lo) (R0 : k_room nc X) (d : decode cc pc = .ok (.invokestatic index, 3)) (hw : k_ws own index y cb mL ret n) (hc : k_cp1 Pz nc ad X y cb mL ret fr2 lo2 F) (hfl : ((fr2 + 1).ble fr && (8 + (mL + 11) + lo2).ble lo) = true) (k : Sd ad (k_bn nc X) (pc + 3) t) : Sd ad X pc (tt_cs n F t) := by
  obtain ⟨p, l, e, R, s, m, args, below, meth, c, Q, D, cI, cL, A0, H0, ck, cn⟩ := X
  obtain ⟨hx, hb, hml, hown, hts, hK, hD, hA, hR⟩ := C0
  rw [Bool.and_eq_true] at hfl
  obtain ⟨w1, w2, w4, w5, w6, w7, w8⟩ := hw
  intro L st M h H locs ls hP hS hl
  unfold tt_cs at h
  obtain ⟨hn0, hlen, h⟩ := h
  split at h
  · next r hF =>
    have hM := hc _ M r hF H.size
    have hl4 := k_len _ hlen
    have hst2 : st = (st.take n).reverse.reverse ++ st.drop n := by
      rw [List.reverse_reverse, List.take_append_drop]
    have hn : (st.take n).reverse.length = n := by
      rw [List.length_reverse, List.length_take]
      omega
    have hfr : fr2 + 1 ≤ R.frames ∧ 8 + (mL + 11) + lo2 ≤ R.locals := ⟨Nat.le_trans (Nat.le_of_ble_eq_true hfl.1) hR.1, Nat.le_trans (Nat.le_of_ble_eq_true hfl.2) hR.2.1⟩
    have hAA := k_AA (M := M) (D := D) hD hA hS
    have hpre : FrameBlind (va_Pc (st.take n).reverse (fun U => U.heap.size = H.size ∧ k_B ad D cI cL M U ∧ Pz (k_A ad H.size) U U.heap)) :=
      fun a U g mk q => by
        obtain ⟨q0, q1, ⟨qP, qK⟩, qZ⟩ := q
        exact ⟨q0, q1, ⟨qP, va_K.moved (u := U) (U := U.calling g mk a) (Vm.Alike.refl U.vm) qK⟩, hPs _ U (U.calling g mk a) _ rfl qZ⟩
    exact k_call (va_runS (As := (st.take n).reverse) (rest := st.drop n) ⟨hx, hb, hml, hown, hts⟩ hM ⟨callB_of n hts (k_cons w5) rfl rfl rfl (hts _ w4) (hts _ w1) ⟨w6, w7, w8⟩ hfr, hts _ w2⟩ ⟨hpre, fun U hU hW => ⟨rfl, by rw [hU], ⟨by rw [hU]; exact hP, va_K.moved hW.alike hK⟩, by rw [hU]; exact hPz H locs hS _ hAA U hW⟩⟩ rfl hn (by rw [← hml]; exact hl.1) hst2 (lv_room hl4) d R0) hS (fun q _ z => hAA q z) hAA (fun H1 locs1 hP1 hS1 => k L _ _ h H1 locs1 ls hP1 hS1 hl)
  · exact h.elim
end KQ
/-- a contract with more premises out of a tree that is sound at every frame, at its last level of room -/
theorem k_conP {Pz : (Nat → Prop) → State → Heap → Prop} {nc : Nat} {l : Launch} {ad : Nat → Nat} {D : va_G} {cI cL : ClassId} {y : MethodName} {cc : ByteArray} {nL fr lo : Nat} {ret : Option FieldType} {F : Sp} {tree : Rs → Tr} (hI : k_I ad) (hy : plainName y.cls = true)
    (hs : ∀ (X : Cx) (res : Rs), X.2.1 = l → (X.2.2.2.2.2.2.2.2.2.2.2.1 = D ∧ X.2.2.2.2.2.2.2.2.2.2.2.2.1 = cI ∧ X.2.2.2.2.2.2.2.2.2.2.2.2.2.1 = cL) → k_C ad X cc y.cls nL fr lo → k_room nc X → (match X with | (_, _, _, _, s, _, _, _, _, _, _, _, _, _, A0, H0, _, _) => Pz A0 s s.heap ∧ H0 = s.heap) → k_E ad (k_bn nc X) ret res → Sd ad X 0 (tree res))
    (hp : ∀ As M r, F As M = some (.inl r) → ((lg_sl As).length ≤ nL ∧ ∃ L : Ls, (∀ q ∈ k_asc 0 L, q ∈ lv_args 0 As) ∧ tree (.inl r) L [] M)) :
    k_ConP Pz nc l ad D cI cL y cc nL ret fr lo F := by
  intro As M r hF sz
  obtain ⟨hlen, L, hL, ht⟩ := hp As M r hF
  refine Met.ofW (cc := cc) (maxL := nL) (ret := ret) hy rfl ?_
  intro p e s m args below meth c s₁ B hml hv
  obtain ⟨rfl, hsz, ⟨hP, hK⟩, hZ⟩ := hv
  have hts := atoms_spec (ws := Cond.code y cc nL ret :: k_G) B.pre
  subst hsz
  have hl := lv_entry As (n := nL) hlen
  rw [lg_entry_eq]
  generalize (lg_sl As ++ List.replicate (nL - (lg_sl As).length) Slot.unset).toArray = ls at hl ⊢
  have hl2 : lv_has ls c.maxLocals (k_asc 0 L) := by rw [hml]; exact ⟨hl.1, hl.2.1, fun q hq => hl.2.2 q (hL q hq)⟩
  exact hs (p, l, e, _, s, m, _, below, meth, c, _, D, cI, cL, k_A ad s.heap.size, s.heap, 0, 0) (.inl r) rfl ⟨rfl, rfl, rfl⟩
    ⟨B.exec, B.bytes, hml, findClass_of_methodNamed B.named, fun w hw => hts w (List.mem_cons_of_mem _ hw), hK, k_WD hI _ cI cL, fun q hq => Or.inr hq, Nat.le_refl _, Nat.le_refl _, Nat.zero_le _, Nat.zero_le _⟩
    ⟨Nat.le_of_eq (Nat.zero_add nc), Nat.le_of_eq (Nat.zero_add (6 * nc))⟩ ⟨hZ, rfl⟩
    ⟨B.returns, B.notSynchronized, fun o M1 H locs he hP1 hS1 t hQ => by
      cases he
      obtain ⟨oc, b1, b2, ⟨h1, h2, h3⟩, b4⟩ := hQ
      rw [Nat.zero_add, Nat.zero_add] at b4
      exact ⟨oc, b1, b2, ⟨h1, ⟨by rw [h2]; exact hP1, va_K.moved h3.alike hK⟩, hS1.F h2⟩, b4⟩⟩
    L [] M ht s.heap [] ls hP va_S.rf hl2
/-! levels of room -/
def k_TLn (n : Nat) (X : Cx) : Prop := match X with
  | (p, l, e, R, s, m, args, below, meth, c, Q, D, cI, cL, A0, H0, ck, cn) => k_Z2 A0 s s.heap ∧ H0 = s.heap ∧ ck + n ≤ R.cells ∧ cn + 6 * n ≤ R.slots
section KV
variable {ad : Nat → Nat} {X : Cx} {cc : ByteArray} {own : String} {nL fr lo pc b L n j : Nat} {xs : Nat → Int32} {t : Tr}
theorem k_TLj (T : k_TLn n X) (h : j + 1 ≤ n) : k_TL (k_bs j X) := by
  rw [k_bs_eq]
  obtain ⟨p, l, e, R, s, m, args, below, meth, c, Q, D, cI, cL, A0, H0, ck, cn⟩ := X
  obtain ⟨h1, h2, h3, h4⟩ := T
  exact ⟨h1, h2, (by omega : ck + j + 1 ≤ R.cells), (by omega : cn + 6 * j + 6 ≤ R.slots)⟩
theorem k_Cj (C : k_C ad X cc own nL fr lo) (T : k_TLn n X) (h : j ≤ n) : k_C ad (k_bs j X) cc own nL fr lo := by
  rw [k_bs_eq]
  obtain ⟨p, l, e, R, s, m, args, below, meth, c, Q, D, cI, cL, A0, H0, ck, cn⟩ := X
  obtain ⟨hx, hb, hml, hown, hts, hK, hD, hA, hR⟩ := C
  obtain ⟨-, -, h3, h4⟩ := T
  exact ⟨hx, hb, hml, hown, hts, hK, hD, hA, hR.1, hR.2.1, (by omega : ck + j ≤ R.cells), (by omega : cn + 6 * j ≤ R.slots)⟩
theorem k_roomj (T : k_TLn n X) {q : Nat} (h : j + q ≤ n) : k_room q (k_bs j X) := by
  rw [k_bs_eq]
  obtain ⟨p, l, e, R, s, m, args, below, meth, c, Q, D, cI, cL, A0, H0, ck, cn⟩ := X
  obtain ⟨-, -, h3, h4⟩ := T
  exact ⟨(by omega : ck + j + q ≤ R.cells), (by omega : cn + 6 * j + 6 * q ≤ R.slots)⟩
theorem k_SCj (S0 : k_SC X b L xs) : k_SC (k_bs j X) b L xs := by
  rw [k_bs_eq]
  obtain ⟨p, l, e, R, s, m, args, below, meth, c, Q, D, cI, cL, A0, H0, ck, cn⟩ := X
  have h : va_X b L xs s H0 ∧ b < H0.size ∧ ¬ A0 b := S0
  exact h
theorem k_cvj {y : MethodName} {cb : ByteArray} {mL fr2 lo2 : Nat} {ret : Option FieldType} {av : List Value → List Value} {F : Sp} (h : k_cv ad X y cb mL ret fr2 lo2 av F) : k_cv ad (k_bs j X) y cb mL ret fr2 lo2 av F := by
  rw [k_bs_eq]
  obtain ⟨p, l, e, R, s, m, args, below, meth, c, Q, D, cI, cL, A0, H0, ck, cn⟩ := X
  have h2 : k_Con l ad D cI cL y cb mL ret fr2 lo2 av F := h
  exact h2
theorem k_cwj {y : MethodName} {cb : ByteArray} {mL fr2 lo2 : Nat} {hh : List (Nat × Nat × Nat × Nat)} {F : Sp} (h : k_cw ad X y cb mL hh fr2 lo2 F) : k_cw ad (k_bs j X) y cb mL hh fr2 lo2 F := by
  rw [k_bs_eq]
  obtain ⟨p, l, e, R, s, m, args, below, meth, c, Q, D, cI, cL, A0, H0, ck, cn⟩ := X
  have h2 : k_Wr l ad D cI cL y cb mL hh fr2 lo2 F := h
  exact h2
theorem k_cnj {y : MethodName} {cb : ByteArray} {mL fr2 lo2 : Nat} {hh : List (Nat × Nat × Nat × Nat)} {F : Sp} (h : k_cn ad X y cb mL hh fr2 lo2 F) : k_cn ad (k_bs j X) y cb mL hh fr2 lo2 F := by
  rw [k_bs_eq]
  obtain ⟨p, l, e, R, s, m, args, below, meth, c, Q, D, cI, cL, A0, H0, ck, cn⟩ := X
  have h2 : k_WrN l ad D cI cL y cb mL hh fr2 lo2 F := h
  exact h2
theorem k_cpj {Pz : (Nat → Prop) → State → Heap → Prop} {nc : Nat} {y : MethodName} {cb : ByteArray} {mL fr2 lo2 : Nat} {ret : Option FieldType} {F : Sp} (h : k_cp1 Pz nc ad X y cb mL ret fr2 lo2 F) : k_cp1 Pz nc ad (k_bs j X) y cb mL ret fr2 lo2 F := by
  rw [k_bs_eq]
  obtain ⟨p, l, e, R, s, m, args, below, meth, c, Q, D, cI, cL, A0, H0, ck, cn⟩ := X
  have h2 : k_ConP Pz nc l ad D cI cL y cb mL ret fr2 lo2 F := h
  exact h2
theorem k_bsS (h : Sd ad (k_bs (j + 1) X) pc t) : Sd ad (k_bump (k_bs j X)) pc t := h
theorem k_bn_bs {q : Nat} (h : Sd ad (k_bs (j + q) X) pc t) : Sd ad (k_bn q (k_bs j X)) pc t := by
  rw [k_bs_eq] at h ⊢
  obtain ⟨p, l, e, R, s, m, args, below, meth, c, Q, D, cI, cL, A0, H0, ck, cn⟩ := X
  have e1 : k_bn (j + q) (p, l, e, R, s, m, args, below, meth, c, Q, D, cI, cL, A0, H0, ck, cn) = k_bn q (k_bn j (p, l, e, R, s, m, args, below, meth, c, Q, D, cI, cL, A0, H0, ck, cn)) := by
    unfold k_bn
    simp only [Nat.mul_add, Nat.add_assoc]
  rw [← e1]
  exact h
theorem k_bn0 (X : Cx) : k_bn 0 X = X := rfl
/-- more room used is no harm -/
theorem Sd_bs (h : Sd ad (k_bs (j + 1) X) pc t) : Sd ad (k_bs j X) pc t := Sd_bump h
end KV
