/-! returns, contracts, calls of methods that don't throw -/
def k_A (ad : Nat → Nat) (sz : Nat) : Nat → Prop := fun q => (∃ k, k < 6 ∧ q = ad k) ∨ sz ≤ q
def k_B (ad : Nat → Nat) (D : va_G) (cI cL : ClassId) (M : Mm) (U : State) : Prop := va_P D vwCl (k_W ad cI cL M) U.heap ∧ va_K D vwCl [(cI, .int)] U
def k_I (ad : Nat → Nat) : Prop := ∀ i j, i < 6 → j < 6 → ad i = ad j → i = j
theorem k_Wq {ad : Nat → Nat} {cI cL : ClassId} {M : Mm} {k : Nat} {q : Nat × va_E} (h : (k_W ad cI cL M)[k]? = some q) : k < 6 ∧ q.1 = ad k := by
  have hk : k < 6 := (List.getElem?_eq_some_iff.mp h).1
  refine ⟨hk, ?_⟩
  match k, hk, h with
  | 0, _, h => simp [k_W] at h; rw [← h]
  | 1, _, h => simp [k_W] at h; rw [← h]
  | 2, _, h => simp [k_W] at h; rw [← h]
  | 3, _, h => simp [k_W] at h; rw [← h]
  | 4, _, h => simp [k_W] at h; rw [← h]
  | 5, _, h => simp [k_W] at h; rw [← h]
theorem k_WD {ad : Nat → Nat} (hI : k_I ad) (sz : Nat) (cI cL : ClassId) (M : Mm) : va_D (k_A ad sz) (k_W ad cI cL M) := by
  refine ⟨fun i j p q hi hj hpq => ?_, fun k q hk => ?_⟩
  · obtain ⟨h1, h2⟩ := k_Wq hi
    obtain ⟨h3, h4⟩ := k_Wq hj
    exact hI i j h1 h3 (by rw [← h2, ← h4]; exact hpq)
  · obtain ⟨h1, h2⟩ := k_Wq hk
    exact Or.inl ⟨k, h1, h2⟩
/-- a contract: from every start at which F answers, the method does so, and the numbers are as F says -/
def k_Con (l : Launch) (ad : Nat → Nat) (D : va_G) (cI cL : ClassId) (y : MethodName) (cc : ByteArray) (nL : Nat) (ret : Option FieldType) (fr lo : Nat) (av : List Value → List Value) (F : Sp) : Prop :=
  ∀ (As : List Value) (M : Mm) (r : Option Value × Mm), F As M = some (.inl r) → ∀ sz : Nat, Met l y (Cond.code y cc nL ret :: k_G) ({ frames := fr, cells := 0, slots := 0, locals := lo }) (va_Pc (av As) (fun U => U.heap.size = sz ∧ k_B ad D cI cL M U)) (fun _ st oc t => oc = .returned r.1 ∧ k_B ad D cI cL r.2 t ∧ va_F (k_A ad sz) st t) 0 0 (k_A ad sz)
def k_cv (ad : Nat → Nat) (X : Cx) (y : MethodName) (cc : ByteArray) (nL : Nat) (ret : Option FieldType) (fr lo : Nat) (av : List Value → List Value) (F : Sp) : Prop := match X with
  | (_, l, _, _, _, _, _, _, _, _, _, D, cI, cL, _, _, _, _) => k_Con l ad D cI cL y cc nL ret fr lo av F
/-- what a method owes at its end -/
def k_E (ad : Nat → Nat) (X : Cx) (ret : Option FieldType) (res : Rs) : Prop := match X with
  | (p, l, e, R, s, m, args, below, meth, c, Q, D, cI, cL, A0, H0, ck, cn) => meth.sig.returnType = ret ∧ meth.locks = false ∧ ∀ (o : Option Value) (M : Mm) (H : Heap) (locs : List Loc), res = .inl (o, M) → va_P D vwCl (k_W ad cI cL M) H → va_S A0 H0 H locs → ∀ t, MQ below (fun _ _ oc t => oc = .returned o ∧ t.heap = H ∧ s.WarmedH t.vm) args s ck cn A0 t → Q t
theorem k_mono {p : Program} {l : Launch} {e : Env} {R : Room} {s : State} {m : MethodId} {args : Array Value} {below : List Frame} {meth : Method} {c : Code} {H : Heap} {locs : List Loc} {cells slots : Nat} {Q Q2 : State → Prop} {g : JFrame} (k : W p l e R s m args below meth c H locs cells slots Q g) (h : ∀ t, Q t → Q2 t) : W p l e R s m args below meth c H locs cells slots Q2 g := by
  intro T hT X
  obtain ⟨t, a, b⟩ := k T hT X
  exact ⟨t, a, h t b⟩
section KR
variable {ad : Nat → Nat} {X : Cx} {cc : ByteArray} {own : String} {nL fr lo pc : Nat} {t : Tr} {res : Rs}
theorem ss_ir (C0 : k_C ad X cc own nL fr lo) (E : k_E ad X (some .int) res) (d : decode cc pc = .ok (.ireturn, 1)) : Sd ad X pc (tt_ir res) := by
  obtain ⟨p, l, e, R, s, m, args, below, meth, c, Q, D, cI, cL, A0, H0, ck, cn⟩ := X
  obtain ⟨hx, hb, hml, hown, hts, hK, hD, hA, hR⟩ := C0
  obtain ⟨hr, hlk, hq⟩ := E
  intro L st M h H locs ls hP hS hl
  unfold tt_ir at h
  split at h
  · exact k_mono (W.iret hx hb hr (fun t ht hW => ⟨rfl, ht, hW⟩) hS.2.2 d hlk) (hq _ _ H locs h hP hS)
  · exact h.elim
theorem ss_zr (C0 : k_C ad X cc own nL fr lo) (E : k_E ad X (some .boolean) res) (d : decode cc pc = .ok (.ireturn, 1)) : Sd ad X pc (tt_zr res) := by
  obtain ⟨p, l, e, R, s, m, args, below, meth, c, Q, D, cI, cL, A0, H0, ck, cn⟩ := X
  obtain ⟨hx, hb, hml, hown, hts, hK, hD, hA, hR⟩ := C0
  obtain ⟨hr, hlk, hq⟩ := E
  intro L st M h H locs ls hP hS hl
  unfold tt_zr at h
  split at h
  · next v =>
    obtain ⟨h0, h⟩ := h
    have hn : narrow .boolean (.int v) = .int v := by rcases h0 with rfl | rfl <;> decide +kernel
    exact k_mono (W.zret hx hb hr hn (fun t ht hW => ⟨rfl, ht, hW⟩) hS.2.2 d hlk) (hq _ _ H locs h hP hS)
  · exact h.elim
theorem ss_lr (C0 : k_C ad X cc own nL fr lo) (E : k_E ad X (some .long) res) (d : decode cc pc = .ok (.lreturn, 1)) : Sd ad X pc (tt_lr res) := by
  obtain ⟨p, l, e, R, s, m, args, below, meth, c, Q, D, cI, cL, A0, H0, ck, cn⟩ := X
  obtain ⟨hx, hb, hml, hown, hts, hK, hD, hA, hR⟩ := C0
  obtain ⟨hr, hlk, hq⟩ := E
  intro L st M h H locs ls hP hS hl
  unfold tt_lr at h
  split at h
  · exact k_mono (W.lret hx hb hr (fun t ht hW => ⟨rfl, ht, hW⟩) hS.2.2 d hlk) (hq _ _ H locs h hP hS)
  · exact h.elim
theorem ss_vr (C0 : k_C ad X cc own nL fr lo) (E : k_E ad X none res) (d : decode cc pc = .ok (.return_, 1)) : Sd ad X pc (tt_vr res) := by
  obtain ⟨p, l, e, R, s, m, args, below, meth, c, Q, D, cI, cL, A0, H0, ck, cn⟩ := X
  obtain ⟨hx, hb, hml, hown, hts, hK, hD, hA, hR⟩ := C0
  obtain ⟨hr, hlk, hq⟩ := E
  intro L st M h H locs ls hP hS hl
  unfold tt_vr at h
  split at h
  · exact k_mono (W.vret hx hb hr (fun t ht hW => ⟨rfl, ht, hW⟩) hS.2.2 d hlk) (hq _ _ H locs h hP hS)
  · exact h.elim
/-- which class the cell o is of -/
def k_rc (o : Nat) (C : String) : Prop := ∃ (ci : Nat) (q : vw_C), vwCl[ci]? = some q ∧ q.1 = C ∧ ∀ ad cI cL M, ∃ fs, (k_W ad cI cL M)[o]? = some (ad o, .inr (ci, fs))
theorem k_rc0 : k_rc 0 RX3 := ⟨3, _, rfl, rfl, fun _ _ _ _ => ⟨_, rfl⟩⟩
theorem k_rc1 : k_rc 1 RX1 := ⟨1, _, rfl, rfl, fun _ _ _ _ => ⟨_, rfl⟩⟩
theorem k_rc2 : k_rc 2 RX0 := ⟨0, _, rfl, rfl, fun _ _ _ _ => ⟨_, rfl⟩⟩
theorem k_rc3 : k_rc 3 RX2 := ⟨2, _, rfl, rfl, fun _ _ _ _ => ⟨_, rfl⟩⟩
/-- the words of a call -/
def k_wv (own : String) (index : Nat) (y : MethodName) (cb : ByteArray) (mL : Nat) (ret : Option FieldType) (n : Nat) : Prop :=
  Cond.methodLink own index y ∈ k_G ∧ Cond.instanceMethod y ∈ k_G ∧ Cond.selects y.cls y y ∈ k_G ∧ Cond.initialized y.cls ∈ k_G ∧ Cond.code y cb mL ret ∈ k_G ∧ y.cls ≠ "java/lang/invoke/MethodHandle" ∧ y.cls ≠ "java/lang/invoke/VarHandle" ∧ (parseMethodDescriptor y.desc).map (fun d => d.parameters.length) = some n
def k_ws (own : String) (index : Nat) (y : MethodName) (cb : ByteArray) (mL : Nat) (ret : Option FieldType) (n : Nat) : Prop :=
  Cond.methodLink own index y ∈ k_G ∧ Cond.static y ∈ k_G ∧ Cond.initialized y.cls ∈ k_G ∧ Cond.code y cb mL ret ∈ k_G ∧ y.cls ≠ "java/lang/invoke/MethodHandle" ∧ y.cls ≠ "java/lang/invoke/VarHandle" ∧ (parseMethodDescriptor y.desc).map (fun d => d.parameters.length) = some n
theorem k_cons {y : MethodName} {cb : ByteArray} {mL : Nat} {ret : Option FieldType} (h : Cond.code y cb mL ret ∈ k_G) : GoodIn k_G (Cond.code y cb mL ret :: k_G) := by
  intro w hw
  rcases List.mem_cons.mp hw with rfl | hw
  · exact k_good _ h
  · exact k_good _ hw
theorem k_len (st : List Value) (h : st.length ≤ 4) : (st.map fun v => v.category).sum ≤ 8 := by
  have key : ∀ (st : List Value), (st.map fun v => v.category).sum ≤ 2 * st.length := by
    intro st
    induction st with
    | nil => simp
    | cons v st ih =>
      simp only [List.map_cons, List.sum_cons, List.length_cons]
      rcases lv_cat v with q | q <;> omega
  have := key st
  omega
theorem k_pre {ad : Nat → Nat} {D : va_G} {cI cL : ClassId} {M : Mm} {sz : Nat} {av : List Value} : FrameBlind (va_Pc av (fun U => U.heap.size = sz ∧ k_B ad D cI cL M U)) :=
  fun a U g mk q => by
    obtain ⟨q0, q1, qP, qK⟩ := q
    exact ⟨q0, q1, qP, va_K.moved (u := U) (U := U.calling g mk a) (Vm.Alike.refl U.vm) qK⟩
theorem k_AA {ad : Nat → Nat} {A0 : Nat → Prop} {D : va_G} {cI cL : ClassId} {M : Mm} {H0 H : Heap} {locs : List Loc} (hD : ∀ M, va_D A0 (k_W ad cI cL M)) (hA : ∀ q, H0.size ≤ q → A0 q) (hS : va_S A0 H0 H locs) : ∀ q, k_A ad H.size q → A0 q := by
  intro q h
  rcases h with ⟨k, hk, rfl⟩ | h
  · match k, hk with
    | 0, _ => exact (hD M).2 0 _ rfl
    | 1, _ => exact (hD M).2 1 _ rfl
    | 2, _ => exact (hD M).2 2 _ rfl
    | 3, _ => exact (hD M).2 3 _ rfl
    | 4, _ => exact (hD M).2 4 _ rfl
    | 5, _ => exact (hD M).2 5 _ rfl
  · exact hA q (Nat.le_trans hS.1 h)
/-- behind a call: any answer -/
theorem k_call {p : Program} {l : Launch} {e : Env} {R : Room} {s : State} {m : MethodId} {args : Array Value} {below : List Frame} {meth : Method} {c : Code} {H : Heap} {locs : List Loc} {cells slots : Nat} {Q : State → Prop} {ls : Array Slot} {rest st0 : List Value} {A0 A1 : Nat → Prop} {H0 : Heap} {mc ms : Nat} {free : Addr → Prop} {D : va_G} {cI cL : ClassId} {r : Option Value × Mm}
    (hr : va_Run p l e R s m args below meth c H locs cells slots mc ms (F0 m pc ls st0) rest (fun st oc t => oc = .returned r.1 ∧ k_B ad D cI cL r.2 t ∧ va_F A1 st t) free) (hS : va_S A0 H0 H locs) (hA : ∀ q, q < H.size → A1 q → A0 q) (hf : ∀ q, free q → A0 q)
    (kk : ∀ (H1 : Heap) (locs1 : List Loc), va_P D vwCl (k_W ad cI cL r.2) H1 → va_S A0 H0 H1 locs1 → W p l e R s m args below meth c H1 locs1 (cells + mc) (slots + ms) Q (F0 m (pc + 3) ls (r.1.toList ++ rest))) : W p l e R s m args below meth c H locs cells slots Q (F0 m pc ls st0) := by
  intro T hT X
  obtain ⟨v, st₀, t, T', L, h0, X', hL, e1, e2, ⟨hv, hb, hz, hk⟩, st⟩ := hr T hT X
  cases hv
  rw [h0] at hz hk
  obtain ⟨t2, a1, b1⟩ := kk T'.heap (locs ++ L) (by rw [e1]; exact hb.1)
    ⟨Nat.le_trans hS.1 (by rw [e1]; exact hz), fun q h1 h2 => by rw [e1, hk q (Nat.lt_of_lt_of_le h1 hS.1) (fun z => h2 (hA q (Nat.lt_of_lt_of_le h1 hS.1) z))]; exact hS.2.1 q h1 h2, fun q hq => by
      rcases List.mem_append.mp hq with h | h
      · exact hS.2.2 q h
      · exact hf _ (hL q h)⟩ T' rfl X'
  exact ⟨t2, st t2 a1, b1⟩
theorem ss_cv {o n index mL fr2 lo2 : Nat} {C : String} {y : MethodName} {cb : ByteArray} {ret : Option FieldType} {F : Sp} (ho : k_rc o C) (C0 : k_C ad X cc own nL fr lo) (d : decode cc pc = .ok (.invokevirtual index, 3)) (hw : k_wv own index y cb mL ret n) (hyC : y.cls = C) (hc : k_cv ad X y cb mL ret fr2 lo2 (fun As => .ref (ad o) :: As) F) (hfl : ((fr2 + 1).ble fr && (8 + (mL + 11) + lo2).ble lo) = true) (k : Sd ad X (pc + 3) t) : Sd ad X pc (tt_cv ad o n F t) := by
  obtain ⟨p, l, e, R, s, m, args, below, meth, c, Q, D, cI, cL, A0, H0, ck, cn⟩ := X
  obtain ⟨hx, hb, hml, hown, hts, hK, hD, hA, hR⟩ := C0
  subst hyC
  rw [Bool.and_eq_true] at hfl
  obtain ⟨w1, w2, w3, w4, w5, w6, w7, w8⟩ := hw
  intro L st M h H locs ls hP hS hl
  unfold tt_cv at h
  split at h
  · next a rest hst =>
    obtain ⟨rfl, hlen, h⟩ := h
    split at h
    · next r hF =>
      have hM := hc _ M r hF H.size
      have hl4 := k_len rest hlen
      have hst2 : st = (st.take n).reverse.reverse ++ .ref (ad o) :: rest := by
        rw [List.reverse_reverse, ← hst, List.take_append_drop]
      have hn : (st.take n).reverse.length = n := by
        rw [List.length_reverse, List.length_take]
        have : (st.drop n).length = (Value.ref (ad o) :: rest).length := by rw [hst]
        rw [List.length_drop, List.length_cons] at this
        omega
      obtain ⟨ci, q, hc1, hc2, hc3⟩ := ho
      obtain ⟨fs, hfs⟩ := hc3 ad cI cL M
      have hG : GoodIn k_G (wsV own index y.cls y (Cond.code y cb mL ret :: k_G)) := by
        intro w hw
        unfold wsV at hw
        rcases List.mem_append.mp hw with hw | hw
        · simp only [List.mem_cons, List.not_mem_nil, or_false] at hw
          rcases hw with rfl | rfl | rfl | rfl
          · exact k_good _ w1
          · exact k_good _ w2
          · exact k_good _ w3
          · exact k_good _ w4
        · exact k_cons w5 w hw
      have hfr : fr2 + 1 ≤ R.frames ∧ 8 + (mL + 11) + lo2 ≤ R.locals := ⟨Nat.le_trans (Nat.le_of_ble_eq_true hfl.1) hR.1, Nat.le_trans (Nat.le_of_ble_eq_true hfl.2) hR.2.1⟩
      refine k_call (va_runV (As := (st.take n).reverse) (rest := rest) ⟨hx, hb, hml, hown, hts⟩ hM (cwV n hts hG rfl rfl rfl ⟨rfl, w6, w7, w8⟩ hfr) ⟨k_pre, ?_, fun U hU hW => ⟨rfl, by rw [hU], by rw [hU]; exact hP, va_K.moved hW.alike hK⟩⟩ rfl hn (by rw [← hml]; exact hl.1) hst2 (lv_room hl4) d ⟨hR.2.2.1, hR.2.2.2⟩) hS (fun q _ z => k_AA (M := M) (D := D) hD hA hS q z) (k_AA (M := M) (D := D) hD hA hS) (fun H1 locs1 hP1 hS1 => k L _ _ h H1 locs1 ls hP1 hS1 hl)
      have := va_recv hK hP hc1 hfs
      rw [hc2] at this
      exact this
    · exact h.elim
  · exact h.elim
theorem ss_cs {n index mL fr2 lo2 : Nat} {y : MethodName} {cb : ByteArray} {ret : Option FieldType} {F : Sp} (C0 : k_C ad X cc own nL fr lo) (d : decode cc pc = .ok (.invokestatic index, 3)) (hw : k_ws own index y cb mL ret n) (hc : k_cv ad X y cb mL ret fr2 lo2 (fun As => As) F) (hfl : ((fr2 + 1).ble fr && (8 + (mL + 11) + lo2).ble lo) = true) (k : Sd ad X (pc + 3) t) : Sd ad X pc (tt_cs n F t) := by
  obtain ⟨p, l, e, R, s, m, args, below, meth, c, Q, D, cI, cL, A0, H0, ck, cn⟩ := X
  obtain ⟨hx, hb, hml, hown, hts, hK, hD, hA, hR⟩ := C0
  rw [Bool.and_eq_true] at hfl
  obtain ⟨w1, w2, w4, w5, w6, w7, w8⟩ := hw
  intro L st M h H locs ls hP hS hl
  unfold tt_cs at h
  obtain ⟨hn0, hlen, h⟩ := h
  split at h
  · next r hF =>
    have hM := hc _ M r hF H.size
    have hl4 := k_len _ hlen
    have hst2 : st = (st.take n).reverse.reverse ++ st.drop n := by
      rw [List.reverse_reverse, List.take_append_drop]
    have hn : (st.take n).reverse.length = n := by
      rw [List.length_reverse, List.length_take]
      omega
    have hfr : fr2 + 1 ≤ R.frames ∧ 8 + (mL + 11) + lo2 ≤ R.locals := ⟨Nat.le_trans (Nat.le_of_ble_eq_true hfl.1) hR.1, Nat.le_trans (Nat.le_of_ble_eq_true hfl.2) hR.2.1⟩
    exact k_call (va_runS (As := (st.take n).reverse) (rest := st.drop n) ⟨hx, hb, hml, hown, hts⟩ hM ⟨callB_of n hts (k_cons w5) rfl rfl rfl (hts _ w4) (hts _ w1) ⟨w6, w7, w8⟩ hfr, hts _ w2⟩ ⟨k_pre, fun U hU hW => ⟨rfl, by rw [hU], by rw [hU]; exact hP, va_K.moved hW.alike hK⟩⟩ rfl hn (by rw [← hml]; exact hl.1) hst2 (lv_room hl4) d ⟨hR.2.2.1, hR.2.2.2⟩) hS (fun q _ z => k_AA (M := M) (D := D) hD hA hS q z) (k_AA (M := M) (D := D) hD hA hS) (fun H1 locs1 hP1 hS1 => k L _ _ h H1 locs1 ls hP1 hS1 hl)
  · exact h.elim
end KR
/-- the locals with which a method begins -/
def k_en : List Value → Ls
  | [] => []
  | .long x :: t => some (.long x) :: none :: k_en t
  | v :: t => some v :: k_en t
/-- as Met.ofW, for a class that isn't plainly named too -/
theorem k_ofW {l : Launch} {y : MethodName} {ws ws' : List Cond} {rm : Room} {Pc : Array Value → State → Prop} {Qc : Array Value → State → Outcome → State → Prop} {mc ms : Nat} {free : Addr → Prop} {cc : ByteArray} {maxL : Nat} {ret : Option FieldType}
    (hy : plainFor y = true) (hw : ws = Cond.code y cc maxL ret :: ws')
    (body : ∀ p e s m args below meth c s₁, BodyLoose p l y (headSpec ws rm) cc maxL ret e s m args below meth c s₁ → c.maxLocals = maxL → Pc args s →
      W p l e (headSpec ws rm).room s m args below meth c s.heap [] 0 0 (MQ below Qc args s mc ms free) (entryFrame m args maxL)) : Met l y ws rm Pc Qc mc ms free := by
  refine MetFree.of_bodySF (code := cc) (maxLocals := maxL) (ret := ret) hy ?_ ?_
  · intro args s m h hn
    obtain ⟨meth, c, h1, h2, h3, h4, h5, h6, -, -⟩ := Cond.code_spec hn (atoms_spec (ws := ws) h _ (by rw [hw]; exact List.mem_cons_self))
    exact ⟨meth, c, h1, h2, h3, h4, h5, h6⟩
  · intro p e s m args below meth c s₁ B hml hP _
    have hh0 : s₁.heap = s.heap := by rw [B.state]; rfl
    obtain ⟨t, a1, o, b1, b2, b3⟩ := body p e s m args below meth c s₁ B hml hP s₁ hh0 (Stand.of_body B)
    exact ⟨t, o, a1, b1, b2, ⟨b3.1, b3.2⟩⟩
/-- a contract out of a tree that is sound at every frame and holds at the entry -/
theorem k_con {l : Launch} {ad : Nat → Nat} {D : va_G} {cI cL : ClassId} {y : MethodName} {cc : ByteArray} {nL fr lo : Nat} {ret : Option FieldType} {av : List Value → List Value} {F : Sp} {tree : Rs → Tr} (hI : k_I ad) (hy : plainFor y = true)
    (hs : ∀ (X : Cx) (res : Rs), X.2.1 = l → (X.2.2.2.2.2.2.2.2.2.2.2.1 = D ∧ X.2.2.2.2.2.2.2.2.2.2.2.2.1 = cI ∧ X.2.2.2.2.2.2.2.2.2.2.2.2.2.1 = cL) → k_C ad X cc y.cls nL fr lo → k_E ad X ret res → Sd ad X 0 (tree res))
    (hp : ∀ As M r, F As M = some (.inl r) → ((lg_sl (av As)).length ≤ nL ∧ ∃ L : Ls, (∀ q ∈ k_asc 0 L, q ∈ lv_args 0 (av As)) ∧ tree (.inl r) L [] M)) :
    k_Con l ad D cI cL y cc nL ret fr lo av F := by
  intro As M r hF sz
  obtain ⟨hlen, L, hL, ht⟩ := hp As M r hF
  refine k_ofW (cc := cc) (maxL := nL) (ret := ret) hy rfl ?_
  intro p e s m args below meth c s₁ B hml hv
  obtain ⟨rfl, hsz, hP, hK⟩ := hv
  have hts := atoms_spec (ws := Cond.code y cc nL ret :: k_G) B.pre
  subst hsz
  have hl := lv_entry (av As) (n := nL) hlen
  rw [lg_entry_eq]
  generalize (lg_sl (av As) ++ List.replicate (nL - (lg_sl (av As)).length) Slot.unset).toArray = ls at hl ⊢
  have hl2 : lv_has ls c.maxLocals (k_asc 0 L) := by rw [hml]; exact ⟨hl.1, hl.2.1, fun q hq => hl.2.2 q (hL q hq)⟩
  exact hs (p, l, e, _, s, m, _, below, meth, c, _, D, cI, cL, k_A ad s.heap.size, s.heap, 0, 0) (.inl r) rfl ⟨rfl, rfl, rfl⟩
    ⟨B.exec, B.bytes, hml, findClass_of_methodNamed B.named, fun w hw => hts w (List.mem_cons_of_mem _ hw), hK, k_WD hI _ cI cL, fun q hq => Or.inr hq, Nat.le_refl _, Nat.le_refl _, Nat.le_refl _, Nat.le_refl _⟩
    ⟨B.returns, B.notSynchronized, fun o M1 H locs he hP1 hS1 t hQ => by
      cases he
      obtain ⟨oc, b1, b2, ⟨h1, h2, h3⟩, b4⟩ := hQ
      exact ⟨oc, b1, b2, ⟨h1, ⟨by rw [h2]; exact hP1, va_K.moved h3.alike hK⟩, hS1.F h2⟩, b4⟩⟩ L [] M ht s.heap [] ls hP va_S.rf hl2
