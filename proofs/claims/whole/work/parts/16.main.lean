/-! ===== what the abstract machine answers, the machine does (the proof) ===== -/
theorem ac_ofW {l : Launch} {y : MethodName} {ws ws' : List Cond} {rm : Room} {Pc : Array Value → State → Prop} {Qc : Array Value → State → Outcome → State → Prop} {XC : String → State → State → Prop} {mc ms : Nat} {free : Addr → Prop} {cc : ByteArray} {maxL : Nat} {ret : Option FieldType}
    (hy : plainFor y = true) (hw : ws = Cond.code y cc maxL ret :: ws')
    (body : ∀ p e s m args below meth c s₁, BodyLoose p l y (headSpec ws rm) cc maxL ret e s m args below meth c s₁ → c.maxLocals = maxL → (∀ x ∈ c.exceptionTable.toList, False) → Pc args s →
      W p l e (headSpec ws rm).room s m args below meth c s.heap [] 0 0 (vx_MQ below Qc XC args s mc ms free) (entryFrame m args maxL)) : vx_Met l y ws rm Pc Qc XC mc ms free := by
  refine MetFree.of_bodySF (code := cc) (maxLocals := maxL) (ret := ret) hy ?_ ?_
  · intro args s m h hn
    obtain ⟨meth, c, h1, h2, h3, h4, h5, h6, -, -⟩ := Cond.code_spec hn (atoms_spec (ws := ws) h _ (by rw [hw]; exact List.mem_cons_self))
    exact ⟨meth, c, h1, h2, h3, h4, h5, h6⟩
  · intro p e s m args below meth c s₁ B hml hP _
    have hh0 : s₁.heap = s.heap := by rw [B.state]; rfl
    have ht : ∀ x ∈ c.exceptionTable.toList, False := by
      obtain ⟨meth9, c9, h1, h2, -, -, -, -, h7, -⟩ := Cond.code_spec B.named (atoms_spec (ws := ws) B.pre _ (by rw [hw]; exact List.mem_cons_self))
      cases Option.some.inj (h1.symm.trans B.method)
      cases Option.some.inj (h2.symm.trans (Stand.of_body B).code)
      intro x hx
      rw [Array.isEmpty_iff.mp h7] at hx
      cases hx
    obtain ⟨t, a1, o, b1, b2, b3⟩ := body p e s m args below meth c s₁ B hml ht hP s₁ hh0 (Stand.of_body B)
    exact ⟨t, o, a1, b1, b2, b3⟩
theorem ac_ofWH {l : Launch} {y : MethodName} {ws ws' : List Cond} {rm : Room} {Pc : Array Value → State → Prop} {Qc : Array Value → State → Outcome → State → Prop} {XC : String → State → State → Prop} {mc ms : Nat} {free : Addr → Prop} {cc : ByteArray} {maxL : Nat} {ret : Option FieldType} {hh : List (Nat × Nat × Nat × Nat)}
    (hy : plainFor y = true) (hw : ws = Cond.codeWith y cc maxL ret hh :: ws')
    (body : ∀ p e s m args below meth c s₁, BodyLoose p l y (headSpec ws rm) cc maxL ret e s m args below meth c s₁ → c.maxLocals = maxL → Pc args s →
      W p l e (headSpec ws rm).room s m args below meth c s.heap [] 0 0 (vx_MQ below Qc XC args s mc ms free) (entryFrame m args maxL)) : vx_Met l y ws rm Pc Qc XC mc ms free := by
  refine MetFree.of_bodySF (code := cc) (maxLocals := maxL) (ret := ret) hy ?_ ?_
  · intro args s m h hn
    obtain ⟨m9, meth, c, hn9, h1, h2, h3, h4, -, h5, h6, -⟩ := Cond.codeWith_spec (atoms_spec (ws := ws) h _ (by rw [hw]; exact List.mem_cons_self))
    cases hn.symm.trans hn9
    exact ⟨meth, c, h1, h2, h3, h4, h5, h6⟩
  · intro p e s m args below meth c s₁ B hml hP _
    have hh0 : s₁.heap = s.heap := by rw [B.state]; rfl
    obtain ⟨t, a1, o, b1, b2, b3⟩ := body p e s m args below meth c s₁ B hml hP s₁ hh0 (Stand.of_body B)
    exact ⟨t, o, a1, b1, b2, b3⟩
def ac_rt (meth : Method) (c : Code) (pc : Nat) (v : Option Value) : Prop := (v = none ∧ decode c.code pc = .ok (.return_, 1) ∧ meth.sig.returnType = none) ∨ ∃ (i : Int32) (ty : FieldType), v = some (.int i) ∧ decode c.code pc = .ok (.ireturn, 1) ∧ meth.sig.returnType = some ty ∧ narrow ty (.int i) = .int i
def ac_end (E : ac_E) (r : ac_R) (p : Program) (l : Launch) (e : Env) (R : Room) (s : State) (m : MethodId) (args : Array Value) (below : List Frame) (meth : Method) (c : Code) (Q : State → Prop) : Prop := match r.1 with
  | .inl v => ∀ (H : Heap) (locs : List Loc) (la : Array Slot) (pc : Nat), ac_W E r.2.1 H → va_S (ac_A E) s.heap H locs → ac_rt meth c pc v → W p l e R s m args below meth c H locs r.2.2.1 r.2.2.2 Q (F0 m pc la (v.toList.map (ac_v E)))
  | .inr x => ∃ (Qc : Array Value → State → Outcome → State → Prop) (XC : String → State → State → Prop) (mc ms : Nat), Q = vx_MQ below Qc XC args s mc ms (ac_A E) ∧ r.2.2.1 ≤ mc ∧ r.2.2.2 ≤ ms ∧ ∀ t : State, ac_W E r.2.1 t.heap → va_F (ac_A E) s t → XC (ac_exn x) s t
theorem ac_mono {T : Nat → Nat → ac_O} {HD : ac_HD} {nl : Nat → Nat} (hT : ∀ y pc f, T y pc = .inl f → ac_mn f) : ∀ (n y : Nat) (σ : ac_S) (r : ac_R), ac_x T HD nl n y σ = some r → σ.2.2.2.2.1 ≤ r.2.2.1 ∧ σ.2.2.2.2.2 ≤ r.2.2.2 := by
  intro n
  induction n with
  | zero => intro y σ r h; cases h
  | succ n ih =>
    rintro y ⟨pc, ls, st, h, c, k⟩ r hx
    rw [ac_x] at hx
    split at hx
    · rename_i f hf
      split at hx
      · rename_i σ hs
        have h1 := hT y pc f hf _ _ hs
        have h2 := ih y σ r hx
        exact ⟨Nat.le_trans h1.1 h2.1, Nat.le_trans h1.2 h2.2⟩
      · cases hx
    · split at hx
      · split at hx
        · have h2 := ih _ _ _ hx
          exact ⟨Nat.le_trans (Nat.le_add_right _ _) h2.1, Nat.le_trans (Nat.le_add_right _ _) h2.2⟩
        · split at hx
          · have h2 := ih _ _ _ (ac_set_some hx).2
            exact ⟨Nat.le_trans (Nat.le_add_right _ _) h2.1, Nat.le_trans (Nat.le_add_right _ _) h2.2⟩
          · cases hx
            exact ⟨Nat.le_add_right _ _, Nat.le_add_right _ _⟩
          · cases hx
        · cases hx
      · cases hx
    · split at hx
      · cases hx
        exact ⟨Nat.le_refl _, Nat.le_refl _⟩
      · cases hx
        exact ⟨Nat.le_refl _, Nat.le_refl _⟩
      · split at hx
        · cases hx
          exact ⟨Nat.le_refl _, Nat.le_refl _⟩
        · cases hx
      · cases hx
    · split at hx
      · cases hx
        exact ⟨Nat.le_add_right _ _, Nat.le_add_right _ _⟩
      · cases hx
/-- soundness of all runs of n strides -/
def ac_snd (E : ac_E) (MD : Nat → ac_M) (T : Nat → Nat → ac_O) (HD : ac_HD) (l : Launch) (n : Nat) : Prop :=
  ∀ (y pc : Nat) (ls st : List Value) (h : ac_H) (cn kn : Nat) (r : ac_R), ac_x T HD (fun z => (MD z).2.2.1) n y (pc, ls, st, h, cn, kn) = some r →
  ∀ (p : Program) (e : Env) (R : Room) (s : State) (m : MethodId) (args : Array Value) (below : List Frame) (meth : Method) (c : Code), ac_X E (MD y) p l R s m meth c →
  ∀ (Q : State → Prop), ac_end E r p l e R s m args below meth c Q → r.2.2.1 ≤ R.cells → r.2.2.2 ≤ R.slots →
  ∀ (H : Heap) (locs : List Loc) (la : Array Slot), ac_W E h H → va_S (ac_A E) s.heap H locs → ac_L E la (MD y).2.2.1 ls →
  W p l e R s m args below meth c H locs cn kn Q (F0 m pc la (st.map (ac_v E)))
/-- a method's body out of what holds at its start -/
theorem ac_body {E : ac_E} {d : ac_M} {l : Launch} (hl : l.stackTraces = false) {ws : List Cond} {c' k' : Nat} {as : List Value} {h : ac_H} (ho : ∀ a ∈ as, ac_one a = true) (hn : as.length ≤ d.2.2.1) {Qf : List Frame → Array Value → State → State → Prop}
    {p : Program} {e : Env} {s : State} {m : MethodId} {args : Array Value} {below : List Frame} {meth : Method} {c : Code} {s₁ : State} (B : BodyLoose p l d.1 (headSpec ws (ac_ro d c' k')) d.2.1 d.2.2.1 d.2.2.2.1 e s m args below meth c s₁) (hml : c.maxLocals = d.2.2.1)
    (htf : d.2.2.2.2.2.2.2 = false → ∀ x ∈ c.exceptionTable.toList, False) (htt : d.2.2.2.2.2.2.2 = true → c.exceptionTable.toList = tableOf d.2.2.2.2.2.2.1) (hP : ac_Pc E as h args s)
    (k : ac_X E d p l (ac_ro d c' k') s m meth c → ∀ la : Array Slot, ac_L E la d.2.2.1 (as ++ List.replicate (d.2.2.1 - as.length) ac_un) → W p l e (ac_ro d c' k') s m args below meth c s.heap [] 0 0 (Qf below args s) (F0 m 0 la [])) :
    W p l e (headSpec ws (ac_ro d c' k')).room s m args below meth c s.heap [] 0 0 (Qf below args s) (entryFrame m args d.2.2.1) := by
  obtain ⟨rfl, hG, hW⟩ := hP
  have X : ac_X E d p l (ac_ro d c' k') s m meth c := ⟨B.exec, B.bytes, B.returns, hml, findClass_of_methodNamed B.named, B.notSynchronized, (name_of_methodNamed B.named B.method).1, htf, htt, Nat.le_refl _, Nat.le_refl _, hl, hG⟩
  rw [lg_entry_eq]
  exact k X _ (ac_entry ho hn)
theorem ac_endr {E : ac_E} {d : ac_M} {l : Launch} {v : Option Value} {h' : ac_H} {c' k' : Nat} {p : Program} {e : Env} {R : Room} {s : State} {m : MethodId} {args : Array Value} {below : List Frame} {meth : Method} {c : Code} {XC : String → State → State → Prop} (X : ac_X E d p l R s m meth c) :
    ac_end E (.inl v, h', c', k') p l e R s m args below meth c (vx_MQ below (ac_Qr E v h') XC args s c' k' (ac_A E)) := by
  obtain ⟨hx, hb, hr, hml, hown, hlk, hnm, htf, htt, hfr, hlo, hst, hG⟩ := X
  intro H locs la pc hW hS hrt
  rcases hrt with ⟨rfl, hd, hre⟩ | ⟨i, ty, rfl, hd, hre, hna⟩
  · exact vx_ret (W.vret hx rfl hre (fun t ht hW9 => ⟨rfl, by rw [ht]; exact hW, hS.F ht⟩) hS.2.2 hd hlk)
  · exact vx_ret (W.zret hx rfl hre hna (fun t ht hW9 => ⟨rfl, by rw [ht]; exact hW, hS.F ht⟩) hS.2.2 hd hlk)
theorem ac_endt {E : ac_E} {l : Launch} {x : Nat} {h' : ac_H} {c' k' : Nat} {p : Program} {e : Env} {R : Room} {s : State} {m : MethodId} {args : Array Value} {below : List Frame} {meth : Method} {c : Code} {Qc : Array Value → State → Outcome → State → Prop} :
    ac_end E (.inr x, h', c', k') p l e R s m args below meth c (vx_MQ below Qc (ac_Xr E x h') args s c' k' (ac_A E)) :=
  ⟨Qc, ac_Xr E x h', c', k', rfl, Nat.le_refl _, Nat.le_refl _, fun t hw hF => ⟨rfl, hw, hF⟩⟩
section Main10
variable {E : ac_E} {MD : Nat → ac_M} {T : Nat → Nat → ac_O} {HD : ac_HD} {l : Launch}
theorem ac_toM (hl : l.stackTraces = false) (hP : ∀ z, plainFor (MD z).1 = true) {n z : Nat} (ih : ac_snd E MD T HD l n) {as : List Value} {h h' : ac_H} {o : Option Value ⊕ Nat} {c' k' : Nat} (ho : ∀ a ∈ as, ac_one a = true) (hn : as.length ≤ (MD z).2.2.1)
    (hx : ac_x T HD (fun z => (MD z).2.2.1) n z (0, as ++ List.replicate ((MD z).2.2.1 - as.length) ac_un, [], h, 0, 0) = some (o, h', c', k')) (Qc : Array Value → State → Outcome → State → Prop) (XC : String → State → State → Prop)
    (hend : ∀ (p : Program) (e : Env) (s : State) (m : MethodId) (args : Array Value) (below : List Frame) (meth : Method) (c : Code), ac_X E (MD z) p l (ac_ro (MD z) c' k') s m meth c → ac_end E (o, h', c', k') p l e (ac_ro (MD z) c' k') s m args below meth c (vx_MQ below Qc XC args s c' k' (ac_A E))) :
    vx_Met l (MD z).1 [ac_cw (MD z)] (ac_ro (MD z) c' k') (ac_Pc E as h) Qc XC c' k' (ac_A E) := by
  cases ht : (MD z).2.2.2.2.2.2.2 with
  | false =>
    rw [ac_cw_code ht]
    refine ac_ofW (hP z) rfl (fun p e s m args below meth c s₁ B hml hnt hPc => ?_)
    exact ac_body (Qf := fun below args s => vx_MQ below Qc XC args s c' k' (ac_A E)) hl ho hn B hml (fun _ => hnt) (fun q => by rw [ht] at q; cases q) hPc (fun X la hL => ih z _ _ _ _ _ _ _ hx p e _ s m args below meth c X _ (hend p e s m args below meth c X) (Nat.le_refl _) (Nat.le_refl _) s.heap [] la hPc.2.2 va_S.rf hL)
  | true =>
    rw [ac_cw_with ht]
    refine ac_ofWH (hP z) rfl (fun p e s m args below meth c s₁ B hml hPc => ?_)
    have hcw : (Cond.codeWith (MD z).1 (MD z).2.1 (MD z).2.2.1 (MD z).2.2.2.1 (MD z).2.2.2.2.2.2.1).before args s = true := atoms_spec (ws := [_]) B.pre _ List.mem_cons_self
    exact ac_body (Qf := fun below args s => vx_MQ below Qc XC args s c' k' (ac_A E)) hl ho hn B hml (fun q => by rw [ht] at q; cases q) (fun _ => vx_table (x := (MD z).1) B hcw) hPc (fun X la hL => ih z _ _ _ _ _ _ _ hx p e _ s m args below meth c X _ (hend p e s m args below meth c X) (Nat.le_refl _) (Nat.le_refl _) s.heap [] la hPc.2.2 va_S.rf hL)
theorem ac_take {st : List Value} {na : Nat} : ((st.take na).reverse).reverse ++ st.drop na = st := by rw [List.reverse_reverse, List.take_append_drop]
theorem ac_main (hV : ∀ y pc, ac_V E MD HD y pc (T y pc)) (hl : l.stackTraces = false) (hP : ∀ z, plainFor (MD z).1 = true) : ∀ n, ac_snd E MD T HD l n := by
  have hmn : ∀ y pc f, T y pc = .inl f → ac_mn f := fun y pc f hf => by
    have h := hV y pc
    rw [hf] at h
    exact h.2
  intro n
  induction n with
  | zero => intro y pc ls st h cn kn r hx; cases hx
  | succ n ih =>
    intro y pc ls st h cn kn r hx p e R s m args below meth c X Q hend hrc hrs H locs la hW hS hL
    have hv := hV y pc
    rw [ac_x] at hx
    split at hx
    · rename_i f hf
      rw [hf] at hv
      split at hx
      · rename_i σ hs
        obtain ⟨pc', ls', st', h', cn', kn'⟩ := σ
        have hm := ac_mono hmn n y _ r hx
        exact hv.1 p l e R s m args below meth c X Q ls st h cn kn pc' ls' st' h' cn' kn' hs (Nat.le_trans hm.1 hrc) (Nat.le_trans hm.2 hrs) H locs la hW hS hL (fun H1 locs1 la1 w1 s1 l1 => ih y pc' ls' st' h' cn' kn' r hx p e R s m args below meth c X Q hend hrc hrs H1 locs1 la1 w1 s1 l1)
      · cases hx
    · rename_i z na nx rv hf
      rw [hf] at hv
      split at hx
      · rename_i hc
        obtain ⟨hc1, hc2, hc3, hc4, hc5⟩ := hc
        have hln : (st.take na).reverse.length = na := by simp; omega
        have ho : ∀ a ∈ (st.take na).reverse, ac_one a = true := fun a ha => List.all_eq_true.mp hc4 a (List.mem_reverse.mp ha)
        rw [show List.replicate ((MD z).2.2.1 - na) ac_un = List.replicate ((MD z).2.2.1 - (st.take na).reverse.length) ac_un by rw [hln]] at hx
        rw [show st.map (ac_v E) = (((st.take na).reverse).reverse ++ st.drop na).map (ac_v E) by rw [ac_take]]
        split at hx
        · rename_i v h' c' k' hz
          have hm := ac_mono hmn n y _ r hx
          have hM : ac_Mr l E (MD z) (st.take na).reverse h v h' c' k' := ac_toM hl hP ih ho (by rw [hln]; exact hc3) hz _ _ (fun p e s m args below meth c X => ac_endr X)
          exact hv.1 p l e R s m args below meth c X Q ls (st.take na).reverse (st.drop na) h cn kn v h' c' k' hln ho hc5 hc2 hM (Nat.le_trans hm.1 hrc) (Nat.le_trans hm.2 hrs) H locs la hW hS hL (fun H1 locs1 w1 s1 => ih y nx ls _ h' _ _ r hx p e R s m args below meth c X Q hend hrc hrs H1 locs1 la w1 s1 hL)
        · rename_i x h' c' k' hz
          have hM : ac_Mt l E (MD z) (st.take na).reverse h x h' c' k' := ac_toM hl hP ih ho (by rw [hln]; exact hc3) hz _ _ (fun p e s m args below meth c X => ac_endt)
          split at hx
          · rename_i i nx' hh
            obtain ⟨hi, hx⟩ := ac_set_some hx
            have hm := ac_mono hmn n y _ r hx
            obtain ⟨ht, hk⟩ := (hv.2 x).2 i nx' hh
            exact ht p l e R s m args below meth c X Q ls (st.take na).reverse (st.drop na) h cn kn x h' c' k' hln ho hc5 hc2 hM (Nat.le_trans hm.1 hrc) (Nat.le_trans hm.2 hrs) H locs la hW hS hL (fun H1 locs1 q ce w1 s1 g1 g2 g3 => hk p l e R s m args below meth c X Q ls _ _ _ H1 locs1 la q ce hL hi g1 g2 g3 (fun la1 l1 => ih y nx' (ls.set i ac_un) [] h' _ _ r hx p e R s m args below meth c X Q hend hrc hrs H1 locs1 la1 w1 s1 l1))
          · rename_i hh
            cases hx
            obtain ⟨hnt, ht⟩ := (hv.2 x).1 hh
            obtain ⟨Qc, XC, mc, ms, rfl, h1, h2, hX⟩ := hend
            exact ht p l e R s m args below meth c X _ ls (st.take na).reverse (st.drop na) h cn kn x h' c' k' hln ho hc5 hc2 hM hrc hrs H locs la hW hS hL (fun H1 locs1 q ce w1 s1 g1 g2 g3 => vx_out (fun z hz => (X.2.2.2.2.2.2.2.1 hnt z hz).elim) X.2.2.2.2.2.1 g1 g2 g3 (fun t ht9 _ => hX t (by rw [ht9]; exact w1) (s1.F ht9)) s1.2.2 h1 h2)
          · cases hx
        · cases hx
      · cases hx
    · rename_i b hf
      rw [hf] at hv
      split at hx
      · cases hx
        have hd := hv.1 rfl
        exact hend H locs la pc hW hS (Or.inl ⟨rfl, by rw [X.2.1]; exact hd.1, by rw [X.2.2.1]; exact hd.2⟩)
      · rename_i v
        cases hx
        have hd := hv.2.1 rfl
        exact hend H locs la pc hW hS (Or.inr ⟨v, .int, rfl, by rw [X.2.1]; exact hd.1, by rw [X.2.2.1]; exact hd.2, rfl⟩)
      · rename_i v
        split at hx
        · rename_i h01
          cases hx
          have hd := hv.2.2 rfl
          exact hend H locs la pc hW hS (Or.inr ⟨v, .boolean, rfl, by rw [X.2.1]; exact hd.1, by rw [X.2.2.1]; exact hd.2, by rcases h01 with rfl | rfl <;> rfl⟩)
        · cases hx
      · cases hx
    · rename_i x hf
      rw [hf] at hv
      split at hx
      · cases hx
        obtain ⟨Qc, XC, mc, ms, rfl, h1, h2, hX⟩ := hend
        exact hv p l e R s m args below meth c X Qc XC h ls cn kn mc ms H locs la hW hS hL hrc hrs h1 h2 hX
      · cases hx
end Main10
