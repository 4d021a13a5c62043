/-! ===== the operations on cells ===== -/
theorem ac_one_P {E : ac_E} {h : ac_H} {H : Heap} {a ci : Nat} {fs : List Value} {r : vw_C} (hW : ac_W E h H) (hh : h[a]? = some (.inr (ci, fs))) (hc : vwCl[ci]? = some r) : va_P (ac_D E) vwCl [(ac_b E + a, .inr (ci, fs.map (ac_v E)))] H := by
  intro k q hk
  have hz : k < 1 := (List.getElem?_eq_some_iff.mp hk).1
  rw [show k = 0 by omega] at hk
  cases hk
  exact ⟨r, hc, hW.2 a _ hh r hc⟩
theorem ac_one_Q {E : ac_E} {h : ac_H} {H : Heap} {a : Nat} {x : FieldType × vp_A} (hW : ac_W E h H) (hh : h[a]? = some (.inl x)) : va_P (ac_D E) vwCl [(ac_b E + a, .inl (ac_ca E x.1, x.2))] H := by
  intro k q hk
  have hz : k < 1 := (List.getElem?_eq_some_iff.mp hk).1
  rw [show k = 0 by omega] at hk
  cases hk
  exact hW.2 a _ hh
theorem ac_in_vp {i : Int32} {n : Nat} (h : ac_in i n = true) : vp_in i n := by
  simp only [ac_in, Bool.and_eq_true, decide_eq_true_eq] at h
  exact fun q => q.elim h.1 (fun q => absurd h.2 (Nat.not_lt.mpr q))
theorem ac_tl {P : Prop} {a b : Nat} (h : a ≤ b ∧ P) : a ≤ b := h.1
theorem ok_getf {E : ac_E} {d : ac_M} {pc : Nat} {ci f index : Nat} {C ref : String} {T : u_T} {N : Nat} (hc : vwCl[ci]? = some (C, T, N)) (hin : ∀ w ∈ u_ws C T N, w ∈ ac_tbl) (hfn : f < N) (href : (T f).1 = ref) (hw : Cond.fieldLink d.1.cls index ref (T f).2.1 (T f).2.2.1 ∈ ac_tbl) (hd : decode d.2.1 pc = .ok (.getfield index, 3)) : ac_ok E d pc (o_get ci f (pc + 3)) := by
  intro p l e R s m args below meth c X Q ls st h cn kn pc' ls' st' h' cn' kn' hf hrc hrs H locs la hW hS hL k
  obtain ⟨hx, hb, hr, hml, hown, hlk, hnm, htf, htt, hfr, hlo, hl, hG⟩ := X
  subst href
  unfold o_get at hf
  dsimp only at hf
  split at hf
  · rename_i a st1
    split at hf
    · rename_i cj fs hh
      split at hf
      · rename_i hcj
        subst hcj
        split at hf
        · rename_i v hv
          cases hf
          exact va_get hx hb (hG.2.1 args) hin hown hG.2.2.1 (ac_one_P hW hh hc) 0 rfl hc f hfn (hG.2.1 _ _ hw) (fun _ q => q) (v := ac_v E v) (by rw [List.getElem?_map, hv]; rfl) hd (k H locs la hW hS hL)
        · cases hf
      · cases hf
    · cases hf
  · cases hf
theorem ok_getN {E : ac_E} {d : ac_M} {pc : Nat} {ci f index : Nat} {C ref : String} {T : u_T} {N : Nat} (hc : vwCl[ci]? = some (C, T, N)) (hin : ∀ w ∈ u_ws C T N, w ∈ ac_tbl) (hfn : f < N) (href : (T f).1 = ref) {host : String} (hw : Cond.fieldLinkNest d.1.cls index ref (T f).2.1 (T f).2.2.1 host ∈ ac_tbl) (hd : decode d.2.1 pc = .ok (.getfield index, 3)) : ac_ok E d pc (o_get ci f (pc + 3)) := by
  intro p l e R s m args below meth c X Q ls st h cn kn pc' ls' st' h' cn' kn' hf hrc hrs H locs la hW hS hL k
  obtain ⟨hx, hb, hr, hml, hown, hlk, hnm, htf, htt, hfr, hlo, hl, hG⟩ := X
  subst href
  unfold o_get at hf
  dsimp only at hf
  split at hf
  · rename_i a st1
    split at hf
    · rename_i cj fs hh
      split at hf
      · rename_i hcj
        subst hcj
        split at hf
        · rename_i v hv
          cases hf
          exact va_getN hx hb (hG.2.1 args) hin hown hG.2.2.1 (ac_one_P hW hh hc) 0 rfl hc f hfn (hG.2.1 _ _ hw) (fun _ q => q) (v := ac_v E v) (by rw [List.getElem?_map, hv]; rfl) hd (k H locs la hW hS hL)
        · cases hf
      · cases hf
    · cases hf
  · cases hf
theorem ok_putf {E : ac_E} {d : ac_M} {pc : Nat} {ci f index : Nat} {C ref : String} {T : u_T} {N : Nat} (hc : vwCl[ci]? = some (C, T, N)) (hin : ∀ w ∈ u_ws C T N, w ∈ ac_tbl) (hfn : f < N) (href : (T f).1 = ref) (ty0 : Nat → FieldType) (hty : ∀ k, k < N → parseFieldDescriptor (T k).2.2.1 = some (ty0 k)) (hnmm : ∀ a, a < N → ∀ b, b < N → a ≠ b → (T a).2.1 ≠ (T b).2.1) (hdt : parseFieldDescriptor (T f).2.2.1 = some .int) (hfin : (T f).2.2.2 = false) (hw : Cond.fieldLink d.1.cls index ref (T f).2.1 (T f).2.2.1 ∈ ac_tbl) (hd : decode d.2.1 pc = .ok (.putfield index, 3)) : ac_ok E d pc (o_put ci f (pc + 3)) := by
  intro p l e R s m args below meth c X Q ls st h cn kn pc' ls' st' h' cn' kn' hf hrc hrs H locs la hW hS hL k
  obtain ⟨hx, hb, hr, hml, hown, hlk, hnm, htf, htt, hfr, hlo, hl, hG⟩ := X
  subst href
  have hts := hG.2.1 args
  have hap := va_apart (own := d.1.cls) hts hin ty0 hty hnmm hG.2.2.1 hc
  unfold o_put at hf
  dsimp only at hf
  split at hf
  · rename_i v a st1
    split at hf
    · rename_i cj fs hh
      split at hf
      · rename_i hcj
        subst hcj
        obtain ⟨hl1, hf⟩ := ac_set_some hf
        obtain ⟨hl2, hf⟩ := ac_set_some hf
        cases hf
        obtain ⟨cell, q1, q2, q3, q4⟩ := hW.2 a _ hh _ hc
        obtain ⟨hSl, hfc, kC, hkC, hkind⟩ := hG.2.2.1.1 cj _ hc
        obtain ⟨cf, kf, fi, fd, hi, hsl⟩ := hSl f hfn
        have hlay := hts _ (hin _ (u_in_lay hfn))
        unfold u_lay at hlay
        have hst := (u_facts hfc hkC (u_lays hts hin hfn) hi).1
        rw [if_neg (by rw [hfin]; decide)] at hlay
        have h6 := u_store (v := ac_v E (.int v)) hfc hkC hkind hlay hi hdt rfl rfl
        refine W.putK hx hb (f := fd) ⟨hown, hts _ hw, ⟨_, _, _, hi⟩, hst⟩ (by rw [q2]; exact h6) q1 q3 (by rw [hsl]; exact k2_hasslot (q4 f hfn)) rfl rfl hd fun H' e1 e2 e3 => ?_
        rw [hsl] at e1 ⊢
        refine k H' _ la (hW.set hh e2 e3 (c := .inr (cj, fs.set f (.int v))) (fun r hr => ?_)) (ac_S.put hS e2 e3) hL
        cases Option.some.inj (hr.symm.trans hc)
        rw [List.map_set]
        exact t_OB.to (V := updV (vp_V (fs.map (ac_v E))) f (ac_v E (.int v))) ⟨_, e1, q2, q3, t_set q4 hap hfn _⟩ (fun j _ => vp_updV_set (by simpa using hl1) _ j)
      · cases hf
    · cases hf
  · cases hf
theorem ok_putN {E : ac_E} {d : ac_M} {pc : Nat} {ci f index : Nat} {C ref : String} {T : u_T} {N : Nat} (hc : vwCl[ci]? = some (C, T, N)) (hin : ∀ w ∈ u_ws C T N, w ∈ ac_tbl) (hfn : f < N) (href : (T f).1 = ref) (ty0 : Nat → FieldType) (hty : ∀ k, k < N → parseFieldDescriptor (T k).2.2.1 = some (ty0 k)) (hnmm : ∀ a, a < N → ∀ b, b < N → a ≠ b → (T a).2.1 ≠ (T b).2.1) (hdt : parseFieldDescriptor (T f).2.2.1 = some .int) (hfin : (T f).2.2.2 = false) {host : String} (hw : Cond.fieldLinkNest d.1.cls index ref (T f).2.1 (T f).2.2.1 host ∈ ac_tbl) (hd : decode d.2.1 pc = .ok (.putfield index, 3)) : ac_ok E d pc (o_put ci f (pc + 3)) := by
  intro p l e R s m args below meth c X Q ls st h cn kn pc' ls' st' h' cn' kn' hf hrc hrs H locs la hW hS hL k
  obtain ⟨hx, hb, hr, hml, hown, hlk, hnm, htf, htt, hfr, hlo, hl, hG⟩ := X
  subst href
  have hts := hG.2.1 args
  have hap := va_apart (own := d.1.cls) hts hin ty0 hty hnmm hG.2.2.1 hc
  unfold o_put at hf
  dsimp only at hf
  split at hf
  · rename_i v a st1
    split at hf
    · rename_i cj fs hh
      split at hf
      · rename_i hcj
        subst hcj
        obtain ⟨hl1, hf⟩ := ac_set_some hf
        obtain ⟨hl2, hf⟩ := ac_set_some hf
        cases hf
        obtain ⟨cell, q1, q2, q3, q4⟩ := hW.2 a _ hh _ hc
        obtain ⟨hSl, hfc, kC, hkC, hkind⟩ := hG.2.2.1.1 cj _ hc
        obtain ⟨cf, kf, fi, fd, hi, hsl⟩ := hSl f hfn
        have hlay := hts _ (hin _ (u_in_lay hfn))
        unfold u_lay at hlay
        have hst := (u_facts hfc hkC (u_lays hts hin hfn) hi).1
        rw [if_neg (by rw [hfin]; decide)] at hlay
        have h6 := u_store (v := ac_v E (.int v)) hfc hkC hkind hlay hi hdt rfl rfl
        refine va_WputK hx hb (f := fd) hown (hts _ hw) hi hst (by rw [q2]; exact h6) q1 q3 (by rw [hsl]; exact k2_hasslot (q4 f hfn)) rfl rfl hd fun H' e1 e2 e3 => ?_
        rw [hsl] at e1 ⊢
        refine k H' _ la (hW.set hh e2 e3 (c := .inr (cj, fs.set f (.int v))) (fun r hr => ?_)) (ac_S.put hS e2 e3) hL
        cases Option.some.inj (hr.symm.trans hc)
        rw [List.map_set]
        exact t_OB.to (V := updV (vp_V (fs.map (ac_v E))) f (ac_v E (.int v))) ⟨_, e1, q2, q3, t_set q4 hap hfn _⟩ (fun j _ => vp_updV_set (by simpa using hl1) _ j)
      · cases hf
    · cases hf
  · cases hf
theorem ok_putF {E : ac_E} {d : ac_M} {pc : Nat} {ci f index : Nat} {C ref : String} {T : u_T} {N : Nat} (hc : vwCl[ci]? = some (C, T, N)) (hin : ∀ w ∈ u_ws C T N, w ∈ ac_tbl) (hfn : f < N) (href : (T f).1 = ref) (ty0 : Nat → FieldType) (hty : ∀ k, k < N → parseFieldDescriptor (T k).2.2.1 = some (ty0 k)) (hnmm : ∀ a, a < N → ∀ b, b < N → a ≠ b → (T a).2.1 ≠ (T b).2.1) (hdt : parseFieldDescriptor (T f).2.2.1 = some .int) (hfin : (T f).2.2.2 = true) (hini : d.1.name = "<init>") (hdecl : (T f).1 = d.1.cls) (hw : Cond.fieldLink d.1.cls index ref (T f).2.1 (T f).2.2.1 ∈ ac_tbl) (hd : decode d.2.1 pc = .ok (.putfield index, 3)) : ac_ok E d pc (o_put ci f (pc + 3)) := by
  intro p l e R s m args below meth c X Q ls st h cn kn pc' ls' st' h' cn' kn' hf hrc hrs H locs la hW hS hL k
  obtain ⟨hx, hb, hr, hml, hown, hlk, hnm, htf, htt, hfr, hlo, hl, hG⟩ := X
  subst href
  have hts := hG.2.1 args
  have hap := va_apart (own := d.1.cls) hts hin ty0 hty hnmm hG.2.2.1 hc
  unfold o_put at hf
  dsimp only at hf
  split at hf
  · rename_i v a st1
    split at hf
    · rename_i cj fs hh
      split at hf
      · rename_i hcj
        subst hcj
        obtain ⟨hl1, hf⟩ := ac_set_some hf
        obtain ⟨hl2, hf⟩ := ac_set_some hf
        cases hf
        obtain ⟨cell, q1, q2, q3, q4⟩ := hW.2 a _ hh _ hc
        obtain ⟨hSl, hfc, kC, hkC, hkind⟩ := hG.2.2.1.1 cj _ hc
        obtain ⟨cf, kf, fi, fd, hi, hsl⟩ := hSl f hfn
        have hlay := hts _ (hin _ (u_in_lay hfn))
        unfold u_lay at hlay
        have hst := (u_facts hfc hkC (u_lays hts hin hfn) hi).1
        rw [if_pos hfin] at hlay
        have hcf : m.cls = cf := by
          obtain ⟨_, _, c', _, _, _, -, -, hf', -, -, -, hown2, -⟩ := Cond.laysFinal_spec hlay
          have e1 : c' = cf := by have := hi.symm.trans hf'; simp at this; exact this.1.symm
          rw [hdecl] at hown2
          rw [← e1]; exact Option.some.inj (hown.symm.trans hown2)
        have h6 := u_fits (v := ac_v E (.int v)) hfc hkC hkind (Or.inr hlay) hi hdt rfl rfl
        refine W.putFinK hx hb hown (hts _ hw) hi hst hcf (hnm.trans hini) (by rw [q2]; exact h6) q1 q3 (by rw [hsl]; exact k2_hasslot (q4 f hfn)) rfl rfl hd fun H' e1 e2 e3 => ?_
        rw [hsl] at e1 ⊢
        refine k H' _ la (hW.set hh e2 e3 (c := .inr (cj, fs.set f (.int v))) (fun r hr => ?_)) (ac_S.put hS e2 e3) hL
        cases Option.some.inj (hr.symm.trans hc)
        rw [List.map_set]
        exact t_OB.to (V := updV (vp_V (fs.map (ac_v E))) f (ac_v E (.int v))) ⟨_, e1, q2, q3, t_set q4 hap hfn _⟩ (fun j _ => vp_updV_set (by simpa using hl1) _ j)
      · cases hf
    · cases hf
  · cases hf
theorem ok_purf {E : ac_E} {d : ac_M} {pc : Nat} {ci f index : Nat} {C ref : String} {T : u_T} {N : Nat} (hc : vwCl[ci]? = some (C, T, N)) (hin : ∀ w ∈ u_ws C T N, w ∈ ac_tbl) (hfn : f < N) (href : (T f).1 = ref) (ty0 : Nat → FieldType) (hty : ∀ k, k < N → parseFieldDescriptor (T k).2.2.1 = some (ty0 k)) (hnmm : ∀ a, a < N → ∀ b, b < N → a ≠ b → (T a).2.1 ≠ (T b).2.1) {tt : FieldType} (hdt0 : parseFieldDescriptor (T f).2.2.1 = some tt) (hrt : (∃ n, tt = .object n) ∨ ∃ t, tt = .array t) (hfin : (T f).2.2.2 = false) (hw : Cond.fieldLink d.1.cls index ref (T f).2.1 (T f).2.2.1 ∈ ac_tbl) (hd : decode d.2.1 pc = .ok (.putfield index, 3)) : ac_ok E d pc (o_pur ci f (pc + 3)) := by
  intro p l e R s m args below meth c X Q ls st h cn kn pc' ls' st' h' cn' kn' hf hrc hrs H locs la hW hS hL k
  obtain ⟨hx, hb, hr, hml, hown, hlk, hnm, htf, htt, hfr, hlo, hl, hG⟩ := X
  subst href
  have hts := hG.2.1 args
  have hap := va_apart (own := d.1.cls) hts hin ty0 hty hnmm hG.2.2.1 hc
  unfold o_pur at hf
  dsimp only at hf
  split at hf
  · rename_i v a st1
    split at hf
    · rename_i cj fs hh
      split at hf
      · rename_i hcj
        subst hcj
        obtain ⟨hl1, hf⟩ := ac_set_some hf
        obtain ⟨hl2, hf⟩ := ac_set_some hf
        cases hf
        obtain ⟨cell, q1, q2, q3, q4⟩ := hW.2 a _ hh _ hc
        obtain ⟨hSl, hfc, kC, hkC, hkind⟩ := hG.2.2.1.1 cj _ hc
        obtain ⟨cf, kf, fi, fd, hi, hsl⟩ := hSl f hfn
        have hlay := hts _ (hin _ (u_in_lay hfn))
        unfold u_lay at hlay
        have hst := (u_facts hfc hkC (u_lays hts hin hfn) hi).1
        rw [if_neg (by rw [hfin]; decide)] at hlay
        have h6 := u_store (v := ac_v E (.ref v)) hfc hkC hkind hlay hi hdt0 (by rcases hrt with ⟨_, rfl⟩ | ⟨_, rfl⟩ <;> rfl) (by rcases hrt with ⟨_, rfl⟩ | ⟨_, rfl⟩ <;> rfl)
        refine W.putK hx hb (f := fd) ⟨hown, hts _ hw, ⟨_, _, _, hi⟩, hst⟩ (by rw [q2]; exact h6) q1 q3 (by rw [hsl]; exact k2_hasslot (q4 f hfn)) rfl rfl hd fun H' e1 e2 e3 => ?_
        rw [hsl] at e1 ⊢
        refine k H' _ la (hW.set hh e2 e3 (c := .inr (cj, fs.set f (.ref v))) (fun r hr => ?_)) (ac_S.put hS e2 e3) hL
        cases Option.some.inj (hr.symm.trans hc)
        rw [List.map_set]
        exact t_OB.to (V := updV (vp_V (fs.map (ac_v E))) f (ac_v E (.ref v))) ⟨_, e1, q2, q3, t_set q4 hap hfn _⟩ (fun j _ => vp_updV_set (by simpa using hl1) _ j)
      · cases hf
    · cases hf
  · cases hf
theorem ok_purN {E : ac_E} {d : ac_M} {pc : Nat} {ci f index : Nat} {C ref : String} {T : u_T} {N : Nat} (hc : vwCl[ci]? = some (C, T, N)) (hin : ∀ w ∈ u_ws C T N, w ∈ ac_tbl) (hfn : f < N) (href : (T f).1 = ref) (ty0 : Nat → FieldType) (hty : ∀ k, k < N → parseFieldDescriptor (T k).2.2.1 = some (ty0 k)) (hnmm : ∀ a, a < N → ∀ b, b < N → a ≠ b → (T a).2.1 ≠ (T b).2.1) {tt : FieldType} (hdt0 : parseFieldDescriptor (T f).2.2.1 = some tt) (hrt : (∃ n, tt = .object n) ∨ ∃ t, tt = .array t) (hfin : (T f).2.2.2 = false) {host : String} (hw : Cond.fieldLinkNest d.1.cls index ref (T f).2.1 (T f).2.2.1 host ∈ ac_tbl) (hd : decode d.2.1 pc = .ok (.putfield index, 3)) : ac_ok E d pc (o_pur ci f (pc + 3)) := by
  intro p l e R s m args below meth c X Q ls st h cn kn pc' ls' st' h' cn' kn' hf hrc hrs H locs la hW hS hL k
  obtain ⟨hx, hb, hr, hml, hown, hlk, hnm, htf, htt, hfr, hlo, hl, hG⟩ := X
  subst href
  have hts := hG.2.1 args
  have hap := va_apart (own := d.1.cls) hts hin ty0 hty hnmm hG.2.2.1 hc
  unfold o_pur at hf
  dsimp only at hf
  split at hf
  · rename_i v a st1
    split at hf
    · rename_i cj fs hh
      split at hf
      · rename_i hcj
        subst hcj
        obtain ⟨hl1, hf⟩ := ac_set_some hf
        obtain ⟨hl2, hf⟩ := ac_set_some hf
        cases hf
        obtain ⟨cell, q1, q2, q3, q4⟩ := hW.2 a _ hh _ hc
        obtain ⟨hSl, hfc, kC, hkC, hkind⟩ := hG.2.2.1.1 cj _ hc
        obtain ⟨cf, kf, fi, fd, hi, hsl⟩ := hSl f hfn
        have hlay := hts _ (hin _ (u_in_lay hfn))
        unfold u_lay at hlay
        have hst := (u_facts hfc hkC (u_lays hts hin hfn) hi).1
        rw [if_neg (by rw [hfin]; decide)] at hlay
        have h6 := u_store (v := ac_v E (.ref v)) hfc hkC hkind hlay hi hdt0 (by rcases hrt with ⟨_, rfl⟩ | ⟨_, rfl⟩ <;> rfl) (by rcases hrt with ⟨_, rfl⟩ | ⟨_, rfl⟩ <;> rfl)
        refine va_WputK hx hb (f := fd) hown (hts _ hw) hi hst (by rw [q2]; exact h6) q1 q3 (by rw [hsl]; exact k2_hasslot (q4 f hfn)) rfl rfl hd fun H' e1 e2 e3 => ?_
        rw [hsl] at e1 ⊢
        refine k H' _ la (hW.set hh e2 e3 (c := .inr (cj, fs.set f (.ref v))) (fun r hr => ?_)) (ac_S.put hS e2 e3) hL
        cases Option.some.inj (hr.symm.trans hc)
        rw [List.map_set]
        exact t_OB.to (V := updV (vp_V (fs.map (ac_v E))) f (ac_v E (.ref v))) ⟨_, e1, q2, q3, t_set q4 hap hfn _⟩ (fun j _ => vp_updV_set (by simpa using hl1) _ j)
      · cases hf
    · cases hf
  · cases hf
theorem ok_purF {E : ac_E} {d : ac_M} {pc : Nat} {ci f index : Nat} {C ref : String} {T : u_T} {N : Nat} (hc : vwCl[ci]? = some (C, T, N)) (hin : ∀ w ∈ u_ws C T N, w ∈ ac_tbl) (hfn : f < N) (href : (T f).1 = ref) (ty0 : Nat → FieldType) (hty : ∀ k, k < N → parseFieldDescriptor (T k).2.2.1 = some (ty0 k)) (hnmm : ∀ a, a < N → ∀ b, b < N → a ≠ b → (T a).2.1 ≠ (T b).2.1) {tt : FieldType} (hdt0 : parseFieldDescriptor (T f).2.2.1 = some tt) (hrt : (∃ n, tt = .object n) ∨ ∃ t, tt = .array t) (hfin : (T f).2.2.2 = true) (hini : d.1.name = "<init>") (hdecl : (T f).1 = d.1.cls) (hw : Cond.fieldLink d.1.cls index ref (T f).2.1 (T f).2.2.1 ∈ ac_tbl) (hd : decode d.2.1 pc = .ok (.putfield index, 3)) : ac_ok E d pc (o_pur ci f (pc + 3)) := by
  intro p l e R s m args below meth c X Q ls st h cn kn pc' ls' st' h' cn' kn' hf hrc hrs H locs la hW hS hL k
  obtain ⟨hx, hb, hr, hml, hown, hlk, hnm, htf, htt, hfr, hlo, hl, hG⟩ := X
  subst href
  have hts := hG.2.1 args
  have hap := va_apart (own := d.1.cls) hts hin ty0 hty hnmm hG.2.2.1 hc
  unfold o_pur at hf
  dsimp only at hf
  split at hf
  · rename_i v a st1
    split at hf
    · rename_i cj fs hh
      split at hf
      · rename_i hcj
        subst hcj
        obtain ⟨hl1, hf⟩ := ac_set_some hf
        obtain ⟨hl2, hf⟩ := ac_set_some hf
        cases hf
        obtain ⟨cell, q1, q2, q3, q4⟩ := hW.2 a _ hh _ hc
        obtain ⟨hSl, hfc, kC, hkC, hkind⟩ := hG.2.2.1.1 cj _ hc
        obtain ⟨cf, kf, fi, fd, hi, hsl⟩ := hSl f hfn
        have hlay := hts _ (hin _ (u_in_lay hfn))
        unfold u_lay at hlay
        have hst := (u_facts hfc hkC (u_lays hts hin hfn) hi).1
        rw [if_pos hfin] at hlay
        have hcf : m.cls = cf := by
          obtain ⟨_, _, c', _, _, _, -, -, hf', -, -, -, hown2, -⟩ := Cond.laysFinal_spec hlay
          have e1 : c' = cf := by have := hi.symm.trans hf'; simp at this; exact this.1.symm
          rw [hdecl] at hown2
          rw [← e1]; exact Option.some.inj (hown.symm.trans hown2)
        have h6 := u_fits (v := ac_v E (.ref v)) hfc hkC hkind (Or.inr hlay) hi hdt0 (by rcases hrt with ⟨_, rfl⟩ | ⟨_, rfl⟩ <;> rfl) (by rcases hrt with ⟨_, rfl⟩ | ⟨_, rfl⟩ <;> rfl)
        refine W.putFinK hx hb hown (hts _ hw) hi hst hcf (hnm.trans hini) (by rw [q2]; exact h6) q1 q3 (by rw [hsl]; exact k2_hasslot (q4 f hfn)) rfl rfl hd fun H' e1 e2 e3 => ?_
        rw [hsl] at e1 ⊢
        refine k H' _ la (hW.set hh e2 e3 (c := .inr (cj, fs.set f (.ref v))) (fun r hr => ?_)) (ac_S.put hS e2 e3) hL
        cases Option.some.inj (hr.symm.trans hc)
        rw [List.map_set]
        exact t_OB.to (V := updV (vp_V (fs.map (ac_v E))) f (ac_v E (.ref v))) ⟨_, e1, q2, q3, t_set q4 hap hfn _⟩ (fun j _ => vp_updV_set (by simpa using hl1) _ j)
      · cases hf
    · cases hf
  · cases hf
theorem ok_sta {E : ac_E} {d : ac_M} {pc : Nat} {t : UInt32} {n : String} {index : Nat} (hn : ac_sn[t.toNat]? = some n) (hw : Cond.fieldLink d.1.cls index "SixWayGas" n "[I" ∈ ac_tbl) (hd : decode d.2.1 pc = .ok (.getstatic index, 3)) : ac_ok E d pc (o_sta t (pc + 3)) := by
  intro p l e R s m args below meth c X Q ls st h cn kn pc' ls' st' h' cn' kn' hf hrc hrs H locs la hW hS hL k
  obtain ⟨hx, hb, hr, hml, hown, hlk, hnm, htf, htt, hfr, hlo, hl, hG⟩ := X
  cases hf
  exact va_gets hx hb (hG.2.2.2.2.2.2.1 _ _ hn).1 hS hown (hG.2.1 _ _ hw) (fun _ q => q) hd (k H locs la hW hS hL)
theorem ok_staN {E : ac_E} {d : ac_M} {pc : Nat} {t : UInt32} {n : String} {index : Nat} (hn : ac_sn[t.toNat]? = some n) {host : String} (hw : Cond.fieldLinkNest d.1.cls index "SixWayGas" n "[I" host ∈ ac_tbl) (hd : decode d.2.1 pc = .ok (.getstatic index, 3)) : ac_ok E d pc (o_sta t (pc + 3)) := by
  intro p l e R s m args below meth c X Q ls st h cn kn pc' ls' st' h' cn' kn' hf hrc hrs H locs la hW hS hL k
  obtain ⟨hx, hb, hr, hml, hown, hlk, hnm, htf, htt, hfr, hlo, hl, hG⟩ := X
  cases hf
  exact va_getsN hx hb (hG.2.2.2.2.2.2.1 _ _ hn).1 hS hown (hG.2.1 _ _ hw) (fun _ q => q) hd (k H locs la hW hS hL)
theorem ok_iaload {E : ac_E} {d : ac_M} {pc : Nat} (hd : decode d.2.1 pc = .ok (.iaload, 1)) : ac_ok E d pc (o_ia (pc + 1)) := by
  intro p l e R s m args below meth c X Q ls st h cn kn pc' ls' st' h' cn' kn' hf hrc hrs H locs la hW hS hL k
  obtain ⟨hx, hb, hr, hml, hown, hlk, hnm, htf, htt, hfr, hlo, hl, hG⟩ := X
  unfold o_ia at hf
  dsimp only at hf
  split at hf
  · rename_i i a st1
    split at hf
    · rename_i n f hh
      split at hf
      · rename_i hi
        cases hf
        exact va_iald hx hb hG.2.2.1 (ac_one_Q hW hh) 0 0 rfl rfl (ac_in_vp hi) hd (k H locs la hW hS hL)
      · cases hf
    · cases hf
  · cases hf
theorem ok_zaload {E : ac_E} {d : ac_M} {pc : Nat} (hd : decode d.2.1 pc = .ok (.baload, 1)) : ac_ok E d pc (o_za (pc + 1)) := by
  intro p l e R s m args below meth c X Q ls st h cn kn pc' ls' st' h' cn' kn' hf hrc hrs H locs la hW hS hL k
  obtain ⟨hx, hb, hr, hml, hown, hlk, hnm, htf, htt, hfr, hlo, hl, hG⟩ := X
  unfold o_za at hf
  dsimp only at hf
  split at hf
  · rename_i i a st1
    split at hf
    · rename_i n f hh
      split at hf
      · rename_i hi
        cases hf
        exact va_zald hx hb hG.2.2.1 (ac_one_Q hW hh) 0 1 rfl rfl (ac_in_vp hi) hd (k H locs la hW hS hL)
      · cases hf
    · cases hf
  · cases hf
theorem ok_laload {E : ac_E} {d : ac_M} {pc : Nat} (hd : decode d.2.1 pc = .ok (.laload, 1)) : ac_ok E d pc (o_la (pc + 1)) := by
  intro p l e R s m args below meth c X Q ls st h cn kn pc' ls' st' h' cn' kn' hf hrc hrs H locs la hW hS hL k
  obtain ⟨hx, hb, hr, hml, hown, hlk, hnm, htf, htt, hfr, hlo, hl, hG⟩ := X
  unfold o_la at hf
  dsimp only at hf
  split at hf
  · rename_i i a st1
    split at hf
    · rename_i n f hh
      split at hf
      · rename_i hi
        cases hf
        exact va_lald hx hb hG.2.2.1 (ac_one_Q hW hh) 0 2 rfl rfl (ac_in_vp hi) hd (k H locs la hW hS hL)
      · cases hf
    · cases hf
  · cases hf
theorem ok_iastore {E : ac_E} {d : ac_M} {pc : Nat} (hd : decode d.2.1 pc = .ok (.iastore, 1)) : ac_ok E d pc (o_is (pc + 1)) := by
  intro p l e R s m args below meth c X Q ls st h cn kn pc' ls' st' h' cn' kn' hf hrc hrs H locs la hW hS hL k
  obtain ⟨hx, hb, hr, hml, hown, hlk, hnm, htf, htt, hfr, hlo, hl, hG⟩ := X
  unfold o_is at hf
  dsimp only at hf
  split at hf
  · rename_i x i a st1
    split at hf
    · rename_i n f hh
      split at hf
      · rename_i hi
        obtain ⟨hl1, hf⟩ := ac_set_some hf
        cases hf
        have hc0 := hW.2 a _ hh
        refine W.iast hx hb hc0 ((hG.2.2.1.2 0 _ rfl).1 n (fun j => .int (f j))) (fun q => by cases q) (by show ¬ (i < 0 ∨ (arrV _ _ _).slots.size ≤ _); rw [arrV_size]; exact ac_in_vp hi) rfl rfl hd fun H1 e z oq => ?_
        refine k H1 _ la (hW.set hh z oq (c := .inl (.int, n, .inl (upd f i.toNatClampNeg x))) ?_) (ac_S.put hS z oq) hL
        show H1[_]? = some (vp_cell _ _)
        rw [e]
        dsimp only
        rw [vp_cell_i, vp_cell_i, arrV_store]
        congr 2
        funext q
        by_cases hq : q = i.toNatClampNeg
        · subst hq
          simp [updV, upd]
        · simp [updV, upd, hq]
      · cases hf
    · cases hf
  · cases hf
theorem ok_zastore {E : ac_E} {d : ac_M} {pc : Nat} (hd : decode d.2.1 pc = .ok (.bastore, 1)) : ac_ok E d pc (o_zs (pc + 1)) := by
  intro p l e R s m args below meth c X Q ls st h cn kn pc' ls' st' h' cn' kn' hf hrc hrs H locs la hW hS hL k
  obtain ⟨hx, hb, hr, hml, hown, hlk, hnm, htf, htt, hfr, hlo, hl, hG⟩ := X
  unfold o_zs at hf
  dsimp only at hf
  split at hf
  · rename_i x i a st1
    split at hf
    · rename_i n f hh
      split at hf
      · rename_i hi
        obtain ⟨hl1, hf⟩ := ac_set_some hf
        cases hf
        have hc0 := hW.2 a _ hh
        refine W.zast hx hb hc0 ((hG.2.2.1.2 1 _ rfl).1 n (fun j => .int (f j))) (fun q => by cases q) (by show ¬ (i < 0 ∨ (arrV _ _ _).slots.size ≤ _); rw [arrV_size]; exact ac_in_vp hi) rfl rfl hd fun H1 e z oq => ?_
        refine k H1 _ la (hW.set hh z oq (c := .inl (.boolean, n, .inl (upd f i.toNatClampNeg (vp_nar .boolean x)))) ?_) (ac_S.put hS z oq) hL
        show H1[_]? = some (vp_cell _ _)
        rw [e]
        dsimp only
        rw [vp_cell_i, vp_cell_i, arrV_store]
        congr 2
        funext q
        by_cases hq : q = i.toNatClampNeg
        · subst hq
          simp [updV, upd, vp_nar, narrow]
        · simp [updV, upd, hq]
      · cases hf
    · cases hf
  · cases hf
theorem ok_lastore {E : ac_E} {d : ac_M} {pc : Nat} (hd : decode d.2.1 pc = .ok (.lastore, 1)) : ac_ok E d pc (o_ls (pc + 1)) := by
  intro p l e R s m args below meth c X Q ls st h cn kn pc' ls' st' h' cn' kn' hf hrc hrs H locs la hW hS hL k
  obtain ⟨hx, hb, hr, hml, hown, hlk, hnm, htf, htt, hfr, hlo, hl, hG⟩ := X
  unfold o_ls at hf
  dsimp only at hf
  split at hf
  · rename_i x i a st1
    split at hf
    · rename_i n f hh
      split at hf
      · rename_i hi
        obtain ⟨hl1, hf⟩ := ac_set_some hf
        cases hf
        have hc0 := hW.2 a _ hh
        refine W.last hx hb hc0 ((hG.2.2.1.2 2 _ rfl).1 n (fun j => .long (f j))) (fun q => by cases q) (by show ¬ (i < 0 ∨ (arrV _ _ _).slots.size ≤ _); rw [arrV_size]; exact ac_in_vp hi) rfl rfl hd fun H1 e z oq => ?_
        refine k H1 _ la (hW.set hh z oq (c := .inl (.long, n, .inr (.inl (vp_updL f i.toNatClampNeg x)))) ?_) (ac_S.put hS z oq) hL
        show H1[_]? = some (vp_cell _ _)
        rw [e]
        dsimp only
        rw [vp_cell_l, vp_cell_l, arrV_store]
        congr 2
        funext q
        by_cases hq : q = i.toNatClampNeg
        · subst hq
          simp [updV, vp_updL]
        · simp [updV, vp_updL, hq]
      · cases hf
    · cases hf
  · cases hf
theorem ok_ta {E : ac_E} {d : ac_M} {pc : Nat} (hd : decode d.2.1 pc = .ok (.iaload, 1)) : ac_ok E d pc (o_ta ac_tab (pc + 1)) := by
  intro p l e R s m args below meth c X Q ls st h cn kn pc' ls' st' h' cn' kn' hf hrc hrs H locs la hW hS hL k
  obtain ⟨hx, hb, hr, hml, hown, hlk, hnm, htf, htt, hfr, hlo, hl, hG⟩ := X
  unfold o_ta at hf
  dsimp only at hf
  split at hf
  · rename_i i t st1
    split at hf
    · rename_i hi
      cases hf
      have hn : ∃ n, ac_sn[t.toNat]? = some n := ⟨_, List.getElem?_eq_getElem (show t.toNat < ac_sn.length from hi.2)⟩
      obtain ⟨n, hn⟩ := hn
      exact va_ti hx hb (hG.2.2.2.2.2.2.1 _ _ hn).2 hS (ac_in_vp hi.1) rfl hd (k H locs la hW hS hL)
    · cases hf
  · cases hf
theorem ok_xa {E : ac_E} {d : ac_M} {pc : Nat} (hd : decode d.2.1 pc = .ok (.iaload, 1)) : ac_ok E d pc (o_xa (ac_len E) (ac_xs E) (pc + 1)) := by
  intro p l e R s m args below meth c X Q ls st h cn kn pc' ls' st' h' cn' kn' hf hrc hrs H locs la hW hS hL k
  obtain ⟨hx, hb, hr, hml, hown, hlk, hnm, htf, htt, hfr, hlo, hl, hG⟩ := X
  unfold o_xa at hf
  dsimp only at hf
  split at hf
  · rename_i i t st1
    split at hf
    · rename_i hi
      obtain ⟨hi, rfl⟩ := hi
      cases hf
      obtain ⟨hX, hb9⟩ := hG.2.2.2.2.2.2.2.1
      exact va_sld hx hb hX (Nat.lt_of_lt_of_le hb9 hG.1) (Nat.not_le.mpr hb9) hS (ac_in_vp hi) hd (k H locs la hW hS hL)
    · cases hf
  · cases hf
theorem ok_xl {E : ac_E} {d : ac_M} {pc : Nat} (hd : decode d.2.1 pc = .ok (.arraylength, 1)) : ac_ok E d pc (o_xl (ac_len E) (pc + 1)) := by
  intro p l e R s m args below meth c X Q ls st h cn kn pc' ls' st' h' cn' kn' hf hrc hrs H locs la hW hS hL k
  obtain ⟨hx, hb, hr, hml, hown, hlk, hnm, htf, htt, hfr, hlo, hl, hG⟩ := X
  unfold o_xl at hf
  dsimp only at hf
  split at hf
  · rename_i t st1
    split at hf
    · rename_i hi
      subst hi
      cases hf
      obtain ⟨hX, hb9⟩ := hG.2.2.2.2.2.2.2.1
      exact va_slen hx hb hX (Nat.lt_of_lt_of_le hb9 hG.1) (Nat.not_le.mpr hb9) hS hd (k H locs la hW hS hL)
    · cases hf
  · cases hf
theorem ok_len {E : ac_E} {d : ac_M} {pc : Nat} (hd : decode d.2.1 pc = .ok (.arraylength, 1)) : ac_ok E d pc (o_len (pc + 1)) := by
  intro p l e R s m args below meth c X Q ls st h cn kn pc' ls' st' h' cn' kn' hf hrc hrs H locs la hW hS hL k
  obtain ⟨hx, hb, hr, hml, hown, hlk, hnm, htf, htt, hfr, hlo, hl, hG⟩ := X
  unfold o_len at hf
  dsimp only at hf
  split at hf
  · rename_i a st1
    split at hf
    · rename_i n f hh
      cases hf
      exact va_alen hx hb hG.2.2.1 (ac_one_Q hW hh) 0 0 rfl rfl rfl hd (k H locs la hW hS hL)
    · cases hf
  · cases hf
theorem ok_ni {E : ac_E} {d : ac_M} {pc : Nat} (hd : decode d.2.1 pc = .ok (.newarray .int, 2)) (hw : Cond.arrayClass .int ∈ ac_tbl) : ac_ok E d pc (o_ni (pc + 2)) := by
  intro p l e R s m args below meth c X Q ls st h cn kn pc' ls' st' h' cn' kn' hf hrc hrs H locs la hW hS hL k
  obtain ⟨hx, hb, hr, hml, hown, hlk, hnm, htf, htt, hfr, hlo, hl, hG⟩ := X
  unfold o_ni at hf
  dsimp only at hf
  split at hf
  · rename_i n st1
    split at hf
    · rename_i hi
      cases hf
      refine va_newaK hx hb (atype := .int) (hG.2.1 _ _ hw) rfl hd rfl hi.1 rfl (by have := hi.2; simp only [newarray.typeOf, componentBytes]; omega) hrc hrs rfl fun H1 cA e1 z1 o1 hAr hNm => ?_
      have hcA : cA = ac_ca E .int := by
        have h9 := (hG.2.2.1.2 0 _ rfl).2
        have h8 : s.vm.findClass ("[" ++ (FieldType.int).toString) = some (ac_ca E .int) := h9
        exact Option.some.inj (hNm.symm.trans h8)
      subst hcA
      have hw1 := hW.push z1 o1 (c := .inl (.int, n.toNatClampNeg, .inl (fun _ => 0))) e1
      have k1 := k H1 locs la hw1 (ac_S.push hS z1 o1) hL
      rw [hW.1]
      exact k1
    · cases hf
  · cases hf
theorem ok_nz {E : ac_E} {d : ac_M} {pc : Nat} (hd : decode d.2.1 pc = .ok (.newarray .boolean, 2)) (hw : Cond.arrayClass .boolean ∈ ac_tbl) : ac_ok E d pc (o_nz (pc + 2)) := by
  intro p l e R s m args below meth c X Q ls st h cn kn pc' ls' st' h' cn' kn' hf hrc hrs H locs la hW hS hL k
  obtain ⟨hx, hb, hr, hml, hown, hlk, hnm, htf, htt, hfr, hlo, hl, hG⟩ := X
  unfold o_nz at hf
  dsimp only at hf
  split at hf
  · rename_i n st1
    split at hf
    · rename_i hi
      cases hf
      refine va_newaK hx hb (atype := .boolean) (hG.2.1 _ _ hw) rfl hd rfl hi.1 rfl (by have := hi.2; simp only [newarray.typeOf, componentBytes]; omega) hrc hrs rfl fun H1 cA e1 z1 o1 hAr hNm => ?_
      have hcA : cA = ac_ca E .boolean := by
        have h9 := (hG.2.2.1.2 1 _ rfl).2
        have h8 : s.vm.findClass ("[" ++ (FieldType.boolean).toString) = some (ac_ca E .boolean) := h9
        exact Option.some.inj (hNm.symm.trans h8)
      subst hcA
      have hw1 := hW.push z1 o1 (c := .inl (.boolean, n.toNatClampNeg, .inl (fun _ => 0))) e1
      have k1 := k H1 locs la hw1 (ac_S.push hS z1 o1) hL
      rw [hW.1]
      exact k1
    · cases hf
  · cases hf
theorem ok_nl {E : ac_E} {d : ac_M} {pc : Nat} (hd : decode d.2.1 pc = .ok (.newarray .long, 2)) (hw : Cond.arrayClass .long ∈ ac_tbl) : ac_ok E d pc (o_nl (pc + 2)) := by
  intro p l e R s m args below meth c X Q ls st h cn kn pc' ls' st' h' cn' kn' hf hrc hrs H locs la hW hS hL k
  obtain ⟨hx, hb, hr, hml, hown, hlk, hnm, htf, htt, hfr, hlo, hl, hG⟩ := X
  unfold o_nl at hf
  dsimp only at hf
  split at hf
  · rename_i n st1
    split at hf
    · rename_i hi
      cases hf
      refine va_newaK hx hb (atype := .long) (hG.2.1 _ _ hw) rfl hd rfl hi.1 rfl (by have := hi.2; simp only [newarray.typeOf, componentBytes]; omega) hrc hrs rfl fun H1 cA e1 z1 o1 hAr hNm => ?_
      have hcA : cA = ac_ca E .long := by
        have h9 := (hG.2.2.1.2 2 _ rfl).2
        have h8 : s.vm.findClass ("[" ++ (FieldType.long).toString) = some (ac_ca E .long) := h9
        exact Option.some.inj (hNm.symm.trans h8)
      subst hcA
      have hw1 := hW.push z1 o1 (c := .inl (.long, n.toNatClampNeg, .inr (.inl (fun _ => 0)))) e1
      have k1 := k H1 locs la hw1 (ac_S.push hS z1 o1) hL
      rw [hW.1]
      exact k1
    · cases hf
  · cases hf
theorem ok_new {E : ac_E} {d : ac_M} {pc : Nat} {ci index : Nat} {C : String} {T : u_T} {N : Nat} {fs : List Value} (hc : vwCl[ci]? = some (C, T, N)) (hin : ∀ w ∈ u_ws C T N, w ∈ ac_tbl) (ty0 : Nat → FieldType) (hty : ∀ k, k < N → parseFieldDescriptor (T k).2.2.1 = some (ty0 k)) (hfs : ∀ j, j < N → defaultValue (ty0 j) = vp_V (fs.map (ac_v E)) j) (hln : fs.length = N) (hw : Cond.classLink d.1.cls index C ∈ ac_tbl) (hwi : Cond.instantiable C N ∈ ac_tbl) (hwn : Cond.initialized C ∈ ac_tbl) (hd : decode d.2.1 pc = .ok (.new index, 3)) : ac_ok E d pc (o_new ci fs (pc + 3)) := by
  intro p l e R s m args below meth c X Q ls st h cn kn pc' ls' st' h' cn' kn' hf hrc hrs H locs la hW hS hL k
  obtain ⟨hx, hb, hr, hml, hown, hlk, hnm, htf, htt, hfr, hlo, hl, hG⟩ := X
  cases hf
  have hKn := hG.2.2.1.1 ci _ hc
  subst hln
  refine W.newcK hx hb hown (hG.2.1 _ _ hw) (hG.2.1 _ _ hwi) (hG.2.1 _ _ hwn) rfl hd hrc hrs hKn.2.1 rfl fun H1 kC hkC e1 z1 o1 => ?_
  have hw1 := hW.push z1 o1 (c := .inr (ci, fs)) (fun r hr => by
    cases Option.some.inj (hr.symm.trans hc)
    exact (u_born ty0 (hG.2.1 args) hin hKn hkC e1 hty).to hfs)
  have k1 := k H1 locs la hw1 (ac_S.push hS z1 o1) hL
  rw [hW.1]
  exact k1
theorem ok_obj {E : ac_E} {d : ac_M} {pc : Nat} {index : Nat} (hw : Cond.methodLink d.1.cls index Lib.objectInit ∈ ac_tbl) (hwi : Cond.instanceMethod Lib.objectInit ∈ ac_tbl) (hwc : Cond.code Lib.objectInit ⟨#[0xb1]⟩ 1 none ∈ ac_tbl) (hst : 1 ≤ d.2.2.2.2.1) (hlt : 30 ≤ d.2.2.2.2.2.1) (hd : decode d.2.1 pc = .ok (.invokespecial index, 3)) : ac_ok E d pc (o_obj1 (pc + 3)) := by
  intro p l e R s m args below meth c X Q ls st h cn kn pc' ls' st' h' cn' kn' hf hrc hrs H locs la hW hS hL k
  obtain ⟨hx, hb, hr, hml, hown, hlk, hnm, htf, htt, hfr, hlo, hl, hG⟩ := X
  unfold o_obj1 at hf
  dsimp only at hf
  split at hf
  · cases hf
    exact W.objInit hx hb hown (hG.2.1 _ _ hw) (hG.2.1 _ _ hwi) (hG.2.1 _ _ hwc) rfl (by rw [hml]; exact hL.1) rfl hd (Nat.le_trans hst hfr) (Nat.le_trans (by simp [JFrame.monitorRoom]) (Nat.le_trans hlt hlo)) (k H locs la hW hS hL)
  · cases hf
