/-! ===== each operation is what the machine does ===== -/
/-- a method's body at its start -/
def ac_X (E : ac_E) (d : ac_M) (p : Program) (l : Launch) (R : Room) (s : State) (m : MethodId) (meth : Method) (c : Code) : Prop :=
  p.tables.exec = Jvm.exec ∧ c.code = d.2.1 ∧ meth.sig.returnType = d.2.2.2.1 ∧ c.maxLocals = d.2.2.1 ∧ s.vm.findClass d.1.cls = some m.cls ∧ meth.locks = false ∧ meth.name = d.1.name ∧
  (d.2.2.2.2.2.2.2 = false → ∀ x ∈ c.exceptionTable.toList, False) ∧ (d.2.2.2.2.2.2.2 = true → c.exceptionTable.toList = tableOf d.2.2.2.2.2.2.1) ∧
  d.2.2.2.2.1 ≤ R.frames ∧ d.2.2.2.2.2.1 ≤ R.locals ∧ l.stackTraces = false ∧ ac_G E s
def ac_ok (E : ac_E) (d : ac_M) (pc : Nat) (f : ac_S → Option ac_S) : Prop :=
  ∀ (p : Program) (l : Launch) (e : Env) (R : Room) (s : State) (m : MethodId) (args : Array Value) (below : List Frame) (meth : Method) (c : Code), ac_X E d p l R s m meth c →
  ∀ (Q : State → Prop) (ls st : List Value) (h : ac_H) (cn kn pc' : Nat) (ls' st' : List Value) (h' : ac_H) (cn' kn' : Nat), f (pc, ls, st, h, cn, kn) = some (pc', ls', st', h', cn', kn') →
  cn' ≤ R.cells → kn' ≤ R.slots →
  ∀ (H : Heap) (locs : List Loc) (la : Array Slot), ac_W E h H → va_S (ac_A E) s.heap H locs → ac_L E la d.2.2.1 ls →
  (∀ (H1 : Heap) (locs1 : List Loc) (la1 : Array Slot), ac_W E h' H1 → va_S (ac_A E) s.heap H1 locs1 → ac_L E la1 d.2.2.1 ls' → W p l e R s m args below meth c H1 locs1 cn' kn' Q (F0 m pc' la1 (st'.map (ac_v E)))) →
  W p l e R s m args below meth c H locs cn kn Q (F0 m pc la (st.map (ac_v E)))
theorem ok_iconst {E : ac_E} {d : ac_M} {pc : Nat} {n : Int} {v : Int32} (hd : decode d.2.1 pc = .ok (.iconst n, 1)) (hv : Int32.ofInt n = v) : ac_ok E d pc (o_con (.int v) (pc + 1)) := by
  intro p l e R s m args below meth c X Q ls st h cn kn pc' ls' st' h' cn' kn' hf hrc hrs H locs la hW hS hL k
  obtain ⟨hx, hb, hr, hml, hown, hlk, hnm, htf, htt, hfr, hlo, hl, hG⟩ := X
  cases hf
  exact lv_iconst hx hb hd hv (k H locs la hW hS hL)
theorem ok_bipush {E : ac_E} {d : ac_M} {pc : Nat} {n : Int} {v : Int32} (hd : decode d.2.1 pc = .ok (.bipush n, 2)) (hv : (Int8.ofInt n).toInt32 = v) : ac_ok E d pc (o_con (.int v) (pc + 2)) := by
  intro p l e R s m args below meth c X Q ls st h cn kn pc' ls' st' h' cn' kn' hf hrc hrs H locs la hW hS hL k
  obtain ⟨hx, hb, hr, hml, hown, hlk, hnm, htf, htt, hfr, hlo, hl, hG⟩ := X
  cases hf
  exact lv_bipush hx hb hd hv (k H locs la hW hS hL)
theorem ok_sipush {E : ac_E} {d : ac_M} {pc : Nat} {n : Int} {v : Int32} (hd : decode d.2.1 pc = .ok (.sipush n, 3)) (hv : (Int16.ofInt n).toInt32 = v) : ac_ok E d pc (o_con (.int v) (pc + 3)) := by
  intro p l e R s m args below meth c X Q ls st h cn kn pc' ls' st' h' cn' kn' hf hrc hrs H locs la hW hS hL k
  obtain ⟨hx, hb, hr, hml, hown, hlk, hnm, htf, htt, hfr, hlo, hl, hG⟩ := X
  cases hf
  exact lv_sipush hx hb hd hv (k H locs la hW hS hL)
theorem ok_lconst {E : ac_E} {d : ac_M} {pc : Nat} {n : Fin 2} {v : Int64} (hd : decode d.2.1 pc = .ok (.lconst n, 1)) (hv : Int64.ofNat (n : Nat) = v) : ac_ok E d pc (o_con (.long v) (pc + 1)) := by
  intro p l e R s m args below meth c X Q ls st h cn kn pc' ls' st' h' cn' kn' hf hrc hrs H locs la hW hS hL k
  obtain ⟨hx, hb, hr, hml, hown, hlk, hnm, htf, htt, hfr, hlo, hl, hG⟩ := X
  cases hf
  exact lv_lconst hx hb hd hv (k H locs la hW hS hL)
theorem ok_ldc {E : ac_E} {d : ac_M} {pc : Nat} {i : Nat} {v : Int32} (hd : decode d.2.1 pc = .ok (.ldc i, 2)) (hw : Cond.constant d.1.cls i v ∈ ac_tbl) : ac_ok E d pc (o_con (.int v) (pc + 2)) := by
  intro p l e R s m args below meth c X Q ls st h cn kn pc' ls' st' h' cn' kn' hf hrc hrs H locs la hW hS hL k
  obtain ⟨hx, hb, hr, hml, hown, hlk, hnm, htf, htt, hfr, hlo, hl, hG⟩ := X
  cases hf
  exact lv_ldc hx hb hown (hG.2.1 _ _ hw) hd (k H locs la hW hS hL)
theorem ok_ldc_w {E : ac_E} {d : ac_M} {pc : Nat} {i : Nat} {v : Int32} (hd : decode d.2.1 pc = .ok (.ldc_w i, 3)) (hw : Cond.constant d.1.cls i v ∈ ac_tbl) : ac_ok E d pc (o_con (.int v) (pc + 3)) := by
  intro p l e R s m args below meth c X Q ls st h cn kn pc' ls' st' h' cn' kn' hf hrc hrs H locs la hW hS hL k
  obtain ⟨hx, hb, hr, hml, hown, hlk, hnm, htf, htt, hfr, hlo, hl, hG⟩ := X
  cases hf
  exact lv_ldcw hx hb hown (hG.2.1 _ _ hw) hd (k H locs la hW hS hL)
theorem ok_iload_n {E : ac_E} {d : ac_M} {pc : Nat} {j : Fin 4} (hd : decode d.2.1 pc = .ok (.iload_n j, 1)) : ac_ok E d pc (o_ild (j : Nat) (pc + 1)) := by
  intro p l e R s m args below meth c X Q ls st h cn kn pc' ls' st' h' cn' kn' hf hrc hrs H locs la hW hS hL k
  obtain ⟨hx, hb, hr, hml, hown, hlk, hnm, htf, htt, hfr, hlo, hl, hG⟩ := X
  unfold o_ild at hf
  dsimp only at hf
  split at hf
  · rename_i x hx2
    cases hf
    exact lv_iload_n hx hb hd rfl (hL.2.2.2 _ _ hx2 rfl) (k H locs la hW hS hL)
  · cases hf
theorem ok_iload {E : ac_E} {d : ac_M} {pc : Nat} {i : Nat} (hd : decode d.2.1 pc = .ok (.iload i, 2)) : ac_ok E d pc (o_ild i (pc + 2)) := by
  intro p l e R s m args below meth c X Q ls st h cn kn pc' ls' st' h' cn' kn' hf hrc hrs H locs la hW hS hL k
  obtain ⟨hx, hb, hr, hml, hown, hlk, hnm, htf, htt, hfr, hlo, hl, hG⟩ := X
  unfold o_ild at hf
  dsimp only at hf
  split at hf
  · rename_i x hx2
    cases hf
    exact lv_iload hx hb hd (hL.2.2.2 _ _ hx2 rfl) (k H locs la hW hS hL)
  · cases hf
theorem ok_aload_n {E : ac_E} {d : ac_M} {pc : Nat} {j : Fin 4} (hd : decode d.2.1 pc = .ok (.aload_n j, 1)) : ac_ok E d pc (o_ald (j : Nat) (pc + 1)) := by
  intro p l e R s m args below meth c X Q ls st h cn kn pc' ls' st' h' cn' kn' hf hrc hrs H locs la hW hS hL k
  obtain ⟨hx, hb, hr, hml, hown, hlk, hnm, htf, htt, hfr, hlo, hl, hG⟩ := X
  unfold o_ald at hf
  dsimp only at hf
  split at hf
  · rename_i x hx2
    cases hf
    exact lv_aload_n hx hb hd rfl (hL.2.2.2 _ _ hx2 rfl) (k H locs la hW hS hL)
  · rename_i x hx2
    cases hf
    exact lv_aload_n hx hb hd rfl (hL.2.2.2 _ _ hx2 rfl) (k H locs la hW hS hL)
  · cases hf
theorem ok_aload {E : ac_E} {d : ac_M} {pc : Nat} {i : Nat} (hd : decode d.2.1 pc = .ok (.aload i, 2)) : ac_ok E d pc (o_ald i (pc + 2)) := by
  intro p l e R s m args below meth c X Q ls st h cn kn pc' ls' st' h' cn' kn' hf hrc hrs H locs la hW hS hL k
  obtain ⟨hx, hb, hr, hml, hown, hlk, hnm, htf, htt, hfr, hlo, hl, hG⟩ := X
  unfold o_ald at hf
  dsimp only at hf
  split at hf
  · rename_i x hx2
    cases hf
    exact lv_aload hx hb hd (hL.2.2.2 _ _ hx2 rfl) (k H locs la hW hS hL)
  · rename_i x hx2
    cases hf
    exact lv_aload hx hb hd (hL.2.2.2 _ _ hx2 rfl) (k H locs la hW hS hL)
  · cases hf
theorem ok_istore_n {E : ac_E} {d : ac_M} {pc : Nat} {j : Fin 4} (hd : decode d.2.1 pc = .ok (.istore_n j, 1)) : ac_ok E d pc (o_ist (j : Nat) (pc + 1)) := by
  intro p l e R s m args below meth c X Q ls st h cn kn pc' ls' st' h' cn' kn' hf hrc hrs H locs la hW hS hL k
  obtain ⟨hx, hb, hr, hml, hown, hlk, hnm, htf, htt, hfr, hlo, hl, hG⟩ := X
  unfold o_ist at hf
  dsimp only at hf
  split at hf
  · obtain ⟨hi, hf⟩ := ac_set_some hf
    cases hf
    exact lv_istore_n hx hb hd rfl hL.has (by rw [← hL.2.1]; exact hi) rfl (fun ls1 h1 => k H locs ls1 hW hS (hL.put h1 (fun _ => rfl)))
  · cases hf
theorem ok_istore {E : ac_E} {d : ac_M} {pc : Nat} {i : Nat} (hd : decode d.2.1 pc = .ok (.istore i, 2)) : ac_ok E d pc (o_ist i (pc + 2)) := by
  intro p l e R s m args below meth c X Q ls st h cn kn pc' ls' st' h' cn' kn' hf hrc hrs H locs la hW hS hL k
  obtain ⟨hx, hb, hr, hml, hown, hlk, hnm, htf, htt, hfr, hlo, hl, hG⟩ := X
  unfold o_ist at hf
  dsimp only at hf
  split at hf
  · obtain ⟨hi, hf⟩ := ac_set_some hf
    cases hf
    exact lv_istore hx hb hd hL.has (by rw [← hL.2.1]; exact hi) rfl (fun ls1 h1 => k H locs ls1 hW hS (hL.put h1 (fun _ => rfl)))
  · cases hf
theorem ok_astore_n {E : ac_E} {d : ac_M} {pc : Nat} {j : Fin 4} (hd : decode d.2.1 pc = .ok (.astore_n j, 1)) : ac_ok E d pc (o_ast (j : Nat) (pc + 1)) := by
  intro p l e R s m args below meth c X Q ls st h cn kn pc' ls' st' h' cn' kn' hf hrc hrs H locs la hW hS hL k
  obtain ⟨hx, hb, hr, hml, hown, hlk, hnm, htf, htt, hfr, hlo, hl, hG⟩ := X
  unfold o_ast at hf
  dsimp only at hf
  split at hf
  · obtain ⟨hi, hf⟩ := ac_set_some hf
    cases hf
    exact lv_astore_n hx hb hd rfl hL.has (by rw [← hL.2.1]; exact hi) rfl (fun ls1 h1 => k H locs ls1 hW hS (hL.put h1 (fun _ => rfl)))
  · cases hf
theorem ok_astore {E : ac_E} {d : ac_M} {pc : Nat} {i : Nat} (hd : decode d.2.1 pc = .ok (.astore i, 2)) : ac_ok E d pc (o_ast i (pc + 2)) := by
  intro p l e R s m args below meth c X Q ls st h cn kn pc' ls' st' h' cn' kn' hf hrc hrs H locs la hW hS hL k
  obtain ⟨hx, hb, hr, hml, hown, hlk, hnm, htf, htt, hfr, hlo, hl, hG⟩ := X
  unfold o_ast at hf
  dsimp only at hf
  split at hf
  · obtain ⟨hi, hf⟩ := ac_set_some hf
    cases hf
    exact lv_astore hx hb hd hL.has (by rw [← hL.2.1]; exact hi) rfl (fun ls1 h1 => k H locs ls1 hW hS (hL.put h1 (fun _ => rfl)))
  · cases hf
theorem ok_iinc {E : ac_E} {d : ac_M} {pc : Nat} {i : Nat} {n : Int} {v : Int32} (hd : decode d.2.1 pc = .ok (.iinc i n, 3)) (hv : Int32.ofInt n = v) : ac_ok E d pc (o_inc i v (pc + 3)) := by
  intro p l e R s m args below meth c X Q ls st h cn kn pc' ls' st' h' cn' kn' hf hrc hrs H locs la hW hS hL k
  obtain ⟨hx, hb, hr, hml, hown, hlk, hnm, htf, htt, hfr, hlo, hl, hG⟩ := X
  subst hv
  unfold o_inc at hf
  dsimp only at hf
  split at hf
  · rename_i x hx2
    obtain ⟨hi, hf⟩ := ac_set_some hf
    cases hf
    obtain ⟨q, hq⟩ := List.getElem?_of_mem (ac_lv_mem (E := E) (q := (i, .int x)).mpr ⟨_, hx2, rfl, rfl⟩)
    exact lv_iinc hx hb hd hL.has hq rfl (by rw [← hL.2.1]; exact hi) rfl (fun ls1 h1 => k H locs ls1 hW hS (hL.put h1 (fun _ => rfl)))
  · cases hf
theorem ok_iadd {E : ac_E} {d : ac_M} {pc : Nat} (hd : decode d.2.1 pc = .ok (.iadd, 1)) : ac_ok E d pc (o_add (pc + 1)) := by
  intro p l e R s m args below meth c X Q ls st h cn kn pc' ls' st' h' cn' kn' hf hrc hrs H locs la hW hS hL k
  obtain ⟨hx, hb, hr, hml, hown, hlk, hnm, htf, htt, hfr, hlo, hl, hG⟩ := X
  unfold o_add at hf
  dsimp only at hf
  split at hf
  · cases hf
    exact lv_iadd hx hb hd (k H locs la hW hS hL)
  · cases hf
theorem ok_isub {E : ac_E} {d : ac_M} {pc : Nat} (hd : decode d.2.1 pc = .ok (.isub, 1)) : ac_ok E d pc (o_sub (pc + 1)) := by
  intro p l e R s m args below meth c X Q ls st h cn kn pc' ls' st' h' cn' kn' hf hrc hrs H locs la hW hS hL k
  obtain ⟨hx, hb, hr, hml, hown, hlk, hnm, htf, htt, hfr, hlo, hl, hG⟩ := X
  unfold o_sub at hf
  dsimp only at hf
  split at hf
  · cases hf
    exact lv_isub hx hb hd (k H locs la hW hS hL)
  · cases hf
theorem ok_imul {E : ac_E} {d : ac_M} {pc : Nat} (hd : decode d.2.1 pc = .ok (.imul, 1)) : ac_ok E d pc (o_mul (pc + 1)) := by
  intro p l e R s m args below meth c X Q ls st h cn kn pc' ls' st' h' cn' kn' hf hrc hrs H locs la hW hS hL k
  obtain ⟨hx, hb, hr, hml, hown, hlk, hnm, htf, htt, hfr, hlo, hl, hG⟩ := X
  unfold o_mul at hf
  dsimp only at hf
  split at hf
  · cases hf
    exact lv_imul hx hb hd (k H locs la hW hS hL)
  · cases hf
theorem ok_iand {E : ac_E} {d : ac_M} {pc : Nat} (hd : decode d.2.1 pc = .ok (.iand, 1)) : ac_ok E d pc (o_and (pc + 1)) := by
  intro p l e R s m args below meth c X Q ls st h cn kn pc' ls' st' h' cn' kn' hf hrc hrs H locs la hW hS hL k
  obtain ⟨hx, hb, hr, hml, hown, hlk, hnm, htf, htt, hfr, hlo, hl, hG⟩ := X
  unfold o_and at hf
  dsimp only at hf
  split at hf
  · cases hf
    exact lv_iand hx hb hd (k H locs la hW hS hL)
  · cases hf
theorem ok_ior {E : ac_E} {d : ac_M} {pc : Nat} (hd : decode d.2.1 pc = .ok (.ior, 1)) : ac_ok E d pc (o_or (pc + 1)) := by
  intro p l e R s m args below meth c X Q ls st h cn kn pc' ls' st' h' cn' kn' hf hrc hrs H locs la hW hS hL k
  obtain ⟨hx, hb, hr, hml, hown, hlk, hnm, htf, htt, hfr, hlo, hl, hG⟩ := X
  unfold o_or at hf
  dsimp only at hf
  split at hf
  · cases hf
    exact lv_ior hx hb hd (k H locs la hW hS hL)
  · cases hf
theorem ok_ixor {E : ac_E} {d : ac_M} {pc : Nat} (hd : decode d.2.1 pc = .ok (.ixor, 1)) : ac_ok E d pc (o_xor (pc + 1)) := by
  intro p l e R s m args below meth c X Q ls st h cn kn pc' ls' st' h' cn' kn' hf hrc hrs H locs la hW hS hL k
  obtain ⟨hx, hb, hr, hml, hown, hlk, hnm, htf, htt, hfr, hlo, hl, hG⟩ := X
  unfold o_xor at hf
  dsimp only at hf
  split at hf
  · cases hf
    exact lv_ixor hx hb hd (k H locs la hW hS hL)
  · cases hf
theorem ok_ishl {E : ac_E} {d : ac_M} {pc : Nat} (hd : decode d.2.1 pc = .ok (.ishl, 1)) : ac_ok E d pc (o_shl (pc + 1)) := by
  intro p l e R s m args below meth c X Q ls st h cn kn pc' ls' st' h' cn' kn' hf hrc hrs H locs la hW hS hL k
  obtain ⟨hx, hb, hr, hml, hown, hlk, hnm, htf, htt, hfr, hlo, hl, hG⟩ := X
  unfold o_shl at hf
  dsimp only at hf
  split at hf
  · cases hf
    exact lv_ishl hx hb hd (k H locs la hW hS hL)
  · cases hf
theorem ok_ishr {E : ac_E} {d : ac_M} {pc : Nat} (hd : decode d.2.1 pc = .ok (.ishr, 1)) : ac_ok E d pc (o_shr (pc + 1)) := by
  intro p l e R s m args below meth c X Q ls st h cn kn pc' ls' st' h' cn' kn' hf hrc hrs H locs la hW hS hL k
  obtain ⟨hx, hb, hr, hml, hown, hlk, hnm, htf, htt, hfr, hlo, hl, hG⟩ := X
  unfold o_shr at hf
  dsimp only at hf
  split at hf
  · cases hf
    exact lv_ishr hx hb hd (k H locs la hW hS hL)
  · cases hf
theorem ok_iushr {E : ac_E} {d : ac_M} {pc : Nat} (hd : decode d.2.1 pc = .ok (.iushr, 1)) : ac_ok E d pc (o_ush (pc + 1)) := by
  intro p l e R s m args below meth c X Q ls st h cn kn pc' ls' st' h' cn' kn' hf hrc hrs H locs la hW hS hL k
  obtain ⟨hx, hb, hr, hml, hown, hlk, hnm, htf, htt, hfr, hlo, hl, hG⟩ := X
  unfold o_ush at hf
  dsimp only at hf
  split at hf
  · cases hf
    exact lv_iushr hx hb hd rfl (k H locs la hW hS hL)
  · cases hf
theorem ok_idiv {E : ac_E} {d : ac_M} {pc : Nat} (hd : decode d.2.1 pc = .ok (.idiv, 1)) : ac_ok E d pc (o_div (pc + 1)) := by
  intro p l e R s m args below meth c X Q ls st h cn kn pc' ls' st' h' cn' kn' hf hrc hrs H locs la hW hS hL k
  obtain ⟨hx, hb, hr, hml, hown, hlk, hnm, htf, htt, hfr, hlo, hl, hG⟩ := X
  unfold o_div at hf
  dsimp only at hf
  split at hf
  · split at hf
    · cases hf
    · cases hf
      exact lv_idiv hx hb hd (by assumption) (k H locs la hW hS hL)
  · cases hf
theorem ok_irem {E : ac_E} {d : ac_M} {pc : Nat} (hd : decode d.2.1 pc = .ok (.irem, 1)) : ac_ok E d pc (o_rem (pc + 1)) := by
  intro p l e R s m args below meth c X Q ls st h cn kn pc' ls' st' h' cn' kn' hf hrc hrs H locs la hW hS hL k
  obtain ⟨hx, hb, hr, hml, hown, hlk, hnm, htf, htt, hfr, hlo, hl, hG⟩ := X
  unfold o_rem at hf
  dsimp only at hf
  split at hf
  · split at hf
    · cases hf
    · cases hf
      exact lv_irem hx hb hd (by assumption) (k H locs la hW hS hL)
  · cases hf
theorem ok_ineg {E : ac_E} {d : ac_M} {pc : Nat} (hd : decode d.2.1 pc = .ok (.ineg, 1)) : ac_ok E d pc (o_neg (pc + 1)) := by
  intro p l e R s m args below meth c X Q ls st h cn kn pc' ls' st' h' cn' kn' hf hrc hrs H locs la hW hS hL k
  obtain ⟨hx, hb, hr, hml, hown, hlk, hnm, htf, htt, hfr, hlo, hl, hG⟩ := X
  unfold o_neg at hf
  dsimp only at hf
  split at hf
  · cases hf
    exact lv_ineg hx hb hd (k H locs la hW hS hL)
  · cases hf
theorem ok_i2l {E : ac_E} {d : ac_M} {pc : Nat} (hd : decode d.2.1 pc = .ok (.i2l, 1)) : ac_ok E d pc (o_i2l (pc + 1)) := by
  intro p l e R s m args below meth c X Q ls st h cn kn pc' ls' st' h' cn' kn' hf hrc hrs H locs la hW hS hL k
  obtain ⟨hx, hb, hr, hml, hown, hlk, hnm, htf, htt, hfr, hlo, hl, hG⟩ := X
  unfold o_i2l at hf
  dsimp only at hf
  split at hf
  · cases hf
    exact lv_i2l hx hb hd rfl (k H locs la hW hS hL)
  · cases hf
theorem ok_lcmp {E : ac_E} {d : ac_M} {pc : Nat} (hd : decode d.2.1 pc = .ok (.lcmp, 1)) : ac_ok E d pc (o_lcm (pc + 1)) := by
  intro p l e R s m args below meth c X Q ls st h cn kn pc' ls' st' h' cn' kn' hf hrc hrs H locs la hW hS hL k
  obtain ⟨hx, hb, hr, hml, hown, hlk, hnm, htf, htt, hfr, hlo, hl, hG⟩ := X
  unfold o_lcm at hf
  dsimp only at hf
  split at hf
  · cases hf
    exact W.lcmp hx hb hd (k H locs la hW hS hL)
  · cases hf
theorem ok_dup {E : ac_E} {d : ac_M} {pc : Nat} (hd : decode d.2.1 pc = .ok (.dup, 1)) : ac_ok E d pc (o_dup (pc + 1)) := by
  intro p l e R s m args below meth c X Q ls st h cn kn pc' ls' st' h' cn' kn' hf hrc hrs H locs la hW hS hL k
  obtain ⟨hx, hb, hr, hml, hown, hlk, hnm, htf, htt, hfr, hlo, hl, hG⟩ := X
  unfold o_dup at hf
  dsimp only at hf
  split at hf
  · cases hf
    exact lv_dup hx hb hd rfl (k H locs la hW hS hL)
  · cases hf
    exact lv_dup hx hb hd rfl (k H locs la hW hS hL)
  · cases hf
theorem ok_dup_x1 {E : ac_E} {d : ac_M} {pc : Nat} (hd : decode d.2.1 pc = .ok (.dup_x1, 1)) : ac_ok E d pc (o_dx1 (pc + 1)) := by
  intro p l e R s m args below meth c X Q ls st h cn kn pc' ls' st' h' cn' kn' hf hrc hrs H locs la hW hS hL k
  obtain ⟨hx, hb, hr, hml, hown, hlk, hnm, htf, htt, hfr, hlo, hl, hG⟩ := X
  unfold o_dx1 at hf
  dsimp only at hf
  split at hf
  · cases hf
    exact lv_dup_x1 hx hb hd rfl rfl (k H locs la hW hS hL)
  · cases hf
theorem ok_dup2 {E : ac_E} {d : ac_M} {pc : Nat} (hd : decode d.2.1 pc = .ok (.dup2, 1)) : ac_ok E d pc (o_dp2 (pc + 1)) := by
  intro p l e R s m args below meth c X Q ls st h cn kn pc' ls' st' h' cn' kn' hf hrc hrs H locs la hW hS hL k
  obtain ⟨hx, hb, hr, hml, hown, hlk, hnm, htf, htt, hfr, hlo, hl, hG⟩ := X
  unfold o_dp2 at hf
  dsimp only at hf
  split at hf
  · cases hf
    exact lv_dup2_11 hx hb hd rfl rfl (k H locs la hW hS hL)
  · cases hf
theorem ok_pop {E : ac_E} {d : ac_M} {pc : Nat} (hd : decode d.2.1 pc = .ok (.pop, 1)) : ac_ok E d pc (o_pop (pc + 1)) := by
  intro p l e R s m args below meth c X Q ls st h cn kn pc' ls' st' h' cn' kn' hf hrc hrs H locs la hW hS hL k
  obtain ⟨hx, hb, hr, hml, hown, hlk, hnm, htf, htt, hfr, hlo, hl, hG⟩ := X
  unfold o_pop at hf
  dsimp only at hf
  split at hf
  · cases hf
    exact lv_pop hx hb hd rfl (k H locs la hW hS hL)
  · cases hf
theorem ok_goto {E : ac_E} {d : ac_M} {pc : Nat} {off : Int} {t : Nat} (hd : decode d.2.1 pc = .ok (.goto off, 3)) (ht : (pc : Int) + off = (t : Int)) : ac_ok E d pc (o_go t) := by
  intro p l e R s m args below meth c X Q ls st h cn kn pc' ls' st' h' cn' kn' hf hrc hrs H locs la hW hS hL k
  obtain ⟨hx, hb, hr, hml, hown, hlk, hnm, htf, htt, hfr, hlo, hl, hG⟩ := X
  cases hf
  exact lv_goto hx hb hd ht (k H locs la hW hS hL)
theorem ok_ifeq {E : ac_E} {d : ac_M} {pc : Nat} {off : Int} {t : Nat} (hd : decode d.2.1 pc = .ok (.ifCond .eq off, 3)) (ht : (pc : Int) + off = (t : Int)) : ac_ok E d pc (o_eq0 t (pc + 3)) := by
  intro p l e R s m args below meth c X Q ls st h cn kn pc' ls' st' h' cn' kn' hf hrc hrs H locs la hW hS hL k
  obtain ⟨hx, hb, hr, hml, hown, hlk, hnm, htf, htt, hfr, hlo, hl, hG⟩ := X
  unfold o_eq0 at hf
  dsimp only at hf
  split at hf
  · cases hf
    have k1 := k H locs la hW hS hL
    refine lv_if_eq hx hb hd ht (fun q => ?_) (fun q => ?_)
    · first | (rw [if_pos q] at k1; exact k1) | (rw [if_neg q] at k1; exact k1)
    · first | (rw [if_pos q] at k1; exact k1) | (rw [if_neg q] at k1; exact k1)
  · cases hf
theorem ok_ifne {E : ac_E} {d : ac_M} {pc : Nat} {off : Int} {t : Nat} (hd : decode d.2.1 pc = .ok (.ifCond .ne off, 3)) (ht : (pc : Int) + off = (t : Int)) : ac_ok E d pc (o_ne0 t (pc + 3)) := by
  intro p l e R s m args below meth c X Q ls st h cn kn pc' ls' st' h' cn' kn' hf hrc hrs H locs la hW hS hL k
  obtain ⟨hx, hb, hr, hml, hown, hlk, hnm, htf, htt, hfr, hlo, hl, hG⟩ := X
  unfold o_ne0 at hf
  dsimp only at hf
  split at hf
  · cases hf
    have k1 := k H locs la hW hS hL
    refine lv_if_ne hx hb hd ht (fun q => ?_) (fun q => ?_)
    · first | (rw [if_pos q] at k1; exact k1) | (rw [if_neg q] at k1; exact k1)
    · first | (rw [if_pos q] at k1; exact k1) | (rw [if_neg q] at k1; exact k1)
  · cases hf
theorem ok_iflt {E : ac_E} {d : ac_M} {pc : Nat} {off : Int} {t : Nat} (hd : decode d.2.1 pc = .ok (.ifCond .lt off, 3)) (ht : (pc : Int) + off = (t : Int)) : ac_ok E d pc (o_lt0 t (pc + 3)) := by
  intro p l e R s m args below meth c X Q ls st h cn kn pc' ls' st' h' cn' kn' hf hrc hrs H locs la hW hS hL k
  obtain ⟨hx, hb, hr, hml, hown, hlk, hnm, htf, htt, hfr, hlo, hl, hG⟩ := X
  unfold o_lt0 at hf
  dsimp only at hf
  split at hf
  · cases hf
    have k1 := k H locs la hW hS hL
    refine lv_if_lt hx hb hd ht (fun q => ?_) (fun q => ?_)
    · first | (rw [if_pos q] at k1; exact k1) | (rw [if_neg q] at k1; exact k1)
    · first | (rw [if_pos q] at k1; exact k1) | (rw [if_neg q] at k1; exact k1)
  · cases hf
theorem ok_ifge {E : ac_E} {d : ac_M} {pc : Nat} {off : Int} {t : Nat} (hd : decode d.2.1 pc = .ok (.ifCond .ge off, 3)) (ht : (pc : Int) + off = (t : Int)) : ac_ok E d pc (o_ge0 t (pc + 3)) := by
  intro p l e R s m args below meth c X Q ls st h cn kn pc' ls' st' h' cn' kn' hf hrc hrs H locs la hW hS hL k
  obtain ⟨hx, hb, hr, hml, hown, hlk, hnm, htf, htt, hfr, hlo, hl, hG⟩ := X
  unfold o_ge0 at hf
  dsimp only at hf
  split at hf
  · cases hf
    have k1 := k H locs la hW hS hL
    refine lv_if_ge hx hb hd ht (fun q => ?_) (fun q => ?_)
    · first | (rw [if_pos q] at k1; exact k1) | (rw [if_neg q] at k1; exact k1)
    · first | (rw [if_pos q] at k1; exact k1) | (rw [if_neg q] at k1; exact k1)
  · cases hf
theorem ok_ifle {E : ac_E} {d : ac_M} {pc : Nat} {off : Int} {t : Nat} (hd : decode d.2.1 pc = .ok (.ifCond .le off, 3)) (ht : (pc : Int) + off = (t : Int)) : ac_ok E d pc (o_le0 t (pc + 3)) := by
  intro p l e R s m args below meth c X Q ls st h cn kn pc' ls' st' h' cn' kn' hf hrc hrs H locs la hW hS hL k
  obtain ⟨hx, hb, hr, hml, hown, hlk, hnm, htf, htt, hfr, hlo, hl, hG⟩ := X
  unfold o_le0 at hf
  dsimp only at hf
  split at hf
  · cases hf
    have k1 := k H locs la hW hS hL
    refine lv_if_le hx hb hd ht (fun q => ?_) (fun q => ?_)
    · first | (rw [if_pos q] at k1; exact k1) | (rw [if_neg q] at k1; exact k1)
    · first | (rw [if_pos q] at k1; exact k1) | (rw [if_neg q] at k1; exact k1)
  · cases hf
theorem ok_ifgt {E : ac_E} {d : ac_M} {pc : Nat} {off : Int} {t : Nat} (hd : decode d.2.1 pc = .ok (.ifCond .gt off, 3)) (ht : (pc : Int) + off = (t : Int)) : ac_ok E d pc (o_gt0 t (pc + 3)) := by
  intro p l e R s m args below meth c X Q ls st h cn kn pc' ls' st' h' cn' kn' hf hrc hrs H locs la hW hS hL k
  obtain ⟨hx, hb, hr, hml, hown, hlk, hnm, htf, htt, hfr, hlo, hl, hG⟩ := X
  unfold o_gt0 at hf
  dsimp only at hf
  split at hf
  · cases hf
    have k1 := k H locs la hW hS hL
    refine lv_if_gt hx hb hd ht (fun q => ?_) (fun q => ?_)
    · first | (rw [if_pos q] at k1; exact k1) | (rw [if_neg q] at k1; exact k1)
    · first | (rw [if_pos q] at k1; exact k1) | (rw [if_neg q] at k1; exact k1)
  · cases hf
theorem ok_icmpeq {E : ac_E} {d : ac_M} {pc : Nat} {off : Int} {t : Nat} (hd : decode d.2.1 pc = .ok (.if_icmp .eq off, 3)) (ht : (pc : Int) + off = (t : Int)) : ac_ok E d pc (o_eq t (pc + 3)) := by
  intro p l e R s m args below meth c X Q ls st h cn kn pc' ls' st' h' cn' kn' hf hrc hrs H locs la hW hS hL k
  obtain ⟨hx, hb, hr, hml, hown, hlk, hnm, htf, htt, hfr, hlo, hl, hG⟩ := X
  unfold o_eq at hf
  dsimp only at hf
  split at hf
  · cases hf
    have k1 := k H locs la hW hS hL
    refine lv_icmp_eq hx hb hd ht (fun q => ?_) (fun q => ?_)
    · first | (rw [if_pos q] at k1; exact k1) | (rw [if_neg q] at k1; exact k1)
    · first | (rw [if_pos q] at k1; exact k1) | (rw [if_neg q] at k1; exact k1)
  · cases hf
theorem ok_icmpne {E : ac_E} {d : ac_M} {pc : Nat} {off : Int} {t : Nat} (hd : decode d.2.1 pc = .ok (.if_icmp .ne off, 3)) (ht : (pc : Int) + off = (t : Int)) : ac_ok E d pc (o_ne t (pc + 3)) := by
  intro p l e R s m args below meth c X Q ls st h cn kn pc' ls' st' h' cn' kn' hf hrc hrs H locs la hW hS hL k
  obtain ⟨hx, hb, hr, hml, hown, hlk, hnm, htf, htt, hfr, hlo, hl, hG⟩ := X
  unfold o_ne at hf
  dsimp only at hf
  split at hf
  · cases hf
    have k1 := k H locs la hW hS hL
    refine lv_icmp_ne hx hb hd ht (fun q => ?_) (fun q => ?_)
    · first | (rw [if_pos q] at k1; exact k1) | (rw [if_neg q] at k1; exact k1)
    · first | (rw [if_pos q] at k1; exact k1) | (rw [if_neg q] at k1; exact k1)
  · cases hf
theorem ok_icmplt {E : ac_E} {d : ac_M} {pc : Nat} {off : Int} {t : Nat} (hd : decode d.2.1 pc = .ok (.if_icmp .lt off, 3)) (ht : (pc : Int) + off = (t : Int)) : ac_ok E d pc (o_lt t (pc + 3)) := by
  intro p l e R s m args below meth c X Q ls st h cn kn pc' ls' st' h' cn' kn' hf hrc hrs H locs la hW hS hL k
  obtain ⟨hx, hb, hr, hml, hown, hlk, hnm, htf, htt, hfr, hlo, hl, hG⟩ := X
  unfold o_lt at hf
  dsimp only at hf
  split at hf
  · cases hf
    have k1 := k H locs la hW hS hL
    refine lv_icmp_lt hx hb hd ht (fun q => ?_) (fun q => ?_)
    · first | (rw [if_pos q] at k1; exact k1) | (rw [if_neg q] at k1; exact k1)
    · first | (rw [if_pos q] at k1; exact k1) | (rw [if_neg q] at k1; exact k1)
  · cases hf
theorem ok_icmpge {E : ac_E} {d : ac_M} {pc : Nat} {off : Int} {t : Nat} (hd : decode d.2.1 pc = .ok (.if_icmp .ge off, 3)) (ht : (pc : Int) + off = (t : Int)) : ac_ok E d pc (o_ge t (pc + 3)) := by
  intro p l e R s m args below meth c X Q ls st h cn kn pc' ls' st' h' cn' kn' hf hrc hrs H locs la hW hS hL k
  obtain ⟨hx, hb, hr, hml, hown, hlk, hnm, htf, htt, hfr, hlo, hl, hG⟩ := X
  unfold o_ge at hf
  dsimp only at hf
  split at hf
  · cases hf
    have k1 := k H locs la hW hS hL
    refine lv_icmp_ge hx hb hd ht (fun q => ?_) (fun q => ?_)
    · first | (rw [if_pos q] at k1; exact k1) | (rw [if_neg q] at k1; exact k1)
    · first | (rw [if_pos q] at k1; exact k1) | (rw [if_neg q] at k1; exact k1)
  · cases hf
theorem ok_icmple {E : ac_E} {d : ac_M} {pc : Nat} {off : Int} {t : Nat} (hd : decode d.2.1 pc = .ok (.if_icmp .le off, 3)) (ht : (pc : Int) + off = (t : Int)) : ac_ok E d pc (o_le t (pc + 3)) := by
  intro p l e R s m args below meth c X Q ls st h cn kn pc' ls' st' h' cn' kn' hf hrc hrs H locs la hW hS hL k
  obtain ⟨hx, hb, hr, hml, hown, hlk, hnm, htf, htt, hfr, hlo, hl, hG⟩ := X
  unfold o_le at hf
  dsimp only at hf
  split at hf
  · cases hf
    have k1 := k H locs la hW hS hL
    refine lv_icmp_le hx hb hd ht (fun q => ?_) (fun q => ?_)
    · first | (rw [if_pos q] at k1; exact k1) | (rw [if_neg q] at k1; exact k1)
    · first | (rw [if_pos q] at k1; exact k1) | (rw [if_neg q] at k1; exact k1)
  · cases hf
theorem ok_icmpgt {E : ac_E} {d : ac_M} {pc : Nat} {off : Int} {t : Nat} (hd : decode d.2.1 pc = .ok (.if_icmp .gt off, 3)) (ht : (pc : Int) + off = (t : Int)) : ac_ok E d pc (o_gt t (pc + 3)) := by
  intro p l e R s m args below meth c X Q ls st h cn kn pc' ls' st' h' cn' kn' hf hrc hrs H locs la hW hS hL k
  obtain ⟨hx, hb, hr, hml, hown, hlk, hnm, htf, htt, hfr, hlo, hl, hG⟩ := X
  unfold o_gt at hf
  dsimp only at hf
  split at hf
  · cases hf
    have k1 := k H locs la hW hS hL
    refine lv_icmp_gt hx hb hd ht (fun q => ?_) (fun q => ?_)
    · first | (rw [if_pos q] at k1; exact k1) | (rw [if_neg q] at k1; exact k1)
    · first | (rw [if_pos q] at k1; exact k1) | (rw [if_neg q] at k1; exact k1)
  · cases hf
