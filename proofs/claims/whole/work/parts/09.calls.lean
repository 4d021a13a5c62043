/-! ===== calls, throws, catches ===== -/
def ac_Pc (E : ac_E) (as : List Value) (h : ac_H) : Array Value → State → Prop := fun a U => a = (as.map (ac_v E)).toArray ∧ ac_G E U ∧ ac_W E h U.heap
def ac_Qr (E : ac_E) (v : Option Value) (h' : ac_H) : Array Value → State → Outcome → State → Prop := fun _ st o t => o = .returned (v.map (ac_v E)) ∧ ac_W E h' t.heap ∧ va_F (ac_A E) st t
def ac_Xr (E : ac_E) (x : Nat) (h' : ac_H) : String → State → State → Prop := fun n st t => n = ac_exn x ∧ ac_W E h' t.heap ∧ va_F (ac_A E) st t
def ac_ro (d : ac_M) (c k : Nat) : Room := { frames := d.2.2.2.2.1, cells := c, slots := k, locals := d.2.2.2.2.2.1 }
/-- its code's word -/
def ac_cw (d : ac_M) : Cond := if d.2.2.2.2.2.2.2 = true then .codeWith d.1 d.2.1 d.2.2.1 d.2.2.2.1 d.2.2.2.2.2.2.1 else .code d.1 d.2.1 d.2.2.1 d.2.2.2.1
/-- a callee that returns, one that throws -/
def ac_Mr (l : Launch) (E : ac_E) (d : ac_M) (as : List Value) (h : ac_H) (v : Option Value) (h' : ac_H) (c k : Nat) : Prop :=
  vx_Met l d.1 [ac_cw d] (ac_ro d c k) (ac_Pc E as h) (ac_Qr E v h') (fun _ _ _ => False) c k (ac_A E)
def ac_Mt (l : Launch) (E : ac_E) (d : ac_M) (as : List Value) (h : ac_H) (x : Nat) (h' : ac_H) (c k : Nat) : Prop :=
  vx_Met l d.1 [ac_cw d] (ac_ro d c k) (ac_Pc E as h) (fun _ _ _ _ => False) (ac_Xr E x h') c k (ac_A E)
theorem ac_Mr.met {l : Launch} {E : ac_E} {d : ac_M} {as : List Value} {h h' : ac_H} {v : Option Value} {c k : Nat} (hM : ac_Mr l E d as h v h' c k) : Met l d.1 [ac_cw d] (ac_ro d c k) (ac_Pc E as h) (ac_Qr E v h') c k (ac_A E) := by
  intro p e h1 h2 h3 s m args below h4 h5 h6 h7
  obtain ⟨n, o, a1, a2, a3, a4⟩ := hM p e h1 h2 h3 s m args below h4 h5 h6 h7
  refine ⟨n, o, a1, a2, a3, ?_⟩
  rcases a4 with q | ⟨q, -, -, -, -, hF, -⟩
  · exact q
  · exact hF.elim
theorem ac_blind {E : ac_E} {as : List Value} {h : ac_H} : FrameBlind (ac_Pc E as h) := fun a U g mk q => ⟨q.1, q.2.1.calling g mk a, q.2.2⟩
theorem ac_pre {E : ac_E} {as : List Value} {h : ac_H} {s : State} {H : Heap} {locs : List Loc} (hG : ac_G E s) (hW : ac_W E h H) (hS : va_S (ac_A E) s.heap H locs) (U : State) (hU : U.heap = H) (hWm : s.WarmedH U.vm) : ac_Pc E as h (as.map (ac_v E)).toArray U :=
  ⟨rfl, hG.next hWm (by rw [hU]; exact hS.1) (fun q h1 h2 => by rw [hU]; exact hS.2.1 q h1 h2), by rw [hU]; exact hW⟩
theorem ac_cat (l : List Value) (h : l.length ≤ 4) : (l.map fun v => v.category).sum ≤ 8 := by
  have h1 : ∀ l : List Value, (l.map fun v => v.category).sum ≤ 2 * l.length := by
    intro l
    induction l with
    | nil => exact Nat.le_refl 0
    | cons a l ih =>
      simp only [List.map_cons, List.sum_cons, List.length_cons]
      have := lv_cat a
      omega
  exact Nat.le_trans (h1 l) (by omega)
/-- behind a call: what came back -/
theorem ac_back {E : ac_E} {s st₀ t T' : State} {H : Heap} {locs L : List Loc} (h0 : st₀.heap = H) (e1 : T'.heap = t.heap) (hS : va_S (ac_A E) s.heap H locs) (hL : ∀ q ∈ L, ac_A E q.base) (hF : va_F (ac_A E) st₀ t) : va_S (ac_A E) s.heap T'.heap (locs ++ L) := by
  obtain ⟨hz, hk⟩ := hF
  rw [h0] at hz hk
  refine ⟨Nat.le_trans hS.1 (by rw [e1]; exact hz), fun q h1 h2 => by rw [e1, hk q (Nat.lt_of_lt_of_le h1 hS.1) h2]; exact hS.2.1 q h1 h2, fun q hq => ?_⟩
  rcases List.mem_append.mp hq with h | h
  · exact hS.2.2 q h
  · exact hL q h
section Runs9
variable {E : ac_E} {p : Program} {l : Launch} {e : Env} {R : Room} {s : State} {m : MethodId} {args : Array Value} {below : List Frame} {meth : Method} {c : Code} {H : Heap} {locs : List Loc} {cn kn : Nat} {Q : State → Prop} {pc : Nat} {la : Array Slot} {st0 rest : List Value} {v : Option Value} {h' : ac_H} {c' k' x : Nat} {a : Array Value}
theorem ac_goR (hr : va_Run p l e R s m args below meth c H locs cn kn c' k' (F0 m pc la st0) rest (ac_Qr E v h' a) (ac_A E)) (hS : va_S (ac_A E) s.heap H locs)
    (kk : ∀ (H1 : Heap) (locs1 : List Loc), ac_W E h' H1 → va_S (ac_A E) s.heap H1 locs1 → W p l e R s m args below meth c H1 locs1 (cn + c') (kn + k') Q (F0 m (pc + 3) la ((v.map (ac_v E)).toList ++ rest))) : W p l e R s m args below meth c H locs cn kn Q (F0 m pc la st0) := by
  intro T hT X
  obtain ⟨w, st₀, t, T', L, h0, X', hL, e1, e2, ⟨hv, hw, hF⟩, st⟩ := hr T hT X
  cases hv
  obtain ⟨t2, a1, b1⟩ := kk T'.heap (locs ++ L) (by rw [e1]; exact hw) (ac_back h0 e1 hS hL hF) T' rfl X'
  exact ⟨t2, st t2 a1, b1⟩
theorem ac_goX {XC : String → State → State → Prop} (hr : vx_Run p l e R s m args below meth c H locs cn kn c' k' (F0 m pc la st0) rest (ac_Qr E v h' a) (fun _ _ _ => False) (ac_A E)) (hS : va_S (ac_A E) s.heap H locs)
    (kk : ∀ (H1 : Heap) (locs1 : List Loc), ac_W E h' H1 → va_S (ac_A E) s.heap H1 locs1 → W p l e R s m args below meth c H1 locs1 (cn + c') (kn + k') Q (F0 m (pc + 3) la ((v.map (ac_v E)).toList ++ rest))) : W p l e R s m args below meth c H locs cn kn Q (F0 m pc la st0) := by
  intro T hT X
  rcases hr T hT X with ⟨w, st₀, t, T', L, h0, X', hL, e1, e2, ⟨hv, hw, hF⟩, st⟩ | ⟨q, st₀, t, T', L, E', ce, h0, X', hL, e1, e2, hF, -⟩
  · cases hv
    obtain ⟨t2, a1, b1⟩ := kk T'.heap (locs ++ L) (by rw [e1]; exact hw) (ac_back h0 e1 hS hL hF) T' rfl X'
    exact ⟨t2, st t2 a1, b1⟩
  · exact hF.elim
theorem ac_goT (hr : vx_Run p l e R s m args below meth c H locs cn kn c' k' (F0 m pc la st0) rest (fun _ _ _ => False) (ac_Xr E x h') (ac_A E)) (hS : va_S (ac_A E) s.heap H locs)
    (kk : ∀ (H1 : Heap) (locs1 : List Loc) (q : Addr) (ce : Cell), ac_W E h' H1 → va_S (ac_A E) s.heap H1 locs1 → H1[q]? = some ce → ce.vm = .none → s.vm.findClass (ac_exn x) = some ce.cls → vx_W p l e R s m args below meth c H1 locs1 (cn + c') (kn + k') Q (F0 m pc la rest) q) : W p l e R s m args below meth c H locs cn kn Q (F0 m pc la st0) := by
  intro T hT X
  rcases hr T hT X with ⟨w, st₀, t, T', L, h0, X', hL, e1, e2, hF, -⟩ | ⟨q, st₀, t, T', L, E', ce, h0, X', hL, e1, e2, ⟨hn, hw, hF⟩, hce, hcv, hcl, st⟩
  · exact hF.elim
  · subst hn
    obtain ⟨t2, a1, b1⟩ := kk T'.heap (locs ++ L) q ce (by rw [e1]; exact hw) (ac_back h0 e1 hS hL hF) (by rw [e1]; exact hce) hcv hcl T' rfl X'
    exact ⟨t2, st.trans a1, b1⟩
end Runs9
/-- a call at pc of a method d to one dz, which returns -/
def ac_okr (E : ac_E) (d dz : ac_M) (pc na nx rv : Nat) : Prop :=
  ∀ (p : Program) (l : Launch) (e : Env) (R : Room) (s : State) (m : MethodId) (args : Array Value) (below : List Frame) (meth : Method) (c : Code), ac_X E d p l R s m meth c →
  ∀ (Q : State → Prop) (ls as rest : List Value) (h : ac_H) (cn kn : Nat) (v : Option Value) (h' : ac_H) (c' k' : Nat), as.length = na → (∀ a ∈ as, ac_one a = true) → ac_rv rv as h = true → rest.length ≤ 4 → ac_Mr l E dz as h v h' c' k' → cn + c' ≤ R.cells → kn + k' ≤ R.slots →
  ∀ (H : Heap) (locs : List Loc) (la : Array Slot), ac_W E h H → va_S (ac_A E) s.heap H locs → ac_L E la d.2.2.1 ls →
  (∀ (H1 : Heap) (locs1 : List Loc), ac_W E h' H1 → va_S (ac_A E) s.heap H1 locs1 → W p l e R s m args below meth c H1 locs1 (cn + c') (kn + k') Q (F0 m nx la ((v.toList ++ rest).map (ac_v E)))) →
  W p l e R s m args below meth c H locs cn kn Q (F0 m pc la ((as.reverse ++ rest).map (ac_v E)))
def ac_okt (E : ac_E) (d dz : ac_M) (pc na rv : Nat) : Prop :=
  ∀ (p : Program) (l : Launch) (e : Env) (R : Room) (s : State) (m : MethodId) (args : Array Value) (below : List Frame) (meth : Method) (c : Code), ac_X E d p l R s m meth c →
  ∀ (Q : State → Prop) (ls as rest : List Value) (h : ac_H) (cn kn : Nat) (x : Nat) (h' : ac_H) (c' k' : Nat), as.length = na → (∀ a ∈ as, ac_one a = true) → ac_rv rv as h = true → rest.length ≤ 4 → ac_Mt l E dz as h x h' c' k' → cn + c' ≤ R.cells → kn + k' ≤ R.slots →
  ∀ (H : Heap) (locs : List Loc) (la : Array Slot), ac_W E h H → va_S (ac_A E) s.heap H locs → ac_L E la d.2.2.1 ls →
  (∀ (H1 : Heap) (locs1 : List Loc) (q : Addr) (ce : Cell), ac_W E h' H1 → va_S (ac_A E) s.heap H1 locs1 → H1[q]? = some ce → ce.vm = .none → s.vm.findClass (ac_exn x) = some ce.cls → vx_W p l e R s m args below meth c H1 locs1 (cn + c') (kn + k') Q (F0 m pc la (rest.map (ac_v E))) q) →
  W p l e R s m args below meth c H locs cn kn Q (F0 m pc la ((as.reverse ++ rest).map (ac_v E)))
/-- frames and locals' words suffice -/
def ac_fits (d dz : ac_M) : Bool := decide (dz.2.2.2.2.1 + 1 ≤ d.2.2.2.2.1) && decide (8 + (dz.2.2.1 + 11) + dz.2.2.2.2.2.1 ≤ d.2.2.2.2.2.1)
def ac_name (y : MethodName) (n : Nat) : Bool := decide (y.cls ≠ "java/lang/invoke/MethodHandle") && decide (y.cls ≠ "java/lang/invoke/VarHandle") && decide ((parseMethodDescriptor y.desc).map (fun d => d.parameters.length) = some n)
theorem ac_name_spec {y : MethodName} {n : Nat} (h : ac_name y n = true) : (y.cls ≠ "java/lang/invoke/MethodHandle" ∧ y.cls ≠ "java/lang/invoke/VarHandle") ∧ ∀ sig, parseMethodDescriptor y.desc = some sig → n = sig.parameters.length := by
  simp only [ac_name, Bool.and_eq_true, decide_eq_true_eq] at h
  refine ⟨⟨h.1.1, h.1.2⟩, fun sig hs => ?_⟩
  have h2 := h.2
  rw [hs] at h2
  exact (Option.some.inj h2).symm
theorem ac_cw_code {d : ac_M} (h : d.2.2.2.2.2.2.2 = false) : ac_cw d = .code d.1 d.2.1 d.2.2.1 d.2.2.2.1 := by simp [ac_cw, h]
theorem ac_cw_with {d : ac_M} (h : d.2.2.2.2.2.2.2 = true) : ac_cw d = .codeWith d.1 d.2.1 d.2.2.1 d.2.2.2.1 d.2.2.2.2.2.2.1 := by simp [ac_cw, h]
theorem ac_ws {E : ac_E} {s : State} {d : ac_M} (hG : ac_G E s) (hw : ac_cw d ∈ ac_tbl) : ∀ w ∈ [ac_cw d], ∀ (a' : Array Value) (U : State), s.WarmedH U.vm → w.before a' U = true := by
  intro w h a' U hW
  rw [List.mem_singleton.mp h]
  exact ac_keep_at hW (List.mem_filter.mp hw).2 (hG.2.1 #[] _ hw)
theorem ac_vmap (E : ac_E) (v : Option Value) (rest : List Value) : (v.map (ac_v E)).toList ++ rest.map (ac_v E) = (v.toList ++ rest).map (ac_v E) := by cases v <;> rfl
theorem ac_room {m : MethodId} {pc : Nat} {la : Array Slot} {st : List Value} {E : ac_E} {rest : List Value} (h : rest.length ≤ 4) : 2 * (F0 m pc la st).monitorRoom + ((rest.map (ac_v E)).map fun v => v.category).sum ≤ 8 := lv_room (ac_cat _ (by simpa using h))
/-- invokestatic, own link, a method without a table -/
theorem ok_callS {E : ac_E} {d dz : ac_M} {pc na index : Nat} (ht : dz.2.2.2.2.2.2.2 = false) (hft : ac_fits d dz = true) (hn : ac_name dz.1 na = true) (hcw : ac_cw dz ∈ ac_tbl) (hin : Cond.initialized dz.1.cls ∈ ac_tbl) (hl : Cond.methodLink d.1.cls index dz.1 ∈ ac_tbl) (hs : Cond.static dz.1 ∈ ac_tbl) (hd : decode d.2.1 pc = .ok (.invokestatic index, 3)) : ac_okr E d dz pc na (pc + 3) 0 ∧ ac_okt E d dz pc na 0 := by
  simp only [ac_fits, Bool.and_eq_true, decide_eq_true_eq] at hft
  constructor
  · intro p l e R s m args below meth c X Q ls as rest h cn kn v h' c' k' hna ho hrv hrl hM hrc hrs H locs la hW hS hL k
    obtain ⟨hx, hb, hr, hml, hown, hlk, hnm, htf, htt, hfr, hlo, hst, hG⟩ := X
    have hb2 : CallB R s args d.1.cls index dz.1 dz.2.1 dz.2.2.1 dz.2.2.2.1 [ac_cw dz] (ac_ro dz c' k') c' k' na := ⟨rfl, rfl, Nat.le_trans hft.1 hfr, Nat.le_trans hft.2 hlo, ac_ws hG hcw, by rw [ac_cw_code ht]; exact List.mem_cons_self, by rw [← ac_cw_code ht]; exact hG.2.1 _ _ hcw, hG.2.1 _ _ hin, (ac_name_spec hn).1, (ac_name_spec hn).2, hG.2.1 _ _ hl⟩
    rw [List.map_append, List.map_reverse]
    refine ac_goX (XC := fun _ _ _ => False) (vx_runS (Ts := []) (As := as.map (ac_v E)) (rest := rest.map (ac_v E)) ⟨hx, hb, hml, hown, fun w hw => nomatch hw⟩ hM ⟨hb2, hG.2.1 _ _ hs⟩ ⟨ac_blind, ac_pre hG hW hS⟩ rfl (by simpa using hna) hL.1 rfl (ac_room hrl) hd ⟨hrc, hrs⟩) hS (fun H1 locs1 w1 s1 => ?_)
    rw [ac_vmap]
    exact k H1 locs1 w1 s1
  · intro p l e R s m args below meth c X Q ls as rest h cn kn x h' c' k' hna ho hrv hrl hM hrc hrs H locs la hW hS hL k
    obtain ⟨hx, hb, hr, hml, hown, hlk, hnm, htf, htt, hfr, hlo, hst, hG⟩ := X
    have hb2 : CallB R s args d.1.cls index dz.1 dz.2.1 dz.2.2.1 dz.2.2.2.1 [ac_cw dz] (ac_ro dz c' k') c' k' na := ⟨rfl, rfl, Nat.le_trans hft.1 hfr, Nat.le_trans hft.2 hlo, ac_ws hG hcw, by rw [ac_cw_code ht]; exact List.mem_cons_self, by rw [← ac_cw_code ht]; exact hG.2.1 _ _ hcw, hG.2.1 _ _ hin, (ac_name_spec hn).1, (ac_name_spec hn).2, hG.2.1 _ _ hl⟩
    rw [List.map_append, List.map_reverse]
    exact ac_goT (vx_runS (Ts := []) (As := as.map (ac_v E)) (rest := rest.map (ac_v E)) ⟨hx, hb, hml, hown, fun w hw => nomatch hw⟩ hM ⟨hb2, hG.2.1 _ _ hs⟩ ⟨ac_blind, ac_pre hG hW hS⟩ rfl (by simpa using hna) hL.1 rfl (ac_room hrl) hd ⟨hrc, hrs⟩) hS k
/-- invokestatic, own link, a method with a table -/
theorem ok_callSX {E : ac_E} {d dz : ac_M} {pc na index : Nat} (ht : dz.2.2.2.2.2.2.2 = true) (hft : ac_fits d dz = true) (hn : ac_name dz.1 na = true) (hcw : ac_cw dz ∈ ac_tbl) (hin : Cond.initialized dz.1.cls ∈ ac_tbl) (hl : Cond.methodLink d.1.cls index dz.1 ∈ ac_tbl) (hs : Cond.static dz.1 ∈ ac_tbl) (hd : decode d.2.1 pc = .ok (.invokestatic index, 3)) : ac_okr E d dz pc na (pc + 3) 0 := by
  simp only [ac_fits, Bool.and_eq_true, decide_eq_true_eq] at hft
  intro p l e R s m args below meth c X Q ls as rest h cn kn v h' c' k' hna ho hrv hrl hM hrc hrs H locs la hW hS hL k
  obtain ⟨hx, hb, hr, hml, hown, hlk, hnm, htf, htt, hfr, hlo, hst, hG⟩ := X
  have hb2 : vx_CSW R s args d.1.cls index dz.1 dz.2.1 dz.2.2.1 dz.2.2.2.1 dz.2.2.2.2.2.2.1 [ac_cw dz] (ac_ro dz c' k') c' k' na := ⟨⟨rfl, rfl, Nat.le_trans hft.1 hfr, Nat.le_trans hft.2 hlo, ac_ws hG hcw, by rw [ac_cw_with ht]; exact List.mem_cons_self⟩, by rw [← ac_cw_with ht]; exact hG.2.1 _ _ hcw, hG.2.1 _ _ hin, (ac_name_spec hn).1, (ac_name_spec hn).2, hG.2.1 _ _ hl, hG.2.1 _ _ hs⟩
  rw [List.map_append, List.map_reverse]
  refine ac_goX (XC := fun _ _ _ => False) (vx_runSX (Ts := []) (As := as.map (ac_v E)) (rest := rest.map (ac_v E)) ⟨hx, hb, hml, hown, fun w hw => nomatch hw⟩ hM hb2 ⟨ac_blind, ac_pre hG hW hS⟩ rfl (by simpa using hna) hL.1 rfl (ac_room hrl) hd ⟨hrc, hrs⟩) hS (fun H1 locs1 w1 s1 => ?_)
  rw [ac_vmap]
  exact k H1 locs1 w1 s1
/-- invokevirtual, own link -/
theorem ok_callV {E : ac_E} {d dz : ac_M} {pc n index ci : Nat} {C : String} {T : u_T} {N : Nat} (hc : vwCl[ci]? = some (C, T, N)) (ht : dz.2.2.2.2.2.2.2 = false) (hft : ac_fits d dz = true) (hn : ac_name dz.1 n = true) (hcw : ac_cw dz ∈ ac_tbl) (hin : Cond.initialized dz.1.cls ∈ ac_tbl) (hl : Cond.methodLink d.1.cls index dz.1 ∈ ac_tbl) (hi : Cond.instanceMethod dz.1 ∈ ac_tbl) (hse : Cond.selects C dz.1 dz.1 ∈ ac_tbl) (hd : decode d.2.1 pc = .ok (.invokevirtual index, 3)) : ac_okr E d dz pc (n + 1) (pc + 3) (ci + 2) ∧ ac_okt E d dz pc (n + 1) (ci + 2) := by
  simp only [ac_fits, Bool.and_eq_true, decide_eq_true_eq] at hft
  constructor
  · intro p l e R s m args below meth c X Q ls as rest h cn kn v h' c' k' hna ho hrv hrl hM hrc hrs H locs la hW hS hL k
    obtain ⟨hx, hb, hr, hml, hown, hlk, hnm, htf, htt, hfr, hlo, hst, hG⟩ := X
    have hb2 : CallB R s args d.1.cls index dz.1 dz.2.1 dz.2.2.1 dz.2.2.2.1 [ac_cw dz] (ac_ro dz c' k') c' k' n := ⟨rfl, rfl, Nat.le_trans hft.1 hfr, Nat.le_trans hft.2 hlo, ac_ws hG hcw, by rw [ac_cw_code ht]; exact List.mem_cons_self, by rw [← ac_cw_code ht]; exact hG.2.1 _ _ hcw, hG.2.1 _ _ hin, (ac_name_spec hn).1, (ac_name_spec hn).2, hG.2.1 _ _ hl⟩
    cases as with
    | nil => cases hna
    | cons a0 as =>
      cases a0 with
      | ref b =>
        simp only [ac_rv] at hrv
        cases hh : h[b]? with
        | none => rw [hh] at hrv; cases hrv
        | some ce =>
          rw [hh] at hrv
          cases ce with
          | inl z => cases hrv
          | inr z =>
            obtain ⟨cj, fs⟩ := z
            have hcj : cj = ci := Nat.eq_of_beq_eq_true hrv
            subst hcj
            have hrec : ∃ cellB : Cell, H[ac_b E + b]? = some cellB ∧ cellB.vm.isStatics = false ∧ s.vm.findClass C = some cellB.cls := by
              obtain ⟨cell, g1, g2, g3, -⟩ := hW.2 b _ hh _ hc
              exact ⟨cell, g1, by rw [g3]; rfl, by rw [g2]; exact (hG.2.2.1.1 cj _ hc).2.1⟩
            have est : ((Value.ref b :: as).reverse ++ rest).map (ac_v E) = (as.map (ac_v E)).reverse ++ .ref (ac_b E + b) :: rest.map (ac_v E) := by simp [ac_v]
            rw [est]
            refine ac_goX (XC := fun _ _ _ => False) (vx_runV (Ts := []) (As := as.map (ac_v E)) (rest := rest.map (ac_v E)) ⟨hx, hb, hml, hown, fun w hw => nomatch hw⟩ hM ⟨hb2, hG.2.1 _ _ hi, hG.2.1 _ _ hse⟩ ⟨ac_blind, hrec, ac_pre (as := .ref b :: as) hG hW hS⟩ rfl (by simpa using hna) hL.1 rfl (ac_room hrl) hd ⟨hrc, hrs⟩) hS (fun H1 locs1 w1 s1 => ?_)
            rw [ac_vmap]
            exact k H1 locs1 w1 s1
      | int z => exact absurd hrv (by simp [ac_rv])
      | long z => exact absurd hrv (by simp [ac_rv])
      | float z => exact absurd hrv (by simp [ac_rv])
      | double z => exact absurd hrv (by simp [ac_rv])
      | retAddr z => exact absurd hrv (by simp [ac_rv])
      | null => exact absurd hrv (by simp [ac_rv])
  · intro p l e R s m args below meth c X Q ls as rest h cn kn x h' c' k' hna ho hrv hrl hM hrc hrs H locs la hW hS hL k
    obtain ⟨hx, hb, hr, hml, hown, hlk, hnm, htf, htt, hfr, hlo, hst, hG⟩ := X
    have hb2 : CallB R s args d.1.cls index dz.1 dz.2.1 dz.2.2.1 dz.2.2.2.1 [ac_cw dz] (ac_ro dz c' k') c' k' n := ⟨rfl, rfl, Nat.le_trans hft.1 hfr, Nat.le_trans hft.2 hlo, ac_ws hG hcw, by rw [ac_cw_code ht]; exact List.mem_cons_self, by rw [← ac_cw_code ht]; exact hG.2.1 _ _ hcw, hG.2.1 _ _ hin, (ac_name_spec hn).1, (ac_name_spec hn).2, hG.2.1 _ _ hl⟩
    cases as with
    | nil => cases hna
    | cons a0 as =>
      cases a0 with
      | ref b =>
        simp only [ac_rv] at hrv
        cases hh : h[b]? with
        | none => rw [hh] at hrv; cases hrv
        | some ce =>
          rw [hh] at hrv
          cases ce with
          | inl z => cases hrv
          | inr z =>
            obtain ⟨cj, fs⟩ := z
            have hcj : cj = ci := Nat.eq_of_beq_eq_true hrv
            subst hcj
            have hrec : ∃ cellB : Cell, H[ac_b E + b]? = some cellB ∧ cellB.vm.isStatics = false ∧ s.vm.findClass C = some cellB.cls := by
              obtain ⟨cell, g1, g2, g3, -⟩ := hW.2 b _ hh _ hc
              exact ⟨cell, g1, by rw [g3]; rfl, by rw [g2]; exact (hG.2.2.1.1 cj _ hc).2.1⟩
            have est : ((Value.ref b :: as).reverse ++ rest).map (ac_v E) = (as.map (ac_v E)).reverse ++ .ref (ac_b E + b) :: rest.map (ac_v E) := by simp [ac_v]
            rw [est]
            exact ac_goT (vx_runV (Ts := []) (As := as.map (ac_v E)) (rest := rest.map (ac_v E)) ⟨hx, hb, hml, hown, fun w hw => nomatch hw⟩ hM ⟨hb2, hG.2.1 _ _ hi, hG.2.1 _ _ hse⟩ ⟨ac_blind, hrec, ac_pre (as := .ref b :: as) hG hW hS⟩ rfl (by simpa using hna) hL.1 rfl (ac_room hrl) hd ⟨hrc, hrs⟩) hS k
      | int z => exact absurd hrv (by simp [ac_rv])
      | long z => exact absurd hrv (by simp [ac_rv])
      | float z => exact absurd hrv (by simp [ac_rv])
      | double z => exact absurd hrv (by simp [ac_rv])
      | retAddr z => exact absurd hrv (by simp [ac_rv])
      | null => exact absurd hrv (by simp [ac_rv])
/-- invokevirtual of a nest mate -/
theorem ok_callVN {E : ac_E} {d dz : ac_M} {pc n index ci : Nat} {C : String} {T : u_T} {N : Nat} (hc : vwCl[ci]? = some (C, T, N)) (ht : dz.2.2.2.2.2.2.2 = false) (hft : ac_fits d dz = true) (hn : ac_name dz.1 n = true) (hcw : ac_cw dz ∈ ac_tbl) (hin : Cond.initialized dz.1.cls ∈ ac_tbl) {host : String} (hl : Cond.methodLinkNest d.1.cls index dz.1 host ∈ ac_tbl) (hi : Cond.instanceMethod dz.1 ∈ ac_tbl) (hse : Cond.selects C dz.1 dz.1 ∈ ac_tbl) (hd : decode d.2.1 pc = .ok (.invokevirtual index, 3)) : ac_okr E d dz pc (n + 1) (pc + 3) (ci + 2) := by
  simp only [ac_fits, Bool.and_eq_true, decide_eq_true_eq] at hft
  intro p l e R s m args below meth c X Q ls as rest h cn kn v h' c' k' hna ho hrv hrl hM hrc hrs H locs la hW hS hL k
  obtain ⟨hx, hb, hr, hml, hown, hlk, hnm, htf, htt, hfr, hlo, hst, hG⟩ := X
  have hb2 : va_CN R s args d.1.cls index dz.1 host dz.2.1 dz.2.2.1 dz.2.2.2.1 [ac_cw dz] (ac_ro dz c' k') c' k' n := ⟨⟨rfl, rfl, Nat.le_trans hft.1 hfr, Nat.le_trans hft.2 hlo, ac_ws hG hcw, by rw [ac_cw_code ht]; exact List.mem_cons_self⟩, by rw [← ac_cw_code ht]; exact hG.2.1 _ _ hcw, hG.2.1 _ _ hin, (ac_name_spec hn).1, (ac_name_spec hn).2, hG.2.1 _ _ hl⟩
  cases as with
  | nil => cases hna
  | cons a0 as =>
    cases a0 with
    | ref b =>
      simp only [ac_rv] at hrv
      cases hh : h[b]? with
      | none => rw [hh] at hrv; cases hrv
      | some ce =>
        rw [hh] at hrv
        cases ce with
        | inl z => cases hrv
        | inr z =>
          obtain ⟨cj, fs⟩ := z
          have hcj : cj = ci := Nat.eq_of_beq_eq_true hrv
          subst hcj
          have hrec : ∃ cellB : Cell, H[ac_b E + b]? = some cellB ∧ cellB.vm.isStatics = false ∧ s.vm.findClass C = some cellB.cls := by
            obtain ⟨cell, g1, g2, g3, -⟩ := hW.2 b _ hh _ hc
            exact ⟨cell, g1, by rw [g3]; rfl, by rw [g2]; exact (hG.2.2.1.1 cj _ hc).2.1⟩
          have est : ((Value.ref b :: as).reverse ++ rest).map (ac_v E) = (as.map (ac_v E)).reverse ++ .ref (ac_b E + b) :: rest.map (ac_v E) := by simp [ac_v]
          rw [est]
          refine ac_goR (va_runVN (Ts := []) (As := as.map (ac_v E)) (rest := rest.map (ac_v E)) ⟨hx, hb, hml, hown, fun w hw => nomatch hw⟩ hM.met ⟨hb2, hG.2.1 _ _ hi, hG.2.1 _ _ hse⟩ ⟨ac_blind, hrec, ac_pre (as := .ref b :: as) hG hW hS⟩ rfl (by simpa using hna) hL.1 rfl (ac_room hrl) hd ⟨hrc, hrs⟩) hS (fun H1 locs1 w1 s1 => ?_)
          rw [ac_vmap]
          exact k H1 locs1 w1 s1
    | int z => exact absurd hrv (by simp [ac_rv])
    | long z => exact absurd hrv (by simp [ac_rv])
    | float z => exact absurd hrv (by simp [ac_rv])
    | double z => exact absurd hrv (by simp [ac_rv])
    | retAddr z => exact absurd hrv (by simp [ac_rv])
    | null => exact absurd hrv (by simp [ac_rv])
/-- invokestatic of a nest mate -/
theorem ok_callSN {E : ac_E} {d dz : ac_M} {pc na index : Nat} {host : String} (ht : dz.2.2.2.2.2.2.2 = false) (hft : ac_fits d dz = true) (hn : ac_name dz.1 na = true) (hcw : ac_cw dz ∈ ac_tbl) (hin : Cond.initialized dz.1.cls ∈ ac_tbl) (hl : Cond.methodLinkNest d.1.cls index dz.1 host ∈ ac_tbl) (hs : Cond.static dz.1 ∈ ac_tbl) (hd : decode d.2.1 pc = .ok (.invokestatic index, 3)) : ac_okr E d dz pc na (pc + 3) 0 := by
  simp only [ac_fits, Bool.and_eq_true, decide_eq_true_eq] at hft
  intro p l e R s m args below meth c X Q ls as rest h cn kn v h' c' k' hna ho hrv hrl hM hrc hrs H locs la hW hS hL k
  obtain ⟨hx, hb, hr, hml, hown, hlk, hnm, htf, htt, hfr, hlo, hst, hG⟩ := X
  have hb2 : va_CN R s args d.1.cls index dz.1 host dz.2.1 dz.2.2.1 dz.2.2.2.1 [ac_cw dz] (ac_ro dz c' k') c' k' na := ⟨⟨rfl, rfl, Nat.le_trans hft.1 hfr, Nat.le_trans hft.2 hlo, ac_ws hG hcw, by rw [ac_cw_code ht]; exact List.mem_cons_self⟩, by rw [← ac_cw_code ht]; exact hG.2.1 _ _ hcw, hG.2.1 _ _ hin, (ac_name_spec hn).1, (ac_name_spec hn).2, hG.2.1 _ _ hl⟩
  rw [List.map_append, List.map_reverse]
  refine ac_goR (va_runSN (Ts := []) (As := as.map (ac_v E)) (rest := rest.map (ac_v E)) ⟨hx, hb, hml, hown, fun w hw => nomatch hw⟩ hM.met ⟨hb2, hG.2.1 _ _ hs, trivial⟩ ⟨ac_blind, ac_pre hG hW hS⟩ rfl (by simpa using hna) hL.1 rfl (ac_room hrl) hd ⟨hrc, hrs⟩) hS (fun H1 locs1 w1 s1 => ?_)
  rw [ac_vmap]
  exact k H1 locs1 w1 s1
/-- invokespecial <init>, own link -/
theorem ok_callI {E : ac_E} {d dz : ac_M} {pc n index : Nat} (hrt : dz.2.2.2.1 = none) (hini : dz.1.name = "<init>") (ht : dz.2.2.2.2.2.2.2 = false) (hft : ac_fits d dz = true) (hn : ac_name dz.1 n = true) (hcw : ac_cw dz ∈ ac_tbl) (hin : Cond.initialized dz.1.cls ∈ ac_tbl) (hl : Cond.methodLink d.1.cls index dz.1 ∈ ac_tbl) (hi : Cond.instanceMethod dz.1 ∈ ac_tbl) (hd : decode d.2.1 pc = .ok (.invokespecial index, 3)) : ac_okr E d dz pc (n + 1) (pc + 3) 1 := by
  simp only [ac_fits, Bool.and_eq_true, decide_eq_true_eq] at hft
  intro p l e R s m args below meth c X Q ls as rest h cn kn v h' c' k' hna ho hrv hrl hM hrc hrs H locs la hW hS hL k
  obtain ⟨hx, hb, hr, hml, hown, hlk, hnm, htf, htt, hfr, hlo, hst, hG⟩ := X
  have hb2 : CallB R s args d.1.cls index dz.1 dz.2.1 dz.2.2.1 none [ac_cw dz] (ac_ro dz c' k') c' k' n := ⟨rfl, rfl, Nat.le_trans hft.1 hfr, Nat.le_trans hft.2 hlo, ac_ws hG hcw, by rw [ac_cw_code ht, hrt]; exact List.mem_cons_self, by rw [← hrt, ← ac_cw_code ht]; exact hG.2.1 _ _ hcw, hG.2.1 _ _ hin, (ac_name_spec hn).1, (ac_name_spec hn).2, hG.2.1 _ _ hl⟩
  cases as with
  | nil => cases hna
  | cons a0 as =>
    cases a0 with
    | ref b =>
      have est : ((Value.ref b :: as).reverse ++ rest).map (ac_v E) = (as.map (ac_v E)).reverse ++ .ref (ac_b E + b) :: rest.map (ac_v E) := by simp [ac_v]
      rw [est]
      refine ac_goR (va_runI (Ts := []) (b := ac_b E + b) (As := as.map (ac_v E)) (rest := rest.map (ac_v E)) ⟨hx, hb, hml, hown, fun w hw => nomatch hw⟩ hM.met ⟨hb2, hini, hG.2.1 _ _ hi⟩ ⟨ac_blind, ac_pre (as := .ref b :: as) hG hW hS⟩ rfl (by simpa using hna) hL.1 rfl (ac_room hrl) hd ⟨hrc, hrs⟩) hS (fun H1 locs1 w1 s1 => ?_)
      rw [ac_vmap]
      exact k H1 locs1 w1 s1
    | int z => exact absurd hrv (by simp [ac_rv])
    | long z => exact absurd hrv (by simp [ac_rv])
    | float z => exact absurd hrv (by simp [ac_rv])
    | double z => exact absurd hrv (by simp [ac_rv])
    | retAddr z => exact absurd hrv (by simp [ac_rv])
    | null => exact absurd hrv (by simp [ac_rv])
/-- invokespecial <init> of a nest mate -/
theorem ok_callIN {E : ac_E} {d dz : ac_M} {pc n index : Nat} (hrt : dz.2.2.2.1 = none) (hini : dz.1.name = "<init>") (ht : dz.2.2.2.2.2.2.2 = false) (hft : ac_fits d dz = true) (hn : ac_name dz.1 n = true) (hcw : ac_cw dz ∈ ac_tbl) (hin : Cond.initialized dz.1.cls ∈ ac_tbl) {host : String} (hl : Cond.methodLinkNest d.1.cls index dz.1 host ∈ ac_tbl) (hi : Cond.instanceMethod dz.1 ∈ ac_tbl) (hd : decode d.2.1 pc = .ok (.invokespecial index, 3)) : ac_okr E d dz pc (n + 1) (pc + 3) 1 := by
  simp only [ac_fits, Bool.and_eq_true, decide_eq_true_eq] at hft
  intro p l e R s m args below meth c X Q ls as rest h cn kn v h' c' k' hna ho hrv hrl hM hrc hrs H locs la hW hS hL k
  obtain ⟨hx, hb, hr, hml, hown, hlk, hnm, htf, htt, hfr, hlo, hst, hG⟩ := X
  have hb2 : va_CN R s args d.1.cls index dz.1 host dz.2.1 dz.2.2.1 none [ac_cw dz] (ac_ro dz c' k') c' k' n := ⟨⟨rfl, rfl, Nat.le_trans hft.1 hfr, Nat.le_trans hft.2 hlo, ac_ws hG hcw, by rw [ac_cw_code ht, hrt]; exact List.mem_cons_self⟩, by rw [← hrt, ← ac_cw_code ht]; exact hG.2.1 _ _ hcw, hG.2.1 _ _ hin, (ac_name_spec hn).1, (ac_name_spec hn).2, hG.2.1 _ _ hl⟩
  cases as with
  | nil => cases hna
  | cons a0 as =>
    cases a0 with
    | ref b =>
      have est : ((Value.ref b :: as).reverse ++ rest).map (ac_v E) = (as.map (ac_v E)).reverse ++ .ref (ac_b E + b) :: rest.map (ac_v E) := by simp [ac_v]
      rw [est]
      refine ac_goR (va_runIN (Ts := []) (b := ac_b E + b) (As := as.map (ac_v E)) (rest := rest.map (ac_v E)) ⟨hx, hb, hml, hown, fun w hw => nomatch hw⟩ hM.met ⟨hb2, hini, hG.2.1 _ _ hi⟩ ⟨ac_blind, ac_pre (as := .ref b :: as) hG hW hS⟩ rfl (by simpa using hna) hL.1 rfl (ac_room hrl) hd ⟨hrc, hrs⟩) hS (fun H1 locs1 w1 s1 => ?_)
      rw [ac_vmap]
      exact k H1 locs1 w1 s1
    | int z => exact absurd hrv (by simp [ac_rv])
    | long z => exact absurd hrv (by simp [ac_rv])
    | float z => exact absurd hrv (by simp [ac_rv])
    | double z => exact absurd hrv (by simp [ac_rv])
    | retAddr z => exact absurd hrv (by simp [ac_rv])
    | null => exact absurd hrv (by simp [ac_rv])
/-- an exception of number x that comes out of a call at pc is caught: the local i takes it, and it goes on at nx -/
def ac_okh (E : ac_E) (d : ac_M) (pc x i nx : Nat) : Prop :=
  ∀ (p : Program) (l : Launch) (e : Env) (R : Room) (s : State) (m : MethodId) (args : Array Value) (below : List Frame) (meth : Method) (c : Code), ac_X E d p l R s m meth c →
  ∀ (Q : State → Prop) (ls : List Value) (rest : List Value) (cn kn : Nat) (H : Heap) (locs : List Loc) (la : Array Slot) (q : Addr) (ce : Cell), ac_L E la d.2.2.1 ls → i < ls.length → H[q]? = some ce → ce.vm = .none → s.vm.findClass (ac_exn x) = some ce.cls →
  (∀ (la1 : Array Slot), ac_L E la1 d.2.2.1 (ls.set i ac_un) → W p l e R s m args below meth c H locs cn kn Q (F0 m nx la1 [])) →
  vx_W p l e R s m args below meth c H locs cn kn Q (F0 m pc la rest) q
theorem ac_astore {E : ac_E} {d : ac_M} {h1 i nx : Nat} (hd : (∃ j : Fin 4, (j : Nat) = i ∧ nx = h1 + 1 ∧ decode d.2.1 h1 = .ok (.astore_n j, 1)) ∨ (nx = h1 + 2 ∧ decode d.2.1 h1 = .ok (.astore i, 2)))
    {p : Program} {l : Launch} {e : Env} {R : Room} {s : State} {m : MethodId} {args : Array Value} {below : List Frame} {meth : Method} {c : Code} {Q : State → Prop} {ls : List Value} {cn kn : Nat} {H : Heap} {locs : List Loc} {la : Array Slot} {q : Addr} (hx : p.tables.exec = Jvm.exec) (hb : c.code = d.2.1) (hL : ac_L E la d.2.2.1 ls) (hi : i < ls.length)
    (k : ∀ (la1 : Array Slot), ac_L E la1 d.2.2.1 (ls.set i ac_un) → W p l e R s m args below meth c H locs cn kn Q (F0 m nx la1 [])) : W p l e R s m args below meth c H locs cn kn Q (F0 m h1 la [.ref q]) := by
  rcases hd with ⟨j, rfl, rfl, hd⟩ | ⟨rfl, hd⟩
  · exact lv_astore_n hx hb hd rfl hL.has (by rw [← hL.2.1]; exact hi) rfl (fun ls1 h1 => k ls1 (hL.put h1 (fun h => by cases h)))
  · exact lv_astore hx hb hd hL.has (by rw [← hL.2.1]; exact hi) rfl (fun ls1 h1 => k ls1 (hL.put h1 (fun h => by cases h)))
theorem ok_catch {E : ac_E} {d : ac_M} {pc x i nx : Nat} (ht : d.2.2.2.2.2.2.2 = true) (pre : List (Nat × Nat × Nat × Nat)) (x0 : Nat × Nat × Nat × Nat) (suf : List (Nat × Nat × Nat × Nat)) (hsp : d.2.2.2.2.2.2.1 = pre ++ x0 :: suf)
    (hpass : ∀ z ∈ pre, z.2.2.2 ≠ 0 ∧ ∃ j, j < 5 ∧ x ≠ j ∧ Cond.classLink d.1.cls z.2.2.2 (ac_exn j) ∈ ac_tbl) (hx5 : x < 5) (hcov : covers ⟨x0.1, x0.2.1, x0.2.2.1, x0.2.2.2⟩ pc = true) (h0 : x0.2.2.2 ≠ 0) (hlink : Cond.classLink d.1.cls x0.2.2.2 (ac_exn x) ∈ ac_tbl) (hcast : Cond.castable (ac_exn x) (ac_exn x) ∈ ac_tbl)
    (hd : (∃ j : Fin 4, (j : Nat) = i ∧ nx = x0.2.2.1 + 1 ∧ decode d.2.1 x0.2.2.1 = .ok (.astore_n j, 1)) ∨ (nx = x0.2.2.1 + 2 ∧ decode d.2.1 x0.2.2.1 = .ok (.astore i, 2))) : ac_okh E d pc x i nx := by
  intro p l e R s m args below meth c X Q ls rest cn kn H locs la q ce hL hi hce hcv hcl k
  obtain ⟨hx, hb, hr, hml, hown, hlk, hnm, htf, htt, hfr, hlo, hst, hG⟩ := X
  refine vx_catch (own := d.1.cls) (name := ac_exn x) (E := ac_exn x) hown (tableOf pre) ⟨x0.1, x0.2.1, x0.2.2.1, x0.2.2.2⟩ (tableOf suf) (by rw [htt ht, hsp]; simp [tableOf]) ?_ hcov h0 (hG.2.1 _ _ hlink) (hG.2.1 _ _ hcast) hce hcv hcl (ac_astore hd hx hb hL hi k)
  intro z hz
  simp only [tableOf, List.mem_map] at hz
  obtain ⟨z0, hz0, rfl⟩ := hz
  obtain ⟨g1, j, g2, g3, g4⟩ := hpass z0 hz0
  exact Or.inr ⟨g1, ac_exn j, hG.2.1 _ _ g4, hG.2.2.2.2.2.2.2.2 x j hx5 g2 g3⟩
/-- a throw of a new exception of number x at pc -/
def ac_okx (E : ac_E) (d : ac_M) (pc x : Nat) : Prop :=
  ∀ (p : Program) (l : Launch) (e : Env) (R : Room) (s : State) (m : MethodId) (args : Array Value) (below : List Frame) (meth : Method) (c : Code), ac_X E d p l R s m meth c →
  ∀ (Qc : Array Value → State → Outcome → State → Prop) (XC : String → State → State → Prop) (h : ac_H) (ls : List Value) (cn kn mc ms : Nat) (H : Heap) (locs : List Loc) (la : Array Slot), ac_W E h H → va_S (ac_A E) s.heap H locs → ac_L E la d.2.2.1 ls → cn + 1 ≤ R.cells → kn + 6 ≤ R.slots → cn + 1 ≤ mc → kn + 6 ≤ ms →
  (∀ t : State, ac_W E (h ++ [ac_junk]) t.heap → va_F (ac_A E) s t → XC (ac_exn x) s t) →
  W p l e R s m args below meth c H locs cn kn (vx_MQ below Qc XC args s mc ms (ac_A E)) (F0 m pc la [])
def ac_par : List String := ["java/lang/RuntimeException", "java/lang/Exception"]
theorem ok_throw {E : ac_E} {d : ac_M} {pc x : Nat} {ik is ic i : Nat} {text : String} (ht : d.2.2.2.2.2.2.2 = false) (hf : Bundle.fit (ac_exn x) = true) (hs : ac_str[i]? = some (d.1.cls, is, text)) (hk : Cond.classLink d.1.cls ik (ac_exn x) ∈ ac_tbl) (hini : Cond.initialized (ac_exn x) ∈ ac_tbl) (hat : ∀ w ∈ vx_atS d.1.cls ic (ac_exn x) ac_par, w ∈ ac_tbl)
    (hgd : (Cond.classLink d.1.cls ik (ac_exn x) :: Cond.initialized (ac_exn x) :: vx_atS d.1.cls ic (ac_exn x) ac_par).all vx_ot = true)
    (h5 : 6 ≤ d.2.2.2.2.1) (h6 : 82 ≤ d.2.2.2.2.2.1)
    (d0 : decode d.2.1 pc = .ok (.new ik, 3)) (d3 : decode d.2.1 (pc + 3) = .ok (.dup, 1)) (d4 : decode d.2.1 (pc + 4) = .ok (.ldc is, 2)) (d6 : decode d.2.1 (pc + 6) = .ok (.invokespecial ic, 3)) (d9 : decode d.2.1 (pc + 9) = .ok (.athrow, 1)) : ac_okx E d pc x := by
  intro p l e R s m args below meth c X Qc XC h ls cn kn mc ms H locs la hW hS hL hrc hrs hc hs2 hX
  obtain ⟨hx, hb, hr, hml, hown, hlk, hnm, htf, htt, hfr, hlo, hst, hG⟩ := X
  refine vx_throwS (names := ac_par) (sa := ac_sx E i) hx hb hst hown hf (by decide +kernel) (hG.2.1 _ _ hk) (hG.2.1 _ _ hini) (hG.2.2.2.1 i _ hs) (fun w hw => hG.2.1 _ _ (hat w hw)) (fun w hw => List.all_eq_true.mp hgd w hw) hG.2.2.2.2.1 hG.2.2.2.2.2.1 hS (by rw [hml]; exact hL.1) d0 d3 d4 d6 d9 (fun z hz => (htf ht z hz).elim) ?_ ?_ hrc hrs hlk ?_ hS.2.2 hc hs2
  · exact Nat.lt_of_lt_of_le (Nat.lt_of_lt_of_le (by decide) h5) hfr
  · exact Nat.le_trans (Nat.le_trans (by decide) h6) hlo
  · intro t ha hz ho
    refine hX t (hW.push hz ho (fun r hr => ?_)) ⟨Nat.le_trans hS.1 (by omega), fun q h1 h2 => (ho q (Nat.lt_of_lt_of_le h1 hS.1)).trans (hS.2.1 q h1 h2)⟩
    exact absurd hr (by simp [vwCl])
