/-! ===== what a state of the machine holds of the abstract one ===== -/
def ac_keep (w : Cond) : Bool := goodWord w || (w.onTables && (w.keepsH || w.keepsFace))
theorem ac_keep_at {a a' : Array Value} {s U : State} {w : Cond} (hW : s.WarmedH U.vm) (hk : ac_keep w = true) (h : w.before a s = true) : w.before a' U = true := by
  simp only [ac_keep, Bool.or_eq_true, Bool.and_eq_true] at hk
  rcases hk with hk | ⟨ht, hk | hk⟩
  · exact word_at hW (good_of_word hk) h
  · have h1 := Cond.onTables_warmH (T := U) (args' := a') hW ht hk h
    rwa [State.setVm_self] at h1
  · have h1 := Cond.onTables_warmFace (T := U) (args' := a') hW ht hk h
    rwa [State.setVm_self] at h1
def ac_tbl : List Cond := lw_tbl.filter ac_keep
theorem ac_mem {w : Cond} (i : Nat) (h : lw_tbl[i]? = some w) (hk : ac_keep w = true) : w ∈ ac_tbl := List.mem_filter.mpr ⟨List.mem_of_getElem? h, hk⟩
def ac_A (E : ac_E) : Nat → Prop := fun q => ac_b E ≤ q
def ac_tys (E : ac_E) : List (ClassId × FieldType) := [(ac_ca E .int, .int), (ac_ca E .boolean, .boolean), (ac_ca E .long, .long)]
def ac_str : List (String × Nat × String) := [("SixWayGas", 178, "no such cell"), ("SixWayGas", 182, "out of range"), ("SixWayGas", 185, "the cell is another edge"), ("SixWayGas", 115, "a source, a sink or the body is there"), ("SixWayGas", 131, "no such rectangle"), ("SixWayGas", 152, "no such particle"), ("SixWayGas", 160, "it has a mark already"), ("SixWayGas", 166, "all marks are given"), ("SixWayGas", 171, "no such mark")]
def ac_sn : List String := ["MOMENTUM_P", "MOMENTUM_Q", "ALONG_P", "ALONG_Q"]
def ac_tab (t j : Nat) : Int32 := match t with
  | 0 => [1, 0, -1, -1, 0, 1].getD j 0
  | 1 => [0, 1, 1, 0, -1, -1].getD j 0
  | 2 => [2, 1, -1, -2, -1, 1].getD j 0
  | _ => [1, 2, 1, -1, -2, -1].getD j 0
def ac_exn : Nat → String
  | 0 => "java/lang/IndexOutOfBoundsException"
  | 1 => "java/lang/IllegalArgumentException"
  | 2 => "java/lang/IllegalStateException"
  | 3 => "java/lang/UnsupportedOperationException"
  | _ => "java/util/NoSuchElementException"
/-- what every method finds at its start -/
def ac_G (E : ac_E) (s : State) : Prop :=
  ac_b E ≤ s.heap.size ∧ (∀ (a : Array Value) (w : Cond), w ∈ ac_tbl → w.before a s = true) ∧ va_K (ac_D E) vwCl (ac_tys E) s ∧
  (∀ i q, ac_str[i]? = some q → vk_R q.1 q.2.1 q.2.2 (ac_sx E i) s) ∧
  vx_Zq Bundle.tN "UNASSIGNED_STACK" Bundle.steD (ac_A E) s s.heap ∧ vx_Zq Bundle.tN "SUPPRESSED_SENTINEL" Bundle.listD (ac_A E) s s.heap ∧
  (∀ i n, ac_sn[i]? = some n → va_Z "SixWayGas" n "[I" (.ref (ac_sa E i)) (ac_A E) s s.heap ∧ va_T .int (ac_sa E i) 6 (fun j => .int (ac_tab i j)) (ac_A E) s s.heap) ∧
  (va_X (ac_sa E 9) (ac_len E) (ac_xs E) s s.heap ∧ ac_sa E 9 < ac_b E) ∧
  (∀ i j, i < 5 → j < 5 → i ≠ j → va_Nc (ac_exn i) (ac_exn j) s)
theorem ac_G.next {E : ac_E} {s U : State} (h : ac_G E s) (hW : s.WarmedH U.vm) (hz : s.heap.size ≤ U.heap.size) (hq : ∀ q : Nat, q < s.heap.size → ¬ ac_A E q → U.heap[q]? = s.heap[q]?) : ac_G E U := by
  obtain ⟨h1, h2, h3, h4, h5, h6, h7, ⟨h8, h9⟩, h10⟩ := h
  have hk : ∀ w ∈ ac_tbl, ac_keep w = true := fun w hw => (List.mem_filter.mp hw).2
  refine ⟨Nat.le_trans h1 hz, fun a w hw => ac_keep_at hW (hk w hw) (h2 #[] w hw), va_K.moved hW.alike h3, fun i q hi => vk_R.warm hW (h4 i q hi), (h5.moved hW.alike).kept hq, (h6.moved hW.alike).kept hq, fun i n hi => ⟨((h7 i n hi).1.moved hW.alike).kept hq, ((h7 i n hi).2.moved hW.alike).kept hq⟩, ⟨(h8.moved hW.alike).kept (hq _ (Nat.lt_of_lt_of_le h9 h1) (Nat.not_le.mpr h9)), h9⟩, fun i j hi hj hn => (h10 i j hi hj hn).moved hW.alike⟩
theorem ac_G.calling {E : ac_E} {U : State} (h : ac_G E U) (g : JFrame) (mk : MethodId) (a : Array Value) : ac_G E (U.calling g mk a) := h.next (U := U.calling g mk a) (State.WarmedH.refl U) (Nat.le_refl _) (fun _ _ _ => rfl)
/-- a cell -/
def ac_at (E : ac_E) (q : Nat) (c : ac_C) (H : Heap) : Prop := match c with
  | .inl a => H[q]? = some (vp_cell (ac_ca E a.1) a.2)
  | .inr o => ∀ r : vw_C, vwCl[o.1]? = some r → t_OB q ((ac_D E).1 o.1) r.2.2 ((ac_D E).2 o.1) H (vp_V (o.2.map (ac_v E)))
def ac_W (E : ac_E) (h : ac_H) (H : Heap) : Prop := H.size = ac_b E + h.length ∧ ∀ (k : Nat) (c : ac_C), h[k]? = some c → ac_at E (ac_b E + k) c H
theorem ac_at.kept {E : ac_E} {q : Nat} {c : ac_C} {H H1 : Heap} (h : ac_at E q c H) (hq : H1[q]? = H[q]?) : ac_at E q c H1 := by
  cases c with
  | inl a => exact hq.trans h
  | inr o => exact fun r hr => (h r hr).kept hq
theorem ac_W.set {E : ac_E} {h : ac_H} {H H1 : Heap} {k : Nat} {c c0 : ac_C} (hw : ac_W E h H) (hk : h[k]? = some c0) (hz : H1.size = H.size) (ho : ∀ q : Nat, q ≠ ac_b E + k → H1[q]? = H[q]?) (hc : ac_at E (ac_b E + k) c H1) : ac_W E (h.set k c) H1 := by
  refine ⟨by rw [hz, hw.1, List.length_set], fun j d hj => ?_⟩
  by_cases e : k = j
  · subst e
    rw [List.getElem?_set_self (List.getElem?_eq_some_iff.mp hk).1] at hj
    cases hj
    exact hc
  · rw [List.getElem?_set_ne e] at hj
    exact (hw.2 j d hj).kept (ho _ (by omega))
theorem ac_W.push {E : ac_E} {h : ac_H} {H H1 : Heap} {c : ac_C} (hw : ac_W E h H) (hz : H1.size = H.size + 1) (ho : ∀ q : Nat, q < H.size → H1[q]? = H[q]?) (hc : ac_at E H.size c H1) : ac_W E (h ++ [c]) H1 := by
  refine ⟨by rw [hz, hw.1, List.length_append]; rfl, fun j d hj => ?_⟩
  by_cases e : j < h.length
  · rw [List.getElem?_append_left e] at hj
    exact (hw.2 j d hj).kept (ho _ (by rw [hw.1]; omega))
  · rw [List.getElem?_append_right (by omega)] at hj
    have hz : j - h.length < 1 := (List.getElem?_eq_some_iff.mp hj).1
    rw [show j - h.length = 0 by omega] at hj
    cases hj
    rw [show ac_b E + j = H.size by rw [hw.1]; omega]
    exact hc
theorem ac_S.put {E : ac_E} {H0 H H1 : Heap} {locs : List Loc} {k i : Nat} (h : va_S (ac_A E) H0 H locs) (z : H1.size = H.size) (oq : ∀ q : Nat, q ≠ ac_b E + k → H1[q]? = H[q]?) : va_S (ac_A E) H0 H1 (locs ++ [⟨ac_b E + k, i⟩]) := h.put z oq (Nat.le_add_right _ _)
theorem ac_S.push {E : ac_E} {H0 H H1 : Heap} {locs : List Loc} (h : va_S (ac_A E) H0 H locs) (z : H1.size = H.size + 1) (oq : ∀ q : Nat, q < H.size → H1[q]? = H[q]?) : va_S (ac_A E) H0 H1 locs := ⟨by rw [z]; exact Nat.le_succ_of_le h.1, fun q h1 h2 => (oq q (Nat.lt_of_lt_of_le h1 h.1)).trans (h.2.1 q h1 h2), h.2.2⟩
/-- locals -/
def ac_L (E : ac_E) (ls : Array Slot) (nl : Nat) (la : List Value) : Prop := ls.size = nl ∧ la.length = nl ∧ lv_wf ls ∧ ∀ (i : Nat) (a : Value), la[i]? = some a → ac_one a = true → ls[i]? = some (.val (ac_v E a))
theorem ac_one_cat (E : ac_E) {a : Value} (h : ac_one a = true) : (ac_v E a).category = 1 := by
  cases a <;> simp_all [ac_one, ac_v, Value.category]
def ac_lv (E : ac_E) (la : List Value) : List (Nat × Value) := (List.range la.length).filterMap (fun j => (la[j]?).bind (fun a => if ac_one a = true then some (j, ac_v E a) else none))
theorem ac_lv_mem {E : ac_E} {la : List Value} {q : Nat × Value} : q ∈ ac_lv E la ↔ ∃ a, la[q.1]? = some a ∧ ac_one a = true ∧ q.2 = ac_v E a := by
  unfold ac_lv
  rw [List.mem_filterMap]
  constructor
  · rintro ⟨j, hj, h⟩
    cases ha : la[j]? with
    | none => rw [ha] at h; cases h
    | some a =>
      rw [ha] at h
      simp only [Option.bind_some] at h
      split at h
      · cases h
        exact ⟨a, ha, by assumption, rfl⟩
      · cases h
  · rintro ⟨a, ha, ho, hq⟩
    refine ⟨q.1, List.mem_range.mpr (List.getElem?_eq_some_iff.mp ha).1, ?_⟩
    rw [ha]
    simp only [Option.bind_some, ho, if_true]
    rw [← hq]
theorem ac_L.has {E : ac_E} {ls : Array Slot} {nl : Nat} {la : List Value} (h : ac_L E ls nl la) : lv_has ls nl (ac_lv E la) := ⟨h.1, h.2.2.1, fun q hq => by
  obtain ⟨a, h1, h2, h3⟩ := ac_lv_mem.mp hq
  rw [h3]
  exact h.2.2.2 _ _ h1 h2⟩
/-- behind a store -/
theorem ac_L.put {E : ac_E} {ls ls' : Array Slot} {nl i : Nat} {la : List Value} {v a : Value} (h : ac_L E ls nl la) (h' : lv_has ls' nl ((i, v) :: (ac_lv E la).filter (fun q => !(q.1 == i) && !(q.1 + 1 == i && q.2.category == 2)))) (ha : ac_one a = true → ac_v E a = v) : ac_L E ls' nl (la.set i a) := by
  refine ⟨h'.1, by rw [List.length_set]; exact h.2.1, h'.2.1, fun j b hj hb => ?_⟩
  by_cases e : i = j
  · subst e
    rw [List.getElem?_set] at hj
    simp only [if_true] at hj
    split at hj
    · cases hj
      rw [ha hb]
      exact h'.2.2 (i, v) List.mem_cons_self
    · cases hj
  · rw [List.getElem?_set_ne e] at hj
    refine h'.2.2 (j, ac_v E b) (List.mem_cons_of_mem _ (List.mem_filter.mpr ⟨ac_lv_mem.mpr ⟨b, hj, hb, rfl⟩, ?_⟩))
    have hc := ac_one_cat E hb
    simp only [hc]
    simp
    omega
theorem ac_args : ∀ (E : ac_E) (vs : List Value) (n : Nat), (∀ v ∈ vs, ac_one v = true) → lg_sl (vs.map (ac_v E)) = (vs.map (ac_v E)).map Slot.val := by
  intro E vs n h
  induction vs with
  | nil => rfl
  | cons a l ih =>
    have h1 := ac_one_cat E (h a List.mem_cons_self)
    have h2 := ih (fun v hv => h v (List.mem_cons_of_mem _ hv))
    simp only [List.map_cons]
    rw [← h2]
    simp [lg_sl, h1]
theorem ac_entry {E : ac_E} {vs : List Value} {nl : Nat} (h : ∀ v ∈ vs, ac_one v = true) (hn : vs.length ≤ nl) : ac_L E ((lg_sl (vs.map (ac_v E)) ++ List.replicate (nl - (lg_sl (vs.map (ac_v E))).length) Slot.unset).toArray) nl (vs ++ List.replicate (nl - vs.length) ac_un) := by
  have e := ac_args E vs 0 h
  have hl : (lg_sl (vs.map (ac_v E))).length = vs.length := by rw [e]; simp
  obtain ⟨h1, h2, -⟩ := lv_entry (vs.map (ac_v E)) (n := nl) (by rw [hl]; exact hn)
  refine ⟨h1, by simp; omega, h2, fun i a hi ha => ?_⟩
  rw [e]
  by_cases q : i < vs.length
  · rw [List.getElem?_append_left q] at hi
    simp [List.getElem?_append_left, q]
    obtain ⟨_, hi⟩ := List.getElem?_eq_some_iff.mp hi
    rw [hi]
  · rw [List.getElem?_append_right (by omega)] at hi
    have := List.mem_of_getElem? hi
    rw [List.mem_replicate] at this
    rw [this.2] at ha
    cases ha
