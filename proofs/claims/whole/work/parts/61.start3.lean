theorem st_cls {s : State} {b : Nat} (hts : ∀ w ∈ lw_tbl, w.before #[Value.ref b] s = true) : ∀ q ∈ vwCl, ∃ x : ClassId × (Nat → Nat), u_Kn s q.1 q.2.1 q.2.2 x.1 x.2 := by
  have hin : ∀ {C : String} {T : u_T} {N : Nat}, (∀ w ∈ u_ws C T N, w ∈ ac_tbl) → ∀ w ∈ u_ws C T N, w ∈ lw_tbl := fun h w hw => (List.mem_filter.mp (h w hw)).1
  have go : ∀ {C : String} {T : u_T} {N n : Nat}, (∀ w ∈ u_ws C T N, w ∈ ac_tbl) → (Cond.instantiable C n).before #[Value.ref b] s = true → ∃ x : ClassId × (Nat → Nat), u_Kn s C T N x.1 x.2 := fun h hi => by
    obtain ⟨cC, iS, hk⟩ := u_known hts (hin h) hi
    exact ⟨(cC, iS), hk⟩
  refine List.forall_mem_cons.mpr ⟨go (n := 4) win_0 (hts _ (by decide +kernel)), List.forall_mem_cons.mpr ⟨go (n := 1) win_1 (hts _ (by decide +kernel)), List.forall_mem_cons.mpr ⟨go (n := 4) win_2 (hts _ (by decide +kernel)), List.forall_mem_cons.mpr ⟨go (n := 3) win_3 (hts _ (by decide +kernel)), List.forall_mem_cons.mpr ⟨go (n := 12) win_4 (hts _ (by decide +kernel)), List.forall_mem_cons.mpr ⟨go (n := 17) win_5 (hts _ (by decide +kernel)), fun _ h => nomatch h⟩⟩⟩⟩⟩⟩
theorem st_sw : ∀ q ∈ ac_str, q.1 = "SixWayGas" ∧ Cond.stringRef q.1 q.2.1 q.2.2 ∈ lw_tbl := List.forall_mem_cons.mpr ⟨⟨rfl, by decide +kernel⟩, List.forall_mem_cons.mpr ⟨⟨rfl, by decide +kernel⟩, List.forall_mem_cons.mpr ⟨⟨rfl, by decide +kernel⟩, List.forall_mem_cons.mpr ⟨⟨rfl, by decide +kernel⟩, List.forall_mem_cons.mpr ⟨⟨rfl, by decide +kernel⟩, List.forall_mem_cons.mpr ⟨⟨rfl, by decide +kernel⟩, List.forall_mem_cons.mpr ⟨⟨rfl, by decide +kernel⟩, List.forall_mem_cons.mpr ⟨⟨rfl, by decide +kernel⟩, List.forall_mem_cons.mpr ⟨⟨rfl, by decide +kernel⟩, fun _ h => nomatch h⟩⟩⟩⟩⟩⟩⟩⟩⟩
theorem st_str {s : State} {b : Nat} {cur : ClassId} (hts : ∀ w ∈ lw_tbl, w.before #[Value.ref b] s = true) (hown : s.vm.findClass "SixWayGas" = some cur) : ∀ q ∈ ac_str, ∃ a : Nat, vk_R q.1 q.2.1 q.2.2 a s := fun q hq => by
  obtain ⟨h1, h2⟩ := st_sw q hq
  have h := hts _ h2
  have hown' : s.vm.findClass q.1 = some cur := by rw [h1]; exact hown
  obtain ⟨-, -, -, sa, -, -, -, -, -, hev⟩ := Cond.stringRef_spec hown' h
  exact ⟨sa, vk_R.of h hev⟩
theorem st_pick {α β : Type} [Inhabited β] {xs : List α} {P : α → β → Prop} (h : ∀ q ∈ xs, ∃ x, P q x) : ∃ f : Nat → β, ∀ i q, xs[i]? = some q → P q (f i) := by
  have h1 : ∀ i : Nat, ∃ x : β, ∀ q, xs[i]? = some q → P q x := fun i => by
    cases e : xs[i]? with
    | none => exact ⟨default, fun q hq => nomatch hq⟩
    | some q =>
      obtain ⟨x, hx⟩ := h q (List.mem_of_getElem? e)
      exact ⟨x, fun q' hq => by cases hq; exact hx⟩
  exact ⟨fun i => Classical.choose (h1 i), fun i => Classical.choose_spec (h1 i)⟩
theorem st_nc {s : State} {b : Nat} (hgv : (Jvm.Cond.and given_1 narrow_1).before #[Value.ref b] s = true) : ∀ i j, i < 5 → j < 5 → i ≠ j → va_Nc (ac_exn i) (ac_exn j) s := by
  have hs := flat_of_before _ hgv
  have hm : ∀ i, i < 5 → ∀ j, j < 5 → i ≠ j → Cond.not (.castable (ac_exn i) (ac_exn j)) ∈ flatC (Jvm.Cond.and given_1 narrow_1) := by decide +kernel
  exact fun i j hi hj hn => va_Nc.of (hs _ (hm i hi j hj hn))
theorem st_G {p : Program} {s : State} {m : MethodId} {meth : Method} {c : Code} {b L : Nat} {xs : Nat → Int32} (C0 : lw_At p s m meth c b L xs) : ∃ E : ac_E, ac_b E = s.heap.size ∧ ac_sa E 9 = b ∧ ac_len E = L ∧ ac_xs E = xs ∧ ac_G E s := by
  obtain ⟨sa, hsa⟩ := st_arr C0
  obtain ⟨-, -, -, -, -, hts, hX, hb, -, hgv⟩ := C0
  have hs := flat_of_before _ hgv
  have hA : ∀ a : Nat, a < s.heap.size → ¬ s.heap.size ≤ a := fun a h => Nat.not_le.mpr h
  have ht : ∀ (a : Array Value) (w : Cond), w ∈ ac_tbl → w.before a s = true := fun a w hw => ac_keep_at (State.WarmedH.refl s) (List.mem_filter.mp hw).2 (hts w (List.mem_filter.mp hw).1)
  have hcl := st_cls hts
  obtain ⟨x4, hx4⟩ := hcl (RX4, TX4, 12) (List.mem_of_getElem? (i := 4) rfl)
  have hown : s.vm.findClass "SixWayGas" = some x4.1 := hx4.2.1
  haveI : Inhabited (ClassId × (Nat → Nat)) := ⟨x4⟩
  obtain ⟨D, hD⟩ := st_pick hcl
  obtain ⟨sx, hsx⟩ := st_pick (st_str hts hown)
  obtain ⟨ci, hi1, hi2⟩ := st_ca (ty := .int) (fun C h => nomatch h) (hts (Cond.arrayClass .int) (by decide +kernel))
  obtain ⟨cb, hb1, hb2⟩ := st_ca (ty := .boolean) (fun C h => nomatch h) (hts (Cond.arrayClass .boolean) (by decide +kernel))
  obtain ⟨cj, hj1, hj2⟩ := st_ca (ty := .long) (fun C h => nomatch h) (hts (Cond.arrayClass .long) (by decide +kernel))
  refine ⟨(s.heap.size, fun i => if i = 9 then b else sa i, (fun c => (D c).1, fun c => (D c).2), fun ty => match ty with | .int => ci | .boolean => cb | _ => cj, sx, L, xs), rfl, rfl, rfl, rfl, Nat.le_refl _, ht, ⟨fun c q hq => hD c q hq, fun k q hk => ?_⟩, hsx, vx_Zqof (args := #[Value.ref b]) (hts _ (by decide +kernel)) (hts _ (by decide +kernel)) (hs _ (by decide +kernel)) hA, vx_Zqof (args := #[Value.ref b]) (hts _ (by decide +kernel)) (hts _ (by decide +kernel)) (hs _ (by decide +kernel)) hA, fun i n hi => ?_, ⟨hX, hb⟩, st_nc hgv⟩
  · match k, hk with
    | 0, hk => cases hk; exact ⟨hi1, hi2⟩
    | 1, hk => cases hk; exact ⟨hb1, hb2⟩
    | 2, hk => cases hk; exact ⟨hj1, hj2⟩
    | (k + 3), hk => exact absurd (List.getElem?_eq_some_iff.mp hk).1 (by simp [ac_tys])
  · have hi4 : i < 4 := (List.getElem?_eq_some_iff.mp hi).1
    have h9 : (if i = 9 then b else sa i) = sa i := if_neg (by omega)
    show va_Z "SixWayGas" n "[I" (.ref (if i = 9 then b else sa i)) _ s s.heap ∧ va_T .int (if i = 9 then b else sa i) 6 _ _ s s.heap
    rw [h9]
    exact hsa i n hi
