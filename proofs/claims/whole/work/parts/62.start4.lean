theorem st_129 : ac_MDf 129 = md_129 := rfl
theorem st_X {E : ac_E} {p : Program} {l : Launch} {s : State} {m : MethodId} {meth : Method} {c : Code} {b L : Nat} {xs : Nat → Int32} (hl : l.stackTraces = false) (hnm : meth.name = "law") (hex : ∀ x ∈ c.exceptionTable.toList, False) (C0 : lw_At p s m meth c b L xs) (G : ac_G E s) : ac_X E md_129 p l room_1 s m meth c := by
  obtain ⟨hx, hcode, hret, hml, hown, hts, hX, hbl, hlk, hgv⟩ := C0
  exact ⟨hx, hcode, hret, hml, hown, hlk, hnm, fun _ => hex, (fun q => Bool.noConfusion q), Nat.le_refl _, Nat.le_refl _, hl, G⟩
theorem st_end {E : ac_E} {p : Program} {l : Launch} {e : Env} {s : State} {m : MethodId} {below : List Frame} {meth : Method} {c : Code} {b L : Nat} {xs : Nat → Int32} {r : ac_R} {x y : Nat} (hb : ac_b E = s.heap.size) (C0 : lw_At p s m meth c b L xs) (hr : lwQ x y r) (hx : x ≤ 600128) (hy : y ≤ 7301064) : ac_end E r p l e room_1 s m #[Value.ref b] below meth c (lw_Z below #[Value.ref b] s) := by
  obtain ⟨hx0, hcode, hret, hml, hown, hts, hX, hbl, hlk, hgv⟩ := C0
  obtain ⟨r1, h', c', k'⟩ := r
  obtain ⟨hr1, hr2, hr3⟩ := hr
  have hr1' : r1 = .inl (some (.int 1)) := hr1
  subst hr1'
  intro H locs la pc hW1 hS hrt
  rcases hrt with ⟨hv, -, -⟩ | ⟨i, ty, hv, hd, -, -⟩
  · cases hv
  · cases hv
    refine va_forget (fun q hq => by rw [← hb]; exact hS.2.2 q hq) (W.widen (k := 600128) (n := 7301064) (Nat.le_trans hr2 hx) (Nat.le_trans hr3 hy) ?_)
    exact lw_ret hx0 hcode hret hlk (by rw [← hcode]; exact hd)
/-- from the entry, for every script of at most 386 ints, the law comes to its end with true -/
theorem whole_start {p : Program} {e : Env} {s : State} {m : MethodId} {below : List Frame} {meth : Method} {c : Code} (l : Launch) (hl : l.stackTraces = false) {b L : Nat} {xs : Nat → Int32} (hL : L ≤ 386) (hnm : meth.name = "law") (hex : ∀ x ∈ c.exceptionTable.toList, False) (C0 : lw_At p s m meth c b L xs) : W p l e room_1 s m #[Value.ref b] below meth c s.heap [] 0 0 (lw_Z below #[Value.ref b] s) (entryFrame m ([Value.ref b] : List Value).toArray 7) := by
  obtain ⟨E, hb, h9, hle, hxs, G⟩ := st_G C0
  obtain ⟨r, hr, n, hn⟩ := law_all (L := L) (xs := xs) (Nat.lt_of_le_of_lt hL (by decide))
  have hX9 : ac_X E (ac_MDf 129) p l room_1 s m meth c := by
    rw [st_129]
    exact st_X hl hnm hex C0 G
  have hc : 26 + (L + 10) ≤ 600128 := by omega
  have hk : 4500 + (L + 10) ≤ 7301064 := by omega
  have hend : ac_end E r p l e room_1 s m #[Value.ref b] below meth c (lw_Z below #[Value.ref b] s) := st_end hb C0 hr hc hk
  have hV := ac_valid E
  rw [hle, hxs] at hV
  have hW : ac_W E [] s.heap := ⟨by rw [hb]; rfl, fun k c h => nomatch h⟩
  have hen := ac_entry (E := E) (vs := [.float 9]) (nl := 7) (fun v hv => by cases hv with | head => rfl | tail _ h => cases h) (by decide)
  have e9 : ([.float 9] : List Value).map (ac_v E) = [Value.ref b] := by rw [← h9]; rfl
  rw [e9] at hen
  have hM := ac_main hV hl ac_plain n 129 0 _ _ _ _ _ r hn p e room_1 s m #[Value.ref b] below meth c hX9 _ hend (Nat.le_trans hr.2.1 hc) (Nat.le_trans hr.2.2 hk) s.heap [] _ hW va_S.rf (by rw [st_129]; exact hen)
  rw [lg_entry_eq]
  exact hM
