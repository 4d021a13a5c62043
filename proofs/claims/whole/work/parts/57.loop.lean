theorem law_turn {L : Nat} {xs : Nat → Int32} {Q : ac_R → Prop} {i c0 k0 : Nat} {S : GS} {H rest : ac_H} (hi : i + 5 < L) (hL : L < 2 ^ 31) (h : Inv S) (hH : LHs S H rest) (kk : ∀ Z H2 rest2 c k, Inv Z → LHs Z H2 rest2 → (c = 0 ∧ k = 0 ∨ c = 1 ∧ k = 6) → ∃ r, Q r ∧ ∀ u5 u6, Ev L xs 129 (1329, [.float 9, .ref 0, .ref 15, .ref 25, .int (nI i), u5, u6], [], H2, c0 + c, k0 + k) r) : ∃ r, Q r ∧ ∀ u5 u6, Ev L xs 129 (53, [.float 9, .ref 0, .ref 15, .ref 25, .int (nI i), u5, u6], [], H, c0, k0) r := by
  obtain ⟨j, hj, e⟩ := pk_andE (xs i) (m := 31) 5 (by decide)
  have hj' : j = 0 ∨ j = 1 ∨ j = 2 ∨ j = 3 ∨ j = 4 ∨ j = 5 ∨ j = 6 ∨ j = 7 ∨ j = 8 ∨ j = 9 ∨ j = 10 ∨ j = 11 ∨ j = 12 ∨ j = 13 ∨ j = 14 ∨ j = 15 ∨ j = 16 ∨ j = 17 ∨ j = 18 ∨ j = 19 ∨ j = 20 ∨ j = 21 ∨ j = 22 ∨ j = 23 ∨ j = 24 ∨ j = 25 ∨ j = 26 ∨ j = 27 ∨ j = 28 ∨ j = 29 ∨ j = 30 ∨ j = 31 := by omega
  rcases hj' with rfl | rfl | rfl | rfl | rfl | rfl | rfl | rfl | rfl | rfl | rfl | rfl | rfl | rfl | rfl | rfl | rfl | rfl | rfl | rfl | rfl | rfl | rfl | rfl | rfl | rfl | rfl | rfl | rfl | rfl | rfl | rfl
  · obtain ⟨κ, v, H1, H2, c, k, f1, f2, lo, Z, rest2, mw, r1, mm, r2, mt, hl, hz, hI, hLH, hck⟩ := op_set (L := L) (xs := xs) (φ := fun _ => 0) (x := xs (i + 1)) (y := xs (i + 2)) (v := xs (i + 3)) h hH
    obtain ⟨r, hr, hE⟩ := kk Z H2 rest2 c k hI hLH hck
    refine ⟨r, hr, fun u5 u6 => ?_⟩
    iterate 2 (refine ev_step rfl rfl ?_)
    refine ev_xa rfl i rfl (by omega) hL ?_
    iterate 2 (refine ev_step rfl rfl ?_)
    rw [e]
    iterate 1 (refine ev_step rfl rfl ?_)
    exact tn_set hi hL mw r1 mm r2 mt hE
  · obtain ⟨κ, v, H1, H2, c, k, f1, f2, lo, Z, rest2, mw, r1, mm, r2, mt, hl, hz, hI, hLH, hck⟩ := op_get (L := L) (xs := xs) (x := xs (i + 1)) (y := xs (i + 2)) h hH
    obtain ⟨r, hr, hE⟩ := kk Z H2 rest2 c k hI hLH hck
    refine ⟨r, hr, fun u5 u6 => ?_⟩
    iterate 2 (refine ev_step rfl rfl ?_)
    refine ev_xa rfl i rfl (by omega) hL ?_
    iterate 2 (refine ev_step rfl rfl ?_)
    rw [e]
    iterate 1 (refine ev_step rfl rfl ?_)
    exact tn_get hi hL mw r1 mm r2 mt hl (hz rfl) hE
  · obtain ⟨κ, v, H1, H2, c, k, f1, f2, lo, Z, rest2, mw, r1, mm, r2, mt, hl, hz, hI, hLH, hck⟩ := op_rule (L := L) (xs := xs) (x := xs (i + 1)) (y := xs (i + 2)) h hH
    obtain ⟨r, hr, hE⟩ := kk Z H2 rest2 c k hI hLH hck
    refine ⟨r, hr, fun u5 u6 => ?_⟩
    iterate 2 (refine ev_step rfl rfl ?_)
    refine ev_xa rfl i rfl (by omega) hL ?_
    iterate 2 (refine ev_step rfl rfl ?_)
    rw [e]
    iterate 1 (refine ev_step rfl rfl ?_)
    exact tn_rule hi hL mw r1 mm r2 mt hl (hz rfl) hE
  · obtain ⟨κ, v, H1, H2, c, k, f1, f2, lo, Z, rest2, mw, r1, mm, r2, mt, hl, hz, hI, hLH, hck⟩ := op_wall (L := L) (xs := xs) (x := xs (i + 1)) (y := xs (i + 2)) (u := xs (i + 3)) h hH
    obtain ⟨r, hr, hE⟩ := kk Z H2 rest2 c k hI hLH hck
    refine ⟨r, hr, fun u5 u6 => ?_⟩
    iterate 2 (refine ev_step rfl rfl ?_)
    refine ev_xa rfl i rfl (by omega) hL ?_
    iterate 2 (refine ev_step rfl rfl ?_)
    rw [e]
    iterate 1 (refine ev_step rfl rfl ?_)
    exact tn_wall hi hL mw r1 mm r2 mt hl (hz rfl) hE
  · obtain ⟨κ, v, H1, H2, c, k, f1, f2, lo, Z, rest2, mw, r1, mm, r2, mt, hl, hz, hI, hLH, hck⟩ := op_source (L := L) (xs := xs) (φ := fun _ => 0) (x := xs (i + 1)) (y := xs (i + 2)) (v := xs (i + 3)) h hH
    obtain ⟨r, hr, hE⟩ := kk Z H2 rest2 c k hI hLH hck
    refine ⟨r, hr, fun u5 u6 => ?_⟩
    iterate 2 (refine ev_step rfl rfl ?_)
    refine ev_xa rfl i rfl (by omega) hL ?_
    iterate 2 (refine ev_step rfl rfl ?_)
    rw [e]
    iterate 1 (refine ev_step rfl rfl ?_)
    exact tn_source hi hL mw r1 mm r2 mt hE
  · obtain ⟨κ, v, H1, H2, c, k, f1, f2, lo, Z, rest2, mw, r1, mm, r2, mt, hl, hz, hI, hLH, hck⟩ := op_sink (L := L) (xs := xs) (x := xs (i + 1)) (y := xs (i + 2)) (u := xs (i + 3)) h hH
    obtain ⟨r, hr, hE⟩ := kk Z H2 rest2 c k hI hLH hck
    refine ⟨r, hr, fun u5 u6 => ?_⟩
    iterate 2 (refine ev_step rfl rfl ?_)
    refine ev_xa rfl i rfl (by omega) hL ?_
    iterate 2 (refine ev_step rfl rfl ?_)
    rw [e]
    iterate 1 (refine ev_step rfl rfl ?_)
    exact tn_sink hi hL mw r1 mm r2 mt hl (hz rfl) hE
  · obtain ⟨κ, v, H1, H2, c, k, f1, f2, lo, Z, rest2, mw, r1, mm, r2, mt, hl, hz, hI, hLH, hck⟩ := op_body (L := L) (xs := xs) (x := xs (i + 1)) (y := xs (i + 2)) (u := xs (i + 3)) h hH
    obtain ⟨r, hr, hE⟩ := kk Z H2 rest2 c k hI hLH hck
    refine ⟨r, hr, fun u5 u6 => ?_⟩
    iterate 2 (refine ev_step rfl rfl ?_)
    refine ev_xa rfl i rfl (by omega) hL ?_
    iterate 2 (refine ev_step rfl rfl ?_)
    rw [e]
    iterate 1 (refine ev_step rfl rfl ?_)
    exact tn_body hi hL mw r1 mm r2 mt hl (hz rfl) hE
  · obtain ⟨κ, v, H1, H2, c, k, f1, f2, lo, Z, rest2, mw, r1, mm, r2, mt, hl, hz, hI, hLH, hck⟩ := op_edge (L := L) (xs := xs) (x := xs (i + 1)) (y := xs (i + 2)) h hH
    obtain ⟨r, hr, hE⟩ := kk Z H2 rest2 c k hI hLH hck
    refine ⟨r, hr, fun u5 u6 => ?_⟩
    iterate 2 (refine ev_step rfl rfl ?_)
    refine ev_xa rfl i rfl (by omega) hL ?_
    iterate 2 (refine ev_step rfl rfl ?_)
    rw [e]
    iterate 1 (refine ev_step rfl rfl ?_)
    exact tn_edge hi hL mw r1 mm r2 mt hl (hz rfl) hE
  · obtain ⟨κ, v, H1, H2, c, k, f1, f2, lo, Z, rest2, mw, r1, mm, r2, mt, hl, hz, hI, hLH, hck⟩ := op_mass (L := L) (xs := xs) (φ := fun _ => 0) (x := xs (i + 1)) h hH
    obtain ⟨r, hr, hE⟩ := kk Z H2 rest2 c k hI hLH hck
    refine ⟨r, hr, fun u5 u6 => ?_⟩
    iterate 2 (refine ev_step rfl rfl ?_)
    refine ev_xa rfl i rfl (by omega) hL ?_
    iterate 2 (refine ev_step rfl rfl ?_)
    rw [e]
    iterate 1 (refine ev_step rfl rfl ?_)
    exact tn_mass hi hL mw r1 mm r2 mt hE
  · obtain ⟨κ, v, H1, H2, c, k, f1, f2, lo, Z, rest2, mw, r1, mm, r2, mt, hl, hz, hI, hLH, hck⟩ := op_account (L := L) (xs := xs) (x := xs (i + 1)) h hH
    obtain ⟨r, hr, hE⟩ := kk Z H2 rest2 c k hI hLH hck
    refine ⟨r, hr, fun u5 u6 => ?_⟩
    iterate 2 (refine ev_step rfl rfl ?_)
    refine ev_xa rfl i rfl (by omega) hL ?_
    iterate 2 (refine ev_step rfl rfl ?_)
    rw [e]
    iterate 1 (refine ev_step rfl rfl ?_)
    exact tn_account hi hL mw r1 mm r2 mt hl (hz rfl) hE
  · obtain ⟨Z, H2, hI, hLH, g⟩ := tn_seed (L := L) (xs := xs) (i := i) (c0 := c0) (k0 := k0) hi hL h hH
    obtain ⟨r, hr, hE⟩ := kk Z H2 rest 0 0 hI hLH (Or.inl ⟨rfl, rfl⟩)
    refine ⟨r, hr, fun u5 u6 => ?_⟩
    iterate 2 (refine ev_step rfl rfl ?_)
    refine ev_xa rfl i rfl (by omega) hL ?_
    iterate 2 (refine ev_step rfl rfl ?_)
    rw [e]
    iterate 1 (refine ev_step rfl rfl ?_)
    exact g r u5 u6 hE
  · obtain ⟨κ, v, H1, H2, c, k, f1, f2, lo, Z, rest2, mw, r1, mm, r2, mt, hl, hz, hI, hLH, hck⟩ := op_step (L := L) (xs := xs) (x := xs (i + 1)) h hH
    obtain ⟨r, hr, hE⟩ := kk Z H2 rest2 c k hI hLH hck
    refine ⟨r, hr, fun u5 u6 => ?_⟩
    iterate 2 (refine ev_step rfl rfl ?_)
    refine ev_xa rfl i rfl (by omega) hL ?_
    iterate 2 (refine ev_step rfl rfl ?_)
    rw [e]
    iterate 1 (refine ev_step rfl rfl ?_)
    exact tn_step hi hL mw r1 mm r2 mt hl (hz rfl) hE
  · obtain ⟨κ, v, H1, H2, c, k, f1, f2, lo, Z, rest2, mw, r1, mm, r2, mt, hl, hz, hI, hLH, hck⟩ := op_back (L := L) (xs := xs) (x := xs (i + 1)) h hH
    obtain ⟨r, hr, hE⟩ := kk Z H2 rest2 c k hI hLH hck
    refine ⟨r, hr, fun u5 u6 => ?_⟩
    iterate 2 (refine ev_step rfl rfl ?_)
    refine ev_xa rfl i rfl (by omega) hL ?_
    iterate 2 (refine ev_step rfl rfl ?_)
    rw [e]
    iterate 1 (refine ev_step rfl rfl ?_)
    exact tn_back hi hL mw r1 mm r2 mt hl (hz rfl) hE
  · obtain ⟨κ, v, H1, H2, c, k, f1, f2, lo, Z, rest2, mw, r1, mm, r2, mt, hl, hz, hI, hLH, hck⟩ := op_sum (L := L) (xs := xs) (x := xs (i + 1)) (y := xs (i + 2)) (u := xs (i + 3)) (v := xs (i + 4)) (f := xs (i + 5)) h hH
    obtain ⟨r, hr, hE⟩ := kk Z H2 rest2 c k hI hLH hck
    refine ⟨r, hr, fun u5 u6 => ?_⟩
    iterate 2 (refine ev_step rfl rfl ?_)
    refine ev_xa rfl i rfl (by omega) hL ?_
    iterate 2 (refine ev_step rfl rfl ?_)
    rw [e]
    iterate 1 (refine ev_step rfl rfl ?_)
    exact tn_sum hi hL mw r1 mm r2 mt hl (hz rfl) hE
  · obtain ⟨κ, v, H1, H2, c, k, f1, f2, lo, Z, rest2, mw, r1, mm, r2, mt, hl, hz, hI, hLH, hck⟩ := op_book (L := L) (xs := xs) (x := xs (i + 1)) (y := xs (i + 2)) h hH
    obtain ⟨r, hr, hE⟩ := kk Z H2 rest2 c k hI hLH hck
    refine ⟨r, hr, fun u5 u6 => ?_⟩
    iterate 2 (refine ev_step rfl rfl ?_)
    refine ev_xa rfl i rfl (by omega) hL ?_
    iterate 2 (refine ev_step rfl rfl ?_)
    rw [e]
    iterate 1 (refine ev_step rfl rfl ?_)
    exact tn_book hi hL mw r1 mm r2 mt hl (hz rfl) hE
  · obtain ⟨Z, H2, hI, hLH, g⟩ := tn_check (L := L) (xs := xs) (i := i) (c0 := c0) (k0 := k0) h hH
    obtain ⟨r, hr, hE⟩ := kk Z H2 rest 0 0 hI hLH (Or.inl ⟨rfl, rfl⟩)
    refine ⟨r, hr, fun u5 u6 => ?_⟩
    iterate 2 (refine ev_step rfl rfl ?_)
    refine ev_xa rfl i rfl (by omega) hL ?_
    iterate 2 (refine ev_step rfl rfl ?_)
    rw [e]
    iterate 1 (refine ev_step rfl rfl ?_)
    exact g r u5 u6 hE
  · obtain ⟨κ, v, H1, H2, c, k, f1, f2, lo, Z, rest2, mw, r1, mm, r2, mt, hl, hz, hI, hLH, hck⟩ := op_mark (L := L) (xs := xs) (x := xs (i + 1)) (y := xs (i + 2)) (v := xs (i + 3)) h hH
    obtain ⟨r, hr, hE⟩ := kk Z H2 rest2 c k hI hLH hck
    refine ⟨r, hr, fun u5 u6 => ?_⟩
    iterate 2 (refine ev_step rfl rfl ?_)
    refine ev_xa rfl i rfl (by omega) hL ?_
    iterate 2 (refine ev_step rfl rfl ?_)
    rw [e]
    iterate 1 (refine ev_step rfl rfl ?_)
    exact tn_mark hi hL mw r1 mm r2 mt hl (hz rfl) hE
  · obtain ⟨κ, v, H1, H2, c, k, f1, f2, lo, Z, rest2, mw, r1, mm, r2, mt, hl, hz, hI, hLH, hck⟩ := op_marked (L := L) (xs := xs) (x := xs (i + 1)) h hH
    obtain ⟨r, hr, hE⟩ := kk Z H2 rest2 c k hI hLH hck
    refine ⟨r, hr, fun u5 u6 => ?_⟩
    iterate 2 (refine ev_step rfl rfl ?_)
    refine ev_xa rfl i rfl (by omega) hL ?_
    iterate 2 (refine ev_step rfl rfl ?_)
    rw [e]
    iterate 1 (refine ev_step rfl rfl ?_)
    exact tn_marked hi hL mw r1 mm r2 mt hl (hz rfl) hE
  · obtain ⟨r, hr, hE⟩ := kk S H rest 0 0 h hH (Or.inl ⟨rfl, rfl⟩)
    refine ⟨r, hr, fun u5 u6 => ?_⟩
    iterate 2 (refine ev_step rfl rfl ?_)
    refine ev_xa rfl i rfl (by omega) hL ?_
    iterate 2 (refine ev_step rfl rfl ?_)
    rw [e]
    iterate 1 (refine ev_step rfl rfl ?_)
    exact hE _ _
  · obtain ⟨r, hr, hE⟩ := kk S H rest 0 0 h hH (Or.inl ⟨rfl, rfl⟩)
    refine ⟨r, hr, fun u5 u6 => ?_⟩
    iterate 2 (refine ev_step rfl rfl ?_)
    refine ev_xa rfl i rfl (by omega) hL ?_
    iterate 2 (refine ev_step rfl rfl ?_)
    rw [e]
    iterate 1 (refine ev_step rfl rfl ?_)
    exact hE _ _
  · obtain ⟨r, hr, hE⟩ := kk S H rest 0 0 h hH (Or.inl ⟨rfl, rfl⟩)
    refine ⟨r, hr, fun u5 u6 => ?_⟩
    iterate 2 (refine ev_step rfl rfl ?_)
    refine ev_xa rfl i rfl (by omega) hL ?_
    iterate 2 (refine ev_step rfl rfl ?_)
    rw [e]
    iterate 1 (refine ev_step rfl rfl ?_)
    exact hE _ _
  · obtain ⟨r, hr, hE⟩ := kk S H rest 0 0 h hH (Or.inl ⟨rfl, rfl⟩)
    refine ⟨r, hr, fun u5 u6 => ?_⟩
    iterate 2 (refine ev_step rfl rfl ?_)
    refine ev_xa rfl i rfl (by omega) hL ?_
    iterate 2 (refine ev_step rfl rfl ?_)
    rw [e]
    iterate 1 (refine ev_step rfl rfl ?_)
    exact hE _ _
  · obtain ⟨r, hr, hE⟩ := kk S H rest 0 0 h hH (Or.inl ⟨rfl, rfl⟩)
    refine ⟨r, hr, fun u5 u6 => ?_⟩
    iterate 2 (refine ev_step rfl rfl ?_)
    refine ev_xa rfl i rfl (by omega) hL ?_
    iterate 2 (refine ev_step rfl rfl ?_)
    rw [e]
    iterate 1 (refine ev_step rfl rfl ?_)
    exact hE _ _
  · obtain ⟨r, hr, hE⟩ := kk S H rest 0 0 h hH (Or.inl ⟨rfl, rfl⟩)
    refine ⟨r, hr, fun u5 u6 => ?_⟩
    iterate 2 (refine ev_step rfl rfl ?_)
    refine ev_xa rfl i rfl (by omega) hL ?_
    iterate 2 (refine ev_step rfl rfl ?_)
    rw [e]
    iterate 1 (refine ev_step rfl rfl ?_)
    exact hE _ _
  · obtain ⟨r, hr, hE⟩ := kk S H rest 0 0 h hH (Or.inl ⟨rfl, rfl⟩)
    refine ⟨r, hr, fun u5 u6 => ?_⟩
    iterate 2 (refine ev_step rfl rfl ?_)
    refine ev_xa rfl i rfl (by omega) hL ?_
    iterate 2 (refine ev_step rfl rfl ?_)
    rw [e]
    iterate 1 (refine ev_step rfl rfl ?_)
    exact hE _ _
  · obtain ⟨r, hr, hE⟩ := kk S H rest 0 0 h hH (Or.inl ⟨rfl, rfl⟩)
    refine ⟨r, hr, fun u5 u6 => ?_⟩
    iterate 2 (refine ev_step rfl rfl ?_)
    refine ev_xa rfl i rfl (by omega) hL ?_
    iterate 2 (refine ev_step rfl rfl ?_)
    rw [e]
    iterate 1 (refine ev_step rfl rfl ?_)
    exact hE _ _
  · obtain ⟨r, hr, hE⟩ := kk S H rest 0 0 h hH (Or.inl ⟨rfl, rfl⟩)
    refine ⟨r, hr, fun u5 u6 => ?_⟩
    iterate 2 (refine ev_step rfl rfl ?_)
    refine ev_xa rfl i rfl (by omega) hL ?_
    iterate 2 (refine ev_step rfl rfl ?_)
    rw [e]
    iterate 1 (refine ev_step rfl rfl ?_)
    exact hE _ _
  · obtain ⟨r, hr, hE⟩ := kk S H rest 0 0 h hH (Or.inl ⟨rfl, rfl⟩)
    refine ⟨r, hr, fun u5 u6 => ?_⟩
    iterate 2 (refine ev_step rfl rfl ?_)
    refine ev_xa rfl i rfl (by omega) hL ?_
    iterate 2 (refine ev_step rfl rfl ?_)
    rw [e]
    iterate 1 (refine ev_step rfl rfl ?_)
    exact hE _ _
  · obtain ⟨r, hr, hE⟩ := kk S H rest 0 0 h hH (Or.inl ⟨rfl, rfl⟩)
    refine ⟨r, hr, fun u5 u6 => ?_⟩
    iterate 2 (refine ev_step rfl rfl ?_)
    refine ev_xa rfl i rfl (by omega) hL ?_
    iterate 2 (refine ev_step rfl rfl ?_)
    rw [e]
    iterate 1 (refine ev_step rfl rfl ?_)
    exact hE _ _
  · obtain ⟨r, hr, hE⟩ := kk S H rest 0 0 h hH (Or.inl ⟨rfl, rfl⟩)
    refine ⟨r, hr, fun u5 u6 => ?_⟩
    iterate 2 (refine ev_step rfl rfl ?_)
    refine ev_xa rfl i rfl (by omega) hL ?_
    iterate 2 (refine ev_step rfl rfl ?_)
    rw [e]
    iterate 1 (refine ev_step rfl rfl ?_)
    exact hE _ _
  · obtain ⟨r, hr, hE⟩ := kk S H rest 0 0 h hH (Or.inl ⟨rfl, rfl⟩)
    refine ⟨r, hr, fun u5 u6 => ?_⟩
    iterate 2 (refine ev_step rfl rfl ?_)
    refine ev_xa rfl i rfl (by omega) hL ?_
    iterate 2 (refine ev_step rfl rfl ?_)
    rw [e]
    iterate 1 (refine ev_step rfl rfl ?_)
    exact hE _ _
  · obtain ⟨r, hr, hE⟩ := kk S H rest 0 0 h hH (Or.inl ⟨rfl, rfl⟩)
    refine ⟨r, hr, fun u5 u6 => ?_⟩
    iterate 2 (refine ev_step rfl rfl ?_)
    refine ev_xa rfl i rfl (by omega) hL ?_
    iterate 2 (refine ev_step rfl rfl ?_)
    rw [e]
    iterate 1 (refine ev_step rfl rfl ?_)
    exact hE _ _
theorem nI_m6 {n i : Nat} (hn : n < 6) (hi : i < 2 ^ 31) : nI n - 6 < nI i := by
  have hc : n = 0 ∨ n = 1 ∨ n = 2 ∨ n = 3 ∨ n = 4 ∨ n = 5 := by omega
  have h0 : nI n - 6 < 0 := by rcases hc with rfl | rfl | rfl | rfl | rfl | rfl <;> decide
  exact Int32.lt_of_lt_of_le h0 (nI_pos' hi)
def lwQ (c k : Nat) (r : ac_R) : Prop := r.1 = .inl (some (.int 1)) ∧ r.2.2.1 ≤ c ∧ r.2.2.2 ≤ k
theorem law_loop {L : Nat} {xs : Nat → Int32} (hL : L < 2 ^ 31 - 6) : ∀ (n i c0 k0 : Nat) (S : GS) (H rest : ac_H), i ≤ L + 6 → L + 12 - i ≤ n → Inv S → LHs S H rest → ∃ r, lwQ (c0 + (L + 12 - i)) (k0 + (L + 12 - i)) r ∧ ∀ u5 u6, Ev L xs 129 (43, [.float 9, .ref 0, .ref 15, .ref 25, .int (nI i), u5, u6], [], H, c0, k0) r := by
  intro n
  induction n with
  | zero => intro i c0 k0 S H rest hi hn; omega
  | succ n ih =>
    intro i c0 k0 S H rest hi hn h hH
    by_cases hg : i + 6 ≤ L
    · obtain ⟨r, hr, hE⟩ := law_turn (L := L) (xs := xs) (Q := lwQ (c0 + (L + 12 - i)) (k0 + (L + 12 - i))) (i := i) (c0 := c0) (k0 := k0) (by omega) (by omega) h hH (fun Z H2 rest2 c k hI hLH hck => by
        obtain ⟨r, ⟨q1, q2, q3⟩, hE⟩ := ih (i + 6) (c0 + c) (k0 + k) Z H2 rest2 (by omega) (by omega) hI hLH
        refine ⟨r, ⟨q1, by omega, by omega⟩, fun u5 u6 => ?_⟩
        iterate 2 (refine ev_step rfl rfl ?_)
        rw [show nI i + 6 = nI (i + 6) from nI_add i 6]
        exact hE u5 u6)
      refine ⟨r, hr, fun u5 u6 => ?_⟩
      iterate 6 (refine ev_step rfl rfl ?_)
      rw [show (Int32.ofNat L - 6 : Int32) = nI (L - 6) from pk_sub (a := L) (b := 6) (by omega)]
      refine ev_f (nI_nlt (a := L - 6) (b := i) (by omega) (by omega)) ?_
      exact hE u5 u6
    · refine ⟨(.inl (some (.int 1)), H, c0, k0), ⟨rfl, Nat.le_add_right _ _, Nat.le_add_right _ _⟩, fun u5 u6 => ?_⟩
      iterate 6 (refine ev_step rfl rfl ?_)
      refine ev_t (show (Int32.ofNat L - 6 : Int32) < nI i from ?_) ?_
      · by_cases h6 : L < 6
        · exact nI_m6 h6 (by omega)
        · rw [show (Int32.ofNat L - 6 : Int32) = nI (L - 6) from pk_sub (a := L) (b := 6) (by omega)]
          exact nI_lt (by omega) (by omega)
      · (repeat refine ev_step rfl rfl ?_)
        exact ev_r2 rfl (Or.inr rfl)
