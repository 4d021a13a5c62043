theorem op_sum {L : Nat} {xs : Nat → Int32} {S : GS} {H rest : ac_H} {x y u v f : Int32} (h : Inv S) (hH : LHs S H rest) : Tn L xs false Int32.toInt64 125 107 [.ref 0, .int x, .int y, .int u, .int v, .int f, .ref 25] [.ref 15, .int x, .int y, .int u, .int v, .int f] H rest := by
  obtain ⟨ga, le, sw, ar, th, fr, ah, lo, ha, hf, rfl⟩ := hH
  have hw2 := h.hw.2.1
  have hq2 := h.hq.2.1
  by_cases hb : badXY S.w S.q x y
  · exact tn_no 1 0 (by decide) h ha hf (wx_sum1 rfl (mx_sum1 hb)) (mm_sum1 hb)
  · obtain ⟨a, b, h1, h2, rfl, rfl⟩ := goodXY h.hw h.hq hb
    by_cases hr : badR S.w S.q a b u v
    · exact tn_no 1 0 (by decide) h ha hf (wx_sum1 rfl (mx_sum2 h.hw h.hq h1 h2 hr)) (mm_sum2 h.hw h.hq h1 h2 hr)
    · by_cases hv : f < 0 ∨ ¬ f ≤ 2
      · exact tn_no 2 0 (by decide) h ha hf (wx_sum2 rfl (mx_sum3 h.hw h.hq h1 h2 hr hv)) (mm_sum3 h.hw h.hq h1 h2 hr hv)
      · obtain ⟨φ, hφ, rfl⟩ := nI_of2 (x := f) (M := 2) (n := 2) (by decide) (fun z => hv (Or.inl z)) (Decidable.not_not.mp (fun z => hv (Or.inr z)))
        have u1 : ¬ u < 1 := fun z => hr (Or.inl z)
        have v1 : ¬ v < 1 := fun z => hr (Or.inr (Or.inr (Or.inl z)))
        obtain ⟨W, hW, rfl⟩ := nI_of (x := u) (fun z => u1 (Int32.lt_trans z (by decide)))
        obtain ⟨Q, hQ, rfl⟩ := nI_of (x := v) (fun z => v1 (Int32.lt_trans z (by decide)))
        have w0 : 0 < W := Nat.pos_of_ne_zero (fun z => u1 (by rw [z]; decide))
        have q0 : 0 < Q := Nat.pos_of_ne_zero (fun z => v1 (by rw [z]; decide))
        have w1 : W ≤ S.w - a := Nat.not_lt.mp (fun z => hr (Or.inr (Or.inl (nI_lt z hW))))
        have q1 : Q ≤ S.q - b := Nat.not_lt.mp (fun z => hr (Or.inr (Or.inr (Or.inr (fun g => absurd ((nI_leI hQ (by omega)).mp g) (by omega))))))
        exact tn_get0 (srF S.bi φ S.w W (b * S.w + a) Q 0 0) h ha hf (wo_sum rfl (mt_sum h.hw h.hq h1 h2 w0 q0 (by omega) (by omega) (by omega) h.bt) rfl rfl) (mm_sum h.hw h.hq h1 h2 w0 q0 (by omega) (by omega) (by omega) h.bt)
theorem on_or (mc mk : Nat → Int32) (c k : Int32) : ∀ n i, onF mc mk c k n i = 0 ∨ onF mc mk c k n i = 1 := by
  intro n
  induction n with
  | zero => intro i; exact Or.inl rfl
  | succ n ih =>
    intro i
    rw [onF]
    split
    · exact Or.inr rfl
    · exact ih (i + 1)
theorem inv_mark {S : GS} {c k β : Nat} (hc : c < S.w * S.q) (hk : k < 7) (hβ : β < 128) (hb : S.bi c = nI β) (hbit : β.testBit k = true) (hcn : S.cn < 4) (h : Inv S) : Inv (S.w, S.q, S.ed, S.ra, S.bk, S.wt, S.gp, S.gq, S.mv, (S.cn + 1), (upd S.mc S.cn (nI c)), (upd S.mk S.cn (nI k)), S.bi, S.tm, S.sd) := by
  have hn := h.n
  refine ⟨h.hw, h.hq, h.bt, h.b0, h.ed, hcn, fun j hj => ?_, fun j hj hm => ?_⟩
  · replace hj : j < S.cn + 1 := hj
    show (upd S.mc S.cn (nI c) j = -1 ∨ ∃ c', c' < S.w * S.q ∧ upd S.mc S.cn (nI c) j = nI c') ∧ ∃ k', k' < 7 ∧ upd S.mk S.cn (nI k) j = nI k'
    unfold upd
    by_cases e : j = S.cn
    · rw [if_pos e, if_pos e]
      exact ⟨Or.inr ⟨c, hc, rfl⟩, k, hk, rfl⟩
    · rw [if_neg e, if_neg e]
      exact h.mk j (by omega)
  · replace hj : j < S.cn + 1 := hj
    replace hm : upd S.mc S.cn (nI c) j ≠ -1 := hm
    show (S.bi (upd S.mc S.cn (nI c) j).toNatClampNeg).toNatClampNeg.testBit (upd S.mk S.cn (nI k) j).toNatClampNeg = true
    unfold upd at hm ⊢
    by_cases e : j = S.cn
    · rw [if_pos e, if_pos e, nI_clamp (by omega), nI_clamp (by omega), hb, nI_clamp (by omega)]
      exact hbit
    · rw [if_neg e] at hm
      rw [if_neg e, if_neg e]
      exact h.lv j (by omega) hm
theorem op_mark {L : Nat} {xs : Nat → Int32} {S : GS} {H rest : ac_H} {x y v : Int32} (h : Inv S) (hH : LHs S H rest) : Tn L xs false Int32.toInt64 127 110 [.ref 0, .int x, .int y, .int v, .ref 25] [.ref 15, .int x, .int y, .int v] H rest := by
  obtain ⟨ga, le, sw, ar, th, fr, ah, lo, ha, hf, rfl⟩ := hH
  have hcn := h.cn
  by_cases hb : badXY S.w S.q x y
  · exact tn_no 1 0 (by decide) h ha hf (wx_mark1 rfl (mx_mark1 hb)) (mm_mark1 hcn hb)
  · obtain ⟨a, b, h1, h2, rfl, rfl⟩ := goodXY h.hw h.hq hb
    have hc := cell_lt h1 h2
    by_cases hv : v < 0 ∨ ¬ v ≤ 6
    · exact tn_no 2 0 (by decide) h ha hf (wx_mark2 rfl (mx_mark2 h.hw h.hq h1 h2 hv)) (mm_mark2 h.hw h.hq h1 h2 hv)
    · obtain ⟨k, hk, rfl⟩ := nI_of2 (x := v) (M := 6) (n := 6) (by decide) (fun z => hv (Or.inl z)) (Decidable.not_not.mp (fun z => hv (Or.inr z)))
      obtain ⟨β, hβ, hbi⟩ := h.bt _ hc
      cases hbit : β.testBit k with
      | false => exact tn_no 3 0 (by decide) h ha hf (wx_mark3 rfl (mx_mark3 h.hw h.hq h1 h2 (by omega) hβ hbi hbit)) (mm_mark3 h.hw h.hq h1 h2 (by omega) hβ hbi hbit)
      | true =>
        rcases on_or S.mc S.mk (nI (b * S.w + a)) (nI k) S.cn 0 with hon | hon
        · by_cases h4 : S.cn < 4
          · exact tn_yes (Z := (S.w, S.q, S.ed, S.ra, S.bk, S.wt, S.gp, S.gq, S.mv, (S.cn + 1), (upd S.mc S.cn (nI (b * S.w + a))), (upd S.mk S.cn (nI k)), S.bi, S.tm, S.sd)) (nI S.cn) (inv_mark hc (by omega) hβ hbi hbit h4 h) ha hf (wo_mark rfl (mt_mark h.hw h.hq h1 h2 (by omega) hβ hbi hbit hon h4) rfl rfl) (mm_mark h.hw h.hq h1 h2 (by omega) hβ hbi hbit hon h4)
          · exact tn_no 5 0 (by decide) h ha hf (wx_mark5 rfl (mx_mark5 h.hw h.hq h1 h2 (by omega) hβ hbi hbit hon (by omega))) (mm_mark5 h.hw h.hq h1 h2 (by omega) hβ hbi hbit hon (by omega))
        · exact tn_no 4 0 (by decide) h ha hf (wx_mark4 rfl (mx_mark4 h.hw h.hq h1 h2 (by omega) hβ hbi hbit hon hcn)) (mm_mark4 h.hw h.hq h1 h2 (by omega) hβ hbi hbit hon hcn)
theorem op_step {L : Nat} {xs : Nat → Int32} {S : GS} {H rest : ac_H} {x : Int32} (h : Inv S) (hH : LHs S H rest) : Tn L xs false Int32.toInt64 123 104 [.ref 0, .int x, .ref 25] [.ref 15, .int x] H rest := by
  obtain ⟨ga, le, sw, ar, th, fr, ah, lo, ha, hf, rfl⟩ := hH
  by_cases hb : x < 0 ∨ ¬ x ≤ 64
  · exact tn_no 1 0 (by decide) h ha hf (wx_step1 rfl (mx_step hb)) (km_step1 hb)
  · obtain ⟨k, hk, rfl⟩ := nI_of2 (x := x) (M := 64) (n := 64) (by decide) (fun z => hb (Or.inl z)) (Decidable.not_not.mp (fun z => hb (Or.inr z)))
    obtain ⟨H1, ⟨g1, l1, s1, a1, ha1, rfl⟩, m1⟩ := ct_step (L := L) (xs := xs) (rest := MC S th fr ah (AL lo :: rest)) hk h ⟨ga, le, sw, ar, ha, rfl⟩
    have hI := inv_it (f := fwS) (fun S hS => inv_fw hS) k S h
    have hm := fun g0 g1 g2 g3 g4 g5 g6 g7 g8 g9 g10 g11 g12 g13 g14 => km_step (L := L) (xs := xs) (g0 := g0) (g1 := g1) (g2 := g2) (g3 := g3) (g4 := g4) (g5 := g5) (g6 := g6) (g7 := g7) (g8 := g8) (g9 := g9) (g10 := g10) (g11 := g11) (g12 := g12) (g13 := g13) (g14 := g14) (th := th) (fr := fr) (ah := ah) (rest := AL (vp_updL lo 0 (itS fwS k S).tm.toInt64) :: rest) hk h hf
    generalize itS fwS k S = Z at ha1 m1 hI hm
    obtain ⟨fr2, ah2, hf2, m2⟩ := hm _ _ _ _ _ _ _ _ _ _ _ _ _ _ _
    exact tn_yes (Z := Z) Z.tm hI ha1 hf2 (wo_step rfl m1 rfl rfl) m2
theorem op_back {L : Nat} {xs : Nat → Int32} {S : GS} {H rest : ac_H} {x : Int32} (h : Inv S) (hH : LHs S H rest) : Tn L xs false Int32.toInt64 124 105 [.ref 0, .int x, .ref 25] [.ref 15, .int x] H rest := by
  obtain ⟨ga, le, sw, ar, th, fr, ah, lo, ha, hf, rfl⟩ := hH
  by_cases hb : x < 0 ∨ ¬ x ≤ 64
  · exact tn_no 1 0 (by decide) h ha hf (wx_back1 rfl (mx_back1 hb)) (km_back1 hb)
  · have b1 : ¬ x < 0 := fun z => hb (Or.inl z)
    have b2 : x ≤ 64 := Decidable.not_not.mp (fun z => hb (Or.inr z))
    cases ho : owF S.ed (S.w * S.q) 0 with
    | false => exact tn_no 2 0 (by decide) h ha hf (wx_back2 rfl (mx_back2 h.hw h.hq b1 b2 ho)) (km_back2 h.hw h.hq h.ed b1 b2 ho)
    | true =>
      obtain ⟨k, hk, rfl⟩ := nI_of2 (x := x) (M := 64) (n := 64) (by decide) b1 b2
      obtain ⟨H1, ⟨g1, l1, s1, a1, ha1, rfl⟩, m1⟩ := ct_back (L := L) (xs := xs) (rest := MC S th fr ah (AL lo :: rest)) hk h ⟨ga, le, sw, ar, ha, rfl⟩ ho
      have hI := inv_it (f := bwS) (fun S hS => inv_bw hS) k S h
      have hm := fun g0 g1 g2 g3 g4 g5 g6 g7 g8 g9 g10 g11 g12 g13 g14 => km_back (L := L) (xs := xs) (g0 := g0) (g1 := g1) (g2 := g2) (g3 := g3) (g4 := g4) (g5 := g5) (g6 := g6) (g7 := g7) (g8 := g8) (g9 := g9) (g10 := g10) (g11 := g11) (g12 := g12) (g13 := g13) (g14 := g14) (th := th) (fr := fr) (ah := ah) (rest := AL (vp_updL lo 0 (itS bwS k S).tm.toInt64) :: rest) hk h hf ho
      generalize itS bwS k S = Z at ha1 m1 hI hm
      obtain ⟨fr2, ah2, hf2, m2⟩ := hm _ _ _ _ _ _ _ _ _ _ _ _ _ _ _
      exact tn_yes (Z := Z) Z.tm hI ha1 hf2 (wo_back rfl m1 rfl rfl) m2
