theorem inv_set {S : GS} {c : Nat} {v : Int32} {β : Nat} (hc : c < S.w * S.q) (hβ : β < 128) (hv : v = nI β) (h : Inv S) : Inv (S.w, S.q, S.ed, S.ra, S.bk, S.wt, S.gp, S.gq, S.mv, S.cn, (pre S.cn (loF (nI c) S.mc) S.mc), S.mk, (upd S.bi c v), S.tm, S.sd) := by
  have hn := h.n
  refine ⟨h.hw, h.hq, fun i hi => ?_, fun j hj => ?_, h.ed, h.cn, fun j hj => ⟨?_, (h.mk j hj).2⟩, fun j hj hm => ?_⟩
  · replace hi : i < S.w * S.q := hi
    show ∃ β, β < 128 ∧ upd S.bi c v i = nI β
    unfold upd
    split
    · exact ⟨β, hβ, hv⟩
    · exact h.bt i hi
  · replace hj : S.w * S.q ≤ j := hj
    show upd S.bi c v j = 0
    unfold upd
    rw [if_neg (by omega)]
    exact h.b0 j hj
  · replace hj : j < S.cn := hj
    show pre S.cn (loF (nI c) S.mc) S.mc j = -1 ∨ ∃ c', c' < S.w * S.q ∧ pre S.cn (loF (nI c) S.mc) S.mc j = nI c'
    rw [pre, if_pos hj]
    unfold loF
    split
    · exact Or.inl rfl
    · exact (h.mk j hj).1
  · replace hj : j < S.cn := hj
    have ej : pre S.cn (loF (nI c) S.mc) S.mc j = loF (nI c) S.mc j := by rw [pre, if_pos hj]
    replace hm : pre S.cn (loF (nI c) S.mc) S.mc j ≠ -1 := hm
    rw [ej] at hm
    have z : ¬ S.mc j = nI c := fun q => hm (if_pos q)
    have e2 : loF (nI c) S.mc j = S.mc j := if_neg z
    rw [e2] at hm ej
    show (upd S.bi c v (pre S.cn (loF (nI c) S.mc) S.mc j).toNatClampNeg).toNatClampNeg.testBit (S.mk j).toNatClampNeg = true
    rw [ej]
    obtain ⟨c', hc', e⟩ := (h.mk j hj).1.resolve_left hm
    have hl := h.lv j hj hm
    rw [e, nI_clamp (by omega)] at hl ⊢
    unfold upd
    rw [if_neg (fun q => z (by rw [e, q]))]
    exact hl
theorem op_set {L : Nat} {xs : Nat → Int32} {S : GS} {H rest : ac_H} {x y v : Int32} {φ : Int32 → Int64} (h : Inv S) (hH : LHs S H rest) : Tn L xs true φ 113 76 [.ref 0, .int x, .int y, .int v] [.ref 15, .int x, .int y, .int v] H rest := by
  obtain ⟨ga, le, sw, ar, th, fr, ah, lo, ha, hf, rfl⟩ := hH
  by_cases hb : badXY S.w S.q x y
  · exact tn_no 1 0 (by decide) h ha hf (wx_set1 rfl (mx_set1 hb)) (mm_set1 hb)
  · obtain ⟨a, b, h1, h2, rfl, rfl⟩ := goodXY h.hw h.hq hb
    by_cases hv : v < 0 ∨ ¬ v ≤ 127
    · exact tn_no 2 0 (by decide) h ha hf (wx_set2 rfl (mx_set2 h.hw h.hq h1 h2 hv)) (mm_set2 h.hw h.hq h1 h2 hv)
    · have b1 : ¬ v < 0 := fun z => hv (Or.inl z)
      have b2 : v ≤ 127 := Decidable.not_not.mp (fun z => hv (Or.inr z))
      obtain ⟨β, hβ, e⟩ := nI_of2 (x := v) (M := 127) (n := 127) (by decide) b1 b2
      exact tn_void (Z := (S.w, S.q, S.ed, S.ra, S.bk, S.wt, S.gp, S.gq, S.mv, S.cn, (pre S.cn (loF (nI (b * S.w + a)) S.mc) S.mc), S.mk, (upd S.bi (b * S.w + a) v), S.tm, S.sd)) (inv_set (cell_lt h1 h2) (by omega) e h) ha hf (wo_set rfl (mt_set h.hw h.hq h1 h2 b1 b2 h.cn)) (mm_set h.hw h.hq h1 h2 b1 b2 h.cn)
theorem inv_ed {S : GS} {c s : Nat} {e : Int32} (hs : s < 5) (he : e = nI s) (h : Inv S) : Inv (S.w, S.q, (upd S.ed c e), S.ra, S.bk, S.wt, S.gp, S.gq, S.mv, S.cn, S.mc, S.mk, S.bi, S.tm, S.sd) := ⟨h.hw, h.hq, h.bt, h.b0, fun i hi => by
  show ∃ s, s < 5 ∧ upd S.ed c e i = nI s
  unfold upd
  split
  · exact ⟨s, hs, he⟩
  · exact h.ed i hi, h.cn, h.mk, h.lv⟩
theorem peE_or (s : Nat) (o : Int32) : peE (nI s) o = nI 0 ∨ peE (nI s) o = nI s := by
  unfold peE
  split
  · exact Or.inl rfl
  · exact Or.inr rfl
theorem bO_01 (x : Int32) : bO x = 0 ∨ bO x = 1 := by
  unfold bO
  split
  · exact Or.inl rfl
  · exact Or.inr rfl
def bL (v : Int32) : Int64 := if v = 0 then 0 else 1
theorem op_wall {L : Nat} {xs : Nat → Int32} {S : GS} {H rest : ac_H} {x y u : Int32} (h : Inv S) (hH : LHs S H rest) : Tn L xs false bL 116 81 [.ref 0, .int x, .int y, .int (bO u), .ref 25] [.ref 15, .int x, .int y, .int (bO u)] H rest := by
  obtain ⟨ga, le, sw, ar, th, fr, ah, lo, ha, hf, rfl⟩ := hH
  by_cases hb : badXY S.w S.q x y
  · exact tn_no 1 0 (by decide) h ha hf (wx_wall1 rfl (mx_wall1 hb)) (mm_wall (mm_edgeCall1 hb) (Or.inl rfl))
  · obtain ⟨a, b, h1, h2, rfl, rfl⟩ := goodXY h.hw h.hq hb
    by_cases he : S.ed (b * S.w + a) = 0 ∨ S.ed (b * S.w + a) = 1
    · have hI : Inv (S.w, S.q, (upd S.ed (b * S.w + a) (peE 1 (bO u))), S.ra, S.bk, S.wt, S.gp, S.gq, S.mv, S.cn, S.mc, S.mk, S.bi, S.tm, S.sd) := (peE_or 1 (bO u)).elim (fun e => inv_ed (s := 0) (by decide) e h) (fun e => inv_ed (s := 1) (by decide) e h)
      exact tn_yes (Z := (S.w, S.q, (upd S.ed (b * S.w + a) (peE 1 (bO u))), S.ra, S.bk, S.wt, S.gp, S.gq, S.mv, S.cn, S.mc, S.mk, S.bi, S.tm, S.sd)) (bI (decide (¬ peE 1 (bO u) = S.ed (b * S.w + a)))) hI ha hf (wo_wall rfl (mt_wall h.hw h.hq h1 h2 he) rfl rfl) (mm_wall (mm_edgeCall h.hw h.hq h1 h2 (by decide) (bO_01 u) he) (bI_01 _))
    · exact tn_no 2 0 (by decide) h ha hf (wx_wall2 rfl (mx_wall2 h.hw h.hq h1 h2 he)) (mm_wall (mm_edgeCall2 h.hw h.hq h1 h2 he) (Or.inl rfl))
theorem op_sink {L : Nat} {xs : Nat → Int32} {S : GS} {H rest : ac_H} {x y u : Int32} (h : Inv S) (hH : LHs S H rest) : Tn L xs false bL 118 83 [.ref 0, .int x, .int y, .int (bO u), .ref 25] [.ref 15, .int x, .int y, .int (bO u)] H rest := by
  obtain ⟨ga, le, sw, ar, th, fr, ah, lo, ha, hf, rfl⟩ := hH
  by_cases hb : badXY S.w S.q x y
  · exact tn_no 1 0 (by decide) h ha hf (wx_sink1 rfl (mx_sink1 hb)) (mm_sink (mm_edgeCall1 hb) (Or.inl rfl))
  · obtain ⟨a, b, h1, h2, rfl, rfl⟩ := goodXY h.hw h.hq hb
    by_cases he : S.ed (b * S.w + a) = 0 ∨ S.ed (b * S.w + a) = 3
    · have hI : Inv (S.w, S.q, (upd S.ed (b * S.w + a) (peE 3 (bO u))), S.ra, S.bk, S.wt, S.gp, S.gq, S.mv, S.cn, S.mc, S.mk, S.bi, S.tm, S.sd) := (peE_or 3 (bO u)).elim (fun e => inv_ed (s := 0) (by decide) e h) (fun e => inv_ed (s := 3) (by decide) e h)
      exact tn_yes (Z := (S.w, S.q, (upd S.ed (b * S.w + a) (peE 3 (bO u))), S.ra, S.bk, S.wt, S.gp, S.gq, S.mv, S.cn, S.mc, S.mk, S.bi, S.tm, S.sd)) (bI (decide (¬ peE 3 (bO u) = S.ed (b * S.w + a)))) hI ha hf (wo_sink rfl (mt_sink h.hw h.hq h1 h2 he) rfl rfl) (mm_sink (mm_edgeCall h.hw h.hq h1 h2 (by decide) (bO_01 u) he) (bI_01 _))
    · exact tn_no 2 0 (by decide) h ha hf (wx_sink2 rfl (mx_sink2 h.hw h.hq h1 h2 he)) (mm_sink (mm_edgeCall2 h.hw h.hq h1 h2 he) (Or.inl rfl))
theorem op_body {L : Nat} {xs : Nat → Int32} {S : GS} {H rest : ac_H} {x y u : Int32} (h : Inv S) (hH : LHs S H rest) : Tn L xs false bL 119 84 [.ref 0, .int x, .int y, .int (bO u), .ref 25] [.ref 15, .int x, .int y, .int (bO u)] H rest := by
  obtain ⟨ga, le, sw, ar, th, fr, ah, lo, ha, hf, rfl⟩ := hH
  by_cases hb : badXY S.w S.q x y
  · exact tn_no 1 0 (by decide) h ha hf (wx_body1 rfl (mx_body1 hb)) (mm_body (mm_edgeCall1 hb) (Or.inl rfl))
  · obtain ⟨a, b, h1, h2, rfl, rfl⟩ := goodXY h.hw h.hq hb
    by_cases he : S.ed (b * S.w + a) = 0 ∨ S.ed (b * S.w + a) = 4
    · have hI : Inv (S.w, S.q, (upd S.ed (b * S.w + a) (peE 4 (bO u))), S.ra, S.bk, S.wt, S.gp, S.gq, S.mv, S.cn, S.mc, S.mk, S.bi, S.tm, S.sd) := (peE_or 4 (bO u)).elim (fun e => inv_ed (s := 0) (by decide) e h) (fun e => inv_ed (s := 4) (by decide) e h)
      exact tn_yes (Z := (S.w, S.q, (upd S.ed (b * S.w + a) (peE 4 (bO u))), S.ra, S.bk, S.wt, S.gp, S.gq, S.mv, S.cn, S.mc, S.mk, S.bi, S.tm, S.sd)) (bI (decide (¬ peE 4 (bO u) = S.ed (b * S.w + a)))) hI ha hf (wo_body rfl (mt_body h.hw h.hq h1 h2 he) rfl rfl) (mm_body (mm_edgeCall h.hw h.hq h1 h2 (by decide) (bO_01 u) he) (bI_01 _))
    · exact tn_no 2 0 (by decide) h ha hf (wx_body2 rfl (mx_body2 h.hw h.hq h1 h2 he)) (mm_body (mm_edgeCall2 h.hw h.hq h1 h2 he) (Or.inl rfl))
theorem inv_so {S : GS} {c s : Nat} {e v : Int32} (hs : s < 5) (he : e = nI s) (h : Inv S) : Inv (S.w, S.q, (upd S.ed c e), (upd S.ra c v), S.bk, S.wt, S.gp, S.gq, S.mv, S.cn, S.mc, S.mk, S.bi, S.tm, S.sd) := inv_ed (S := S) hs he h
theorem op_source {L : Nat} {xs : Nat → Int32} {S : GS} {H rest : ac_H} {x y v : Int32} {φ : Int32 → Int64} (h : Inv S) (hH : LHs S H rest) : Tn L xs true φ 117 82 [.ref 0, .int x, .int y, .int v] [.ref 15, .int x, .int y, .int v] H rest := by
  obtain ⟨ga, le, sw, ar, th, fr, ah, lo, ha, hf, rfl⟩ := hH
  by_cases hb : badXY S.w S.q x y
  · exact tn_no 1 0 (by decide) h ha hf (wx_source1 rfl (mx_source1 hb)) (mm_source1 hb)
  · obtain ⟨a, b, h1, h2, rfl, rfl⟩ := goodXY h.hw h.hq hb
    by_cases hv : v < 0 ∨ ¬ v ≤ 256
    · exact tn_no 2 0 (by decide) h ha hf (wx_source2 rfl (mx_source2 h.hw h.hq h1 h2 hv)) (mm_source2 h.hw h.hq h1 h2 hv)
    · have b1 : ¬ v < 0 := fun z => hv (Or.inl z)
      have b2 : v ≤ 256 := Decidable.not_not.mp (fun z => hv (Or.inr z))
      by_cases he : S.ed (b * S.w + a) = 0 ∨ S.ed (b * S.w + a) = 2
      · have hI : Inv (S.w, S.q, (upd S.ed (b * S.w + a) (if v ≤ 0 then 0 else 2)), (upd S.ra (b * S.w + a) v), S.bk, S.wt, S.gp, S.gq, S.mv, S.cn, S.mc, S.mk, S.bi, S.tm, S.sd) := by
          by_cases z : v ≤ 0
          · exact inv_so (s := 0) (by decide) (if_pos z) h
          · exact inv_so (s := 2) (by decide) (if_neg z) h
        exact tn_void (Z := (S.w, S.q, (upd S.ed (b * S.w + a) (if v ≤ 0 then 0 else 2)), (upd S.ra (b * S.w + a) v), S.bk, S.wt, S.gp, S.gq, S.mv, S.cn, S.mc, S.mk, S.bi, S.tm, S.sd)) hI ha hf (wo_source rfl (mt_source h.hw h.hq h1 h2 b1 b2 he)) (mm_source h.hw h.hq h1 h2 b1 b2 he)
      · exact tn_no 3 0 (by decide) h ha hf (wx_source3 rfl (mx_source3 h.hw h.hq h1 h2 b1 b2 he)) (mm_source3 h.hw h.hq h1 h2 b1 b2 he)
