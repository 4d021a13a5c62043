theorem op_rule {L : Nat} {xs : Nat → Int32} {S : GS} {H rest : ac_H} {x y : Int32} (h : Inv S) (hH : LHs S H rest) : Tn L xs false Int32.toInt64 115 75 [.ref 0, .int x, .int y, .ref 25] [.ref 15, .int x, .int y] H rest := by
  obtain ⟨ga, le, sw, ar, th, fr, ah, lo, ha, hf, rfl⟩ := hH
  by_cases hb : x < 0 ∨ ¬ x ≤ 127
  · exact tn_no 1 0 (by decide) h ha hf (wx_rule1 rfl (mx_rule1 hb _)) (mm_rule1 (hb.imp id (fun z => Or.inl (Int32.not_le.mp z))))
  · have b1 : ¬ x < 0 := fun z => hb (Or.inl z)
    have b2 : x ≤ 127 := Decidable.not_not.mp (fun z => hb (Or.inr z))
    by_cases hs : y < 0 ∨ ¬ y ≤ 1
    · exact tn_no 1 0 (by decide) h ha hf (wx_rule1 rfl (mx_rule2 b1 b2 hs _)) (mm_rule1 (Or.inr (Or.inr hs)))
    · obtain ⟨β, hβ, rfl⟩ := nI_of2 (x := x) (M := 127) (n := 127) (by decide) b1 b2
      obtain ⟨s, hs2, rfl⟩ := nI_of2 (x := y) (M := 1) (n := 1) (by decide) (fun z => hs (Or.inl z)) (Decidable.not_not.mp (fun z => hs (Or.inr z)))
      exact tn_get0 (nI (tdN β s)) h ha hf (wo_rule rfl (mt_rule (by omega) (by omega) _) rfl rfl) (mm_rule (by omega) (by omega))
theorem op_account {L : Nat} {xs : Nat → Int32} {S : GS} {H rest : ac_H} {x : Int32} (h : Inv S) (hH : LHs S H rest) : Tn L xs false Int32.toInt64 122 87 [.ref 0, .int x, .ref 25] [.ref 15, .int x] H rest := by
  obtain ⟨ga, le, sw, ar, th, fr, ah, lo, ha, hf, rfl⟩ := hH
  by_cases hb : x < 0 ∨ ¬ x ≤ 2
  · exact tn_no 1 0 (by decide) h ha hf (wx_account1 rfl (mx_account hb)) (mm_account1 hb)
  · have b1 : ¬ x < 0 := fun z => hb (Or.inl z)
    have b2 : x ≤ 2 := Decidable.not_not.mp (fun z => hb (Or.inr z))
    exact tn_get0 (acF S.gp S.gq S.mv x) h ha hf (wo_account rfl (mt_account b1 b2) rfl rfl) (mm_account b1 b2)
theorem op_book {L : Nat} {xs : Nat → Int32} {S : GS} {H rest : ac_H} {x y : Int32} (h : Inv S) (hH : LHs S H rest) : Tn L xs false Int32.toInt64 126 108 [.ref 0, .int x, .int y, .ref 25] [.ref 15, .int x, .int y] H rest := by
  obtain ⟨ga, le, sw, ar, th, fr, ah, lo, ha, hf, rfl⟩ := hH
  by_cases hb : x < 0 ∨ ¬ x ≤ 3
  · exact tn_no 1 0 (by decide) h ha hf (wx_book1 rfl (mx_book1 hb)) (mm_book1 (hb.imp id (fun z => Or.inl (Int32.not_le.mp z))))
  · have b1 : ¬ x < 0 := fun z => hb (Or.inl z)
    have b2 : x ≤ 3 := Decidable.not_not.mp (fun z => hb (Or.inr z))
    by_cases hs : y < 0 ∨ ¬ y ≤ 2
    · exact tn_no 1 0 (by decide) h ha hf (wx_book1 rfl (mx_book2 b1 b2 hs)) (mm_book1 (Or.inr (Or.inr hs)))
    · obtain ⟨β, hβ, rfl⟩ := nI_of2 (x := x) (M := 3) (n := 3) (by decide) b1 b2
      obtain ⟨s, hs2, rfl⟩ := nI_of2 (x := y) (M := 2) (n := 2) (by decide) (fun z => hs (Or.inl z)) (Decidable.not_not.mp (fun z => hs (Or.inr z)))
      exact tn_get0 (S.bk (β * 3 + s)) h ha hf (wo_book rfl (mt_book (by omega) (by omega)) rfl rfl) (mm_book (by omega) (by omega))
theorem op_marked {L : Nat} {xs : Nat → Int32} {S : GS} {H rest : ac_H} {x : Int32} (h : Inv S) (hH : LHs S H rest) : Tn L xs false Int32.toInt64 128 111 [.ref 0, .int x, .ref 25] [.ref 15, .int x] H rest := by
  obtain ⟨ga, le, sw, ar, th, fr, ah, lo, ha, hf, rfl⟩ := hH
  have hcn := h.cn
  by_cases hb : x < 0 ∨ ¬ x < nI S.cn
  · exact tn_no 1 0 (by decide) h ha hf (wx_marked1 rfl (mx_marked hb)) (mm_marked1 hb)
  · obtain ⟨m, hm, rfl⟩ := nI_of (x := x) (fun z => hb (Or.inl z))
    have hm2 : m < S.cn := (nI_ltI hm (by omega)).mp (Decidable.not_not.mp (fun z => hb (Or.inr z)))
    exact tn_get0 (mdF S.w S.mc S.mk m) h ha hf (wo_marked rfl (mt_marked h.hw h.hq hcn hm2 h.mk) rfl rfl) (mm_marked h.hw h.hq hcn hm2 h.mk)
/-- both do it -/
theorem tn_yes {L : Nat} {xs : Nat → Int32} {φ : Int32 → Int64} {z zm : Nat} {wa ma : List Value} {S Z : GS} {ga le ga2 le2 : Nat → Int32} {sw sw2 : Bool} {ar ar2 : Nat → Int32} {th : Int32} {fr ah fr2 ah2 : Nat → Int32} {lo : Nat → Int64} {rest : ac_H} (v : Int32) (h : Inv Z) (ha : ∀ j, Z.w * Z.q ≤ j → ar2 j = 0) (hf : frOk Z fr2) (mw : Mt L xs z wa (GX S ga le sw ar (MC S th fr ah (AL lo :: rest))) (some (.int 0)) (GX Z ga2 le2 sw2 ar2 (MC S th fr ah (AL (vp_updL lo 0 (φ v)) :: rest))) 0 0) (mm : Mt L xs zm ma (GX Z ga2 le2 sw2 ar2 (MC S th fr ah (AL (vp_updL lo 0 (φ v)) :: rest))) (some (.int v)) (GX Z ga2 le2 sw2 ar2 (MC Z 0 fr2 ah2 (AL (vp_updL lo 0 (φ v)) :: rest))) 0 0) : Tn L xs false φ z zm wa ma (GX S ga le sw ar (MC S th fr ah (AL lo :: rest))) rest :=
  ⟨0, v, _, _, 0, 0, _, _, vp_updL lo 0 (φ v), Z, rest, mw, rfl, mm, rfl, mm_thrown, rfl, fun _ _ => if_pos rfl, h, ⟨ga2, le2, sw2, ar2, 0, fr2, ah2, _, ha, hf, rfl⟩, Or.inl ⟨rfl, rfl⟩⟩
theorem tn_void {L : Nat} {xs : Nat → Int32} {φ : Int32 → Int64} {z zm : Nat} {wa ma : List Value} {S Z : GS} {ga le ga2 le2 : Nat → Int32} {sw sw2 : Bool} {ar ar2 : Nat → Int32} {th : Int32} {fr ah fr2 ah2 : Nat → Int32} {lo : Nat → Int64} {rest : ac_H} (h : Inv Z) (ha : ∀ j, Z.w * Z.q ≤ j → ar2 j = 0) (hf : frOk Z fr2) (mw : Mt L xs z wa (GX S ga le sw ar (MC S th fr ah (AL lo :: rest))) (some (.int 0)) (GX Z ga2 le2 sw2 ar2 (MC S th fr ah (AL lo :: rest))) 0 0) (mm : Mt L xs zm ma (GX Z ga2 le2 sw2 ar2 (MC S th fr ah (AL lo :: rest))) none (GX Z ga2 le2 sw2 ar2 (MC Z 0 fr2 ah2 (AL lo :: rest))) 0 0) : Tn L xs true φ z zm wa ma (GX S ga le sw ar (MC S th fr ah (AL lo :: rest))) rest :=
  ⟨0, 0, _, _, 0, 0, _, _, lo, Z, rest, mw, rfl, mm, rfl, mm_thrown, rfl, fun q _ => absurd q (by decide), h, ⟨ga2, le2, sw2, ar2, 0, fr2, ah2, _, ha, hf, rfl⟩, Or.inl ⟨rfl, rfl⟩⟩
theorem inv_wt {S : GS} (v : Int32) (h : Inv S) : Inv (S.w, S.q, S.ed, S.ra, S.bk, (v), S.gp, S.gq, S.mv, S.cn, S.mc, S.mk, S.bi, S.tm, S.sd) := h
theorem op_mass {L : Nat} {xs : Nat → Int32} {S : GS} {H rest : ac_H} {x : Int32} {φ : Int32 → Int64} (h : Inv S) (hH : LHs S H rest) : Tn L xs true φ 121 86 [.ref 0, .int x] [.ref 15, .int x] H rest := by
  obtain ⟨ga, le, sw, ar, th, fr, ah, lo, ha, hf, rfl⟩ := hH
  by_cases hb : x < 1 ∨ ¬ x ≤ 10000
  · exact tn_no 1 0 (by decide) h ha hf (wx_mass1 rfl (mx_mass hb)) (mm_mass1 hb)
  · have b1 : ¬ x < 1 := fun z => hb (Or.inl z)
    have b2 : x ≤ 10000 := Decidable.not_not.mp (fun z => hb (Or.inr z))
    exact tn_void (Z := (S.w, S.q, S.ed, S.ra, S.bk, (x), S.gp, S.gq, S.mv, S.cn, S.mc, S.mk, S.bi, S.tm, S.sd)) (inv_wt x h) ha hf (wo_mass rfl (mt_mass b1 b2)) (mm_mass b1 b2)
