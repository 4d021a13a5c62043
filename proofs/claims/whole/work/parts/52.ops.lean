/-! ===== the law: each call of both ===== -/
abbrev MC (S : GS) (th : Int32) (fr ah : Nat → Int32) (rest : ac_H) : ac_H :=
  .inr (5, [.int th, .int (nI S.w), .int (nI S.q), .int S.tm, .int S.sd, .ref 16, .ref 17, .ref 18, .ref 19, .ref 20, .ref 21, .int S.wt, .ref 22, .int S.mv, .int (nI S.cn), .ref 23, .ref 24]) :: Ar 256 S.bi :: Ar 256 S.ed :: Ar 256 S.ra :: Ar 256 fr :: Az 256 ah :: Ar 12 S.bk :: Ar 2 (acA S.gp S.gq) :: Ar 4 S.mc :: Ar 4 S.mk :: rest
/-- both in the state S, and the answer's cell -/
def LHs (S : GS) (H : ac_H) (rest : ac_H) : Prop := ∃ ga le sw ar th fr ah lo, (∀ j, S.w * S.q ≤ j → ar j = 0) ∧ frOk S fr ∧ H = GX S ga le sw ar (MC S th fr ah (AL lo :: rest))
def Tn (L : Nat) (xs : Nat → Int32) (vd : Bool) (φ : Int32 → Int64) (z zm : Nat) (wa ma : List Value) (H0 rest : ac_H) : Prop := ∃ (κ v : Int32) (H1 H2 : ac_H) (c k : Nat) (f1 f2 : List Value) (lo : Nat → Int64) (Z : GS) (rest' : ac_H), Mt L xs z wa H0 (some (.int κ)) H1 c k ∧ H1[15]? = some (.inr (5, f1)) ∧ Mt L xs zm ma H1 (bif vd then none else some (.int v)) H2 0 0 ∧ H2[15]? = some (.inr (5, f2)) ∧ Mt L xs 67 [.ref 15] H2 (some (.int κ)) H2 0 0 ∧ H2[25]? = some (AL lo) ∧ (vd = false → κ = 0 → lo 0 = φ v) ∧ Inv Z ∧ LHs Z H2 rest' ∧ (c = 0 ∧ k = 0 ∨ c = 1 ∧ k = 6)
/-- both refuse -/
theorem tn_no {L : Nat} {xs : Nat → Int32} {vd : Bool} {φ : Int32 → Int64} {z zm : Nat} {wa ma : List Value} {S : GS} {ga le : Nat → Int32} {sw : Bool} {ar : Nat → Int32} {th : Int32} {fr ah : Nat → Int32} {lo : Nat → Int64} {rest : ac_H} (κ v : Int32) (hκ : ¬ κ = 0) (h : Inv S) (ha : ∀ j, S.w * S.q ≤ j → ar j = 0) (hf : frOk S fr) (mw : Mt L xs z wa (GX S ga le sw ar (MC S th fr ah (AL lo :: rest))) (some (.int κ)) (GX S ga le sw ar (MC S th fr ah (AL lo :: (rest ++ [ac_junk])))) 1 6) (mm : Mt L xs zm ma (GX S ga le sw ar (MC S th fr ah (AL lo :: (rest ++ [ac_junk])))) (bif vd then none else some (.int v)) (GX S ga le sw ar (MC S κ fr ah (AL lo :: (rest ++ [ac_junk])))) 0 0) : Tn L xs vd φ z zm wa ma (GX S ga le sw ar (MC S th fr ah (AL lo :: rest))) rest :=
  ⟨κ, v, _, _, 1, 6, _, _, lo, S, rest ++ [ac_junk], mw, rfl, mm, rfl, mm_thrown, rfl, fun _ q => absurd q hκ, h, ⟨ga, le, sw, ar, κ, fr, ah, lo, ha, hf, rfl⟩, Or.inr ⟨rfl, rfl⟩⟩
theorem goodXY {w q : Nat} {x y : Int32} (hw : sideOk w) (hq : sideOk q) (h : ¬ badXY w q x y) : ∃ a b, a < w ∧ b < q ∧ x = nI a ∧ y = nI b := by
  have h1 := hw.2.1
  have h2 := hq.2.1
  obtain ⟨a, ha, rfl⟩ := nI_of (x := x) (fun z => h (Or.inl z))
  obtain ⟨b, hb, rfl⟩ := nI_of (x := y) (fun z => h (Or.inr (Or.inr (Or.inl z))))
  refine ⟨a, b, ?_, ?_, rfl, rfl⟩
  · exact Nat.not_le.mp (fun z => h (Or.inr (Or.inl (nI_le z (by omega)))))
  · exact Nat.not_le.mp (fun z => h (Or.inr (Or.inr (Or.inr (nI_le z (by omega))))))
/-- both answer v and stay as they are -/
theorem tn_get0 {L : Nat} {xs : Nat → Int32} {φ : Int32 → Int64} {z zm : Nat} {wa ma : List Value} {S : GS} {ga le : Nat → Int32} {sw : Bool} {ar : Nat → Int32} {th : Int32} {fr ah : Nat → Int32} {lo : Nat → Int64} {rest : ac_H} (v : Int32) (h : Inv S) (ha : ∀ j, S.w * S.q ≤ j → ar j = 0) (hf : frOk S fr) (mw : Mt L xs z wa (GX S ga le sw ar (MC S th fr ah (AL lo :: rest))) (some (.int 0)) (GX S ga le sw ar (MC S th fr ah (AL (vp_updL lo 0 (φ v)) :: rest))) 0 0) (mm : Mt L xs zm ma (GX S ga le sw ar (MC S th fr ah (AL (vp_updL lo 0 (φ v)) :: rest))) (some (.int v)) (GX S ga le sw ar (MC S 0 fr ah (AL (vp_updL lo 0 (φ v)) :: rest))) 0 0) : Tn L xs false φ z zm wa ma (GX S ga le sw ar (MC S th fr ah (AL lo :: rest))) rest :=
  ⟨0, v, _, _, 0, 0, _, _, vp_updL lo 0 (φ v), S, rest, mw, rfl, mm, rfl, mm_thrown, rfl, fun _ _ => if_pos rfl, h, ⟨ga, le, sw, ar, 0, fr, ah, _, ha, hf, rfl⟩, Or.inl ⟨rfl, rfl⟩⟩
theorem op_get {L : Nat} {xs : Nat → Int32} {S : GS} {H rest : ac_H} {x y : Int32} (h : Inv S) (hH : LHs S H rest) : Tn L xs false Int32.toInt64 114 77 [.ref 0, .int x, .int y, .ref 25] [.ref 15, .int x, .int y] H rest := by
  obtain ⟨ga, le, sw, ar, th, fr, ah, lo, ha, hf, rfl⟩ := hH
  by_cases hb : badXY S.w S.q x y
  · exact tn_no 1 0 (by decide) h ha hf (wx_get1 rfl (mx_get hb)) (mm_get1 hb)
  · obtain ⟨a, b, h1, h2, rfl, rfl⟩ := goodXY h.hw h.hq hb
    exact tn_get0 (S.bi (b * S.w + a)) h ha hf (wo_get rfl (mt_get h.hw h.hq h1 h2) rfl rfl) (mm_get h.hw h.hq h1 h2)
theorem op_edge {L : Nat} {xs : Nat → Int32} {S : GS} {H rest : ac_H} {x y : Int32} (h : Inv S) (hH : LHs S H rest) : Tn L xs false Int32.toInt64 120 85 [.ref 0, .int x, .int y, .ref 25] [.ref 15, .int x, .int y] H rest := by
  obtain ⟨ga, le, sw, ar, th, fr, ah, lo, ha, hf, rfl⟩ := hH
  by_cases hb : badXY S.w S.q x y
  · exact tn_no 1 0 (by decide) h ha hf (wx_edge1 rfl (mx_edge hb)) (mm_edge1 hb)
  · obtain ⟨a, b, h1, h2, rfl, rfl⟩ := goodXY h.hw h.hq hb
    exact tn_get0 (S.ed (b * S.w + a)) h ha hf (wo_edge rfl (mt_edge h.hw h.hq h1 h2) rfl rfl) (mm_edge h.hw h.hq h1 h2)
