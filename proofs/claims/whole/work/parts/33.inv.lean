/-! ===== what holds at all times goes on holding ===== -/
theorem tu_or (a l : Nat) (κ : Nat) (hκ : κ < 7) : ∀ n k, k + n = 7 → ∃ k', k' < 7 ∧ tuF a l (nI κ) n k = nI k' := by
  intro n
  induction n with
  | zero => intro k _; exact ⟨κ, hκ, rfl⟩
  | succ n ih =>
    intro k hk
    rw [tuF]
    split
    · exact ⟨k, by omega, rfl⟩
    · exact ih (k + 1) (by omega)
theorem mt_or {b a κ : Nat} (hκ : κ < 7) : ∃ k', k' < 7 ∧ mtF b a κ = nI k' := by
  unfold mtF
  split
  · exact ⟨κ, hκ, rfl⟩
  · exact tu_or a _ κ hκ 7 0 rfl
theorem mt_live : ∀ b, b < 128 → ∀ s, s < 2 → ∀ κ, κ < 7 → (b.testBit κ = true → (tdN b s).testBit (mtF b (tdN b s) κ).toNatClampNeg = true ∧ ntI (tdN b s) (cnN (b % 2 ^ κ)) = mtF b (tdN b s) κ ∨ b = tdN b s) := by decide +kernel
theorem mb_or {w : Nat} {ed bi : Nat → Int32} {tm : Int32} {ow c β : Nat} (hb : bi c = nI β) (hβ : β < 128) : mbF w ed bi tm ow c = nI β ∨ ∃ s, s < 2 ∧ mbF w ed bi tm ow c = nI (tdN β s) := by
  unfold mbF
  split
  · exact Or.inl hb
  · rw [hb, nI_clamp (by omega)]
    exact Or.inr ⟨_, (sg_spec _).2, rfl⟩
theorem inv_me {S : GS} (ow : Nat) (h : Inv S) : Inv (meS ow S) := by
  have hn := h.n
  refine ⟨h.hw, h.hq, fun i hi => ?_, fun j hj => ?_, h.ed, h.cn, fun j hj => ⟨(h.mk j hj).1, ?_⟩, fun j hj hm => ?_⟩
  · replace hi : i < S.w * S.q := hi
    obtain ⟨α, hα, e⟩ := mb_ok (w := S.w) (ed := S.ed) (tm := S.tm) (ow := ow) h.bt hi
    refine ⟨α, hα, ?_⟩
    show pre _ _ _ _ = _
    rw [pre, if_pos hi, e]
  · replace hj : S.w * S.q ≤ j := hj
    show pre _ _ _ _ = _
    rw [pre, if_neg (Nat.not_lt.mpr hj)]
    exact h.b0 j hj
  · replace hj : j < S.cn := hj
    obtain ⟨κ, hκ, hk⟩ := (h.mk j hj).2
    show ∃ k, k < 7 ∧ pre S.cn _ _ j = nI k
    rw [pre, if_pos hj]
    unfold mmF
    split
    · exact ⟨κ, hκ, hk⟩
    · rw [hk, nI_clamp (n := κ) (by omega)]
      exact mt_or hκ
  · replace hj : j < S.cn := hj
    obtain ⟨κ, hκ, hk⟩ := (h.mk j hj).2
    have hm2 : S.mc j ≠ -1 := hm
    obtain ⟨c, hc, ec⟩ := (h.mk j hj).1.resolve_left hm2
    obtain ⟨β, hβ, hb⟩ := h.bt c hc
    have hl := h.lv j hj hm2
    show (pre (S.w * S.q) _ _ (S.mc j).toNatClampNeg).toNatClampNeg.testBit (pre S.cn _ _ j).toNatClampNeg = true
    rw [pre, pre, if_pos hj]
    unfold mmF
    rw [if_neg hm2]
    rw [ec, nI_clamp (by omega), hk, hb, nI_clamp (by omega), nI_clamp (by omega)] at hl
    rw [ec, nI_clamp (by omega), if_pos hc, hk, hb, nI_clamp (n := β) (by omega), nI_clamp (n := κ) (by omega)]
    rcases mb_or (w := S.w) (ed := S.ed) (tm := S.tm) (ow := ow) hb hβ with e | ⟨s, hs, e⟩
    · rw [e, nI_clamp (by omega)]
      unfold mtF
      rw [if_pos rfl, nI_clamp (by omega)]
      exact hl
    · rw [e, nI_clamp (by have := (td_back β hβ s hs).2; omega)]
      rcases mt_live β hβ s hs κ hκ hl with ⟨g, -⟩ | g
      · exact g
      · rw [← g]
        unfold mtF
        rw [if_pos rfl, nI_clamp (by omega)]
        exact hl
theorem fy_eq {w q t : Nat} {mc mk : Nat → Int32} {j c κ : Nat} (hw : sideOk w) (hq : sideOk q) (hc : c < w * q) (hκ : κ < 7) (ec : mc j = nI c) (hk : mk j = nI κ) : fyF (nbT w q) t mc mk j = nI (dsN w q t c κ) := by
  have hn := side_n hw hq
  unfold fyF dsN
  rw [ec, hk, if_neg (nI_m1 (by omega))]
  by_cases h6 : κ < 6
  · rw [if_neg (show ¬ (6 : Int32) ≤ nI κ from nI_ge (a := κ) (b := 6) h6 (by decide)), if_pos h6, nI_clamp (by omega), nI_clamp (by omega)]
    have e := nbN_spec (nbT_ok hw hq) hn.1 hc (κ + t)
    rw [e.1, nbN_T hw hq hc]
  · rw [if_pos (show (6 : Int32) ≤ nI κ from nI_le (a := 6) (b := κ) (by omega) (by omega)), if_neg h6]
theorem inv_fl {S : GS} (t : Nat) (h : Inv S) : Inv (flS t S) := by
  have hn := h.n
  have eb : (flS t S).bi = scF S.w S.q t S.bi (fun _ _ => true) := flS_bi h.hw h.hq h.bt
  refine ⟨h.hw, h.hq, fun i hi => ?_, fun j hj => ?_, h.ed, h.cn, fun j hj => ⟨?_, (h.mk j hj).2⟩, fun j hj hm => ?_⟩
  · rw [eb]
    unfold scF
    rw [if_pos (show i < S.w * S.q from hi)]
    exact ⟨_, gtN_lt _, rfl⟩
  · rw [eb]
    unfold scF
    exact if_neg (Nat.not_lt.mpr (show S.w * S.q ≤ j from hj))
  · replace hj : j < S.cn := hj
    obtain ⟨κ, hκ, hk⟩ := (h.mk j hj).2
    show pre S.cn _ _ j = -1 ∨ ∃ c, c < S.w * S.q ∧ pre S.cn _ _ j = nI c
    rw [pre, if_pos hj]
    rcases (h.mk j hj).1 with e | ⟨c, hc, e⟩
    · left
      unfold fyF
      rw [if_pos e, e]
    · right
      rw [fy_eq h.hw h.hq hc hκ e hk]
      exact ⟨_, ds_lt h.hw h.hq hc, rfl⟩
  · replace hj : j < S.cn := hj
    obtain ⟨κ, hκ, hk⟩ := (h.mk j hj).2
    have ej : (flS t S).mc j = fyF (nbT S.w S.q) t S.mc S.mk j := by
      show pre S.cn _ _ j = _
      rw [pre, if_pos hj]
    have hm2 : S.mc j ≠ -1 := fun e => hm (by
      rw [ej]
      unfold fyF
      rw [if_pos e, e])
    obtain ⟨c, hc, ec⟩ := (h.mk j hj).1.resolve_left hm2
    have hl := h.lv j hj hm2
    have hd := ds_lt (t := t) (k := κ) h.hw h.hq hc
    rw [ej, fy_eq h.hw h.hq hc hκ ec hk, eb, nI_clamp (by omega)]
    show ((scF S.w S.q t S.bi (fun _ _ => true)) (dsN S.w S.q t c κ)).toNatClampNeg.testBit (S.mk j).toNatClampNeg = true
    unfold scF
    rw [if_pos hd, nI_clamp (Nat.lt_trans (gtN_lt _) (by decide)), gtN_bit, hk, nI_clamp (by omega), sr_ds h.hw h.hq hc, decide_eq_true hκ]
    rw [ec, nI_clamp (by omega), hk, nI_clamp (by omega)] at hl
    exact hl
/-! the edges -/
theorem eg_lo (ed ra : Nat → Int32) : ∀ (n c : Nat) (X : E5) (j : Nat), (j < c ∨ c + n ≤ j) → (egF ed ra n c X).1 j = X.1 j := by
  intro n
  induction n with
  | zero => intro c X j _; rfl
  | succ n ih =>
    intro c X j hj
    rw [egF, ih (c + 1) _ j (by omega)]
    unfold egC
    split
    · rfl
    · show upd _ _ _ j = _
      rw [upd, if_neg (by omega)]
theorem eg_at (ed ra : Nat → Int32) : ∀ (n c : Nat) (X : E5) (j : Nat), c ≤ j → j < c + n → ∃ sd, (egF ed ra n c X).1 j = if ed j = 0 then X.1 j else nI (alN (ed j).toNatClampNeg (ra j) (X.1 j).toNatClampNeg sd) := by
  intro n
  induction n with
  | zero => intro c X j h1 h2; omega
  | succ n ih =>
    intro c X j h1 h2
    rw [egF]
    by_cases hj : j = c
    · subst hj
      refine ⟨X.2.2.2.2, ?_⟩
      rw [eg_lo _ _ _ _ _ _ (Or.inl (Nat.lt_succ_self j))]
      unfold egC
      by_cases z : ed j = 0
      · rw [if_pos z, if_pos z]
      · rw [if_neg z, if_neg z]
        show upd _ _ _ j = _
        rw [upd, if_pos rfl]
    · obtain ⟨sd, e⟩ := ih (c + 1) (egC ed ra c X) j (by omega) (by omega)
      refine ⟨sd, ?_⟩
      rw [e]
      have : (egC ed ra c X).1 j = X.1 j := by
        unfold egC
        split
        · rfl
        · show upd _ _ _ j = _
          rw [upd, if_neg hj]
      rw [this]
theorem fd_mono (v : Int32) (i : Nat) : ∀ (n k b : Nat) (s : Int32), b.testBit i = true → (fdN v n k b s).testBit i = true := by
  intro n
  induction n with
  | zero => intro k b s h; exact h
  | succ n ih =>
    intro k b s h
    rw [fdN_s]
    refine ih _ _ _ ?_
    unfold fd1
    split
    · exact h
    · rw [Nat.testBit_or, h]; rfl
theorem rt_bit : ∀ b, b < 128 → ∀ k, k < 7 → (rtN b 3).testBit (if k < 6 then (k + 3) % 6 else k) = b.testBit k := by decide +kernel
theorem pek_eq {n : Nat} {ed mc mk : Nat → Int32} {j c κ s : Nat} (hn : n ≤ 256) (hc : c < n) (hκ : κ < 7) (hs : s < 5) (ec : mc j = nI c) (hk : mk j = nI κ) (he : ed c = nI s) : peK ed mc mk j = nI (if (s = 1 ∨ s = 4) ∧ κ < 6 then (κ + 3) % 6 else κ) := by
  unfold peK
  rw [ec, if_neg (nI_m1 (by omega)), nI_clamp (by omega), he, hk, nI_clamp (by omega)]
  have e1 : nI s = 1 ↔ s = 1 := nI_eq (b := 1) (by omega) (by decide)
  have e4 : nI s = 4 ↔ s = 4 := nI_eq (b := 4) (by omega) (by decide)
  have e6 : 6 ≤ nI κ ↔ 6 ≤ κ := nI_leI (a := 6) (by decide) (by omega)
  by_cases h : (s = 1 ∨ s = 4) ∧ κ < 6
  · rw [if_pos h, if_pos ⟨h.1.imp e1.mpr e4.mpr, fun g => by have := e6.mp g; omega⟩]
  · rw [if_neg h, if_neg (fun g => h ⟨g.1.imp e1.mp e4.mp, by have := mt e6.mpr g.2; omega⟩)]
theorem inv_eg {S : GS} (h : Inv S) : Inv (egS S) := by
  have hn := h.n
  refine ⟨h.hw, h.hq, egF_ok _ _ _ h.bt, fun j hj => ?_, h.ed, h.cn, fun j hj => ⟨?_, ?_⟩, fun j hj hm => ?_⟩
  · show (egF _ _ _ _ _).1 j = 0
    rw [eg_lo _ _ _ _ _ _ (Or.inr (by rw [Nat.zero_add]; exact hj))]
    exact h.b0 j hj
  · replace hj : j < S.cn := hj
    show pre S.cn _ _ j = -1 ∨ ∃ c, c < S.w * S.q ∧ pre S.cn _ _ j = nI c
    rw [pre, if_pos hj]
    unfold peC
    split
    · exact (h.mk j hj).1
    · split
      · exact Or.inl rfl
      · exact (h.mk j hj).1
  · replace hj : j < S.cn := hj
    obtain ⟨κ, hκ, hk⟩ := (h.mk j hj).2
    show ∃ k, k < 7 ∧ pre S.cn _ _ j = nI k
    rw [pre, if_pos hj]
    rcases (h.mk j hj).1 with e | ⟨c, hc, e⟩
    · unfold peK
      rw [if_pos e]
      exact ⟨κ, hκ, hk⟩
    · obtain ⟨s, hs, he⟩ := h.ed c hc
      rw [pek_eq hn.1 hc hκ hs e hk he]
      refine ⟨_, ?_, rfl⟩
      split
      · omega
      · exact hκ
  · replace hj : j < S.cn := hj
    obtain ⟨κ, hκ, hk⟩ := (h.mk j hj).2
    have ej : (egS S).mc j = peC S.ed S.mc j := by
      show pre S.cn _ _ j = _
      rw [pre, if_pos hj]
    have hm2 : S.mc j ≠ -1 := fun e => hm (by
      rw [ej]
      unfold peC
      rw [if_pos e, e])
    obtain ⟨c, hc, ec⟩ := (h.mk j hj).1.resolve_left hm2
    obtain ⟨s, hs, he⟩ := h.ed c hc
    obtain ⟨β, hβ, hb⟩ := h.bt c hc
    have hl := h.lv j hj hm2
    rw [ec, nI_clamp (by omega), hk, nI_clamp (by omega), hb, nI_clamp (by omega)] at hl
    have hs3 : ¬ nI s = 3 := fun e => hm (by
      rw [ej]
      unfold peC
      rw [if_neg hm2, ec, nI_clamp (by omega), he, if_pos e])
    have ej2 : (egS S).mc j = nI c := by
      rw [ej]
      unfold peC
      rw [if_neg hm2, ec, nI_clamp (by omega), he, if_neg hs3]
    have hs4 : s ≠ 3 := fun e => hs3 (by rw [e]; rfl)
    have ek : (egS S).mk j = nI (if (s = 1 ∨ s = 4) ∧ κ < 6 then (κ + 3) % 6 else κ) := by
      show pre S.cn _ _ j = _
      rw [pre, if_pos hj]
      exact pek_eq hn.1 hc hκ hs ec hk he
    obtain ⟨sd, eb⟩ := eg_at S.ed S.ra (S.w * S.q) 0 (S.bi, S.bk, S.gp, S.gq, S.sd) c (Nat.zero_le _) (by omega)
    have eb2 : (egS S).bi c = if S.ed c = 0 then S.bi c else nI (alN (S.ed c).toNatClampNeg (S.ra c) (S.bi c).toNatClampNeg sd) := eb
    have hk7 : (if (s = 1 ∨ s = 4) ∧ κ < 6 then (κ + 3) % 6 else κ) < 7 := by split <;> omega
    rw [ej2, nI_clamp (by omega), eb2, ek, nI_clamp (by omega), he, hb, nI_clamp (n := s) (by omega), nI_clamp (n := β) (by omega)]
    by_cases z : s = 0
    · subst z
      rw [if_pos (show nI 0 = 0 from rfl), nI_clamp (by omega), if_neg (by omega)]
      exact hl
    · rw [if_neg (nI_ne0 (by omega) (by omega)), nI_clamp (by have := al_lt (s := s) (v := S.ra c) (sd := sd) hβ; omega)]
      unfold alN
      rw [if_neg hs4]
      by_cases z2 : s = 2
      · rw [if_pos z2, if_neg (by omega)]
        exact fd_mono _ _ _ _ _ _ hl
      · rw [if_neg z2]
        have e := rt_bit β hβ κ hκ
        rw [hl] at e
        rw [show (if (s = 1 ∨ s = 4) ∧ κ < 6 then (κ + 3) % 6 else κ) = (if κ < 6 then (κ + 3) % 6 else κ) by
          by_cases h6 : κ < 6
          · rw [if_pos ⟨by omega, h6⟩, if_pos h6]
          · rw [if_neg (fun g => h6 g.2), if_neg h6]]
        exact e
