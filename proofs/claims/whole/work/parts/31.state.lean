/-! ===== the state of a gas ===== -/
abbrev GS : Type := Nat × Nat × (Nat → Int32) × (Nat → Int32) × (Nat → Int32) × Int32 × Int32 × Int32 × Int32 × Nat × (Nat → Int32) × (Nat → Int32) × (Nat → Int32) × Int32 × Int32
abbrev GS.w (S : GS) : Nat := S.1
abbrev GS.q (S : GS) : Nat := S.2.1
abbrev GS.ed (S : GS) : Nat → Int32 := S.2.2.1
abbrev GS.ra (S : GS) : Nat → Int32 := S.2.2.2.1
abbrev GS.bk (S : GS) : Nat → Int32 := S.2.2.2.2.1
abbrev GS.wt (S : GS) : Int32 := S.2.2.2.2.2.1
abbrev GS.gp (S : GS) : Int32 := S.2.2.2.2.2.2.1
abbrev GS.gq (S : GS) : Int32 := S.2.2.2.2.2.2.2.1
abbrev GS.mv (S : GS) : Int32 := S.2.2.2.2.2.2.2.2.1
abbrev GS.cn (S : GS) : Nat := S.2.2.2.2.2.2.2.2.2.1
abbrev GS.mc (S : GS) : Nat → Int32 := S.2.2.2.2.2.2.2.2.2.2.1
abbrev GS.mk (S : GS) : Nat → Int32 := S.2.2.2.2.2.2.2.2.2.2.2.1
abbrev GS.bi (S : GS) : Nat → Int32 := S.2.2.2.2.2.2.2.2.2.2.2.2.1
abbrev GS.tm (S : GS) : Int32 := S.2.2.2.2.2.2.2.2.2.2.2.2.2.1
abbrev GS.sd (S : GS) : Int32 := S.2.2.2.2.2.2.2.2.2.2.2.2.2.2
def colN (w x p d : Nat) : Nat := if d = 0 then (x + 1) % w else if d = 3 then (x + w - 1) % w else if d = 1 ∨ d = 5 then (x + p) % w else (x + p + w - 1) % w
def rowN (q y d : Nat) : Nat := if d = 0 ∨ d = 3 then y else if d < 3 then (y + q - 1) % q else (y + 1) % q
def nbC (w q c d : Nat) : Nat := rowN q (c / w) (d % 6) * w + colN w (c % w) (c / w % 2) (d % 6)
def nbT (w q : Nat) : Nat → Int32 := pre (w * q * 6) (fun j => nI (nbC w q (j / 6) (j % 6))) (fun _ => 0)
def colOk (w x p d : Nat) : Bool := decide (4 ≤ w ∧ x < w → colN w (colN w x p d) (if d = 0 ∨ d = 3 then p else 1 - p) ((d + 3) % 6) = x ∧ colN w x p d < w)
def rowOk (q y d : Nat) : Bool := decide (4 ≤ q ∧ q % 2 = 0 ∧ y < q → rowN q (rowN q y d) ((d + 3) % 6) = y ∧ rowN q y d < q ∧ rowN q y d % 2 = (if d = 0 ∨ d = 3 then y % 2 else 1 - y % 2))
theorem col_all : ∀ w, w < 17 → ∀ x, x < 17 → ∀ p, p < 2 → ∀ d, d < 6 → colOk w x p d = true := by decide +kernel
theorem row_all : ∀ q, q < 17 → ∀ y, y < 17 → ∀ d, d < 6 → rowOk q y d = true := by decide +kernel
theorem col_back (w : Nat) (h1 : w < 17) (h2 : 4 ≤ w) (x : Nat) (hx : x < w) (p : Nat) (hp : p < 2) (d : Nat) (hd : d < 6) : colN w (colN w x p d) (if d = 0 ∨ d = 3 then p else 1 - p) ((d + 3) % 6) = x ∧ colN w x p d < w := of_decide_eq_true (col_all w h1 x (by omega) p hp d hd) ⟨h2, hx⟩
theorem row_back (q : Nat) (h1 : q < 17) (h2 : 4 ≤ q) (h3 : q % 2 = 0) (y : Nat) (hy : y < q) (d : Nat) (hd : d < 6) : rowN q (rowN q y d) ((d + 3) % 6) = y ∧ rowN q y d < q ∧ rowN q y d % 2 = (if d = 0 ∨ d = 3 then y % 2 else 1 - y % 2) := of_decide_eq_true (row_all q h1 y (by omega) d hd) ⟨h2, h3, hy⟩
theorem cell_xy {w q c : Nat} (hc : c < w * q) : 0 < w ∧ c % w < w ∧ c / w < q := by
  have hw : 0 < w := Nat.pos_of_ne_zero (fun h => by subst h; omega)
  exact ⟨hw, Nat.mod_lt _ hw, (Nat.div_lt_iff_lt_mul hw).mpr (by rw [Nat.mul_comm]; exact hc)⟩
theorem nbC_lt {w q c : Nat} (hw : sideOk w) (hq : sideOk q) (hc : c < w * q) (d : Nat) : nbC w q c d < w * q := by
  obtain ⟨h0, h1, h2⟩ := cell_xy hc
  have hd := Nat.mod_lt d (show 6 > 0 by decide)
  exact cell_lt (col_back w (by have := hw.2.1; omega) hw.1 _ h1 _ (Nat.mod_lt _ (by decide)) _ hd).2 (row_back q (by have := hq.2.1; omega) hq.1 hq.2.2 _ h2 _ hd).2.1
theorem nbC_back {w q c : Nat} (hw : sideOk w) (hq : sideOk q) (hc : c < w * q) (d : Nat) : nbC w q (nbC w q c d) (d + 3) = c := by
  obtain ⟨h0, h1, h2⟩ := cell_xy hc
  have hd := Nat.mod_lt d (show 6 > 0 by decide)
  obtain ⟨a1, a2⟩ := col_back w (by have := hw.2.1; omega) hw.1 _ h1 _ (Nat.mod_lt (c / w) (show 2 > 0 by decide)) _ hd
  obtain ⟨b1, b2, b3⟩ := row_back q (by have := hq.2.1; omega) hq.1 hq.2.2 _ h2 _ hd
  have e1 : nbC w q c d / w = rowN q (c / w) (d % 6) := by
    unfold nbC
    rw [Nat.add_comm, Nat.add_mul_div_right _ _ h0, Nat.div_eq_of_lt a2, Nat.zero_add]
  have e2 : nbC w q c d % w = colN w (c % w) (c / w % 2) (d % 6) := by
    unfold nbC
    rw [Nat.add_comm, Nat.add_mul_mod_self_right, Nat.mod_eq_of_lt a2]
  have e3 : (d + 3) % 6 = (d % 6 + 3) % 6 := by omega
  show rowN q (nbC w q c d / w) ((d + 3) % 6) * w + colN w (nbC w q c d % w) (nbC w q c d / w % 2) ((d + 3) % 6) = c
  rw [e1, e2, b3, e3, b1, a1, Nat.mul_comm]
  exact Nat.div_add_mod c w
theorem nbC_mod (w q c d : Nat) : nbC w q c (d % 6) = nbC w q c d := by
  unfold nbC
  rw [Nat.mod_mod]
theorem nbC_6 (w q c d : Nat) : nbC w q c (d + 6) = nbC w q c d := by
  rw [← nbC_mod, show (d + 6) % 6 = d % 6 by omega, nbC_mod]
theorem nbC_back2 {w q c : Nat} (hw : sideOk w) (hq : sideOk q) (hc : c < w * q) (d : Nat) : nbC w q (nbC w q c (d + 3)) d = c := by
  have h := nbC_back hw hq hc (d + 3)
  rwa [show d + 3 + 3 = d + 6 by omega, nbC_6] at h
theorem nbT_ok {w q : Nat} (hw : sideOk w) (hq : sideOk q) : nbOk (w * q) (nbT w q) := fun j hj => ⟨_, nbC_lt hw hq (c := j / 6) (by omega) (j % 6), if_pos hj⟩
theorem nbN_T {w q c : Nat} (hw : sideOk w) (hq : sideOk q) (hc : c < w * q) (d : Nat) : nbN (nbT w q) c d = nbC w q c d := by
  have hn := side_n hw hq
  have hl := nbC_lt hw hq hc d
  have hd := Nat.mod_lt d (show 6 > 0 by decide)
  unfold nbN nbT pre
  rw [if_pos (show c * 6 + d % 6 < w * q * 6 by omega)]
  dsimp only
  rw [show (c * 6 + d % 6) / 6 = c by omega, show (c * 6 + d % 6) % 6 = d % 6 by omega, nbC_mod, nI_clamp (by omega)]
/-- what holds of a gas at all times -/
def Inv (S : GS) : Prop := (sideOk S.w) ∧ (sideOk S.q) ∧ (btOk (S.w * S.q) S.bi) ∧ (∀ j, S.w * S.q ≤ j → S.bi j = 0) ∧ (edOk (S.w * S.q) S.ed) ∧ (S.cn ≤ 4) ∧ (mkOk (S.w * S.q) S.cn S.mc S.mk) ∧ (∀ j, j < S.cn → S.mc j ≠ -1 → (S.bi (S.mc j).toNatClampNeg).toNatClampNeg.testBit (S.mk j).toNatClampNeg = true)
theorem Inv.hw {S : GS} (h : Inv S) : sideOk S.w := h.1
theorem Inv.hq {S : GS} (h : Inv S) : sideOk S.q := h.2.1
theorem Inv.bt {S : GS} (h : Inv S) : btOk (S.w * S.q) S.bi := h.2.2.1
theorem Inv.b0 {S : GS} (h : Inv S) : ∀ j, S.w * S.q ≤ j → S.bi j = 0 := h.2.2.2.1
theorem Inv.ed {S : GS} (h : Inv S) : edOk (S.w * S.q) S.ed := h.2.2.2.2.1
theorem Inv.cn {S : GS} (h : Inv S) : S.cn ≤ 4 := h.2.2.2.2.2.1
theorem Inv.mk {S : GS} (h : Inv S) : mkOk (S.w * S.q) S.cn S.mc S.mk := h.2.2.2.2.2.2.1
theorem Inv.lv {S : GS} (h : Inv S) : ∀ j, j < S.cn → S.mc j ≠ -1 → (S.bi (S.mc j).toNatClampNeg).toNatClampNeg.testBit (S.mk j).toNatClampNeg = true := h.2.2.2.2.2.2.2
theorem Inv.n {S : GS} (h : Inv S) : S.w * S.q ≤ 256 ∧ 16 ≤ S.w * S.q := side_n h.hw h.hq
abbrev GX (S : GS) (ga le : Nat → Int32) (sw : Bool) (ar : Nat → Int32) (rest : ac_H) : ac_H := GH S.w S.q (nbT S.w S.q) S.ed S.ra S.bk S.wt S.gp S.gq S.mv S.cn S.mc S.mk ga le sw S.bi ar S.tm S.sd rest
/-- the class's cells of a state -/
def Hd (S : GS) (H : ac_H) (rest : ac_H) : Prop := ∃ ga le sw ar, (∀ j, S.w * S.q ≤ j → ar j = 0) ∧ H = GX S ga le sw ar rest
def meS (ow : Nat) (S : GS) : GS := (S.w, S.q, S.ed, S.ra, S.bk, S.wt, S.gp, S.gq, S.mv, S.cn, S.mc, (pre S.cn (mmF S.mc S.mk S.bi (mbF S.w S.ed S.bi S.tm ow)) S.mk), (pre (S.w * S.q) (mbF S.w S.ed S.bi S.tm ow) S.bi), S.tm, S.sd)
def flS (t : Nat) (S : GS) : GS := (S.w, S.q, S.ed, S.ra, S.bk, S.wt, S.gp, S.gq, S.mv, S.cn, (pre S.cn (fyF (nbT S.w S.q) t S.mc S.mk) S.mc), S.mk, (flF (nbT S.w S.q) S.bi t (S.w * S.q) 0 (fun _ => 0)), S.tm, S.sd)
def egX (S : GS) : E5 := egF S.ed S.ra (S.w * S.q) 0 (S.bi, S.bk, S.gp, S.gq, S.sd)
def egS (S : GS) : GS := (S.w, S.q, S.ed, S.ra, ((egX S).2.1), S.wt, ((egX S).2.2.1), ((egX S).2.2.2.1), S.mv, S.cn, (pre S.cn (peC S.ed S.mc) S.mc), (pre S.cn (peK S.ed S.mc S.mk) S.mk), ((egX S).1), S.tm, ((egX S).2.2.2.2))
def hdI (S : GS) : Int32 := hdF S.wt S.gp S.gq 6 0
def mvX (S : GS) (d : Nat) : X3 := sxF S.cn (fl (gaP S.ed (nbT S.w S.q) d) (S.w * S.q)) (fl (leP S.ed (nbT S.w S.q) d) (S.w * S.q)) (S.ed, S.bi, S.mc)
def mv1 (S : GS) (d : Nat) : GS := (S.w, S.q, ((mvX S d).1), S.ra, S.bk, S.wt, (S.gp - S.wt * ac_tab 0 d), (S.gq - S.wt * ac_tab 1 d), (S.mv + 1), S.cn, ((mvX S d).2.2), S.mk, ((mvX S d).2.1), S.tm, S.sd)
def mvS (S : GS) : GS := if hdI S = -1 then S else if cmF S.ed (nbT S.w S.q) (hdI S).toNatClampNeg (S.w * S.q) 0 0 = 0 then S else mv1 S (hdI S).toNatClampNeg
def tmT (y : Int32) (S : GS) : GS := (S.w, S.q, S.ed, S.ra, S.bk, S.wt, S.gp, S.gq, S.mv, S.cn, S.mc, S.mk, S.bi, (y), S.sd)
def tmS (x : Int32) (S : GS) : GS := tmT (S.tm + x) S
theorem hd_or (wt gp gq : Int32) : ∀ n d, d + n = 6 → hdF wt gp gq n d = -1 ∨ ∃ e, e < 6 ∧ hdF wt gp gq n d = nI e := by
  intro n
  induction n with
  | zero => intro d _; exact Or.inl rfl
  | succ n ih =>
    intro d hd
    rw [hdF]
    split
    · exact ih (d + 1) (by omega)
    · exact Or.inr ⟨d, by omega, rfl⟩
/-! as many cells are come into as are left -/
def sumN (f : Nat → Nat) : Nat → Nat
  | 0 => 0
  | n + 1 => sumN f n + f n
theorem sumN_congr {f g : Nat → Nat} : ∀ n, (∀ i, i < n → f i = g i) → sumN f n = sumN g n := by
  intro n
  induction n with
  | zero => intro _; rfl
  | succ n ih => intro h; rw [sumN, sumN, ih (fun i hi => h i (by omega)), h n (by omega)]
theorem sumN_add (f g : Nat → Nat) : ∀ n, sumN (fun i => f i + g i) n = sumN f n + sumN g n := by
  intro n
  induction n with
  | zero => rfl
  | succ n ih => rw [sumN, sumN, sumN, ih]; omega
theorem sumN_0 : ∀ n, sumN (fun _ => 0) n = 0 := by
  intro n
  induction n with
  | zero => rfl
  | succ n ih => rw [sumN, ih]
theorem sumN_comm (f : Nat → Nat → Nat) (m : Nat) : ∀ n, sumN (fun i => sumN (fun j => f i j) m) n = sumN (fun j => sumN (fun i => f i j) n) m := by
  intro n
  induction n with
  | zero => exact (sumN_0 m).symm
  | succ n ih => rw [sumN, ih, ← sumN_add]; rfl
theorem sumN_one (a : Nat) (v : Nat → Nat) : ∀ n, sumN (fun i => if i = a then v i else 0) n = if a < n then v a else 0 := by
  intro n
  induction n with
  | zero => simp [sumN]
  | succ n ih =>
    rw [sumN, ih]
    by_cases h : a < n
    · rw [if_pos h, if_pos (show a < n + 1 by omega), if_neg (show ¬ n = a by omega)]; rfl
    · by_cases h2 : n = a
      · rw [if_neg h, if_pos h2, if_pos (show a < n + 1 by omega), h2]; omega
      · rw [if_neg h, if_neg h2, if_neg (show ¬ a < n + 1 by omega)]
theorem sumN_perm {n : Nat} {s t : Nat → Nat} (v : Nat → Nat) (hs : ∀ i, i < n → s i < n) (ht : ∀ i, i < n → t i < n) (h1 : ∀ i, i < n → t (s i) = i) (h2 : ∀ i, i < n → s (t i) = i) : sumN (fun i => v (s i)) n = sumN v n := by
  have e1 : sumN (fun i => v (s i)) n = sumN (fun i => sumN (fun j => if j = s i then v j else 0) n) n := sumN_congr n (fun i hi => by rw [sumN_one, if_pos (hs i hi)])
  rw [e1, sumN_comm]
  refine sumN_congr n (fun j hj => ?_)
  have e2 : sumN (fun i => if j = s i then v j else 0) n = sumN (fun i => if i = t j then v j else 0) n := sumN_congr n (fun i hi => by
    by_cases h : j = s i
    · rw [if_pos h, if_pos (by rw [h, h1 i hi])]
    · rw [if_neg h, if_neg (fun h3 => h (by rw [h3, h2 j hj]))])
  rw [e2, sumN_one (t j) (fun _ => v j), if_pos (ht j hj)]
theorem fl_sum (p : Nat → Bool) : ∀ n, (fl p n).length = sumN (fun i => (p i).toNat) n := by
  intro n
  induction n with
  | zero => rfl
  | succ n ih =>
    rw [fl_s, sumN, ← ih]
    cases h : p n <;> simp
theorem lg_len {w q d : Nat} {ed : Nat → Int32} (hw : sideOk w) (hq : sideOk q) : (fl (leP ed (nbT w q) d) (w * q)).length = (fl (gaP ed (nbT w q) d) (w * q)).length := by
  have h0 := sumN_perm (n := w * q) (s := fun c => nbC w q c (d + 3)) (t := fun c => nbC w q c d) (fun c => (decide (ed c = 4)).toNat) (fun c hc => nbC_lt hw hq hc _) (fun c hc => nbC_lt hw hq hc _) (fun c hc => nbC_back2 hw hq hc d) (fun c hc => nbC_back hw hq hc d)
  have h1 : sumN (fun c => (leP ed (nbT w q) d c).toNat + (decide (ed (nbC w q c (d + 3)) = 4)).toNat) (w * q) = sumN (fun c => (gaP ed (nbT w q) d c).toNat + (decide (ed c = 4)).toNat) (w * q) := sumN_congr _ (fun c hc => by
    unfold leP gaP
    rw [nbN_T hw hq hc]
    cases decide (ed c = 4) <;> cases decide (ed (nbC w q c (d + 3)) = 4) <;> rfl)
  rw [sumN_add, sumN_add] at h1
  rw [fl_sum, fl_sum]
  omega
