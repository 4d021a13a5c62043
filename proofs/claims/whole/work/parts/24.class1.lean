/-! ===== the class: its cells, its plain calls ===== -/
abbrev GH (w q : Nat) (nb ed ra bk : Nat → Int32) (wt gp gq mv : Int32) (cn : Nat) (mc mk ga le : Nat → Int32) (sw : Bool) (bi ar : Nat → Int32) (tm sd : Int32) (rest : ac_H) : ac_H :=
  .inr (4, [.ref 1, .ref 3, .ref 4, .ref 5, .ref 7, .ref 8, .ref 11, .ref 12, .ref (bif sw then 14 else 13), .ref (bif sw then 13 else 14), .int tm, .int sd]) :: .inr (2, [.int (nI w), .int (nI q), .int (nI (w * q)), .ref 2]) :: Ar (w * q * 6) nb :: Ar (w * q) ed :: Ar (w * q) ra :: .inr (1, [.ref 6]) :: Ar 12 bk :: .inr (0, [.int wt, .int gp, .int gq, .int mv]) :: .inr (3, [.ref 9, .ref 10, .int (nI cn)]) :: Ar 4 mc :: Ar 4 mk :: Ar (w * q) ga :: Ar (w * q) le :: Ar (w * q) (bif sw then ar else bi) :: Ar (w * q) (bif sw then bi else ar) :: rest
/-- a side of the grid -/
def sideOk (w : Nat) : Prop := 4 ≤ w ∧ w ≤ 16 ∧ w % 2 = 0
theorem side_n {w q : Nat} (hw : sideOk w) (hq : sideOk q) : w * q ≤ 256 ∧ 16 ≤ w * q := by
  obtain ⟨a1, a2, -⟩ := hw
  obtain ⟨b1, b2, -⟩ := hq
  exact ⟨Nat.mul_le_mul a2 b2, Nat.mul_le_mul a1 b1⟩
theorem cell_lt {w q a b : Nat} (ha : a < w) (hb : b < q) : b * w + a < w * q := by
  have h : b * w + w ≤ q * w := by
    rw [← Nat.succ_mul]
    exact Nat.mul_le_mul_right w hb
  rw [Nat.mul_comm w q]
  omega
def badXY (w q : Nat) (x y : Int32) : Prop := x < 0 ∨ nI w ≤ x ∨ y < 0 ∨ nI q ≤ y
theorem mt_cellAt {L : Nat} {xs : Nat → Int32} {w q a b : Nat} {f1 f2 f3 f4 f5 f6 f7 f8 f9 f10 f11 e2 e3 : Value} {rest : ac_H} (hw : w ≤ 16) (hq : q ≤ 16) (ha : a < w) (hb : b < q) : Mt L xs 43 [.ref 0, .int (nI a), .int (nI b)] (.inr (4, [.ref 1, f1, f2, f3, f4, f5, f6, f7, f8, f9, f10, f11]) :: .inr (2, [.int (nI w), .int (nI q), e2, e3]) :: rest) (some (.int (nI (b * w + a)))) (.inr (4, [.ref 1, f1, f2, f3, f4, f5, f6, f7, f8, f9, f10, f11]) :: .inr (2, [.int (nI w), .int (nI q), e2, e3]) :: rest) 0 0 := by
  show Ev L xs 43 (0, [.ref 0, .int (nI a), .int (nI b)], [], _, 0, 0) _
  (repeat refine ev_step rfl rfl ?_)
  refine ev_f (nI_pos (by omega)) ?_
  (repeat refine ev_step rfl rfl ?_)
  refine ev_f (nI_ge ha (by omega)) ?_
  (repeat refine ev_step rfl rfl ?_)
  refine ev_f (nI_pos (by omega)) ?_
  (repeat refine ev_step rfl rfl ?_)
  refine ev_t (nI_lt hb (by omega)) ?_
  (repeat refine ev_step rfl rfl ?_)
  rw [pk_mul, nI_add]
  exact ev_r1 rfl
theorem mx_cellAt {L : Nat} {xs : Nat → Int32} {w q : Nat} {x y : Int32} {f1 f2 f3 f4 f5 f6 f7 f8 f9 f10 f11 e2 e3 : Value} {rest : ac_H} (h : badXY w q x y) : Mx L xs 43 [.ref 0, .int x, .int y] (.inr (4, [.ref 1, f1, f2, f3, f4, f5, f6, f7, f8, f9, f10, f11]) :: .inr (2, [.int (nI w), .int (nI q), e2, e3]) :: rest) 0 (.inr (4, [.ref 1, f1, f2, f3, f4, f5, f6, f7, f8, f9, f10, f11]) :: .inr (2, [.int (nI w), .int (nI q), e2, e3]) :: (rest ++ [ac_junk])) 1 6 := by
  show Ev L xs 43 (0, [.ref 0, .int x, .int y], [], _, 0, 0) _
  (repeat refine ev_step rfl rfl ?_)
  refine ev_br (fun _ => by exact ev_thr rfl) (fun h1 => ?_)
  (repeat refine ev_step rfl rfl ?_)
  refine ev_br (fun _ => by exact ev_thr rfl) (fun h2 => ?_)
  (repeat refine ev_step rfl rfl ?_)
  refine ev_br (fun _ => by exact ev_thr rfl) (fun h3 => ?_)
  (repeat refine ev_step rfl rfl ?_)
  refine ev_br (fun h4 => ?_) (fun _ => by exact ev_thr rfl)
  exact absurd h (fun z => by
    rcases z with z | z | z | z
    · exact h1 z
    · exact h2 z
    · exact h3 z
    · exact absurd h4 (Int32.not_lt.mpr z))
theorem mt_refuse {L : Nat} {xs : Nat → Int32} {v lo hi : Int32} (h1 : ¬ v < lo) (h2 : v ≤ hi) (H : ac_H) : Mt L xs 45 [.int v, .int lo, .int hi] H none H 0 0 := by
  show Ev L xs 45 (0, [.int v, .int lo, .int hi], [], _, 0, 0) _
  (repeat refine ev_step rfl rfl ?_)
  refine ev_f h1 ?_
  (repeat refine ev_step rfl rfl ?_)
  refine ev_t h2 ?_
  exact ev_r0 rfl
theorem mx_refuse {L : Nat} {xs : Nat → Int32} {v lo hi : Int32} (h : v < lo ∨ ¬ v ≤ hi) (H : ac_H) : Mx L xs 45 [.int v, .int lo, .int hi] H 1 (H ++ [ac_junk]) 1 6 := by
  show Ev L xs 45 (0, [.int v, .int lo, .int hi], [], _, 0, 0) _
  (repeat refine ev_step rfl rfl ?_)
  refine ev_br (fun _ => by exact ev_thr rfl) (fun h1 => ?_)
  (repeat refine ev_step rfl rfl ?_)
  refine ev_br (fun h2 => absurd h (fun z => z.elim h1 (fun z => z h2))) (fun _ => by exact ev_thr rfl)
theorem mt_refuseNB {L : Nat} {xs : Nat → Int32} {v : Int32} (h1 : ¬ v < 0) (h2 : v ≤ 127) (H : ac_H) : Mt L xs 44 [.int v] H none H 0 0 := by
  show Ev L xs 44 (0, [.int v], [], _, 0, 0) _
  (repeat refine ev_step rfl rfl ?_)
  refine ev_v3 rfl rfl (Nat.le_of_ble_eq_true rfl) (Nat.le_of_ble_eq_true rfl) rfl (mt_refuse h1 h2 _) ?_
  exact ev_r0 rfl
theorem mx_refuseNB {L : Nat} {xs : Nat → Int32} {v : Int32} (h : v < 0 ∨ ¬ v ≤ 127) (H : ac_H) : Mx L xs 44 [.int v] H 1 (H ++ [ac_junk]) 1 6 := by
  show Ev L xs 44 (0, [.int v], [], _, 0, 0) _
  (repeat refine ev_step rfl rfl ?_)
  exact ev_x3 rfl rfl (Nat.le_of_ble_eq_true rfl) (Nat.le_of_ble_eq_true rfl) rfl (mx_refuse h _) rfl
/-- what an edge's call makes of a cell, and whether that is new -/
def peE (s o : Int32) : Int32 := if o = 0 then 0 else s
theorem mt_putEdge {L : Nat} {xs : Nat → Int32} {n c : Nat} {ed : Nat → Int32} {s o : Int32} {f0 f2 f3 f4 f5 f6 f7 f8 f9 f10 f11 : Value} {g1 g2 : ac_C} {rest : ac_H} (hn : n ≤ 256) (hc : c < n) (h : ed c = 0 ∨ ed c = s) : Mt L xs 46 [.ref 0, .int (nI c), .int s, .int o] (.inr (4, [f0, .ref 3, f2, f3, f4, f5, f6, f7, f8, f9, f10, f11]) :: g1 :: g2 :: Ar n ed :: rest) (some (.int (bI (decide (¬ peE s o = ed c))))) (.inr (4, [f0, .ref 3, f2, f3, f4, f5, f6, f7, f8, f9, f10, f11]) :: g1 :: g2 :: Ar n (upd ed c (peE s o)) :: rest) 0 0 := by
  have tail : ∀ u : Value, Ev L xs 46 (29, [.ref 0, .int (nI c), .int s, .int o, .int (ed c), u], [], .inr (4, [f0, .ref 3, f2, f3, f4, f5, f6, f7, f8, f9, f10, f11]) :: g1 :: g2 :: Ar n ed :: rest, 0, 0) (.inl (some (.int (bI (decide (¬ peE s o = ed c))))), .inr (4, [f0, .ref 3, f2, f3, f4, f5, f6, f7, f8, f9, f10, f11]) :: g1 :: g2 :: Ar n (upd ed c (peE s o)) :: rest, 0, 0) := by
    intro u
    have mid : Ev L xs 46 (38, [.ref 0, .int (nI c), .int s, .int o, .int (ed c), u], [.int (peE s o)], .inr (4, [f0, .ref 3, f2, f3, f4, f5, f6, f7, f8, f9, f10, f11]) :: g1 :: g2 :: Ar n ed :: rest, 0, 0) (.inl (some (.int (bI (decide (¬ peE s o = ed c))))), .inr (4, [f0, .ref 3, f2, f3, f4, f5, f6, f7, f8, f9, f10, f11]) :: g1 :: g2 :: Ar n (upd ed c (peE s o)) :: rest, 0, 0) := by
      (repeat refine ev_step rfl rfl ?_)
      refine ev_is rfl rfl (c) (rfl) (hc) (by omega) rfl ?_
      (repeat refine ev_step rfl rfl ?_)
      refine ev_br (fun z => ?_) (fun z => ?_)
      · (repeat refine ev_step rfl rfl ?_)
        rw [show bI (decide (¬ peE s o = ed c)) = 0 by rw [decide_eq_false (fun y => y z)]; rfl]
        exact ev_r2 rfl (Or.inl rfl)
      · (repeat refine ev_step rfl rfl ?_)
        rw [show bI (decide (¬ peE s o = ed c)) = 1 by rw [decide_eq_true z]; rfl]
        exact ev_r2 rfl (Or.inr rfl)
    iterate 2 (refine ev_step rfl rfl ?_)
    refine ev_br (fun z => ?_) (fun z => ?_)
    · iterate 1 (refine ev_step rfl rfl ?_)
      rw [show peE s o = 0 by rw [peE, if_pos z]] at mid ⊢
      exact mid
    · iterate 2 (refine ev_step rfl rfl ?_)
      rw [show peE s o = s by rw [peE, if_neg z]] at mid ⊢
      exact mid
  show Ev L xs 46 (0, [.ref 0, .int (nI c), .int s, .int o, ac_un, ac_un], [], _, 0, 0) _
  (repeat refine ev_step rfl rfl ?_)
  refine ev_ia rfl rfl (c) (rfl) (hc) (by omega) ?_
  (repeat refine ev_step rfl rfl ?_)
  refine ev_br (fun _ => tail _) (fun h1 => ?_)
  (repeat refine ev_step rfl rfl ?_)
  refine ev_br (fun _ => tail _) (fun h2 => absurd h (fun z => z.elim h1 h2))
theorem mx_putEdge {L : Nat} {xs : Nat → Int32} {n c : Nat} {ed : Nat → Int32} {s o : Int32} {f0 f2 f3 f4 f5 f6 f7 f8 f9 f10 f11 : Value} {g1 g2 : ac_C} {rest : ac_H} (hn : n ≤ 256) (hc : c < n) (h : ¬ (ed c = 0 ∨ ed c = s)) : Mx L xs 46 [.ref 0, .int (nI c), .int s, .int o] (.inr (4, [f0, .ref 3, f2, f3, f4, f5, f6, f7, f8, f9, f10, f11]) :: g1 :: g2 :: Ar n ed :: rest) 2 (.inr (4, [f0, .ref 3, f2, f3, f4, f5, f6, f7, f8, f9, f10, f11]) :: g1 :: g2 :: Ar n ed :: (rest ++ [ac_junk])) 1 6 := by
  show Ev L xs 46 (0, [.ref 0, .int (nI c), .int s, .int o, ac_un, ac_un], [], _, 0, 0) _
  (repeat refine ev_step rfl rfl ?_)
  refine ev_ia rfl rfl (c) (rfl) (hc) (by omega) ?_
  (repeat refine ev_step rfl rfl ?_)
  refine ev_br (fun z => absurd (Or.inl z) h) (fun h1 => ?_)
  (repeat refine ev_step rfl rfl ?_)
  refine ev_br (fun z => absurd (Or.inr z) h) (fun h2 => ?_)
  exact ev_thr rfl
