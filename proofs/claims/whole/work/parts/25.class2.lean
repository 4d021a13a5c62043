/-! ===== the class: calls of its face ===== -/
theorem mt_set {L : Nat} {xs : Nat → Int32} {w q : Nat} {nb ed ra bk : Nat → Int32} {wt gp gq mv : Int32} {cn : Nat} {mc mk ga le : Nat → Int32} {sw : Bool} {bi ar : Nat → Int32} {tm sd : Int32} {rest : ac_H} {a b : Nat} {v : Int32} (hw : sideOk w) (hq : sideOk q) (ha : a < w) (hb : b < q) (h1 : ¬ v < 0) (h2 : v ≤ 127) (hcn : cn ≤ 4) : Mt L xs 24 [.ref 0, .int (nI a), .int (nI b), .int v] (GH w q nb ed ra bk wt gp gq mv cn mc mk ga le sw bi ar tm sd rest) none (GH w q nb ed ra bk wt gp gq mv cn (pre cn (loF (nI (b * w + a)) mc) mc) mk ga le sw (upd bi (b * w + a) v) ar tm sd rest) 0 0 := by
  have hn := side_n hw hq
  have hc := cell_lt ha hb
  cases sw
  all_goals
    show Ev L xs 24 (0, [.ref 0, .int (nI a), .int (nI b), .int v, ac_un], [], _, 0, 0) _
    (repeat refine ev_step rfl rfl ?_)
    refine ev_i3 rfl rfl (Nat.le_of_ble_eq_true rfl) (Nat.le_of_ble_eq_true rfl) rfl (mt_cellAt hw.2.1 hq.2.1 ha hb) ?_
    (repeat refine ev_step rfl rfl ?_)
    refine ev_v1 rfl rfl (Nat.le_of_ble_eq_true rfl) (Nat.le_of_ble_eq_true rfl) rfl (mt_refuseNB h1 h2 _) ?_
    (repeat refine ev_step rfl rfl ?_)
    refine ev_is rfl rfl (b * w + a) (rfl) (hc) (by omega) rfl ?_
    (repeat refine ev_step rfl rfl ?_)
    refine ev_v2 rfl rfl (Nat.le_of_ble_eq_true rfl) (Nat.le_of_ble_eq_true rfl) rfl (mt_loseAt hcn) ?_
    exact ev_r0 rfl
theorem mx_set1 {L : Nat} {xs : Nat → Int32} {w q : Nat} {nb ed ra bk : Nat → Int32} {wt gp gq mv : Int32} {cn : Nat} {mc mk ga le : Nat → Int32} {sw : Bool} {bi ar : Nat → Int32} {tm sd : Int32} {rest : ac_H} {x y v : Int32} (h : badXY w q x y) : Mx L xs 24 [.ref 0, .int x, .int y, .int v] (GH w q nb ed ra bk wt gp gq mv cn mc mk ga le sw bi ar tm sd rest) 0 (GH w q nb ed ra bk wt gp gq mv cn mc mk ga le sw bi ar tm sd (rest ++ [ac_junk])) 1 6 := by
  show Ev L xs 24 (0, [.ref 0, .int x, .int y, .int v, ac_un], [], _, 0, 0) _
  (repeat refine ev_step rfl rfl ?_)
  exact ev_x3 rfl rfl (Nat.le_of_ble_eq_true rfl) (Nat.le_of_ble_eq_true rfl) rfl (mx_cellAt h) rfl
theorem mx_set2 {L : Nat} {xs : Nat → Int32} {w q : Nat} {nb ed ra bk : Nat → Int32} {wt gp gq mv : Int32} {cn : Nat} {mc mk ga le : Nat → Int32} {sw : Bool} {bi ar : Nat → Int32} {tm sd : Int32} {rest : ac_H} {a b : Nat} {v : Int32} (hw : sideOk w) (hq : sideOk q) (ha : a < w) (hb : b < q) (h : v < 0 ∨ ¬ v ≤ 127) : Mx L xs 24 [.ref 0, .int (nI a), .int (nI b), .int v] (GH w q nb ed ra bk wt gp gq mv cn mc mk ga le sw bi ar tm sd rest) 1 (GH w q nb ed ra bk wt gp gq mv cn mc mk ga le sw bi ar tm sd (rest ++ [ac_junk])) 1 6 := by
  show Ev L xs 24 (0, [.ref 0, .int (nI a), .int (nI b), .int v, ac_un], [], _, 0, 0) _
  (repeat refine ev_step rfl rfl ?_)
  refine ev_i3 rfl rfl (Nat.le_of_ble_eq_true rfl) (Nat.le_of_ble_eq_true rfl) rfl (mt_cellAt hw.2.1 hq.2.1 ha hb) ?_
  (repeat refine ev_step rfl rfl ?_)
  exact ev_x1 rfl rfl (Nat.le_of_ble_eq_true rfl) (Nat.le_of_ble_eq_true rfl) rfl (mx_refuseNB h _) rfl
theorem mt_get {L : Nat} {xs : Nat → Int32} {w q : Nat} {nb ed ra bk : Nat → Int32} {wt gp gq mv : Int32} {cn : Nat} {mc mk ga le : Nat → Int32} {sw : Bool} {bi ar : Nat → Int32} {tm sd : Int32} {rest : ac_H} {a b : Nat} (hw : sideOk w) (hq : sideOk q) (ha : a < w) (hb : b < q) : Mt L xs 25 [.ref 0, .int (nI a), .int (nI b)] (GH w q nb ed ra bk wt gp gq mv cn mc mk ga le sw bi ar tm sd rest) (some (.int (bi (b * w + a)))) (GH w q nb ed ra bk wt gp gq mv cn mc mk ga le sw bi ar tm sd rest) 0 0 := by
  have hn := side_n hw hq
  have hc := cell_lt ha hb
  cases sw
  all_goals
    show Ev L xs 25 (0, [.ref 0, .int (nI a), .int (nI b)], [], _, 0, 0) _
    (repeat refine ev_step rfl rfl ?_)
    refine ev_i3 rfl rfl (Nat.le_of_ble_eq_true rfl) (Nat.le_of_ble_eq_true rfl) rfl (mt_cellAt hw.2.1 hq.2.1 ha hb) ?_
    refine ev_ia rfl rfl (b * w + a) (rfl) (hc) (by omega) ?_
    exact ev_r1 rfl
theorem mx_get {L : Nat} {xs : Nat → Int32} {w q : Nat} {nb ed ra bk : Nat → Int32} {wt gp gq mv : Int32} {cn : Nat} {mc mk ga le : Nat → Int32} {sw : Bool} {bi ar : Nat → Int32} {tm sd : Int32} {rest : ac_H} {x y : Int32} (h : badXY w q x y) : Mx L xs 25 [.ref 0, .int x, .int y] (GH w q nb ed ra bk wt gp gq mv cn mc mk ga le sw bi ar tm sd rest) 0 (GH w q nb ed ra bk wt gp gq mv cn mc mk ga le sw bi ar tm sd (rest ++ [ac_junk])) 1 6 := by
  show Ev L xs 25 (0, [.ref 0, .int x, .int y], [], _, 0, 0) _
  (repeat refine ev_step rfl rfl ?_)
  exact ev_x3 rfl rfl (Nat.le_of_ble_eq_true rfl) (Nat.le_of_ble_eq_true rfl) rfl (mx_cellAt h) rfl
theorem mt_turned {L : Nat} {xs : Nat → Int32} {b s : Nat} (hb : b < 128) (hs : s < 2) (H : ac_H) : Mt L xs 51 [.int (nI b), .int (nI s)] H (some (.int (nI (tdN b s)))) H 0 0 := pu_mt (by decide) (tr_turned b hb s hs) H
theorem mt_rule {L : Nat} {xs : Nat → Int32} {b s : Nat} (hb : b < 128) (hs : s < 2) (H : ac_H) : Mt L xs 26 [.ref 0, .int (nI b), .int (nI s)] H (some (.int (nI (tdN b s)))) H 0 0 := by
  show Ev L xs 26 (0, [.ref 0, .int (nI b), .int (nI s)], [], _, 0, 0) _
  (repeat refine ev_step rfl rfl ?_)
  refine ev_v1 rfl rfl (Nat.le_of_ble_eq_true rfl) (Nat.le_of_ble_eq_true rfl) rfl (mt_refuseNB (nI_pos (by omega)) (nI_le (a := b) (b := 127) (by omega) (by decide)) _) ?_
  (repeat refine ev_step rfl rfl ?_)
  refine ev_v3 rfl rfl (Nat.le_of_ble_eq_true rfl) (Nat.le_of_ble_eq_true rfl) rfl (mt_refuse (nI_pos (by omega)) (nI_le (a := s) (b := 1) (by omega) (by decide)) _) ?_
  (repeat refine ev_step rfl rfl ?_)
  refine ev_i2 rfl rfl (Nat.le_of_ble_eq_true rfl) (Nat.le_of_ble_eq_true rfl) rfl (mt_turned hb hs _) ?_
  exact ev_r1 rfl
theorem mx_rule1 {L : Nat} {xs : Nat → Int32} {b s : Int32} (h : b < 0 ∨ ¬ b ≤ 127) (H : ac_H) : Mx L xs 26 [.ref 0, .int b, .int s] H 1 (H ++ [ac_junk]) 1 6 := by
  show Ev L xs 26 (0, [.ref 0, .int b, .int s], [], _, 0, 0) _
  (repeat refine ev_step rfl rfl ?_)
  exact ev_x1 rfl rfl (Nat.le_of_ble_eq_true rfl) (Nat.le_of_ble_eq_true rfl) rfl (mx_refuseNB h _) rfl
theorem mx_rule2 {L : Nat} {xs : Nat → Int32} {b s : Int32} (h1 : ¬ b < 0) (h2 : b ≤ 127) (h : s < 0 ∨ ¬ s ≤ 1) (H : ac_H) : Mx L xs 26 [.ref 0, .int b, .int s] H 1 (H ++ [ac_junk]) 1 6 := by
  show Ev L xs 26 (0, [.ref 0, .int b, .int s], [], _, 0, 0) _
  (repeat refine ev_step rfl rfl ?_)
  refine ev_v1 rfl rfl (Nat.le_of_ble_eq_true rfl) (Nat.le_of_ble_eq_true rfl) rfl (mt_refuseNB h1 h2 _) ?_
  (repeat refine ev_step rfl rfl ?_)
  exact ev_x3 rfl rfl (Nat.le_of_ble_eq_true rfl) (Nat.le_of_ble_eq_true rfl) rfl (mx_refuse h _) rfl
theorem bI_01 (x : Bool) : bI x = 0 ∨ bI x = 1 := by cases x <;> decide
theorem mt_wall {L : Nat} {xs : Nat → Int32} {w q : Nat} {nb ed ra bk : Nat → Int32} {wt gp gq mv : Int32} {cn : Nat} {mc mk ga le : Nat → Int32} {sw : Bool} {bi ar : Nat → Int32} {tm sd : Int32} {rest : ac_H} {a b : Nat} {o : Int32} (hw : sideOk w) (hq : sideOk q) (ha : a < w) (hb : b < q) (h : ed (b * w + a) = 0 ∨ ed (b * w + a) = 1) : Mt L xs 27 [.ref 0, .int (nI a), .int (nI b), .int o] (GH w q nb ed ra bk wt gp gq mv cn mc mk ga le sw bi ar tm sd rest) (some (.int (bI (decide (¬ peE 1 o = ed (b * w + a)))))) (GH w q nb (upd ed (b * w + a) (peE 1 o)) ra bk wt gp gq mv cn mc mk ga le sw bi ar tm sd rest) 0 0 := by
  have hn := side_n hw hq
  have hc := cell_lt ha hb
  show Ev L xs 27 (0, [.ref 0, .int (nI a), .int (nI b), .int o], [], _, 0, 0) _
  (repeat refine ev_step rfl rfl ?_)
  refine ev_i3 rfl rfl (Nat.le_of_ble_eq_true rfl) (Nat.le_of_ble_eq_true rfl) rfl (mt_cellAt hw.2.1 hq.2.1 ha hb) ?_
  (repeat refine ev_step rfl rfl ?_)
  refine ev_i4 rfl rfl (Nat.le_of_ble_eq_true rfl) (Nat.le_of_ble_eq_true rfl) rfl (mt_putEdge hn.1 hc h) ?_
  exact ev_r2 rfl (bI_01 _)
theorem mx_wall1 {L : Nat} {xs : Nat → Int32} {w q : Nat} {nb ed ra bk : Nat → Int32} {wt gp gq mv : Int32} {cn : Nat} {mc mk ga le : Nat → Int32} {sw : Bool} {bi ar : Nat → Int32} {tm sd : Int32} {rest : ac_H} {x y o : Int32} (h : badXY w q x y) : Mx L xs 27 [.ref 0, .int x, .int y, .int o] (GH w q nb ed ra bk wt gp gq mv cn mc mk ga le sw bi ar tm sd rest) 0 (GH w q nb ed ra bk wt gp gq mv cn mc mk ga le sw bi ar tm sd (rest ++ [ac_junk])) 1 6 := by
  show Ev L xs 27 (0, [.ref 0, .int x, .int y, .int o], [], _, 0, 0) _
  (repeat refine ev_step rfl rfl ?_)
  exact ev_x3 rfl rfl (Nat.le_of_ble_eq_true rfl) (Nat.le_of_ble_eq_true rfl) rfl (mx_cellAt h) rfl
theorem mx_wall2 {L : Nat} {xs : Nat → Int32} {w q : Nat} {nb ed ra bk : Nat → Int32} {wt gp gq mv : Int32} {cn : Nat} {mc mk ga le : Nat → Int32} {sw : Bool} {bi ar : Nat → Int32} {tm sd : Int32} {rest : ac_H} {a b : Nat} {o : Int32} (hw : sideOk w) (hq : sideOk q) (ha : a < w) (hb : b < q) (h : ¬ (ed (b * w + a) = 0 ∨ ed (b * w + a) = 1)) : Mx L xs 27 [.ref 0, .int (nI a), .int (nI b), .int o] (GH w q nb ed ra bk wt gp gq mv cn mc mk ga le sw bi ar tm sd rest) 2 (GH w q nb ed ra bk wt gp gq mv cn mc mk ga le sw bi ar tm sd (rest ++ [ac_junk])) 1 6 := by
  have hn := side_n hw hq
  have hc := cell_lt ha hb
  show Ev L xs 27 (0, [.ref 0, .int (nI a), .int (nI b), .int o], [], _, 0, 0) _
  (repeat refine ev_step rfl rfl ?_)
  refine ev_i3 rfl rfl (Nat.le_of_ble_eq_true rfl) (Nat.le_of_ble_eq_true rfl) rfl (mt_cellAt hw.2.1 hq.2.1 ha hb) ?_
  (repeat refine ev_step rfl rfl ?_)
  exact ev_x4 rfl rfl (Nat.le_of_ble_eq_true rfl) (Nat.le_of_ble_eq_true rfl) rfl (mx_putEdge hn.1 hc h) rfl
theorem mt_sink {L : Nat} {xs : Nat → Int32} {w q : Nat} {nb ed ra bk : Nat → Int32} {wt gp gq mv : Int32} {cn : Nat} {mc mk ga le : Nat → Int32} {sw : Bool} {bi ar : Nat → Int32} {tm sd : Int32} {rest : ac_H} {a b : Nat} {o : Int32} (hw : sideOk w) (hq : sideOk q) (ha : a < w) (hb : b < q) (h : ed (b * w + a) = 0 ∨ ed (b * w + a) = 3) : Mt L xs 29 [.ref 0, .int (nI a), .int (nI b), .int o] (GH w q nb ed ra bk wt gp gq mv cn mc mk ga le sw bi ar tm sd rest) (some (.int (bI (decide (¬ peE 3 o = ed (b * w + a)))))) (GH w q nb (upd ed (b * w + a) (peE 3 o)) ra bk wt gp gq mv cn mc mk ga le sw bi ar tm sd rest) 0 0 := by
  have hn := side_n hw hq
  have hc := cell_lt ha hb
  show Ev L xs 29 (0, [.ref 0, .int (nI a), .int (nI b), .int o], [], _, 0, 0) _
  (repeat refine ev_step rfl rfl ?_)
  refine ev_i3 rfl rfl (Nat.le_of_ble_eq_true rfl) (Nat.le_of_ble_eq_true rfl) rfl (mt_cellAt hw.2.1 hq.2.1 ha hb) ?_
  (repeat refine ev_step rfl rfl ?_)
  refine ev_i4 rfl rfl (Nat.le_of_ble_eq_true rfl) (Nat.le_of_ble_eq_true rfl) rfl (mt_putEdge hn.1 hc h) ?_
  exact ev_r2 rfl (bI_01 _)
theorem mx_sink1 {L : Nat} {xs : Nat → Int32} {w q : Nat} {nb ed ra bk : Nat → Int32} {wt gp gq mv : Int32} {cn : Nat} {mc mk ga le : Nat → Int32} {sw : Bool} {bi ar : Nat → Int32} {tm sd : Int32} {rest : ac_H} {x y o : Int32} (h : badXY w q x y) : Mx L xs 29 [.ref 0, .int x, .int y, .int o] (GH w q nb ed ra bk wt gp gq mv cn mc mk ga le sw bi ar tm sd rest) 0 (GH w q nb ed ra bk wt gp gq mv cn mc mk ga le sw bi ar tm sd (rest ++ [ac_junk])) 1 6 := by
  show Ev L xs 29 (0, [.ref 0, .int x, .int y, .int o], [], _, 0, 0) _
  (repeat refine ev_step rfl rfl ?_)
  exact ev_x3 rfl rfl (Nat.le_of_ble_eq_true rfl) (Nat.le_of_ble_eq_true rfl) rfl (mx_cellAt h) rfl
theorem mx_sink2 {L : Nat} {xs : Nat → Int32} {w q : Nat} {nb ed ra bk : Nat → Int32} {wt gp gq mv : Int32} {cn : Nat} {mc mk ga le : Nat → Int32} {sw : Bool} {bi ar : Nat → Int32} {tm sd : Int32} {rest : ac_H} {a b : Nat} {o : Int32} (hw : sideOk w) (hq : sideOk q) (ha : a < w) (hb : b < q) (h : ¬ (ed (b * w + a) = 0 ∨ ed (b * w + a) = 3)) : Mx L xs 29 [.ref 0, .int (nI a), .int (nI b), .int o] (GH w q nb ed ra bk wt gp gq mv cn mc mk ga le sw bi ar tm sd rest) 2 (GH w q nb ed ra bk wt gp gq mv cn mc mk ga le sw bi ar tm sd (rest ++ [ac_junk])) 1 6 := by
  have hn := side_n hw hq
  have hc := cell_lt ha hb
  show Ev L xs 29 (0, [.ref 0, .int (nI a), .int (nI b), .int o], [], _, 0, 0) _
  (repeat refine ev_step rfl rfl ?_)
  refine ev_i3 rfl rfl (Nat.le_of_ble_eq_true rfl) (Nat.le_of_ble_eq_true rfl) rfl (mt_cellAt hw.2.1 hq.2.1 ha hb) ?_
  (repeat refine ev_step rfl rfl ?_)
  exact ev_x4 rfl rfl (Nat.le_of_ble_eq_true rfl) (Nat.le_of_ble_eq_true rfl) rfl (mx_putEdge hn.1 hc h) rfl
theorem mt_body {L : Nat} {xs : Nat → Int32} {w q : Nat} {nb ed ra bk : Nat → Int32} {wt gp gq mv : Int32} {cn : Nat} {mc mk ga le : Nat → Int32} {sw : Bool} {bi ar : Nat → Int32} {tm sd : Int32} {rest : ac_H} {a b : Nat} {o : Int32} (hw : sideOk w) (hq : sideOk q) (ha : a < w) (hb : b < q) (h : ed (b * w + a) = 0 ∨ ed (b * w + a) = 4) : Mt L xs 30 [.ref 0, .int (nI a), .int (nI b), .int o] (GH w q nb ed ra bk wt gp gq mv cn mc mk ga le sw bi ar tm sd rest) (some (.int (bI (decide (¬ peE 4 o = ed (b * w + a)))))) (GH w q nb (upd ed (b * w + a) (peE 4 o)) ra bk wt gp gq mv cn mc mk ga le sw bi ar tm sd rest) 0 0 := by
  have hn := side_n hw hq
  have hc := cell_lt ha hb
  show Ev L xs 30 (0, [.ref 0, .int (nI a), .int (nI b), .int o], [], _, 0, 0) _
  (repeat refine ev_step rfl rfl ?_)
  refine ev_i3 rfl rfl (Nat.le_of_ble_eq_true rfl) (Nat.le_of_ble_eq_true rfl) rfl (mt_cellAt hw.2.1 hq.2.1 ha hb) ?_
  (repeat refine ev_step rfl rfl ?_)
  refine ev_i4 rfl rfl (Nat.le_of_ble_eq_true rfl) (Nat.le_of_ble_eq_true rfl) rfl (mt_putEdge hn.1 hc h) ?_
  exact ev_r2 rfl (bI_01 _)
theorem mx_body1 {L : Nat} {xs : Nat → Int32} {w q : Nat} {nb ed ra bk : Nat → Int32} {wt gp gq mv : Int32} {cn : Nat} {mc mk ga le : Nat → Int32} {sw : Bool} {bi ar : Nat → Int32} {tm sd : Int32} {rest : ac_H} {x y o : Int32} (h : badXY w q x y) : Mx L xs 30 [.ref 0, .int x, .int y, .int o] (GH w q nb ed ra bk wt gp gq mv cn mc mk ga le sw bi ar tm sd rest) 0 (GH w q nb ed ra bk wt gp gq mv cn mc mk ga le sw bi ar tm sd (rest ++ [ac_junk])) 1 6 := by
  show Ev L xs 30 (0, [.ref 0, .int x, .int y, .int o], [], _, 0, 0) _
  (repeat refine ev_step rfl rfl ?_)
  exact ev_x3 rfl rfl (Nat.le_of_ble_eq_true rfl) (Nat.le_of_ble_eq_true rfl) rfl (mx_cellAt h) rfl
theorem mx_body2 {L : Nat} {xs : Nat → Int32} {w q : Nat} {nb ed ra bk : Nat → Int32} {wt gp gq mv : Int32} {cn : Nat} {mc mk ga le : Nat → Int32} {sw : Bool} {bi ar : Nat → Int32} {tm sd : Int32} {rest : ac_H} {a b : Nat} {o : Int32} (hw : sideOk w) (hq : sideOk q) (ha : a < w) (hb : b < q) (h : ¬ (ed (b * w + a) = 0 ∨ ed (b * w + a) = 4)) : Mx L xs 30 [.ref 0, .int (nI a), .int (nI b), .int o] (GH w q nb ed ra bk wt gp gq mv cn mc mk ga le sw bi ar tm sd rest) 2 (GH w q nb ed ra bk wt gp gq mv cn mc mk ga le sw bi ar tm sd (rest ++ [ac_junk])) 1 6 := by
  have hn := side_n hw hq
  have hc := cell_lt ha hb
  show Ev L xs 30 (0, [.ref 0, .int (nI a), .int (nI b), .int o], [], _, 0, 0) _
  (repeat refine ev_step rfl rfl ?_)
  refine ev_i3 rfl rfl (Nat.le_of_ble_eq_true rfl) (Nat.le_of_ble_eq_true rfl) rfl (mt_cellAt hw.2.1 hq.2.1 ha hb) ?_
  (repeat refine ev_step rfl rfl ?_)
  exact ev_x4 rfl rfl (Nat.le_of_ble_eq_true rfl) (Nat.le_of_ble_eq_true rfl) rfl (mx_putEdge hn.1 hc h) rfl
theorem mt_source {L : Nat} {xs : Nat → Int32} {w q : Nat} {nb ed ra bk : Nat → Int32} {wt gp gq mv : Int32} {cn : Nat} {mc mk ga le : Nat → Int32} {sw : Bool} {bi ar : Nat → Int32} {tm sd : Int32} {rest : ac_H} {a b : Nat} {v : Int32} (hw : sideOk w) (hq : sideOk q) (ha : a < w) (hb : b < q) (h1 : ¬ v < 0) (h2 : v ≤ 256) (h : ed (b * w + a) = 0 ∨ ed (b * w + a) = 2) : Mt L xs 28 [.ref 0, .int (nI a), .int (nI b), .int v] (GH w q nb ed ra bk wt gp gq mv cn mc mk ga le sw bi ar tm sd rest) none (GH w q nb (upd ed (b * w + a) (if v ≤ 0 then 0 else 2)) (upd ra (b * w + a) v) bk wt gp gq mv cn mc mk ga le sw bi ar tm sd rest) 0 0 := by
  have hn := side_n hw hq
  have hc := cell_lt ha hb
  show Ev L xs 28 (0, [.ref 0, .int (nI a), .int (nI b), .int v, ac_un], [], _, 0, 0) _
  (repeat refine ev_step rfl rfl ?_)
  refine ev_i3 rfl rfl (Nat.le_of_ble_eq_true rfl) (Nat.le_of_ble_eq_true rfl) rfl (mt_cellAt hw.2.1 hq.2.1 ha hb) ?_
  (repeat refine ev_step rfl rfl ?_)
  refine ev_v3 rfl rfl (Nat.le_of_ble_eq_true rfl) (Nat.le_of_ble_eq_true rfl) rfl (mt_refuse h1 h2 _) ?_
  (repeat refine ev_step rfl rfl ?_)
  refine ev_br (fun z => ?_) (fun z => ?_)
  · rw [if_pos z]
    (repeat refine ev_step rfl rfl ?_)
    refine ev_i4 rfl rfl (Nat.le_of_ble_eq_true rfl) (Nat.le_of_ble_eq_true rfl) rfl (mt_putEdge hn.1 hc h) ?_
    (repeat refine ev_step rfl rfl ?_)
    refine ev_is rfl rfl (b * w + a) (rfl) (hc) (by omega) rfl ?_
    exact ev_r0 rfl
  · rw [if_neg z]
    (repeat refine ev_step rfl rfl ?_)
    refine ev_i4 rfl rfl (Nat.le_of_ble_eq_true rfl) (Nat.le_of_ble_eq_true rfl) rfl (mt_putEdge hn.1 hc h) ?_
    (repeat refine ev_step rfl rfl ?_)
    refine ev_is rfl rfl (b * w + a) (rfl) (hc) (by omega) rfl ?_
    exact ev_r0 rfl
theorem mx_source1 {L : Nat} {xs : Nat → Int32} {w q : Nat} {nb ed ra bk : Nat → Int32} {wt gp gq mv : Int32} {cn : Nat} {mc mk ga le : Nat → Int32} {sw : Bool} {bi ar : Nat → Int32} {tm sd : Int32} {rest : ac_H} {x y v : Int32} (h : badXY w q x y) : Mx L xs 28 [.ref 0, .int x, .int y, .int v] (GH w q nb ed ra bk wt gp gq mv cn mc mk ga le sw bi ar tm sd rest) 0 (GH w q nb ed ra bk wt gp gq mv cn mc mk ga le sw bi ar tm sd (rest ++ [ac_junk])) 1 6 := by
  show Ev L xs 28 (0, [.ref 0, .int x, .int y, .int v, ac_un], [], _, 0, 0) _
  (repeat refine ev_step rfl rfl ?_)
  exact ev_x3 rfl rfl (Nat.le_of_ble_eq_true rfl) (Nat.le_of_ble_eq_true rfl) rfl (mx_cellAt h) rfl
theorem mx_source2 {L : Nat} {xs : Nat → Int32} {w q : Nat} {nb ed ra bk : Nat → Int32} {wt gp gq mv : Int32} {cn : Nat} {mc mk ga le : Nat → Int32} {sw : Bool} {bi ar : Nat → Int32} {tm sd : Int32} {rest : ac_H} {a b : Nat} {v : Int32} (hw : sideOk w) (hq : sideOk q) (ha : a < w) (hb : b < q) (h : v < 0 ∨ ¬ v ≤ 256) : Mx L xs 28 [.ref 0, .int (nI a), .int (nI b), .int v] (GH w q nb ed ra bk wt gp gq mv cn mc mk ga le sw bi ar tm sd rest) 1 (GH w q nb ed ra bk wt gp gq mv cn mc mk ga le sw bi ar tm sd (rest ++ [ac_junk])) 1 6 := by
  show Ev L xs 28 (0, [.ref 0, .int (nI a), .int (nI b), .int v, ac_un], [], _, 0, 0) _
  (repeat refine ev_step rfl rfl ?_)
  refine ev_i3 rfl rfl (Nat.le_of_ble_eq_true rfl) (Nat.le_of_ble_eq_true rfl) rfl (mt_cellAt hw.2.1 hq.2.1 ha hb) ?_
  (repeat refine ev_step rfl rfl ?_)
  exact ev_x3 rfl rfl (Nat.le_of_ble_eq_true rfl) (Nat.le_of_ble_eq_true rfl) rfl (mx_refuse h _) rfl
theorem mx_source3 {L : Nat} {xs : Nat → Int32} {w q : Nat} {nb ed ra bk : Nat → Int32} {wt gp gq mv : Int32} {cn : Nat} {mc mk ga le : Nat → Int32} {sw : Bool} {bi ar : Nat → Int32} {tm sd : Int32} {rest : ac_H} {a b : Nat} {v : Int32} (hw : sideOk w) (hq : sideOk q) (ha : a < w) (hb : b < q) (h1 : ¬ v < 0) (h2 : v ≤ 256) (h : ¬ (ed (b * w + a) = 0 ∨ ed (b * w + a) = 2)) : Mx L xs 28 [.ref 0, .int (nI a), .int (nI b), .int v] (GH w q nb ed ra bk wt gp gq mv cn mc mk ga le sw bi ar tm sd rest) 2 (GH w q nb ed ra bk wt gp gq mv cn mc mk ga le sw bi ar tm sd (rest ++ [ac_junk])) 1 6 := by
  have hn := side_n hw hq
  have hc := cell_lt ha hb
  show Ev L xs 28 (0, [.ref 0, .int (nI a), .int (nI b), .int v, ac_un], [], _, 0, 0) _
  (repeat refine ev_step rfl rfl ?_)
  refine ev_i3 rfl rfl (Nat.le_of_ble_eq_true rfl) (Nat.le_of_ble_eq_true rfl) rfl (mt_cellAt hw.2.1 hq.2.1 ha hb) ?_
  (repeat refine ev_step rfl rfl ?_)
  refine ev_v3 rfl rfl (Nat.le_of_ble_eq_true rfl) (Nat.le_of_ble_eq_true rfl) rfl (mt_refuse h1 h2 _) ?_
  (repeat refine ev_step rfl rfl ?_)
  refine ev_br (fun z => ?_) (fun z => ?_)
  · (repeat refine ev_step rfl rfl ?_)
    exact ev_x4 rfl rfl (Nat.le_of_ble_eq_true rfl) (Nat.le_of_ble_eq_true rfl) rfl (mx_putEdge hn.1 hc h) rfl
  · (repeat refine ev_step rfl rfl ?_)
    exact ev_x4 rfl rfl (Nat.le_of_ble_eq_true rfl) (Nat.le_of_ble_eq_true rfl) rfl (mx_putEdge hn.1 hc h) rfl
theorem mt_edge {L : Nat} {xs : Nat → Int32} {w q : Nat} {nb ed ra bk : Nat → Int32} {wt gp gq mv : Int32} {cn : Nat} {mc mk ga le : Nat → Int32} {sw : Bool} {bi ar : Nat → Int32} {tm sd : Int32} {rest : ac_H} {a b : Nat} (hw : sideOk w) (hq : sideOk q) (ha : a < w) (hb : b < q) : Mt L xs 31 [.ref 0, .int (nI a), .int (nI b)] (GH w q nb ed ra bk wt gp gq mv cn mc mk ga le sw bi ar tm sd rest) (some (.int (ed (b * w + a)))) (GH w q nb ed ra bk wt gp gq mv cn mc mk ga le sw bi ar tm sd rest) 0 0 := by
  have hn := side_n hw hq
  have hc := cell_lt ha hb
  show Ev L xs 31 (0, [.ref 0, .int (nI a), .int (nI b)], [], _, 0, 0) _
  (repeat refine ev_step rfl rfl ?_)
  refine ev_i3 rfl rfl (Nat.le_of_ble_eq_true rfl) (Nat.le_of_ble_eq_true rfl) rfl (mt_cellAt hw.2.1 hq.2.1 ha hb) ?_
  refine ev_ia rfl rfl (b * w + a) (rfl) (hc) (by omega) ?_
  exact ev_r1 rfl
theorem mx_edge {L : Nat} {xs : Nat → Int32} {w q : Nat} {nb ed ra bk : Nat → Int32} {wt gp gq mv : Int32} {cn : Nat} {mc mk ga le : Nat → Int32} {sw : Bool} {bi ar : Nat → Int32} {tm sd : Int32} {rest : ac_H} {x y : Int32} (h : badXY w q x y) : Mx L xs 31 [.ref 0, .int x, .int y] (GH w q nb ed ra bk wt gp gq mv cn mc mk ga le sw bi ar tm sd rest) 0 (GH w q nb ed ra bk wt gp gq mv cn mc mk ga le sw bi ar tm sd (rest ++ [ac_junk])) 1 6 := by
  show Ev L xs 31 (0, [.ref 0, .int x, .int y], [], _, 0, 0) _
  (repeat refine ev_step rfl rfl ?_)
  exact ev_x3 rfl rfl (Nat.le_of_ble_eq_true rfl) (Nat.le_of_ble_eq_true rfl) rfl (mx_cellAt h) rfl
theorem mt_mass {L : Nat} {xs : Nat → Int32} {w q : Nat} {nb ed ra bk : Nat → Int32} {wt gp gq mv : Int32} {cn : Nat} {mc mk ga le : Nat → Int32} {sw : Bool} {bi ar : Nat → Int32} {tm sd : Int32} {rest : ac_H} {v : Int32} (h1 : ¬ v < 1) (h2 : v ≤ 10000) : Mt L xs 32 [.ref 0, .int v] (GH w q nb ed ra bk wt gp gq mv cn mc mk ga le sw bi ar tm sd rest) none (GH w q nb ed ra bk (v) gp gq mv cn mc mk ga le sw bi ar tm sd rest) 0 0 := by
  show Ev L xs 32 (0, [.ref 0, .int v], [], _, 0, 0) _
  (repeat refine ev_step rfl rfl ?_)
  refine ev_v3 rfl rfl (Nat.le_of_ble_eq_true rfl) (Nat.le_of_ble_eq_true rfl) rfl (mt_refuse h1 h2 _) ?_
  (repeat refine ev_step rfl rfl ?_)
  exact ev_r0 rfl
theorem mx_mass {L : Nat} {xs : Nat → Int32} {w q : Nat} {nb ed ra bk : Nat → Int32} {wt gp gq mv : Int32} {cn : Nat} {mc mk ga le : Nat → Int32} {sw : Bool} {bi ar : Nat → Int32} {tm sd : Int32} {rest : ac_H} {v : Int32} (h : v < 1 ∨ ¬ v ≤ 10000) : Mx L xs 32 [.ref 0, .int v] (GH w q nb ed ra bk wt gp gq mv cn mc mk ga le sw bi ar tm sd rest) 1 (GH w q nb ed ra bk wt gp gq mv cn mc mk ga le sw bi ar tm sd (rest ++ [ac_junk])) 1 6 := by
  show Ev L xs 32 (0, [.ref 0, .int v], [], _, 0, 0) _
  (repeat refine ev_step rfl rfl ?_)
  exact ev_x3 rfl rfl (Nat.le_of_ble_eq_true rfl) (Nat.le_of_ble_eq_true rfl) rfl (mx_refuse h _) rfl
def acF (gp gq mv v : Int32) : Int32 := if v = 0 then gp else if v = 1 then gq else mv
theorem mt_account {L : Nat} {xs : Nat → Int32} {w q : Nat} {nb ed ra bk : Nat → Int32} {wt gp gq mv : Int32} {cn : Nat} {mc mk ga le : Nat → Int32} {sw : Bool} {bi ar : Nat → Int32} {tm sd : Int32} {rest : ac_H} {v : Int32} (h1 : ¬ v < 0) (h2 : v ≤ 2) : Mt L xs 33 [.ref 0, .int v] (GH w q nb ed ra bk wt gp gq mv cn mc mk ga le sw bi ar tm sd rest) (some (.int (acF gp gq mv v))) (GH w q nb ed ra bk wt gp gq mv cn mc mk ga le sw bi ar tm sd rest) 0 0 := by
  show Ev L xs 33 (0, [.ref 0, .int v], [], _, 0, 0) _
  unfold acF
  (repeat refine ev_step rfl rfl ?_)
  refine ev_v3 rfl rfl (Nat.le_of_ble_eq_true rfl) (Nat.le_of_ble_eq_true rfl) rfl (mt_refuse h1 h2 _) ?_
  (repeat refine ev_step rfl rfl ?_)
  refine ev_br (fun z => ?_) (fun z => ?_)
  · rw [if_pos z]
    (repeat refine ev_step rfl rfl ?_)
    exact ev_r1 rfl
  · rw [if_neg z]
    (repeat refine ev_step rfl rfl ?_)
    refine ev_br (fun z => ?_) (fun z => ?_)
    · rw [if_pos z]
      (repeat refine ev_step rfl rfl ?_)
      exact ev_r1 rfl
    · rw [if_neg z]
      (repeat refine ev_step rfl rfl ?_)
      exact ev_r1 rfl
theorem mx_account {L : Nat} {xs : Nat → Int32} {w q : Nat} {nb ed ra bk : Nat → Int32} {wt gp gq mv : Int32} {cn : Nat} {mc mk ga le : Nat → Int32} {sw : Bool} {bi ar : Nat → Int32} {tm sd : Int32} {rest : ac_H} {v : Int32} (h : v < 0 ∨ ¬ v ≤ 2) : Mx L xs 33 [.ref 0, .int v] (GH w q nb ed ra bk wt gp gq mv cn mc mk ga le sw bi ar tm sd rest) 1 (GH w q nb ed ra bk wt gp gq mv cn mc mk ga le sw bi ar tm sd (rest ++ [ac_junk])) 1 6 := by
  show Ev L xs 33 (0, [.ref 0, .int v], [], _, 0, 0) _
  (repeat refine ev_step rfl rfl ?_)
  exact ev_x3 rfl rfl (Nat.le_of_ble_eq_true rfl) (Nat.le_of_ble_eq_true rfl) rfl (mx_refuse h _) rfl
theorem mt_seed {L : Nat} {xs : Nat → Int32} {w q : Nat} {nb ed ra bk : Nat → Int32} {wt gp gq mv : Int32} {cn : Nat} {mc mk ga le : Nat → Int32} {sw : Bool} {bi ar : Nat → Int32} {tm sd : Int32} {rest : ac_H} {v : Int32} : Mt L xs 34 [.ref 0, .int v] (GH w q nb ed ra bk wt gp gq mv cn mc mk ga le sw bi ar tm sd rest) none (GH w q nb ed ra bk wt gp gq mv cn mc mk ga le sw bi ar tm (v) rest) 0 0 := by
  show Ev L xs 34 (0, [.ref 0, .int v], [], _, 0, 0) _
  (repeat refine ev_step rfl rfl ?_)
  exact ev_r0 rfl
theorem mt_book {L : Nat} {xs : Nat → Int32} {w q : Nat} {nb ed ra bk : Nat → Int32} {wt gp gq mv : Int32} {cn : Nat} {mc mk ga le : Nat → Int32} {sw : Bool} {bi ar : Nat → Int32} {tm sd : Int32} {rest : ac_H} {κ f : Nat} (hκ : κ < 4) (hf : f < 3) : Mt L xs 38 [.ref 0, .int (nI κ), .int (nI f)] (GH w q nb ed ra bk wt gp gq mv cn mc mk ga le sw bi ar tm sd rest) (some (.int (bk (κ * 3 + f)))) (GH w q nb ed ra bk wt gp gq mv cn mc mk ga le sw bi ar tm sd rest) 0 0 := by
  show Ev L xs 38 (0, [.ref 0, .int (nI κ), .int (nI f)], [], _, 0, 0) _
  (repeat refine ev_step rfl rfl ?_)
  refine ev_v3 rfl rfl (Nat.le_of_ble_eq_true rfl) (Nat.le_of_ble_eq_true rfl) rfl (mt_refuse (nI_pos (by omega)) (nI_le (a := κ) (b := 3) (by omega) (by decide)) _) ?_
  (repeat refine ev_step rfl rfl ?_)
  refine ev_v3 rfl rfl (Nat.le_of_ble_eq_true rfl) (Nat.le_of_ble_eq_true rfl) rfl (mt_refuse (nI_pos (by omega)) (nI_le (a := f) (b := 2) (by omega) (by decide)) _) ?_
  (repeat refine ev_step rfl rfl ?_)
  refine ev_ia rfl rfl (κ * 3 + f) (by rw [show nI κ * 3 = nI (κ * 3) from pk_mul κ 3, nI_add]) (by omega) (by decide) ?_
  exact ev_r1 rfl
theorem mx_book1 {L : Nat} {xs : Nat → Int32} {w q : Nat} {nb ed ra bk : Nat → Int32} {wt gp gq mv : Int32} {cn : Nat} {mc mk ga le : Nat → Int32} {sw : Bool} {bi ar : Nat → Int32} {tm sd : Int32} {rest : ac_H} {u v : Int32} (h : u < 0 ∨ ¬ u ≤ 3) : Mx L xs 38 [.ref 0, .int u, .int v] (GH w q nb ed ra bk wt gp gq mv cn mc mk ga le sw bi ar tm sd rest) 1 (GH w q nb ed ra bk wt gp gq mv cn mc mk ga le sw bi ar tm sd (rest ++ [ac_junk])) 1 6 := by
  show Ev L xs 38 (0, [.ref 0, .int u, .int v], [], _, 0, 0) _
  (repeat refine ev_step rfl rfl ?_)
  exact ev_x3 rfl rfl (Nat.le_of_ble_eq_true rfl) (Nat.le_of_ble_eq_true rfl) rfl (mx_refuse h _) rfl
theorem mx_book2 {L : Nat} {xs : Nat → Int32} {w q : Nat} {nb ed ra bk : Nat → Int32} {wt gp gq mv : Int32} {cn : Nat} {mc mk ga le : Nat → Int32} {sw : Bool} {bi ar : Nat → Int32} {tm sd : Int32} {rest : ac_H} {u v : Int32} (h1 : ¬ u < 0) (h2 : u ≤ 3) (h : v < 0 ∨ ¬ v ≤ 2) : Mx L xs 38 [.ref 0, .int u, .int v] (GH w q nb ed ra bk wt gp gq mv cn mc mk ga le sw bi ar tm sd rest) 1 (GH w q nb ed ra bk wt gp gq mv cn mc mk ga le sw bi ar tm sd (rest ++ [ac_junk])) 1 6 := by
  show Ev L xs 38 (0, [.ref 0, .int u, .int v], [], _, 0, 0) _
  (repeat refine ev_step rfl rfl ?_)
  refine ev_v3 rfl rfl (Nat.le_of_ble_eq_true rfl) (Nat.le_of_ble_eq_true rfl) rfl (mt_refuse h1 h2 _) ?_
  (repeat refine ev_step rfl rfl ?_)
  exact ev_x3 rfl rfl (Nat.le_of_ble_eq_true rfl) (Nat.le_of_ble_eq_true rfl) rfl (mx_refuse h _) rfl
def mdF (w : Nat) (mc mk : Nat → Int32) (m : Nat) : Int32 := if mc m = -1 then -1 else 128 * nI ((mc m).toNatClampNeg / w) + 8 * nI ((mc m).toNatClampNeg % w) + mk m
theorem mt_marked {L : Nat} {xs : Nat → Int32} {w q : Nat} {nb ed ra bk : Nat → Int32} {wt gp gq mv : Int32} {cn : Nat} {mc mk ga le : Nat → Int32} {sw : Bool} {bi ar : Nat → Int32} {tm sd : Int32} {rest : ac_H} {m : Nat} (hw : sideOk w) (hq : sideOk q) (hcn : cn ≤ 4) (hm : m < cn) (hok : mkOk (w * q) cn mc mk) : Mt L xs 41 [.ref 0, .int (nI m)] (GH w q nb ed ra bk wt gp gq mv cn mc mk ga le sw bi ar tm sd rest) (some (.int (mdF w mc mk m))) (GH w q nb ed ra bk wt gp gq mv cn mc mk ga le sw bi ar tm sd rest) 0 0 := by
  have hn := side_n hw hq
  obtain ⟨hc, -⟩ := hok m hm
  have hw1 := hw.1
  have hw2 := hw.2.1
  show Ev L xs 41 (0, [.ref 0, .int (nI m), ac_un], [], _, 0, 0) _
  unfold mdF
  (repeat refine ev_step rfl rfl ?_)
  refine ev_f (nI_pos (by omega)) ?_
  (repeat refine ev_step rfl rfl ?_)
  refine ev_t (nI_lt hm (by omega)) ?_
  (repeat refine ev_step rfl rfl ?_)
  refine ev_ia rfl rfl (m) (rfl) (by omega) (by decide) ?_
  (repeat refine ev_step rfl rfl ?_)
  refine ev_br (fun z => ?_) (fun z => ?_)
  · rw [if_pos z]
    (repeat refine ev_step rfl rfl ?_)
    exact ev_r1 rfl
  · obtain ⟨c, hc1, hc2⟩ := hc.resolve_left z
    rw [if_neg z, hc2, nI_clamp (by omega)]
    (repeat refine ev_step rfl rfl ?_)
    refine ev_i2 rfl rfl (Nat.le_of_ble_eq_true rfl) (Nat.le_of_ble_eq_true rfl) rfl (mt_rowOf (by omega) (by omega) (by omega)) ?_
    (repeat refine ev_step rfl rfl ?_)
    refine ev_i2 rfl rfl (Nat.le_of_ble_eq_true rfl) (Nat.le_of_ble_eq_true rfl) rfl (mt_columnOf (by omega) (by omega) (by omega)) ?_
    (repeat refine ev_step rfl rfl ?_)
    refine ev_ia rfl rfl (m) (rfl) (by omega) (by decide) ?_
    (repeat refine ev_step rfl rfl ?_)
    exact ev_r1 rfl
theorem mx_marked {L : Nat} {xs : Nat → Int32} {w q : Nat} {nb ed ra bk : Nat → Int32} {wt gp gq mv : Int32} {cn : Nat} {mc mk ga le : Nat → Int32} {sw : Bool} {bi ar : Nat → Int32} {tm sd : Int32} {rest : ac_H} {v : Int32} (h : v < 0 ∨ ¬ v < nI cn) : Mx L xs 41 [.ref 0, .int v] (GH w q nb ed ra bk wt gp gq mv cn mc mk ga le sw bi ar tm sd rest) 0 (GH w q nb ed ra bk wt gp gq mv cn mc mk ga le sw bi ar tm sd (rest ++ [ac_junk])) 1 6 := by
  show Ev L xs 41 (0, [.ref 0, .int v, ac_un], [], _, 0, 0) _
  (repeat refine ev_step rfl rfl ?_)
  refine ev_br (fun _ => by exact ev_thr rfl) (fun h1 => ?_)
  (repeat refine ev_step rfl rfl ?_)
  refine ev_br (fun h2 => absurd h (fun z => z.elim h1 (fun z => z h2))) (fun _ => by exact ev_thr rfl)
