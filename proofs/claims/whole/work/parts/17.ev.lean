/-! ===== runs of the abstract machine ===== -/
abbrev ev_nl : Nat → Nat := fun z => (ac_MDf z).2.2.1
def Ev (L : Nat) (xs : Nat → Int32) (y : Nat) (σ : ac_S) (r : ac_R) : Prop := ∃ n, ac_x (ac_Tf L xs) ac_HDf ev_nl n y σ = some r
/-- a method that returns; one that throws -/
def Mt (L : Nat) (xs : Nat → Int32) (z : Nat) (as : List Value) (h : ac_H) (v : Option Value) (h' : ac_H) (c k : Nat) : Prop := Ev L xs z (0, as ++ List.replicate (ev_nl z - as.length) ac_un, [], h, 0, 0) (.inl v, h', c, k)
def Mx (L : Nat) (xs : Nat → Int32) (z : Nat) (as : List Value) (h : ac_H) (x : Nat) (h' : ac_H) (c k : Nat) : Prop := Ev L xs z (0, as ++ List.replicate (ev_nl z - as.length) ac_un, [], h, 0, 0) (.inr x, h', c, k)
theorem ac_x_up {T : Nat → Nat → ac_O} {HD : ac_HD} {nl : Nat → Nat} : ∀ (n y : Nat) (σ : ac_S) (r : ac_R), ac_x T HD nl n y σ = some r → ac_x T HD nl (n + 1) y σ = some r := by
  intro n
  induction n with
  | zero => intro y σ r h; cases h
  | succ n ih =>
    rintro y ⟨pc, ls, st, h, c, k⟩ r hx
    rw [ac_x] at hx ⊢
    split at hx
    · rename_i f hf
      split at hx
      · rename_i σ hs
        exact ih y σ r hx
      · cases hx
    · rename_i z na nx rv hf
      split at hx
      · rename_i hc
        rw [if_pos hc]
        split at hx
        · rename_i v h' c' k' hz
          rw [ih _ _ _ hz]
          exact ih _ _ _ hx
        · rename_i x h' c' k' hz
          rw [ih _ _ _ hz]
          dsimp only
          split at hx
          · rename_i i nx' hh
            obtain ⟨hi, hx⟩ := ac_set_some hx
            rw [ac_set_eq, if_pos hi]
            exact ih _ _ _ hx
          · exact hx
          · cases hx
        · cases hx
      · cases hx
    · exact hx
    · exact hx
theorem ac_x_le {T : Nat → Nat → ac_O} {HD : ac_HD} {nl : Nat → Nat} {n m y : Nat} {σ : ac_S} {r : ac_R} (hnm : n ≤ m) (h : ac_x T HD nl n y σ = some r) : ac_x T HD nl m y σ = some r := by
  induction hnm with
  | refl => exact h
  | step _ ih => exact ac_x_up _ _ _ _ ih
section EV
variable {L : Nat} {xs : Nat → Int32} {y pc z nx rv : Nat} {ls st rest : List Value} {h h' : ac_H} {c k c' k' : Nat} {r : ac_R}
theorem ev_step {f : ac_S → Option ac_S} {σ : ac_S} (hT : ac_Tf L xs y pc = .inl f) (hf : f (pc, ls, st, h, c, k) = some σ) (kk : Ev L xs y σ r) : Ev L xs y (pc, ls, st, h, c, k) r := by
  obtain ⟨n, hn⟩ := kk
  refine ⟨n + 1, ?_⟩
  rw [ac_x, hT]
  dsimp only
  rw [hf]
  exact hn
theorem ev_br {p : Prop} [Decidable p] {t e : Nat} {τ : List Value × List Value × ac_H × Nat × Nat} (h1 : p → Ev L xs y (t, τ) r) (h2 : ¬ p → Ev L xs y (e, τ) r) : Ev L xs y ((if p then t else e), τ) r := by
  by_cases hp : p
  · rw [if_pos hp]; exact h1 hp
  · rw [if_neg hp]; exact h2 hp
theorem ev_t {p : Prop} [Decidable p] {t e : Nat} {τ : List Value × List Value × ac_H × Nat × Nat} (hp : p) (h1 : Ev L xs y (t, τ) r) : Ev L xs y ((if p then t else e), τ) r := by
  rw [if_pos hp]; exact h1
theorem ev_f {p : Prop} [Decidable p] {t e : Nat} {τ : List Value × List Value × ac_H × Nat × Nat} (hp : ¬ p) (h1 : Ev L xs y (e, τ) r) : Ev L xs y ((if p then t else e), τ) r := by
  rw [if_neg hp]; exact h1
theorem ev_tp {x x' : Int32} (e : x = x') (kk : Ev L xs y (pc, ls, .int x' :: st, h, c, k) r) : Ev L xs y (pc, ls, .int x :: st, h, c, k) r := by
  rw [e]; exact kk
theorem ev_r0 (hT : ac_Tf L xs y pc = .inr (.inr (.inl 0))) : Ev L xs y (pc, ls, [], h, c, k) (.inl none, h, c, k) := ⟨1, by rw [ac_x, hT]; try rfl⟩
theorem ev_r1 {v : Int32} (hT : ac_Tf L xs y pc = .inr (.inr (.inl 1))) : Ev L xs y (pc, ls, [.int v], h, c, k) (.inl (some (.int v)), h, c, k) := ⟨1, by rw [ac_x, hT]; try rfl⟩
theorem ev_r2 {v : Int32} (hT : ac_Tf L xs y pc = .inr (.inr (.inl 2))) (hv : v = 0 ∨ v = 1) : Ev L xs y (pc, ls, [.int v], h, c, k) (.inl (some (.int v)), h, c, k) := ⟨1, by rw [ac_x, hT]; exact if_pos hv⟩
theorem ev_thr {x : Nat} (hT : ac_Tf L xs y pc = .inr (.inr (.inr x))) : Ev L xs y (pc, ls, [], h, c, k) (.inr x, h ++ [ac_junk], c + 1, k + 6) := ⟨1, by rw [ac_x, hT]; try rfl⟩
theorem ev_ia {a nx n : Nat} {i : Int32} {f : Nat → Int32} (hT : ac_Tf L xs y pc = .inl (o_ia nx)) (hh : h[a]? = some (.inl (.int, n, .inl f))) (j : Nat) (hi : i = nI j) (hj : j < n) (hn : n < 2 ^ 31) (kk : Ev L xs y (nx, ls, .int (f j) :: st, h, c, k) r) : Ev L xs y (pc, ls, .int i :: .ref a :: st, h, c, k) r := by
  subst hi
  refine ev_step hT ?_ kk
  have hc := nI_clamp (n := j) (by omega)
  have hin : ac_in (nI j) n = true := by simp only [ac_in, hc, Bool.and_eq_true, decide_eq_true_eq]; exact ⟨nI_pos (by omega), hj⟩
  simp only [o_ia, hh, hin, if_true, hc]
theorem ev_za {a nx n : Nat} {i : Int32} {f : Nat → Int32} (hT : ac_Tf L xs y pc = .inl (o_za nx)) (hh : h[a]? = some (.inl (.boolean, n, .inl f))) (j : Nat) (hi : i = nI j) (hj : j < n) (hn : n < 2 ^ 31) (kk : Ev L xs y (nx, ls, .int (f j) :: st, h, c, k) r) : Ev L xs y (pc, ls, .int i :: .ref a :: st, h, c, k) r := by
  subst hi
  refine ev_step hT ?_ kk
  have hc := nI_clamp (n := j) (by omega)
  have hin : ac_in (nI j) n = true := by simp only [ac_in, hc, Bool.and_eq_true, decide_eq_true_eq]; exact ⟨nI_pos (by omega), hj⟩
  simp only [o_za, hh, hin, if_true, hc]
theorem ev_is {a nx n : Nat} {i x : Int32} {f : Nat → Int32} (hT : ac_Tf L xs y pc = .inl (o_is nx)) (hh : h[a]? = some (.inl (.int, n, .inl f))) (j : Nat) (hi : i = nI j) (hj : j < n) (hn : n < 2 ^ 31) (hs : ac_set h a (.inl (.int, n, .inl (upd f j x))) some = some h') (kk : Ev L xs y (nx, ls, st, h', c, k) r) : Ev L xs y (pc, ls, .int x :: .int i :: .ref a :: st, h, c, k) r := by
  subst hi
  refine ev_step hT ?_ kk
  have hc := nI_clamp (n := j) (by omega)
  have hin : ac_in (nI j) n = true := by simp only [ac_in, hc, Bool.and_eq_true, decide_eq_true_eq]; exact ⟨nI_pos (by omega), hj⟩
  obtain ⟨h1, h2⟩ := ac_set_some hs
  cases h2
  simp only [o_is, hh, hin, if_true, hc]
  rw [ac_set_eq, if_pos h1]
theorem ev_zs {a nx n : Nat} {i x : Int32} {f : Nat → Int32} (hT : ac_Tf L xs y pc = .inl (o_zs nx)) (hh : h[a]? = some (.inl (.boolean, n, .inl f))) (j : Nat) (hi : i = nI j) (hj : j < n) (hn : n < 2 ^ 31) (hs : ac_set h a (.inl (.boolean, n, .inl (upd f j (vp_nar .boolean x)))) some = some h') (kk : Ev L xs y (nx, ls, st, h', c, k) r) : Ev L xs y (pc, ls, .int x :: .int i :: .ref a :: st, h, c, k) r := by
  subst hi
  refine ev_step hT ?_ kk
  have hc := nI_clamp (n := j) (by omega)
  have hin : ac_in (nI j) n = true := by simp only [ac_in, hc, Bool.and_eq_true, decide_eq_true_eq]; exact ⟨nI_pos (by omega), hj⟩
  obtain ⟨h1, h2⟩ := ac_set_some hs
  cases h2
  simp only [o_zs, hh, hin, if_true, hc]
  rw [ac_set_eq, if_pos h1]
theorem ev_div {a b : Int32} (hT : ac_Tf L xs y pc = .inl (o_div nx)) (hb : ¬ b = 0) (kk : Ev L xs y (nx, ls, .int (a / b) :: st, h, c, k) r) : Ev L xs y (pc, ls, .int b :: .int a :: st, h, c, k) r := by
  refine ev_step hT ?_ kk
  simp only [o_div, if_neg hb]
theorem ev_rem {a b : Int32} (hT : ac_Tf L xs y pc = .inl (o_rem nx)) (hb : ¬ b = 0) (kk : Ev L xs y (nx, ls, .int (ac_rm a b) :: st, h, c, k) r) : Ev L xs y (pc, ls, .int b :: .int a :: st, h, c, k) r := by
  refine ev_step hT ?_ kk
  simp only [o_rem, if_neg hb]
theorem ev_call {na : Nat} {v : Option Value} (hT : ac_Tf L xs y pc = .inr (.inl (z, na, nx, rv))) (h1 : na ≤ st.length) (h2 : (st.drop na).length ≤ 4) (h3 : na ≤ ev_nl z) (h4 : (st.take na).all ac_one = true) (h5 : ac_rv rv (st.take na).reverse h = true) (hz : Mt L xs z (st.take na).reverse h v h' c' k') (kk : Ev L xs y (nx, ls, v.toList ++ st.drop na, h', c + c', k + k') r) : Ev L xs y (pc, ls, st, h, c, k) r := by
  obtain ⟨n, hn⟩ := kk
  obtain ⟨m, hm⟩ := hz
  have e : (st.take na).reverse.length = na := by simp; omega
  rw [e] at hm
  refine ⟨max n m + 1, ?_⟩
  rw [ac_x, hT]
  dsimp only
  rw [if_pos ⟨h1, h2, h3, h4, h5⟩, ac_x_le (Nat.le_max_right n m) hm]
  exact ac_x_le (Nat.le_max_left n m) hn
theorem ev_callx {na x : Nat} (hT : ac_Tf L xs y pc = .inr (.inl (z, na, nx, rv))) (h1 : na ≤ st.length) (h2 : (st.drop na).length ≤ 4) (h3 : na ≤ ev_nl z) (h4 : (st.take na).all ac_one = true) (h5 : ac_rv rv (st.take na).reverse h = true) (hz : Mx L xs z (st.take na).reverse h x h' c' k') (hd : ac_HDf y pc x = some none) : Ev L xs y (pc, ls, st, h, c, k) (.inr x, h', c + c', k + k') := by
  obtain ⟨m, hm⟩ := hz
  have e : (st.take na).reverse.length = na := by simp; omega
  rw [e] at hm
  refine ⟨m + 1, ?_⟩
  rw [ac_x, hT]
  dsimp only
  rw [if_pos ⟨h1, h2, h3, h4, h5⟩, hm]
  dsimp only
  rw [hd]
theorem ev_callk {na x i nx' : Nat} {ls' : List Value} (hT : ac_Tf L xs y pc = .inr (.inl (z, na, nx, rv))) (h1 : na ≤ st.length) (h2 : (st.drop na).length ≤ 4) (h3 : na ≤ ev_nl z) (h4 : (st.take na).all ac_one = true) (h5 : ac_rv rv (st.take na).reverse h = true) (hz : Mx L xs z (st.take na).reverse h x h' c' k') (hd : ac_HDf y pc x = some (some (i, nx'))) (hs : ac_set ls i ac_un some = some ls') (kk : Ev L xs y (nx', ls', [], h', c + c', k + k') r) : Ev L xs y (pc, ls, st, h, c, k) r := by
  obtain ⟨n, hn⟩ := kk
  obtain ⟨m, hm⟩ := hz
  have e : (st.take na).reverse.length = na := by simp; omega
  rw [e] at hm
  obtain ⟨g1, g2⟩ := ac_set_some hs
  cases g2
  refine ⟨max n m + 1, ?_⟩
  rw [ac_x, hT]
  dsimp only
  rw [if_pos ⟨h1, h2, h3, h4, h5⟩, ac_x_le (Nat.le_max_right n m) hm]
  dsimp only
  rw [hd]
  dsimp only
  rw [ac_set_eq, if_pos g1]
  exact ac_x_le (Nat.le_max_left n m) hn
theorem ev_i0 {w : Value} (hT : ac_Tf L xs y pc = .inr (.inl (z, 0, nx, rv))) (ho : ([] : List Value).all ac_one = true) (hr : rest.length ≤ 4) (hn : 0 ≤ ev_nl z) (hv : ac_rv rv [] h = true) (hz : Mt L xs z [] h (some w) h' c' k') (kk : Ev L xs y (nx, ls, w :: rest, h', c + c', k + k') r) : Ev L xs y (pc, ls, rest, h, c, k) r := ev_call hT (Nat.le_add_left _ _) hr hn ho hv hz kk
theorem ev_v0 (hT : ac_Tf L xs y pc = .inr (.inl (z, 0, nx, rv))) (ho : ([] : List Value).all ac_one = true) (hr : rest.length ≤ 4) (hn : 0 ≤ ev_nl z) (hv : ac_rv rv [] h = true) (hz : Mt L xs z [] h none h' c' k') (kk : Ev L xs y (nx, ls, rest, h', c + c', k + k') r) : Ev L xs y (pc, ls, rest, h, c, k) r := ev_call hT (Nat.le_add_left _ _) hr hn ho hv hz kk
theorem ev_x0 {x : Nat} (hT : ac_Tf L xs y pc = .inr (.inl (z, 0, nx, rv))) (ho : ([] : List Value).all ac_one = true) (hr : rest.length ≤ 4) (hn : 0 ≤ ev_nl z) (hv : ac_rv rv [] h = true) (hz : Mx L xs z [] h x h' c' k') (hd : ac_HDf y pc x = some none) : Ev L xs y (pc, ls, rest, h, c, k) (.inr x, h', c + c', k + k') := ev_callx hT (Nat.le_add_left _ _) hr hn ho hv hz hd
theorem ev_k0 {x i nx' : Nat} {ls' : List Value} (hT : ac_Tf L xs y pc = .inr (.inl (z, 0, nx, rv))) (ho : ([] : List Value).all ac_one = true) (hr : rest.length ≤ 4) (hn : 0 ≤ ev_nl z) (hv : ac_rv rv [] h = true) (hz : Mx L xs z [] h x h' c' k') (hd : ac_HDf y pc x = some (some (i, nx'))) (hs : ac_set ls i ac_un some = some ls') (kk : Ev L xs y (nx', ls', [], h', c + c', k + k') r) : Ev L xs y (pc, ls, rest, h, c, k) r := ev_callk hT (Nat.le_add_left _ _) hr hn ho hv hz hd hs kk
theorem ev_i1 {a1 : Value} {w : Value} (hT : ac_Tf L xs y pc = .inr (.inl (z, 1, nx, rv))) (ho : ([a1] : List Value).all ac_one = true) (hr : rest.length ≤ 4) (hn : 1 ≤ ev_nl z) (hv : ac_rv rv [a1] h = true) (hz : Mt L xs z [a1] h (some w) h' c' k') (kk : Ev L xs y (nx, ls, w :: rest, h', c + c', k + k') r) : Ev L xs y (pc, ls, a1 :: rest, h, c, k) r := ev_call hT (Nat.le_add_left _ _) hr hn ho hv hz kk
theorem ev_v1 {a1 : Value} (hT : ac_Tf L xs y pc = .inr (.inl (z, 1, nx, rv))) (ho : ([a1] : List Value).all ac_one = true) (hr : rest.length ≤ 4) (hn : 1 ≤ ev_nl z) (hv : ac_rv rv [a1] h = true) (hz : Mt L xs z [a1] h none h' c' k') (kk : Ev L xs y (nx, ls, rest, h', c + c', k + k') r) : Ev L xs y (pc, ls, a1 :: rest, h, c, k) r := ev_call hT (Nat.le_add_left _ _) hr hn ho hv hz kk
theorem ev_x1 {a1 : Value} {x : Nat} (hT : ac_Tf L xs y pc = .inr (.inl (z, 1, nx, rv))) (ho : ([a1] : List Value).all ac_one = true) (hr : rest.length ≤ 4) (hn : 1 ≤ ev_nl z) (hv : ac_rv rv [a1] h = true) (hz : Mx L xs z [a1] h x h' c' k') (hd : ac_HDf y pc x = some none) : Ev L xs y (pc, ls, a1 :: rest, h, c, k) (.inr x, h', c + c', k + k') := ev_callx hT (Nat.le_add_left _ _) hr hn ho hv hz hd
theorem ev_k1 {a1 : Value} {x i nx' : Nat} {ls' : List Value} (hT : ac_Tf L xs y pc = .inr (.inl (z, 1, nx, rv))) (ho : ([a1] : List Value).all ac_one = true) (hr : rest.length ≤ 4) (hn : 1 ≤ ev_nl z) (hv : ac_rv rv [a1] h = true) (hz : Mx L xs z [a1] h x h' c' k') (hd : ac_HDf y pc x = some (some (i, nx'))) (hs : ac_set ls i ac_un some = some ls') (kk : Ev L xs y (nx', ls', [], h', c + c', k + k') r) : Ev L xs y (pc, ls, a1 :: rest, h, c, k) r := ev_callk hT (Nat.le_add_left _ _) hr hn ho hv hz hd hs kk
theorem ev_i2 {a1 a2 : Value} {w : Value} (hT : ac_Tf L xs y pc = .inr (.inl (z, 2, nx, rv))) (ho : ([a2, a1] : List Value).all ac_one = true) (hr : rest.length ≤ 4) (hn : 2 ≤ ev_nl z) (hv : ac_rv rv [a1, a2] h = true) (hz : Mt L xs z [a1, a2] h (some w) h' c' k') (kk : Ev L xs y (nx, ls, w :: rest, h', c + c', k + k') r) : Ev L xs y (pc, ls, a2 :: a1 :: rest, h, c, k) r := ev_call hT (Nat.le_add_left _ _) hr hn ho hv hz kk
theorem ev_v2 {a1 a2 : Value} (hT : ac_Tf L xs y pc = .inr (.inl (z, 2, nx, rv))) (ho : ([a2, a1] : List Value).all ac_one = true) (hr : rest.length ≤ 4) (hn : 2 ≤ ev_nl z) (hv : ac_rv rv [a1, a2] h = true) (hz : Mt L xs z [a1, a2] h none h' c' k') (kk : Ev L xs y (nx, ls, rest, h', c + c', k + k') r) : Ev L xs y (pc, ls, a2 :: a1 :: rest, h, c, k) r := ev_call hT (Nat.le_add_left _ _) hr hn ho hv hz kk
theorem ev_x2 {a1 a2 : Value} {x : Nat} (hT : ac_Tf L xs y pc = .inr (.inl (z, 2, nx, rv))) (ho : ([a2, a1] : List Value).all ac_one = true) (hr : rest.length ≤ 4) (hn : 2 ≤ ev_nl z) (hv : ac_rv rv [a1, a2] h = true) (hz : Mx L xs z [a1, a2] h x h' c' k') (hd : ac_HDf y pc x = some none) : Ev L xs y (pc, ls, a2 :: a1 :: rest, h, c, k) (.inr x, h', c + c', k + k') := ev_callx hT (Nat.le_add_left _ _) hr hn ho hv hz hd
theorem ev_k2 {a1 a2 : Value} {x i nx' : Nat} {ls' : List Value} (hT : ac_Tf L xs y pc = .inr (.inl (z, 2, nx, rv))) (ho : ([a2, a1] : List Value).all ac_one = true) (hr : rest.length ≤ 4) (hn : 2 ≤ ev_nl z) (hv : ac_rv rv [a1, a2] h = true) (hz : Mx L xs z [a1, a2] h x h' c' k') (hd : ac_HDf y pc x = some (some (i, nx'))) (hs : ac_set ls i ac_un some = some ls') (kk : Ev L xs y (nx', ls', [], h', c + c', k + k') r) : Ev L xs y (pc, ls, a2 :: a1 :: rest, h, c, k) r := ev_callk hT (Nat.le_add_left _ _) hr hn ho hv hz hd hs kk
theorem ev_i3 {a1 a2 a3 : Value} {w : Value} (hT : ac_Tf L xs y pc = .inr (.inl (z, 3, nx, rv))) (ho : ([a3, a2, a1] : List Value).all ac_one = true) (hr : rest.length ≤ 4) (hn : 3 ≤ ev_nl z) (hv : ac_rv rv [a1, a2, a3] h = true) (hz : Mt L xs z [a1, a2, a3] h (some w) h' c' k') (kk : Ev L xs y (nx, ls, w :: rest, h', c + c', k + k') r) : Ev L xs y (pc, ls, a3 :: a2 :: a1 :: rest, h, c, k) r := ev_call hT (Nat.le_add_left _ _) hr hn ho hv hz kk
theorem ev_v3 {a1 a2 a3 : Value} (hT : ac_Tf L xs y pc = .inr (.inl (z, 3, nx, rv))) (ho : ([a3, a2, a1] : List Value).all ac_one = true) (hr : rest.length ≤ 4) (hn : 3 ≤ ev_nl z) (hv : ac_rv rv [a1, a2, a3] h = true) (hz : Mt L xs z [a1, a2, a3] h none h' c' k') (kk : Ev L xs y (nx, ls, rest, h', c + c', k + k') r) : Ev L xs y (pc, ls, a3 :: a2 :: a1 :: rest, h, c, k) r := ev_call hT (Nat.le_add_left _ _) hr hn ho hv hz kk
theorem ev_x3 {a1 a2 a3 : Value} {x : Nat} (hT : ac_Tf L xs y pc = .inr (.inl (z, 3, nx, rv))) (ho : ([a3, a2, a1] : List Value).all ac_one = true) (hr : rest.length ≤ 4) (hn : 3 ≤ ev_nl z) (hv : ac_rv rv [a1, a2, a3] h = true) (hz : Mx L xs z [a1, a2, a3] h x h' c' k') (hd : ac_HDf y pc x = some none) : Ev L xs y (pc, ls, a3 :: a2 :: a1 :: rest, h, c, k) (.inr x, h', c + c', k + k') := ev_callx hT (Nat.le_add_left _ _) hr hn ho hv hz hd
theorem ev_k3 {a1 a2 a3 : Value} {x i nx' : Nat} {ls' : List Value} (hT : ac_Tf L xs y pc = .inr (.inl (z, 3, nx, rv))) (ho : ([a3, a2, a1] : List Value).all ac_one = true) (hr : rest.length ≤ 4) (hn : 3 ≤ ev_nl z) (hv : ac_rv rv [a1, a2, a3] h = true) (hz : Mx L xs z [a1, a2, a3] h x h' c' k') (hd : ac_HDf y pc x = some (some (i, nx'))) (hs : ac_set ls i ac_un some = some ls') (kk : Ev L xs y (nx', ls', [], h', c + c', k + k') r) : Ev L xs y (pc, ls, a3 :: a2 :: a1 :: rest, h, c, k) r := ev_callk hT (Nat.le_add_left _ _) hr hn ho hv hz hd hs kk
theorem ev_i4 {a1 a2 a3 a4 : Value} {w : Value} (hT : ac_Tf L xs y pc = .inr (.inl (z, 4, nx, rv))) (ho : ([a4, a3, a2, a1] : List Value).all ac_one = true) (hr : rest.length ≤ 4) (hn : 4 ≤ ev_nl z) (hv : ac_rv rv [a1, a2, a3, a4] h = true) (hz : Mt L xs z [a1, a2, a3, a4] h (some w) h' c' k') (kk : Ev L xs y (nx, ls, w :: rest, h', c + c', k + k') r) : Ev L xs y (pc, ls, a4 :: a3 :: a2 :: a1 :: rest, h, c, k) r := ev_call hT (Nat.le_add_left _ _) hr hn ho hv hz kk
theorem ev_v4 {a1 a2 a3 a4 : Value} (hT : ac_Tf L xs y pc = .inr (.inl (z, 4, nx, rv))) (ho : ([a4, a3, a2, a1] : List Value).all ac_one = true) (hr : rest.length ≤ 4) (hn : 4 ≤ ev_nl z) (hv : ac_rv rv [a1, a2, a3, a4] h = true) (hz : Mt L xs z [a1, a2, a3, a4] h none h' c' k') (kk : Ev L xs y (nx, ls, rest, h', c + c', k + k') r) : Ev L xs y (pc, ls, a4 :: a3 :: a2 :: a1 :: rest, h, c, k) r := ev_call hT (Nat.le_add_left _ _) hr hn ho hv hz kk
theorem ev_x4 {a1 a2 a3 a4 : Value} {x : Nat} (hT : ac_Tf L xs y pc = .inr (.inl (z, 4, nx, rv))) (ho : ([a4, a3, a2, a1] : List Value).all ac_one = true) (hr : rest.length ≤ 4) (hn : 4 ≤ ev_nl z) (hv : ac_rv rv [a1, a2, a3, a4] h = true) (hz : Mx L xs z [a1, a2, a3, a4] h x h' c' k') (hd : ac_HDf y pc x = some none) : Ev L xs y (pc, ls, a4 :: a3 :: a2 :: a1 :: rest, h, c, k) (.inr x, h', c + c', k + k') := ev_callx hT (Nat.le_add_left _ _) hr hn ho hv hz hd
theorem ev_k4 {a1 a2 a3 a4 : Value} {x i nx' : Nat} {ls' : List Value} (hT : ac_Tf L xs y pc = .inr (.inl (z, 4, nx, rv))) (ho : ([a4, a3, a2, a1] : List Value).all ac_one = true) (hr : rest.length ≤ 4) (hn : 4 ≤ ev_nl z) (hv : ac_rv rv [a1, a2, a3, a4] h = true) (hz : Mx L xs z [a1, a2, a3, a4] h x h' c' k') (hd : ac_HDf y pc x = some (some (i, nx'))) (hs : ac_set ls i ac_un some = some ls') (kk : Ev L xs y (nx', ls', [], h', c + c', k + k') r) : Ev L xs y (pc, ls, a4 :: a3 :: a2 :: a1 :: rest, h, c, k) r := ev_callk hT (Nat.le_add_left _ _) hr hn ho hv hz hd hs kk
theorem ev_i5 {a1 a2 a3 a4 a5 : Value} {w : Value} (hT : ac_Tf L xs y pc = .inr (.inl (z, 5, nx, rv))) (ho : ([a5, a4, a3, a2, a1] : List Value).all ac_one = true) (hr : rest.length ≤ 4) (hn : 5 ≤ ev_nl z) (hv : ac_rv rv [a1, a2, a3, a4, a5] h = true) (hz : Mt L xs z [a1, a2, a3, a4, a5] h (some w) h' c' k') (kk : Ev L xs y (nx, ls, w :: rest, h', c + c', k + k') r) : Ev L xs y (pc, ls, a5 :: a4 :: a3 :: a2 :: a1 :: rest, h, c, k) r := ev_call hT (Nat.le_add_left _ _) hr hn ho hv hz kk
theorem ev_v5 {a1 a2 a3 a4 a5 : Value} (hT : ac_Tf L xs y pc = .inr (.inl (z, 5, nx, rv))) (ho : ([a5, a4, a3, a2, a1] : List Value).all ac_one = true) (hr : rest.length ≤ 4) (hn : 5 ≤ ev_nl z) (hv : ac_rv rv [a1, a2, a3, a4, a5] h = true) (hz : Mt L xs z [a1, a2, a3, a4, a5] h none h' c' k') (kk : Ev L xs y (nx, ls, rest, h', c + c', k + k') r) : Ev L xs y (pc, ls, a5 :: a4 :: a3 :: a2 :: a1 :: rest, h, c, k) r := ev_call hT (Nat.le_add_left _ _) hr hn ho hv hz kk
theorem ev_x5 {a1 a2 a3 a4 a5 : Value} {x : Nat} (hT : ac_Tf L xs y pc = .inr (.inl (z, 5, nx, rv))) (ho : ([a5, a4, a3, a2, a1] : List Value).all ac_one = true) (hr : rest.length ≤ 4) (hn : 5 ≤ ev_nl z) (hv : ac_rv rv [a1, a2, a3, a4, a5] h = true) (hz : Mx L xs z [a1, a2, a3, a4, a5] h x h' c' k') (hd : ac_HDf y pc x = some none) : Ev L xs y (pc, ls, a5 :: a4 :: a3 :: a2 :: a1 :: rest, h, c, k) (.inr x, h', c + c', k + k') := ev_callx hT (Nat.le_add_left _ _) hr hn ho hv hz hd
theorem ev_k5 {a1 a2 a3 a4 a5 : Value} {x i nx' : Nat} {ls' : List Value} (hT : ac_Tf L xs y pc = .inr (.inl (z, 5, nx, rv))) (ho : ([a5, a4, a3, a2, a1] : List Value).all ac_one = true) (hr : rest.length ≤ 4) (hn : 5 ≤ ev_nl z) (hv : ac_rv rv [a1, a2, a3, a4, a5] h = true) (hz : Mx L xs z [a1, a2, a3, a4, a5] h x h' c' k') (hd : ac_HDf y pc x = some (some (i, nx'))) (hs : ac_set ls i ac_un some = some ls') (kk : Ev L xs y (nx', ls', [], h', c + c', k + k') r) : Ev L xs y (pc, ls, a5 :: a4 :: a3 :: a2 :: a1 :: rest, h, c, k) r := ev_callk hT (Nat.le_add_left _ _) hr hn ho hv hz hd hs kk
theorem ev_i6 {a1 a2 a3 a4 a5 a6 : Value} {w : Value} (hT : ac_Tf L xs y pc = .inr (.inl (z, 6, nx, rv))) (ho : ([a6, a5, a4, a3, a2, a1] : List Value).all ac_one = true) (hr : rest.length ≤ 4) (hn : 6 ≤ ev_nl z) (hv : ac_rv rv [a1, a2, a3, a4, a5, a6] h = true) (hz : Mt L xs z [a1, a2, a3, a4, a5, a6] h (some w) h' c' k') (kk : Ev L xs y (nx, ls, w :: rest, h', c + c', k + k') r) : Ev L xs y (pc, ls, a6 :: a5 :: a4 :: a3 :: a2 :: a1 :: rest, h, c, k) r := ev_call hT (Nat.le_add_left _ _) hr hn ho hv hz kk
theorem ev_v6 {a1 a2 a3 a4 a5 a6 : Value} (hT : ac_Tf L xs y pc = .inr (.inl (z, 6, nx, rv))) (ho : ([a6, a5, a4, a3, a2, a1] : List Value).all ac_one = true) (hr : rest.length ≤ 4) (hn : 6 ≤ ev_nl z) (hv : ac_rv rv [a1, a2, a3, a4, a5, a6] h = true) (hz : Mt L xs z [a1, a2, a3, a4, a5, a6] h none h' c' k') (kk : Ev L xs y (nx, ls, rest, h', c + c', k + k') r) : Ev L xs y (pc, ls, a6 :: a5 :: a4 :: a3 :: a2 :: a1 :: rest, h, c, k) r := ev_call hT (Nat.le_add_left _ _) hr hn ho hv hz kk
theorem ev_x6 {a1 a2 a3 a4 a5 a6 : Value} {x : Nat} (hT : ac_Tf L xs y pc = .inr (.inl (z, 6, nx, rv))) (ho : ([a6, a5, a4, a3, a2, a1] : List Value).all ac_one = true) (hr : rest.length ≤ 4) (hn : 6 ≤ ev_nl z) (hv : ac_rv rv [a1, a2, a3, a4, a5, a6] h = true) (hz : Mx L xs z [a1, a2, a3, a4, a5, a6] h x h' c' k') (hd : ac_HDf y pc x = some none) : Ev L xs y (pc, ls, a6 :: a5 :: a4 :: a3 :: a2 :: a1 :: rest, h, c, k) (.inr x, h', c + c', k + k') := ev_callx hT (Nat.le_add_left _ _) hr hn ho hv hz hd
theorem ev_k6 {a1 a2 a3 a4 a5 a6 : Value} {x i nx' : Nat} {ls' : List Value} (hT : ac_Tf L xs y pc = .inr (.inl (z, 6, nx, rv))) (ho : ([a6, a5, a4, a3, a2, a1] : List Value).all ac_one = true) (hr : rest.length ≤ 4) (hn : 6 ≤ ev_nl z) (hv : ac_rv rv [a1, a2, a3, a4, a5, a6] h = true) (hz : Mx L xs z [a1, a2, a3, a4, a5, a6] h x h' c' k') (hd : ac_HDf y pc x = some (some (i, nx'))) (hs : ac_set ls i ac_un some = some ls') (kk : Ev L xs y (nx', ls', [], h', c + c', k + k') r) : Ev L xs y (pc, ls, a6 :: a5 :: a4 :: a3 :: a2 :: a1 :: rest, h, c, k) r := ev_callk hT (Nat.le_add_left _ _) hr hn ho hv hz hd hs kk
theorem ev_i7 {a1 a2 a3 a4 a5 a6 a7 : Value} {w : Value} (hT : ac_Tf L xs y pc = .inr (.inl (z, 7, nx, rv))) (ho : ([a7, a6, a5, a4, a3, a2, a1] : List Value).all ac_one = true) (hr : rest.length ≤ 4) (hn : 7 ≤ ev_nl z) (hv : ac_rv rv [a1, a2, a3, a4, a5, a6, a7] h = true) (hz : Mt L xs z [a1, a2, a3, a4, a5, a6, a7] h (some w) h' c' k') (kk : Ev L xs y (nx, ls, w :: rest, h', c + c', k + k') r) : Ev L xs y (pc, ls, a7 :: a6 :: a5 :: a4 :: a3 :: a2 :: a1 :: rest, h, c, k) r := ev_call hT (Nat.le_add_left _ _) hr hn ho hv hz kk
theorem ev_v7 {a1 a2 a3 a4 a5 a6 a7 : Value} (hT : ac_Tf L xs y pc = .inr (.inl (z, 7, nx, rv))) (ho : ([a7, a6, a5, a4, a3, a2, a1] : List Value).all ac_one = true) (hr : rest.length ≤ 4) (hn : 7 ≤ ev_nl z) (hv : ac_rv rv [a1, a2, a3, a4, a5, a6, a7] h = true) (hz : Mt L xs z [a1, a2, a3, a4, a5, a6, a7] h none h' c' k') (kk : Ev L xs y (nx, ls, rest, h', c + c', k + k') r) : Ev L xs y (pc, ls, a7 :: a6 :: a5 :: a4 :: a3 :: a2 :: a1 :: rest, h, c, k) r := ev_call hT (Nat.le_add_left _ _) hr hn ho hv hz kk
theorem ev_x7 {a1 a2 a3 a4 a5 a6 a7 : Value} {x : Nat} (hT : ac_Tf L xs y pc = .inr (.inl (z, 7, nx, rv))) (ho : ([a7, a6, a5, a4, a3, a2, a1] : List Value).all ac_one = true) (hr : rest.length ≤ 4) (hn : 7 ≤ ev_nl z) (hv : ac_rv rv [a1, a2, a3, a4, a5, a6, a7] h = true) (hz : Mx L xs z [a1, a2, a3, a4, a5, a6, a7] h x h' c' k') (hd : ac_HDf y pc x = some none) : Ev L xs y (pc, ls, a7 :: a6 :: a5 :: a4 :: a3 :: a2 :: a1 :: rest, h, c, k) (.inr x, h', c + c', k + k') := ev_callx hT (Nat.le_add_left _ _) hr hn ho hv hz hd
theorem ev_k7 {a1 a2 a3 a4 a5 a6 a7 : Value} {x i nx' : Nat} {ls' : List Value} (hT : ac_Tf L xs y pc = .inr (.inl (z, 7, nx, rv))) (ho : ([a7, a6, a5, a4, a3, a2, a1] : List Value).all ac_one = true) (hr : rest.length ≤ 4) (hn : 7 ≤ ev_nl z) (hv : ac_rv rv [a1, a2, a3, a4, a5, a6, a7] h = true) (hz : Mx L xs z [a1, a2, a3, a4, a5, a6, a7] h x h' c' k') (hd : ac_HDf y pc x = some (some (i, nx'))) (hs : ac_set ls i ac_un some = some ls') (kk : Ev L xs y (nx', ls', [], h', c + c', k + k') r) : Ev L xs y (pc, ls, a7 :: a6 :: a5 :: a4 :: a3 :: a2 :: a1 :: rest, h, c, k) r := ev_callk hT (Nat.le_add_left _ _) hr hn ho hv hz hd hs kk
end EV
