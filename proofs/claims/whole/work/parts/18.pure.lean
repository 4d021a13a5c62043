/-! ===== methods that know no cells: their answers by trying all small numbers ===== -/
def pu_f (f : ac_S → Option ac_S) : Prop := ∀ (pc : Nat) (ls st : List Value) (h : ac_H) (c k : Nat), f (pc, ls, st, h, c, k) = (f (pc, ls, st, [], 0, 0)).map (fun σ => (σ.1, σ.2.1, σ.2.2.1, h, c, k))
theorem pu_set {α β : Type} (l : List α) (i : Nat) (v : α) (k1 : List α → Option β) (g : List α → β) (hk : ∀ l', k1 l' = some (g l')) {γ : Type} (m : β → γ) : (ac_set l i v k1).map m = ac_set l i v (fun l' => some (m (g l'))) := by
  rw [ac_set_eq, ac_set_eq]
  split
  · rw [hk]; rfl
  · rfl
theorem pu_con (v : Value) (nx : Nat) : pu_f (o_con v nx) := by
  intro pc ls st h c k
  rfl
theorem pu_ild (i nx : Nat) : pu_f (o_ild i nx) := by
  intro pc ls st h c k
  unfold o_ild
  dsimp only
  repeat' split
  all_goals first | rfl | simp_all
theorem pu_ist (i nx : Nat) : pu_f (o_ist i nx) := by
  intro pc ls st h c k
  unfold o_ist
  dsimp only
  split
  · rw [ac_set_eq, ac_set_eq]
    split <;> rfl
  · rfl
theorem pu_inc (i : Nat) (v : Int32) (nx : Nat) : pu_f (o_inc i v nx) := by
  intro pc ls st h c k
  unfold o_inc
  dsimp only
  split
  · rw [ac_set_eq, ac_set_eq]
    split <;> rfl
  · rfl
theorem pu_sw (ts : List Nat) (d : Nat) : pu_f (o_sw ts d) := by
  intro pc ls st h c k
  unfold o_sw
  dsimp only
  repeat' split
  all_goals first | rfl | simp_all
theorem pu_sta (t : UInt32) (nx : Nat) : pu_f (o_sta t nx) := by
  intro pc ls st h c k
  rfl
theorem pu_ta (tab : Nat → Nat → Int32) (nx : Nat) : pu_f (o_ta tab nx) := by
  intro pc ls st h c k
  unfold o_ta
  dsimp only
  repeat' split
  all_goals first | rfl | simp_all
theorem pu_add (nx : Nat) : pu_f (o_add nx) := by
  intro pc ls st h c k
  unfold o_add
  dsimp only
  repeat' split
  all_goals first | rfl | simp_all
theorem pu_sub (nx : Nat) : pu_f (o_sub nx) := by
  intro pc ls st h c k
  unfold o_sub
  dsimp only
  repeat' split
  all_goals first | rfl | simp_all
theorem pu_mul (nx : Nat) : pu_f (o_mul nx) := by
  intro pc ls st h c k
  unfold o_mul
  dsimp only
  repeat' split
  all_goals first | rfl | simp_all
theorem pu_and (nx : Nat) : pu_f (o_and nx) := by
  intro pc ls st h c k
  unfold o_and
  dsimp only
  repeat' split
  all_goals first | rfl | simp_all
theorem pu_or (nx : Nat) : pu_f (o_or nx) := by
  intro pc ls st h c k
  unfold o_or
  dsimp only
  repeat' split
  all_goals first | rfl | simp_all
theorem pu_xor (nx : Nat) : pu_f (o_xor nx) := by
  intro pc ls st h c k
  unfold o_xor
  dsimp only
  repeat' split
  all_goals first | rfl | simp_all
theorem pu_shl (nx : Nat) : pu_f (o_shl nx) := by
  intro pc ls st h c k
  unfold o_shl
  dsimp only
  repeat' split
  all_goals first | rfl | simp_all
theorem pu_shr (nx : Nat) : pu_f (o_shr nx) := by
  intro pc ls st h c k
  unfold o_shr
  dsimp only
  repeat' split
  all_goals first | rfl | simp_all
theorem pu_ush (nx : Nat) : pu_f (o_ush nx) := by
  intro pc ls st h c k
  unfold o_ush
  dsimp only
  repeat' split
  all_goals first | rfl | simp_all
theorem pu_neg (nx : Nat) : pu_f (o_neg nx) := by
  intro pc ls st h c k
  unfold o_neg
  dsimp only
  repeat' split
  all_goals first | rfl | simp_all
theorem pu_div (nx : Nat) : pu_f (o_div nx) := by
  intro pc ls st h c k
  unfold o_div
  dsimp only
  repeat' split
  all_goals first | rfl | simp_all
theorem pu_rem (nx : Nat) : pu_f (o_rem nx) := by
  intro pc ls st h c k
  unfold o_rem
  dsimp only
  repeat' split
  all_goals first | rfl | simp_all
theorem pu_go (nx : Nat) : pu_f (o_go nx) := by
  intro pc ls st h c k
  rfl
theorem pu_eq0 (t nx : Nat) : pu_f (o_eq0 t nx) := by
  intro pc ls st h c k
  unfold o_eq0
  dsimp only
  repeat' split
  all_goals first | rfl | simp_all
theorem pu_ne0 (t nx : Nat) : pu_f (o_ne0 t nx) := by
  intro pc ls st h c k
  unfold o_ne0
  dsimp only
  repeat' split
  all_goals first | rfl | simp_all
theorem pu_lt0 (t nx : Nat) : pu_f (o_lt0 t nx) := by
  intro pc ls st h c k
  unfold o_lt0
  dsimp only
  repeat' split
  all_goals first | rfl | simp_all
theorem pu_ge0 (t nx : Nat) : pu_f (o_ge0 t nx) := by
  intro pc ls st h c k
  unfold o_ge0
  dsimp only
  repeat' split
  all_goals first | rfl | simp_all
theorem pu_le0 (t nx : Nat) : pu_f (o_le0 t nx) := by
  intro pc ls st h c k
  unfold o_le0
  dsimp only
  repeat' split
  all_goals first | rfl | simp_all
theorem pu_gt0 (t nx : Nat) : pu_f (o_gt0 t nx) := by
  intro pc ls st h c k
  unfold o_gt0
  dsimp only
  repeat' split
  all_goals first | rfl | simp_all
theorem pu_eq (t nx : Nat) : pu_f (o_eq t nx) := by
  intro pc ls st h c k
  unfold o_eq
  dsimp only
  repeat' split
  all_goals first | rfl | simp_all
theorem pu_ne (t nx : Nat) : pu_f (o_ne t nx) := by
  intro pc ls st h c k
  unfold o_ne
  dsimp only
  repeat' split
  all_goals first | rfl | simp_all
theorem pu_lt (t nx : Nat) : pu_f (o_lt t nx) := by
  intro pc ls st h c k
  unfold o_lt
  dsimp only
  repeat' split
  all_goals first | rfl | simp_all
theorem pu_ge (t nx : Nat) : pu_f (o_ge t nx) := by
  intro pc ls st h c k
  unfold o_ge
  dsimp only
  repeat' split
  all_goals first | rfl | simp_all
theorem pu_le (t nx : Nat) : pu_f (o_le t nx) := by
  intro pc ls st h c k
  unfold o_le
  dsimp only
  repeat' split
  all_goals first | rfl | simp_all
theorem pu_gt (t nx : Nat) : pu_f (o_gt t nx) := by
  intro pc ls st h c k
  unfold o_gt
  dsimp only
  repeat' split
  all_goals first | rfl | simp_all
def ac_pu (PL : List Nat) (o : ac_O) : Prop := match o with
  | .inl f => pu_f f
  | .inr (.inl (z, _, _, rv)) => z ∈ PL ∧ rv = 0
  | .inr (.inr (.inl _)) => True
  | .inr (.inr (.inr _)) => False
theorem pu_none {PL : List Nat} : ac_pu PL (.inl (fun _ => none)) := fun _ _ _ _ _ _ => rfl
theorem pu_node {PL : List Nat} {c : Bool} {a b : ac_O} (ha : ac_pu PL a) (hb : ac_pu PL b) : ac_pu PL (bif c then a else b) := by cases c <;> assumption
theorem pu_main {T1 T2 : Nat → Nat → ac_O} {HD : ac_HD} {nl : Nat → Nat} {PL : List Nat} (hP : ∀ y ∈ PL, ∀ pc, T1 y pc = T2 y pc ∧ ac_pu PL (T2 y pc)) : ∀ (n y : Nat), y ∈ PL → ∀ (pc : Nat) (ls st : List Value) (h : ac_H) (c k : Nat), ac_x T1 HD nl n y (pc, ls, st, h, c, k) = (ac_x T2 HD nl n y (pc, ls, st, [], 0, 0)).map (fun r => (r.1, h, c, k)) ∧ ∀ x r, ac_x T2 HD nl n y (pc, ls, st, [], 0, 0) = some (x, r) → r = ([], 0, 0) ∧ ∃ v, x = .inl v := by
  intro n
  induction n with
  | zero => intro y hy pc ls st h c k; exact ⟨rfl, fun x r q => nomatch q⟩
  | succ n ih =>
    intro y hy pc ls st h c k
    obtain ⟨e1, hp⟩ := hP y hy pc
    rw [ac_x, ac_x, e1]
    cases ho : T2 y pc with
    | inl f =>
      rw [ho] at hp
      dsimp only
      have hf := hp pc ls st h c k
      have hf0 := hp pc ls st [] 0 0
      rw [hf]
      cases hs : f (pc, ls, st, [], 0, 0) with
      | none => exact ⟨rfl, fun x r q => nomatch q⟩
      | some σ =>
        rw [hs] at hf0
        obtain ⟨pc', ls', st', h', c', k'⟩ := σ
        have hf1 := Option.some.inj hf0
        cases hf1
        exact ih y hy pc' ls' st' h c k
    | inr o =>
      rw [ho] at hp
      cases o with
      | inl q =>
        obtain ⟨z, na, nx, rv⟩ := q
        obtain ⟨hz, hrv⟩ := hp
        subst hrv
        dsimp only
        by_cases hc : na ≤ st.length ∧ (st.drop na).length ≤ 4 ∧ na ≤ nl z ∧ (st.take na).all ac_one = true
        · rw [if_pos ⟨hc.1, hc.2.1, hc.2.2.1, hc.2.2.2, rfl⟩, if_pos ⟨hc.1, hc.2.1, hc.2.2.1, hc.2.2.2, rfl⟩]
          obtain ⟨i1, i2⟩ := ih z hz 0 ((st.take na).reverse ++ List.replicate (nl z - na) ac_un) [] h 0 0
          rw [i1]
          cases hq : ac_x T2 HD nl n z (0, (st.take na).reverse ++ List.replicate (nl z - na) ac_un, [], [], 0, 0) with
          | none => exact ⟨rfl, fun x r q => nomatch q⟩
          | some w =>
            obtain ⟨x, r⟩ := w
            obtain ⟨hr, v, hv⟩ := i2 x r hq
            subst hr
            subst hv
            dsimp only [Option.map_some]
            rw [Nat.add_zero, Nat.add_zero, Nat.add_zero]
            exact ih y hy nx ls (v.toList ++ st.drop na) h c k
        · rw [if_neg (fun q => hc ⟨q.1, q.2.1, q.2.2.1, q.2.2.2.1⟩), if_neg (fun q => hc ⟨q.1, q.2.1, q.2.2.1, q.2.2.2.1⟩)]
          exact ⟨rfl, fun x r q => nomatch q⟩
      | inr o =>
        cases o with
        | inl b =>
          dsimp only
          constructor
          · split <;> first | rfl | (split <;> rfl)
          · intro x r q
            split at q
            · cases q; exact ⟨rfl, _, rfl⟩
            · cases q; exact ⟨rfl, _, rfl⟩
            · split at q
              · cases q; exact ⟨rfl, _, rfl⟩
              · cases q
            · cases q
        | inr x => exact hp.elim
def pu_L : List Nat := [0, 1, 10, 11, 42, 47, 48, 49, 50, 51, 69, 70, 71, 72, 73, 74, 90, 106]
theorem pu_m0 (pc : Nat) : ac_pu pu_L (tb_0 0 (fun _ => 0) pc) := (pu_node (pu_node (pu_node (pu_node (pu_node (pu_node (pu_ild _ _) pu_none) (pu_node (pu_ild _ _) pu_none)) (pu_node (pu_node (pu_con _ _) pu_none) (pu_node (pu_node (pu_ush _) pu_none) (pu_node (pu_con _ _) pu_none)))) (pu_node (pu_node (pu_node (pu_and _) pu_none) (pu_node (pu_sub _) pu_none)) (pu_node (pu_node (pu_ist _ _) pu_none) (pu_node (pu_node (pu_ild _ _) pu_none) (pu_node (pu_con _ _) pu_none))))) (pu_node (pu_node (pu_node (pu_node (pu_and _) pu_none) (pu_node (pu_ild _ _) pu_none)) (pu_node (pu_node (pu_con _ _) pu_none) (pu_node (pu_node (pu_ush _) pu_none) (pu_node (pu_con _ _) pu_none)))) (pu_node (pu_node (pu_node (pu_and _) pu_none) (pu_node (pu_node (pu_add _) pu_none) (pu_node (pu_ist _ _) pu_none))) (pu_node (pu_node (pu_ild _ _) pu_none) (pu_node (pu_node (pu_ild _ _) pu_none) (pu_node (pu_con _ _) pu_none)))))) (pu_node (pu_node (pu_node (pu_node (pu_node (pu_ush _) pu_none) (pu_node (pu_add _) pu_none)) (pu_node (pu_node (pu_con _ _) pu_none) (pu_node (pu_node (pu_and _) pu_none) (pu_node (pu_ist _ _) pu_none)))) (pu_node (pu_node (pu_node (pu_ild _ _) pu_none) (pu_node (pu_ild _ _) pu_none)) (pu_node (pu_node (pu_con _ _) pu_none) (pu_node (pu_node (pu_ush _) pu_none) (pu_node (pu_add _) pu_none))))) (pu_node (pu_node (pu_node (pu_node (pu_ist _ _) pu_none) (pu_node (pu_ild _ _) pu_none)) (pu_node (pu_node (pu_ild _ _) pu_none) (pu_node (pu_node (pu_con _ _) pu_none) (pu_node (pu_ush _) pu_none)))) (pu_node (pu_node (pu_node (pu_add _) pu_none) (pu_node (pu_node (pu_ist _ _) pu_none) (pu_node (pu_ild _ _) pu_none))) (pu_node (pu_node (pu_con _ _) pu_none) (pu_node (pu_node (pu_and _) pu_none) (pu_node (trivial) pu_none)))))))
theorem pu_m1 (pc : Nat) : ac_pu pu_L (tb_1 0 (fun _ => 0) pc) := (pu_node (pu_node (pu_node (pu_node (pu_node (pu_ild _ _) pu_none) (pu_node (pu_ild _ _) pu_none)) (pu_node (pu_node (pu_rem _) pu_none) (pu_node (pu_ist _ _) pu_none))) (pu_node (pu_node (pu_node (pu_ild _ _) pu_none) (pu_node (pu_ild _ _) pu_none)) (pu_node (pu_node (pu_xor _) pu_none) (pu_node (pu_ge0 _ _) pu_none)))) (pu_node (pu_node (pu_node (pu_node (pu_ild _ _) pu_none) (pu_node (pu_eq0 _ _) pu_none)) (pu_node (pu_node (pu_ild _ _) pu_none) (pu_node (pu_ild _ _) pu_none))) (pu_node (pu_node (pu_node (pu_add _) pu_none) (pu_node (trivial) pu_none)) (pu_node (pu_node (pu_ild _ _) pu_none) (pu_node (trivial) pu_none)))))
theorem pu_m10 (pc : Nat) : ac_pu pu_L (tb_10 0 (fun _ => 0) pc) := (pu_node (pu_node (pu_node (pu_node (pu_ild _ _) pu_none) (pu_node (pu_node (pu_eq0 _ _) pu_none) (pu_node (pu_ild _ _) pu_none))) (pu_node (pu_node (pu_node (pu_con _ _) pu_none) (pu_node (pu_ne _ _) pu_none)) (pu_node (pu_node (pu_con _ _) pu_none) (pu_node (trivial) pu_none)))) (pu_node (pu_node (pu_node (pu_ild _ _) pu_none) (pu_node (pu_node (pu_con _ _) pu_none) (pu_node (pu_ge _ _) pu_none))) (pu_node (pu_node (pu_node (pu_con _ _) pu_none) (pu_node (pu_go _) pu_none)) (pu_node (pu_node (pu_con _ _) pu_none) (pu_node (trivial) pu_none)))))
theorem pu_m11 (pc : Nat) : ac_pu pu_L (tb_11 0 (fun _ => 0) pc) := (pu_node (pu_node (pu_node (pu_node (pu_node (pu_ild _ _) pu_none) (pu_node (pu_node (pu_ne0 _ _) pu_none) (pu_node (pu_con _ _) pu_none))) (pu_node (pu_node (pu_node (trivial) pu_none) (pu_node (pu_ild _ _) pu_none)) (pu_node (pu_node (pu_con _ _) pu_none) (pu_node (pu_ne _ _) pu_none)))) (pu_node (pu_node (pu_node (pu_con _ _) pu_none) (pu_node (pu_node (trivial) pu_none) (pu_node (pu_ild _ _) pu_none))) (pu_node (pu_node (pu_node (pu_con _ _) pu_none) (pu_node (pu_eq _ _) pu_none)) (pu_node (pu_node (pu_ild _ _) pu_none) (pu_node (pu_con _ _) pu_none))))) (pu_node (pu_node (pu_node (pu_node (pu_ne _ _) pu_none) (pu_node (pu_node (pu_con _ _) pu_none) (pu_node (pu_go _) pu_none))) (pu_node (pu_node (pu_node (pu_con _ _) pu_none) (pu_node (pu_ist _ _) pu_none)) (pu_node (pu_node (pu_ild _ _) pu_none) (pu_node (pu_eq0 _ _) pu_none)))) (pu_node (pu_node (pu_node (pu_node (pu_con _ _) pu_none) (pu_node (pu_go _) pu_none)) (pu_node (pu_node (pu_con _ _) pu_none) (pu_node (pu_ild _ _) pu_none))) (pu_node (pu_node (pu_node (pu_con _ _) pu_none) (pu_node (pu_rem _) pu_none)) (pu_node (pu_node (pu_add _) pu_none) (pu_node (trivial) pu_none))))))
theorem pu_m42 (pc : Nat) : ac_pu pu_L (tb_42 0 (fun _ => 0) pc) := (pu_node (pu_node (pu_node (pu_node (pu_node (pu_ild _ _) pu_none) (pu_node (pu_con _ _) pu_none)) (pu_node (pu_node (pu_lt _ _) pu_none) (pu_node (pu_node (pu_ild _ _) pu_none) (pu_node (pu_con _ _) pu_none)))) (pu_node (pu_node (pu_node (pu_gt _ _) pu_none) (pu_node (pu_ild _ _) pu_none)) (pu_node (pu_node (pu_con _ _) pu_none) (pu_node (pu_node (pu_rem _) pu_none) (pu_node (pu_ne0 _ _) pu_none))))) (pu_node (pu_node (pu_node (pu_node (pu_con _ _) pu_none) (pu_node (pu_go _) pu_none)) (pu_node (pu_node (pu_con _ _) pu_none) (pu_node (pu_node (pu_ist _ _) pu_none) (pu_node (pu_ild _ _) pu_none)))) (pu_node (pu_node (pu_node (pu_eq0 _ _) pu_none) (pu_node (pu_ild _ _) pu_none)) (pu_node (pu_node (pu_go _) pu_none) (pu_node (pu_node (pu_con _ _) pu_none) (pu_node (trivial) pu_none))))))
theorem pu_m47 (pc : Nat) : ac_pu pu_L (tb_47 0 (fun _ => 0) pc) := (pu_node (pu_node (pu_node (pu_node (pu_ild _ _) pu_none) (pu_node (pu_ild _ _) pu_none)) (pu_node (pu_node (pu_shr _) pu_none) (pu_node (pu_node (pu_con _ _) pu_none) (pu_node (pu_and _) pu_none)))) (pu_node (pu_node (pu_node (pu_eq0 _ _) pu_none) (pu_node (pu_con _ _) pu_none)) (pu_node (pu_node (pu_go _) pu_none) (pu_node (pu_node (pu_con _ _) pu_none) (pu_node (trivial) pu_none)))))
theorem pu_m48 (pc : Nat) : ac_pu pu_L (tb_48 0 (fun _ => 0) pc) := (pu_node (pu_node (pu_node (pu_node (pu_node (pu_node (pu_ild _ _) pu_none) (pu_node (pu_ne0 _ _) pu_none)) (pu_node (pu_node (pu_ild _ _) pu_none) (pu_node (⟨by decide, rfl⟩) pu_none))) (pu_node (pu_node (pu_node (trivial) pu_none) (pu_node (pu_con _ _) pu_none)) (pu_node (pu_node (pu_ist _ _) pu_none) (pu_node (pu_con _ _) pu_none)))) (pu_node (pu_node (pu_node (pu_node (pu_ist _ _) pu_none) (pu_node (pu_ild _ _) pu_none)) (pu_node (pu_node (pu_con _ _) pu_none) (pu_node (pu_ge _ _) pu_none))) (pu_node (pu_node (pu_node (pu_ild _ _) pu_none) (pu_node (pu_ild _ _) pu_none)) (pu_node (pu_node (⟨by decide, rfl⟩) pu_none) (pu_node (pu_eq0 _ _) pu_none))))) (pu_node (pu_node (pu_node (pu_node (pu_node (pu_ild _ _) pu_none) (pu_node (pu_ild _ _) pu_none)) (pu_node (pu_node (pu_con _ _) pu_none) (pu_node (pu_ne _ _) pu_none))) (pu_node (pu_node (pu_node (pu_sta _ _) pu_none) (pu_node (pu_ild _ _) pu_none)) (pu_node (pu_node (pu_ta _ _) pu_none) (pu_node (pu_go _) pu_none)))) (pu_node (pu_node (pu_node (pu_node (pu_sta _ _) pu_none) (pu_node (pu_ild _ _) pu_none)) (pu_node (pu_node (pu_ta _ _) pu_none) (pu_node (pu_add _) pu_none))) (pu_node (pu_node (pu_node (pu_ist _ _) pu_none) (pu_node (pu_inc _ _ _) pu_none)) (pu_node (pu_node (pu_go _) pu_none) (pu_node (pu_node (pu_ild _ _) pu_none) (pu_node (trivial) pu_none)))))))
theorem pu_m49 (pc : Nat) : ac_pu pu_L (tb_49 0 (fun _ => 0) pc) := (pu_node (pu_node (pu_node (pu_node (pu_ild _ _) pu_none) (pu_node (pu_node (pu_ild _ _) pu_none) (pu_node (pu_shl _) pu_none))) (pu_node (pu_node (pu_ild _ _) pu_none) (pu_node (pu_node (pu_con _ _) pu_none) (pu_node (pu_ild _ _) pu_none)))) (pu_node (pu_node (pu_node (pu_sub _) pu_none) (pu_node (pu_node (pu_shr _) pu_none) (pu_node (pu_or _) pu_none))) (pu_node (pu_node (pu_con _ _) pu_none) (pu_node (pu_node (pu_and _) pu_none) (pu_node (trivial) pu_none)))))
theorem pu_m50 (pc : Nat) : ac_pu pu_L (tb_50 0 (fun _ => 0) pc) := (pu_node (pu_node (pu_node (pu_node (pu_ild _ _) pu_none) (pu_node (pu_con _ _) pu_none)) (pu_node (pu_node (pu_and _) pu_none) (pu_node (pu_node (pu_con _ _) pu_none) (pu_node (⟨by decide, rfl⟩) pu_none)))) (pu_node (pu_node (pu_node (pu_ild _ _) pu_none) (pu_node (pu_con _ _) pu_none)) (pu_node (pu_node (pu_and _) pu_none) (pu_node (pu_node (pu_or _) pu_none) (pu_node (trivial) pu_none)))))
theorem pu_m51 (pc : Nat) : ac_pu pu_L (tb_51 0 (fun _ => 0) pc) := (pu_node (pu_node (pu_node (pu_node (pu_node (pu_node (pu_node (pu_ild _ _) pu_none) (pu_node (pu_con _ _) pu_none)) (pu_node (pu_node (pu_and _) pu_none) (pu_node (pu_ist _ _) pu_none))) (pu_node (pu_node (pu_node (pu_ild _ _) pu_none) (pu_node (pu_con _ _) pu_none)) (pu_node (pu_node (pu_and _) pu_none) (pu_node (pu_node (pu_ist _ _) pu_none) (pu_node (pu_ild _ _) pu_none))))) (pu_node (pu_node (pu_node (pu_node (pu_eq0 _ _) pu_none) (pu_node (pu_ild _ _) pu_none)) (pu_node (pu_node (pu_con _ _) pu_none) (pu_node (pu_node (pu_eq _ _) pu_none) (pu_node (pu_ild _ _) pu_none)))) (pu_node (pu_node (pu_node (pu_con _ _) pu_none) (pu_node (⟨by decide, rfl⟩) pu_none)) (pu_node (pu_node (pu_ild _ _) pu_none) (pu_node (pu_node (pu_ne _ _) pu_none) (pu_node (pu_ild _ _) pu_none)))))) (pu_node (pu_node (pu_node (pu_node (pu_node (pu_ild _ _) pu_none) (pu_node (pu_ne0 _ _) pu_none)) (pu_node (pu_node (pu_con _ _) pu_none) (pu_node (pu_go _) pu_none))) (pu_node (pu_node (pu_node (pu_con _ _) pu_none) (pu_node (⟨by decide, rfl⟩) pu_none)) (pu_node (pu_node (pu_ild _ _) pu_none) (pu_node (pu_node (pu_or _) pu_none) (pu_node (trivial) pu_none))))) (pu_node (pu_node (pu_node (pu_node (pu_ild _ _) pu_none) (pu_node (pu_con _ _) pu_none)) (pu_node (pu_node (pu_eq _ _) pu_none) (pu_node (pu_node (pu_ild _ _) pu_none) (pu_node (pu_con _ _) pu_none)))) (pu_node (pu_node (pu_node (pu_ne _ _) pu_none) (pu_node (pu_ild _ _) pu_none)) (pu_node (pu_node (pu_con _ _) pu_none) (pu_node (pu_node (pu_xor _) pu_none) (pu_node (pu_ild _ _) pu_none))))))) (pu_node (pu_node (pu_node (pu_node (pu_node (pu_node (pu_or _) pu_none) (pu_node (trivial) pu_none)) (pu_node (pu_node (pu_ild _ _) pu_none) (pu_node (pu_con _ _) pu_none))) (pu_node (pu_node (pu_node (⟨by decide, rfl⟩) pu_none) (pu_node (pu_ist _ _) pu_none)) (pu_node (pu_node (pu_ild _ _) pu_none) (pu_node (pu_node (pu_con _ _) pu_none) (pu_node (⟨by decide, rfl⟩) pu_none))))) (pu_node (pu_node (pu_node (pu_node (pu_ist _ _) pu_none) (pu_node (pu_ild _ _) pu_none)) (pu_node (pu_node (pu_eq0 _ _) pu_none) (pu_node (pu_node (pu_ild _ _) pu_none) (pu_node (⟨by decide, rfl⟩) pu_none)))) (pu_node (pu_node (pu_node (pu_con _ _) pu_none) (pu_node (pu_ne _ _) pu_none)) (pu_node (pu_node (pu_ild _ _) pu_none) (pu_node (pu_node (pu_ild _ _) pu_none) (pu_node (pu_or _) pu_none)))))) (pu_node (pu_node (pu_node (pu_node (pu_node (trivial) pu_none) (pu_node (pu_ild _ _) pu_none)) (pu_node (pu_node (pu_ild _ _) pu_none) (pu_node (pu_and _) pu_none))) (pu_node (pu_node (pu_node (pu_ist _ _) pu_none) (pu_node (pu_ild _ _) pu_none)) (pu_node (pu_node (pu_ne0 _ _) pu_none) (pu_node (pu_node (pu_ild _ _) pu_none) (pu_node (⟨by decide, rfl⟩) pu_none))))) (pu_node (pu_node (pu_node (pu_node (pu_con _ _) pu_none) (pu_node (pu_ne _ _) pu_none)) (pu_node (pu_node (pu_ild _ _) pu_none) (pu_node (pu_node (pu_eq0 _ _) pu_none) (pu_node (pu_ild _ _) pu_none)))) (pu_node (pu_node (pu_node (pu_con _ _) pu_none) (pu_node (pu_or _) pu_none)) (pu_node (pu_node (trivial) pu_none) (pu_node (pu_node (pu_ild _ _) pu_none) (pu_node (trivial) pu_none))))))))
theorem pu_m69 (pc : Nat) : ac_pu pu_L (tb_69 0 (fun _ => 0) pc) := (pu_node (pu_node (pu_node (pu_node (pu_node (pu_node (pu_ild _ _) pu_none) (pu_node (pu_sw _ _) pu_none)) (pu_node (pu_node (pu_ild _ _) pu_none) (pu_node (pu_node (pu_ne0 _ _) pu_none) (pu_node (pu_con _ _) pu_none)))) (pu_node (pu_node (pu_node (pu_go _) pu_none) (pu_node (pu_con _ _) pu_none)) (pu_node (pu_node (trivial) pu_none) (pu_node (pu_node (pu_ild _ _) pu_none) (pu_node (pu_ne0 _ _) pu_none))))) (pu_node (pu_node (pu_node (pu_node (pu_con _ _) pu_none) (pu_node (pu_go _) pu_none)) (pu_node (pu_node (pu_con _ _) pu_none) (pu_node (pu_node (trivial) pu_none) (pu_node (pu_ild _ _) pu_none)))) (pu_node (pu_node (pu_node (pu_ne0 _ _) pu_none) (pu_node (pu_con _ _) pu_none)) (pu_node (pu_node (pu_go _) pu_none) (pu_node (pu_node (pu_con _ _) pu_none) (pu_node (trivial) pu_none)))))) (pu_node (pu_node (pu_node (pu_node (pu_node (pu_ild _ _) pu_none) (pu_node (pu_ne0 _ _) pu_none)) (pu_node (pu_node (pu_con _ _) pu_none) (pu_node (pu_node (pu_go _) pu_none) (pu_node (pu_con _ _) pu_none)))) (pu_node (pu_node (pu_node (trivial) pu_none) (pu_node (pu_ild _ _) pu_none)) (pu_node (pu_node (pu_ne0 _ _) pu_none) (pu_node (pu_node (pu_con _ _) pu_none) (pu_node (pu_go _) pu_none))))) (pu_node (pu_node (pu_node (pu_node (pu_con _ _) pu_none) (pu_node (trivial) pu_none)) (pu_node (pu_node (pu_ild _ _) pu_none) (pu_node (pu_node (pu_ne0 _ _) pu_none) (pu_node (pu_con _ _) pu_none)))) (pu_node (pu_node (pu_node (pu_go _) pu_none) (pu_node (pu_con _ _) pu_none)) (pu_node (pu_node (trivial) pu_none) (pu_node (pu_node (pu_con _ _) pu_none) (pu_node (trivial) pu_none)))))))
theorem pu_m70 (pc : Nat) : ac_pu pu_L (tb_70 0 (fun _ => 0) pc) := (pu_node (pu_node (pu_node (pu_node (pu_ild _ _) pu_none) (pu_node (pu_ild _ _) pu_none)) (pu_node (pu_node (pu_shr _) pu_none) (pu_node (pu_node (pu_con _ _) pu_none) (pu_node (pu_and _) pu_none)))) (pu_node (pu_node (pu_node (pu_con _ _) pu_none) (pu_node (pu_node (pu_ne _ _) pu_none) (pu_node (pu_con _ _) pu_none))) (pu_node (pu_node (pu_go _) pu_none) (pu_node (pu_node (pu_con _ _) pu_none) (pu_node (trivial) pu_none)))))
theorem pu_m71 (pc : Nat) : ac_pu pu_L (tb_71 0 (fun _ => 0) pc) := (pu_node (pu_node (pu_node (pu_node (pu_node (pu_con _ _) pu_none) (pu_node (pu_ist _ _) pu_none)) (pu_node (pu_node (pu_con _ _) pu_none) (pu_node (pu_node (pu_ist _ _) pu_none) (pu_node (pu_ild _ _) pu_none)))) (pu_node (pu_node (pu_node (pu_con _ _) pu_none) (pu_node (pu_ge _ _) pu_none)) (pu_node (pu_node (pu_ild _ _) pu_none) (pu_node (pu_node (pu_ild _ _) pu_none) (pu_node (⟨by decide, rfl⟩) pu_none))))) (pu_node (pu_node (pu_node (pu_node (pu_eq0 _ _) pu_none) (pu_node (pu_ild _ _) pu_none)) (pu_node (pu_node (pu_con _ _) pu_none) (pu_node (pu_node (pu_add _) pu_none) (pu_node (pu_go _) pu_none)))) (pu_node (pu_node (pu_node (pu_ild _ _) pu_none) (pu_node (pu_node (pu_ist _ _) pu_none) (pu_node (pu_inc _ _ _) pu_none))) (pu_node (pu_node (pu_go _) pu_none) (pu_node (pu_node (pu_ild _ _) pu_none) (pu_node (trivial) pu_none))))))
theorem pu_m72 (pc : Nat) : ac_pu pu_L (tb_72 0 (fun _ => 0) pc) := (pu_node (pu_node (pu_node (pu_node (pu_node (pu_ild _ _) pu_none) (pu_node (pu_node (pu_con _ _) pu_none) (pu_node (pu_and _) pu_none))) (pu_node (pu_node (pu_node (pu_ist _ _) pu_none) (pu_node (pu_con _ _) pu_none)) (pu_node (pu_node (pu_ist _ _) pu_none) (pu_node (pu_ild _ _) pu_none)))) (pu_node (pu_node (pu_node (pu_con _ _) pu_none) (pu_node (pu_node (pu_ge _ _) pu_none) (pu_node (pu_ild _ _) pu_none))) (pu_node (pu_node (pu_node (pu_ild _ _) pu_none) (pu_node (⟨by decide, rfl⟩) pu_none)) (pu_node (pu_node (pu_eq0 _ _) pu_none) (pu_node (pu_ild _ _) pu_none))))) (pu_node (pu_node (pu_node (pu_node (pu_con _ _) pu_none) (pu_node (pu_node (pu_ild _ _) pu_none) (pu_node (pu_ild _ _) pu_none))) (pu_node (pu_node (pu_node (pu_add _) pu_none) (pu_node (pu_con _ _) pu_none)) (pu_node (pu_node (pu_rem _) pu_none) (pu_node (pu_shl _) pu_none)))) (pu_node (pu_node (pu_node (pu_node (pu_or _) pu_none) (pu_node (pu_go _) pu_none)) (pu_node (pu_node (pu_ild _ _) pu_none) (pu_node (pu_ist _ _) pu_none))) (pu_node (pu_node (pu_node (pu_inc _ _ _) pu_none) (pu_node (pu_go _) pu_none)) (pu_node (pu_node (pu_ild _ _) pu_none) (pu_node (trivial) pu_none))))))
theorem pu_m73 (pc : Nat) : ac_pu pu_L (tb_73 0 (fun _ => 0) pc) := (pu_node (pu_node (pu_node (pu_node (pu_node (pu_node (pu_node (pu_ild _ _) pu_none) (pu_node (pu_con _ _) pu_none)) (pu_node (pu_node (pu_and _) pu_none) (pu_node (pu_node (pu_ist _ _) pu_none) (pu_node (pu_ild _ _) pu_none)))) (pu_node (pu_node (pu_node (pu_con _ _) pu_none) (pu_node (pu_node (pu_le _ _) pu_none) (pu_node (pu_con _ _) pu_none))) (pu_node (pu_node (pu_go _) pu_none) (pu_node (pu_node (pu_con _ _) pu_none) (pu_node (pu_ist _ _) pu_none))))) (pu_node (pu_node (pu_node (pu_node (pu_ild _ _) pu_none) (pu_node (pu_node (pu_con _ _) pu_none) (pu_node (pu_eq _ _) pu_none))) (pu_node (pu_node (pu_ild _ _) pu_none) (pu_node (pu_node (pu_con _ _) pu_none) (pu_node (pu_ne _ _) pu_none)))) (pu_node (pu_node (pu_node (pu_ild _ _) pu_none) (pu_node (pu_node (pu_con _ _) pu_none) (pu_node (pu_xor _) pu_none))) (pu_node (pu_node (trivial) pu_none) (pu_node (pu_node (pu_con _ _) pu_none) (pu_node (pu_ist _ _) pu_none)))))) (pu_node (pu_node (pu_node (pu_node (pu_node (pu_ild _ _) pu_none) (pu_node (pu_node (pu_con _ _) pu_none) (pu_node (pu_ge _ _) pu_none))) (pu_node (pu_node (pu_con _ _) pu_none) (pu_node (pu_node (pu_ild _ _) pu_none) (pu_node (pu_shl _) pu_none)))) (pu_node (pu_node (pu_node (pu_con _ _) pu_none) (pu_node (pu_node (pu_ild _ _) pu_none) (pu_node (pu_con _ _) pu_none))) (pu_node (pu_node (pu_add _) pu_none) (pu_node (pu_node (pu_con _ _) pu_none) (pu_node (pu_rem _) pu_none))))) (pu_node (pu_node (pu_node (pu_node (pu_shl _) pu_none) (pu_node (pu_node (pu_or _) pu_none) (pu_node (pu_ist _ _) pu_none))) (pu_node (pu_node (pu_con _ _) pu_none) (pu_node (pu_node (pu_ild _ _) pu_none) (pu_node (pu_con _ _) pu_none)))) (pu_node (pu_node (pu_node (pu_add _) pu_none) (pu_node (pu_node (pu_con _ _) pu_none) (pu_node (pu_rem _) pu_none))) (pu_node (pu_node (pu_shl _) pu_none) (pu_node (pu_node (pu_con _ _) pu_none) (pu_node (pu_ild _ _) pu_none))))))) (pu_node (pu_node (pu_node (pu_node (pu_node (pu_node (pu_con _ _) pu_none) (pu_node (pu_add _) pu_none)) (pu_node (pu_node (pu_con _ _) pu_none) (pu_node (pu_node (pu_rem _) pu_none) (pu_node (pu_shl _) pu_none)))) (pu_node (pu_node (pu_node (pu_or _) pu_none) (pu_node (pu_node (pu_ist _ _) pu_none) (pu_node (pu_ild _ _) pu_none))) (pu_node (pu_node (pu_ild _ _) pu_none) (pu_node (pu_node (pu_eq _ _) pu_none) (pu_node (pu_ild _ _) pu_none))))) (pu_node (pu_node (pu_node (pu_node (pu_con _ _) pu_none) (pu_node (pu_node (pu_ild _ _) pu_none) (pu_node (pu_sub _) pu_none))) (pu_node (pu_node (pu_ne _ _) pu_none) (pu_node (pu_node (pu_ild _ _) pu_none) (pu_node (pu_ild _ _) pu_none)))) (pu_node (pu_node (pu_node (pu_ne0 _ _) pu_none) (pu_node (pu_node (pu_con _ _) pu_none) (pu_node (pu_go _) pu_none))) (pu_node (pu_node (pu_con _ _) pu_none) (pu_node (pu_node (⟨by decide, rfl⟩) pu_none) (pu_node (trivial) pu_none)))))) (pu_node (pu_node (pu_node (pu_node (pu_node (pu_ild _ _) pu_none) (pu_node (pu_node (pu_con _ _) pu_none) (pu_node (pu_ild _ _) pu_none))) (pu_node (pu_node (pu_shl _) pu_none) (pu_node (pu_node (pu_ne _ _) pu_none) (pu_node (pu_ild _ _) pu_none)))) (pu_node (pu_node (pu_node (pu_eq0 _ _) pu_none) (pu_node (pu_node (pu_ild _ _) pu_none) (pu_node (trivial) pu_none))) (pu_node (pu_node (pu_ild _ _) pu_none) (pu_node (pu_node (pu_ild _ _) pu_none) (pu_node (pu_ne _ _) pu_none))))) (pu_node (pu_node (pu_node (pu_node (pu_ild _ _) pu_none) (pu_node (pu_node (pu_ne0 _ _) pu_none) (pu_node (pu_con _ _) pu_none))) (pu_node (pu_node (pu_con _ _) pu_none) (pu_node (pu_node (pu_ild _ _) pu_none) (pu_node (pu_shl _) pu_none)))) (pu_node (pu_node (pu_node (pu_or _) pu_none) (pu_node (pu_node (trivial) pu_none) (pu_node (pu_inc _ _ _) pu_none))) (pu_node (pu_node (pu_go _) pu_none) (pu_node (pu_node (pu_ild _ _) pu_none) (pu_node (trivial) pu_none))))))))
theorem pu_m74 (pc : Nat) : ac_pu pu_L (tb_74 0 (fun _ => 0) pc) := (pu_node (pu_node (pu_node (pu_node (pu_node (pu_ild _ _) pu_none) (pu_node (pu_ist _ _) pu_none)) (pu_node (pu_node (pu_con _ _) pu_none) (pu_node (pu_node (pu_ist _ _) pu_none) (pu_node (pu_ild _ _) pu_none)))) (pu_node (pu_node (pu_node (pu_con _ _) pu_none) (pu_node (pu_ge _ _) pu_none)) (pu_node (pu_node (pu_ild _ _) pu_none) (pu_node (pu_node (pu_ild _ _) pu_none) (pu_node (⟨by decide, rfl⟩) pu_none))))) (pu_node (pu_node (pu_node (pu_node (pu_ild _ _) pu_none) (pu_node (pu_ne _ _) pu_none)) (pu_node (pu_node (pu_ild _ _) pu_none) (pu_node (pu_node (pu_go _) pu_none) (pu_node (pu_ild _ _) pu_none)))) (pu_node (pu_node (pu_node (pu_ist _ _) pu_none) (pu_node (pu_inc _ _ _) pu_none)) (pu_node (pu_node (pu_go _) pu_none) (pu_node (pu_node (pu_ild _ _) pu_none) (pu_node (trivial) pu_none))))))
theorem pu_m90 (pc : Nat) : ac_pu pu_L (tb_90 0 (fun _ => 0) pc) := (pu_node (pu_node (pu_node (pu_node (pu_node (pu_ild _ _) pu_none) (pu_node (pu_ist _ _) pu_none)) (pu_node (pu_node (pu_con _ _) pu_none) (pu_node (pu_node (pu_ist _ _) pu_none) (pu_node (pu_ild _ _) pu_none)))) (pu_node (pu_node (pu_node (pu_con _ _) pu_none) (pu_node (pu_ge _ _) pu_none)) (pu_node (pu_node (pu_ild _ _) pu_none) (pu_node (pu_node (pu_ild _ _) pu_none) (pu_node (⟨by decide, rfl⟩) pu_none))))) (pu_node (pu_node (pu_node (pu_node (pu_eq0 _ _) pu_none) (pu_node (pu_ild _ _) pu_none)) (pu_node (pu_node (pu_ne0 _ _) pu_none) (pu_node (pu_node (pu_ild _ _) pu_none) (pu_node (trivial) pu_none)))) (pu_node (pu_node (pu_node (pu_inc _ _ _) pu_none) (pu_node (pu_inc _ _ _) pu_none)) (pu_node (pu_node (pu_go _) pu_none) (pu_node (pu_node (pu_con _ _) pu_none) (pu_node (trivial) pu_none))))))
theorem pu_m106 (pc : Nat) : ac_pu pu_L (tb_106 0 (fun _ => 0) pc) := (pu_node (pu_node (pu_node (pu_node (pu_node (pu_con _ _) pu_none) (pu_node (pu_node (pu_ist _ _) pu_none) (pu_node (pu_con _ _) pu_none))) (pu_node (pu_node (pu_node (pu_ist _ _) pu_none) (pu_node (pu_ild _ _) pu_none)) (pu_node (pu_node (pu_con _ _) pu_none) (pu_node (pu_ge _ _) pu_none)))) (pu_node (pu_node (pu_node (pu_ild _ _) pu_none) (pu_node (pu_node (pu_ild _ _) pu_none) (pu_node (⟨by decide, rfl⟩) pu_none))) (pu_node (pu_node (pu_node (pu_eq0 _ _) pu_none) (pu_node (pu_ild _ _) pu_none)) (pu_node (pu_node (pu_ild _ _) pu_none) (pu_node (pu_ne0 _ _) pu_none))))) (pu_node (pu_node (pu_node (pu_node (pu_con _ _) pu_none) (pu_node (pu_node (pu_go _) pu_none) (pu_node (pu_ild _ _) pu_none))) (pu_node (pu_node (pu_node (pu_ild _ _) pu_none) (pu_node (pu_con _ _) pu_none)) (pu_node (pu_node (pu_sub _) pu_none) (pu_node (⟨by decide, rfl⟩) pu_none)))) (pu_node (pu_node (pu_node (pu_node (pu_add _) pu_none) (pu_node (pu_go _) pu_none)) (pu_node (pu_node (pu_ild _ _) pu_none) (pu_node (pu_ist _ _) pu_none))) (pu_node (pu_node (pu_node (pu_inc _ _ _) pu_none) (pu_node (pu_go _) pu_none)) (pu_node (pu_node (pu_ild _ _) pu_none) (pu_node (trivial) pu_none))))))
theorem pu_all (L : Nat) (xs : Nat → Int32) : ∀ y ∈ pu_L, ∀ pc, ac_Tf L xs y pc = ac_Tf 0 (fun _ => 0) y pc ∧ ac_pu pu_L (ac_Tf 0 (fun _ => 0) y pc) := List.forall_mem_cons.mpr ⟨fun pc => ⟨rfl, pu_m0 pc⟩, List.forall_mem_cons.mpr ⟨fun pc => ⟨rfl, pu_m1 pc⟩, List.forall_mem_cons.mpr ⟨fun pc => ⟨rfl, pu_m10 pc⟩, List.forall_mem_cons.mpr ⟨fun pc => ⟨rfl, pu_m11 pc⟩, List.forall_mem_cons.mpr ⟨fun pc => ⟨rfl, pu_m42 pc⟩, List.forall_mem_cons.mpr ⟨fun pc => ⟨rfl, pu_m47 pc⟩, List.forall_mem_cons.mpr ⟨fun pc => ⟨rfl, pu_m48 pc⟩, List.forall_mem_cons.mpr ⟨fun pc => ⟨rfl, pu_m49 pc⟩, List.forall_mem_cons.mpr ⟨fun pc => ⟨rfl, pu_m50 pc⟩, List.forall_mem_cons.mpr ⟨fun pc => ⟨rfl, pu_m51 pc⟩, List.forall_mem_cons.mpr ⟨fun pc => ⟨rfl, pu_m69 pc⟩, List.forall_mem_cons.mpr ⟨fun pc => ⟨rfl, pu_m70 pc⟩, List.forall_mem_cons.mpr ⟨fun pc => ⟨rfl, pu_m71 pc⟩, List.forall_mem_cons.mpr ⟨fun pc => ⟨rfl, pu_m72 pc⟩, List.forall_mem_cons.mpr ⟨fun pc => ⟨rfl, pu_m73 pc⟩, List.forall_mem_cons.mpr ⟨fun pc => ⟨rfl, pu_m74 pc⟩, List.forall_mem_cons.mpr ⟨fun pc => ⟨rfl, pu_m90 pc⟩, List.forall_mem_cons.mpr ⟨fun pc => ⟨rfl, pu_m106 pc⟩, fun _ h => nomatch h⟩⟩⟩⟩⟩⟩⟩⟩⟩⟩⟩⟩⟩⟩⟩⟩⟩⟩
/-- a try: the answer of a method that knows no cells -/
def pu_try (n y : Nat) (as : List Value) : Option Int32 := match ac_x (ac_Tf 0 (fun _ => 0)) ac_HDf ev_nl n y (0, as ++ List.replicate (ev_nl y - as.length) ac_un, [], [], 0, 0) with
  | some (.inl (some (.int v)), _) => some v
  | _ => none
theorem pu_mt {L : Nat} {xs : Nat → Int32} {n y : Nat} {as : List Value} {v : Int32} (hy : y ∈ pu_L) (h : pu_try n y as = some v) (H : ac_H) : Mt L xs y as H (some (.int v)) H 0 0 := by
  obtain ⟨i1, i2⟩ := pu_main (pu_all L xs) (HD := ac_HDf) (nl := ev_nl) n y hy 0 (as ++ List.replicate (ev_nl y - as.length) ac_un) [] H 0 0
  refine ⟨n, ?_⟩
  rw [i1]
  unfold pu_try at h
  cases hq : ac_x (ac_Tf 0 (fun _ => 0)) ac_HDf ev_nl n y (0, as ++ List.replicate (ev_nl y - as.length) ac_un, [], [], 0, 0) with
  | none => rw [hq] at h; cases h
  | some w =>
    obtain ⟨x, r⟩ := w
    rw [hq] at h
    cases x with
    | inr x => cases h
    | inl x =>
      cases x with
      | none => cases h
      | some x =>
        cases x with
        | int x => cases h; rfl
        | _ => cases h
