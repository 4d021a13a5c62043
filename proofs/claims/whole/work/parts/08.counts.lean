/-! ===== counts only grow ===== -/
def ac_mn (f : ac_S → Option ac_S) : Prop := ∀ (σ σ' : ac_S), f σ = some σ' → σ.2.2.2.2.1 ≤ σ'.2.2.2.2.1 ∧ σ.2.2.2.2.2 ≤ σ'.2.2.2.2.2
theorem mn_con (v : Value) (nx : Nat) : ac_mn (o_con v nx) := by
  rintro ⟨pc, ls, st, h, c, k⟩ ⟨pc', ls', st', h', c', k'⟩ hf
  unfold o_con at hf
  dsimp only at hf
  repeat' (first
    | (cases hf; done)
    | (cases hf; exact ⟨Nat.le_refl _, Nat.le_refl _⟩)
    | (cases hf; exact ⟨Nat.le_add_right _ _, Nat.le_add_right _ _⟩)
    | (replace hf := (ac_set_some hf).2)
    | split at hf)
theorem mn_ild (i nx : Nat) : ac_mn (o_ild i nx) := by
  rintro ⟨pc, ls, st, h, c, k⟩ ⟨pc', ls', st', h', c', k'⟩ hf
  unfold o_ild at hf
  dsimp only at hf
  repeat' (first
    | (cases hf; done)
    | (cases hf; exact ⟨Nat.le_refl _, Nat.le_refl _⟩)
    | (cases hf; exact ⟨Nat.le_add_right _ _, Nat.le_add_right _ _⟩)
    | (replace hf := (ac_set_some hf).2)
    | split at hf)
theorem mn_ald (i nx : Nat) : ac_mn (o_ald i nx) := by
  rintro ⟨pc, ls, st, h, c, k⟩ ⟨pc', ls', st', h', c', k'⟩ hf
  unfold o_ald at hf
  dsimp only at hf
  repeat' (first
    | (cases hf; done)
    | (cases hf; exact ⟨Nat.le_refl _, Nat.le_refl _⟩)
    | (cases hf; exact ⟨Nat.le_add_right _ _, Nat.le_add_right _ _⟩)
    | (replace hf := (ac_set_some hf).2)
    | split at hf)
theorem mn_ist (i nx : Nat) : ac_mn (o_ist i nx) := by
  rintro ⟨pc, ls, st, h, c, k⟩ ⟨pc', ls', st', h', c', k'⟩ hf
  unfold o_ist at hf
  dsimp only at hf
  repeat' (first
    | (cases hf; done)
    | (cases hf; exact ⟨Nat.le_refl _, Nat.le_refl _⟩)
    | (cases hf; exact ⟨Nat.le_add_right _ _, Nat.le_add_right _ _⟩)
    | (replace hf := (ac_set_some hf).2)
    | split at hf)
theorem mn_ast (i nx : Nat) : ac_mn (o_ast i nx) := by
  rintro ⟨pc, ls, st, h, c, k⟩ ⟨pc', ls', st', h', c', k'⟩ hf
  unfold o_ast at hf
  dsimp only at hf
  repeat' (first
    | (cases hf; done)
    | (cases hf; exact ⟨Nat.le_refl _, Nat.le_refl _⟩)
    | (cases hf; exact ⟨Nat.le_add_right _ _, Nat.le_add_right _ _⟩)
    | (replace hf := (ac_set_some hf).2)
    | split at hf)
theorem mn_inc (i : Nat) (v : Int32) (nx : Nat) : ac_mn (o_inc i v nx) := by
  rintro ⟨pc, ls, st, h, c, k⟩ ⟨pc', ls', st', h', c', k'⟩ hf
  unfold o_inc at hf
  dsimp only at hf
  repeat' (first
    | (cases hf; done)
    | (cases hf; exact ⟨Nat.le_refl _, Nat.le_refl _⟩)
    | (cases hf; exact ⟨Nat.le_add_right _ _, Nat.le_add_right _ _⟩)
    | (replace hf := (ac_set_some hf).2)
    | split at hf)
theorem mn_sw (ts : List Nat) (d : Nat) : ac_mn (o_sw ts d) := by
  rintro ⟨pc, ls, st, h, c, k⟩ ⟨pc', ls', st', h', c', k'⟩ hf
  unfold o_sw at hf
  dsimp only at hf
  repeat' (first
    | (cases hf; done)
    | (cases hf; exact ⟨Nat.le_refl _, Nat.le_refl _⟩)
    | (cases hf; exact ⟨Nat.le_add_right _ _, Nat.le_add_right _ _⟩)
    | (replace hf := (ac_set_some hf).2)
    | split at hf)
theorem mn_get (ci f nx : Nat) : ac_mn (o_get ci f nx) := by
  rintro ⟨pc, ls, st, h, c, k⟩ ⟨pc', ls', st', h', c', k'⟩ hf
  unfold o_get at hf
  dsimp only at hf
  repeat' (first
    | (cases hf; done)
    | (cases hf; exact ⟨Nat.le_refl _, Nat.le_refl _⟩)
    | (cases hf; exact ⟨Nat.le_add_right _ _, Nat.le_add_right _ _⟩)
    | (replace hf := (ac_set_some hf).2)
    | split at hf)
theorem mn_put (ci f nx : Nat) : ac_mn (o_put ci f nx) := by
  rintro ⟨pc, ls, st, h, c, k⟩ ⟨pc', ls', st', h', c', k'⟩ hf
  unfold o_put at hf
  dsimp only at hf
  repeat' (first
    | (cases hf; done)
    | (cases hf; exact ⟨Nat.le_refl _, Nat.le_refl _⟩)
    | (cases hf; exact ⟨Nat.le_add_right _ _, Nat.le_add_right _ _⟩)
    | (replace hf := (ac_set_some hf).2)
    | split at hf)
theorem mn_pur (ci f nx : Nat) : ac_mn (o_pur ci f nx) := by
  rintro ⟨pc, ls, st, h, c, k⟩ ⟨pc', ls', st', h', c', k'⟩ hf
  unfold o_pur at hf
  dsimp only at hf
  repeat' (first
    | (cases hf; done)
    | (cases hf; exact ⟨Nat.le_refl _, Nat.le_refl _⟩)
    | (cases hf; exact ⟨Nat.le_add_right _ _, Nat.le_add_right _ _⟩)
    | (replace hf := (ac_set_some hf).2)
    | split at hf)
theorem mn_sta (t : UInt32) (nx : Nat) : ac_mn (o_sta t nx) := by
  rintro ⟨pc, ls, st, h, c, k⟩ ⟨pc', ls', st', h', c', k'⟩ hf
  unfold o_sta at hf
  dsimp only at hf
  repeat' (first
    | (cases hf; done)
    | (cases hf; exact ⟨Nat.le_refl _, Nat.le_refl _⟩)
    | (cases hf; exact ⟨Nat.le_add_right _ _, Nat.le_add_right _ _⟩)
    | (replace hf := (ac_set_some hf).2)
    | split at hf)
theorem mn_ta (tab : Nat → Nat → Int32) (nx : Nat) : ac_mn (o_ta tab nx) := by
  rintro ⟨pc, ls, st, h, c, k⟩ ⟨pc', ls', st', h', c', k'⟩ hf
  unfold o_ta at hf
  dsimp only at hf
  repeat' (first
    | (cases hf; done)
    | (cases hf; exact ⟨Nat.le_refl _, Nat.le_refl _⟩)
    | (cases hf; exact ⟨Nat.le_add_right _ _, Nat.le_add_right _ _⟩)
    | (replace hf := (ac_set_some hf).2)
    | split at hf)
theorem mn_xa (L : Nat) (xs : Nat → Int32) (nx : Nat) : ac_mn (o_xa L xs nx) := by
  rintro ⟨pc, ls, st, h, c, k⟩ ⟨pc', ls', st', h', c', k'⟩ hf
  unfold o_xa at hf
  dsimp only at hf
  repeat' (first
    | (cases hf; done)
    | (cases hf; exact ⟨Nat.le_refl _, Nat.le_refl _⟩)
    | (cases hf; exact ⟨Nat.le_add_right _ _, Nat.le_add_right _ _⟩)
    | (replace hf := (ac_set_some hf).2)
    | split at hf)
theorem mn_xl (L nx : Nat) : ac_mn (o_xl L nx) := by
  rintro ⟨pc, ls, st, h, c, k⟩ ⟨pc', ls', st', h', c', k'⟩ hf
  unfold o_xl at hf
  dsimp only at hf
  repeat' (first
    | (cases hf; done)
    | (cases hf; exact ⟨Nat.le_refl _, Nat.le_refl _⟩)
    | (cases hf; exact ⟨Nat.le_add_right _ _, Nat.le_add_right _ _⟩)
    | (replace hf := (ac_set_some hf).2)
    | split at hf)
theorem mn_new (ci : Nat) (fs : List Value) (nx : Nat) : ac_mn (o_new ci fs nx) := by
  rintro ⟨pc, ls, st, h, c, k⟩ ⟨pc', ls', st', h', c', k'⟩ hf
  unfold o_new at hf
  dsimp only at hf
  repeat' (first
    | (cases hf; done)
    | (cases hf; exact ⟨Nat.le_refl _, Nat.le_refl _⟩)
    | (cases hf; exact ⟨Nat.le_add_right _ _, Nat.le_add_right _ _⟩)
    | (replace hf := (ac_set_some hf).2)
    | split at hf)
theorem mn_add (nx : Nat) : ac_mn (o_add nx) := by
  rintro ⟨pc, ls, st, h, c, k⟩ ⟨pc', ls', st', h', c', k'⟩ hf
  unfold o_add at hf
  dsimp only at hf
  repeat' (first
    | (cases hf; done)
    | (cases hf; exact ⟨Nat.le_refl _, Nat.le_refl _⟩)
    | (cases hf; exact ⟨Nat.le_add_right _ _, Nat.le_add_right _ _⟩)
    | (replace hf := (ac_set_some hf).2)
    | split at hf)
theorem mn_sub (nx : Nat) : ac_mn (o_sub nx) := by
  rintro ⟨pc, ls, st, h, c, k⟩ ⟨pc', ls', st', h', c', k'⟩ hf
  unfold o_sub at hf
  dsimp only at hf
  repeat' (first
    | (cases hf; done)
    | (cases hf; exact ⟨Nat.le_refl _, Nat.le_refl _⟩)
    | (cases hf; exact ⟨Nat.le_add_right _ _, Nat.le_add_right _ _⟩)
    | (replace hf := (ac_set_some hf).2)
    | split at hf)
theorem mn_mul (nx : Nat) : ac_mn (o_mul nx) := by
  rintro ⟨pc, ls, st, h, c, k⟩ ⟨pc', ls', st', h', c', k'⟩ hf
  unfold o_mul at hf
  dsimp only at hf
  repeat' (first
    | (cases hf; done)
    | (cases hf; exact ⟨Nat.le_refl _, Nat.le_refl _⟩)
    | (cases hf; exact ⟨Nat.le_add_right _ _, Nat.le_add_right _ _⟩)
    | (replace hf := (ac_set_some hf).2)
    | split at hf)
theorem mn_and (nx : Nat) : ac_mn (o_and nx) := by
  rintro ⟨pc, ls, st, h, c, k⟩ ⟨pc', ls', st', h', c', k'⟩ hf
  unfold o_and at hf
  dsimp only at hf
  repeat' (first
    | (cases hf; done)
    | (cases hf; exact ⟨Nat.le_refl _, Nat.le_refl _⟩)
    | (cases hf; exact ⟨Nat.le_add_right _ _, Nat.le_add_right _ _⟩)
    | (replace hf := (ac_set_some hf).2)
    | split at hf)
theorem mn_or (nx : Nat) : ac_mn (o_or nx) := by
  rintro ⟨pc, ls, st, h, c, k⟩ ⟨pc', ls', st', h', c', k'⟩ hf
  unfold o_or at hf
  dsimp only at hf
  repeat' (first
    | (cases hf; done)
    | (cases hf; exact ⟨Nat.le_refl _, Nat.le_refl _⟩)
    | (cases hf; exact ⟨Nat.le_add_right _ _, Nat.le_add_right _ _⟩)
    | (replace hf := (ac_set_some hf).2)
    | split at hf)
theorem mn_xor (nx : Nat) : ac_mn (o_xor nx) := by
  rintro ⟨pc, ls, st, h, c, k⟩ ⟨pc', ls', st', h', c', k'⟩ hf
  unfold o_xor at hf
  dsimp only at hf
  repeat' (first
    | (cases hf; done)
    | (cases hf; exact ⟨Nat.le_refl _, Nat.le_refl _⟩)
    | (cases hf; exact ⟨Nat.le_add_right _ _, Nat.le_add_right _ _⟩)
    | (replace hf := (ac_set_some hf).2)
    | split at hf)
theorem mn_shl (nx : Nat) : ac_mn (o_shl nx) := by
  rintro ⟨pc, ls, st, h, c, k⟩ ⟨pc', ls', st', h', c', k'⟩ hf
  unfold o_shl at hf
  dsimp only at hf
  repeat' (first
    | (cases hf; done)
    | (cases hf; exact ⟨Nat.le_refl _, Nat.le_refl _⟩)
    | (cases hf; exact ⟨Nat.le_add_right _ _, Nat.le_add_right _ _⟩)
    | (replace hf := (ac_set_some hf).2)
    | split at hf)
theorem mn_shr (nx : Nat) : ac_mn (o_shr nx) := by
  rintro ⟨pc, ls, st, h, c, k⟩ ⟨pc', ls', st', h', c', k'⟩ hf
  unfold o_shr at hf
  dsimp only at hf
  repeat' (first
    | (cases hf; done)
    | (cases hf; exact ⟨Nat.le_refl _, Nat.le_refl _⟩)
    | (cases hf; exact ⟨Nat.le_add_right _ _, Nat.le_add_right _ _⟩)
    | (replace hf := (ac_set_some hf).2)
    | split at hf)
theorem mn_ush (nx : Nat) : ac_mn (o_ush nx) := by
  rintro ⟨pc, ls, st, h, c, k⟩ ⟨pc', ls', st', h', c', k'⟩ hf
  unfold o_ush at hf
  dsimp only at hf
  repeat' (first
    | (cases hf; done)
    | (cases hf; exact ⟨Nat.le_refl _, Nat.le_refl _⟩)
    | (cases hf; exact ⟨Nat.le_add_right _ _, Nat.le_add_right _ _⟩)
    | (replace hf := (ac_set_some hf).2)
    | split at hf)
theorem mn_neg (nx : Nat) : ac_mn (o_neg nx) := by
  rintro ⟨pc, ls, st, h, c, k⟩ ⟨pc', ls', st', h', c', k'⟩ hf
  unfold o_neg at hf
  dsimp only at hf
  repeat' (first
    | (cases hf; done)
    | (cases hf; exact ⟨Nat.le_refl _, Nat.le_refl _⟩)
    | (cases hf; exact ⟨Nat.le_add_right _ _, Nat.le_add_right _ _⟩)
    | (replace hf := (ac_set_some hf).2)
    | split at hf)
theorem mn_div (nx : Nat) : ac_mn (o_div nx) := by
  rintro ⟨pc, ls, st, h, c, k⟩ ⟨pc', ls', st', h', c', k'⟩ hf
  unfold o_div at hf
  dsimp only at hf
  repeat' (first
    | (cases hf; done)
    | (cases hf; exact ⟨Nat.le_refl _, Nat.le_refl _⟩)
    | (cases hf; exact ⟨Nat.le_add_right _ _, Nat.le_add_right _ _⟩)
    | (replace hf := (ac_set_some hf).2)
    | split at hf)
theorem mn_rem (nx : Nat) : ac_mn (o_rem nx) := by
  rintro ⟨pc, ls, st, h, c, k⟩ ⟨pc', ls', st', h', c', k'⟩ hf
  unfold o_rem at hf
  dsimp only at hf
  repeat' (first
    | (cases hf; done)
    | (cases hf; exact ⟨Nat.le_refl _, Nat.le_refl _⟩)
    | (cases hf; exact ⟨Nat.le_add_right _ _, Nat.le_add_right _ _⟩)
    | (replace hf := (ac_set_some hf).2)
    | split at hf)
theorem mn_i2l (nx : Nat) : ac_mn (o_i2l nx) := by
  rintro ⟨pc, ls, st, h, c, k⟩ ⟨pc', ls', st', h', c', k'⟩ hf
  unfold o_i2l at hf
  dsimp only at hf
  repeat' (first
    | (cases hf; done)
    | (cases hf; exact ⟨Nat.le_refl _, Nat.le_refl _⟩)
    | (cases hf; exact ⟨Nat.le_add_right _ _, Nat.le_add_right _ _⟩)
    | (replace hf := (ac_set_some hf).2)
    | split at hf)
theorem mn_lcm (nx : Nat) : ac_mn (o_lcm nx) := by
  rintro ⟨pc, ls, st, h, c, k⟩ ⟨pc', ls', st', h', c', k'⟩ hf
  unfold o_lcm at hf
  dsimp only at hf
  repeat' (first
    | (cases hf; done)
    | (cases hf; exact ⟨Nat.le_refl _, Nat.le_refl _⟩)
    | (cases hf; exact ⟨Nat.le_add_right _ _, Nat.le_add_right _ _⟩)
    | (replace hf := (ac_set_some hf).2)
    | split at hf)
theorem mn_dup (nx : Nat) : ac_mn (o_dup nx) := by
  rintro ⟨pc, ls, st, h, c, k⟩ ⟨pc', ls', st', h', c', k'⟩ hf
  unfold o_dup at hf
  dsimp only at hf
  repeat' (first
    | (cases hf; done)
    | (cases hf; exact ⟨Nat.le_refl _, Nat.le_refl _⟩)
    | (cases hf; exact ⟨Nat.le_add_right _ _, Nat.le_add_right _ _⟩)
    | (replace hf := (ac_set_some hf).2)
    | split at hf)
theorem mn_dx1 (nx : Nat) : ac_mn (o_dx1 nx) := by
  rintro ⟨pc, ls, st, h, c, k⟩ ⟨pc', ls', st', h', c', k'⟩ hf
  unfold o_dx1 at hf
  dsimp only at hf
  repeat' (first
    | (cases hf; done)
    | (cases hf; exact ⟨Nat.le_refl _, Nat.le_refl _⟩)
    | (cases hf; exact ⟨Nat.le_add_right _ _, Nat.le_add_right _ _⟩)
    | (replace hf := (ac_set_some hf).2)
    | split at hf)
theorem mn_dp2 (nx : Nat) : ac_mn (o_dp2 nx) := by
  rintro ⟨pc, ls, st, h, c, k⟩ ⟨pc', ls', st', h', c', k'⟩ hf
  unfold o_dp2 at hf
  dsimp only at hf
  repeat' (first
    | (cases hf; done)
    | (cases hf; exact ⟨Nat.le_refl _, Nat.le_refl _⟩)
    | (cases hf; exact ⟨Nat.le_add_right _ _, Nat.le_add_right _ _⟩)
    | (replace hf := (ac_set_some hf).2)
    | split at hf)
theorem mn_pop (nx : Nat) : ac_mn (o_pop nx) := by
  rintro ⟨pc, ls, st, h, c, k⟩ ⟨pc', ls', st', h', c', k'⟩ hf
  unfold o_pop at hf
  dsimp only at hf
  repeat' (first
    | (cases hf; done)
    | (cases hf; exact ⟨Nat.le_refl _, Nat.le_refl _⟩)
    | (cases hf; exact ⟨Nat.le_add_right _ _, Nat.le_add_right _ _⟩)
    | (replace hf := (ac_set_some hf).2)
    | split at hf)
theorem mn_go (nx : Nat) : ac_mn (o_go nx) := by
  rintro ⟨pc, ls, st, h, c, k⟩ ⟨pc', ls', st', h', c', k'⟩ hf
  unfold o_go at hf
  dsimp only at hf
  repeat' (first
    | (cases hf; done)
    | (cases hf; exact ⟨Nat.le_refl _, Nat.le_refl _⟩)
    | (cases hf; exact ⟨Nat.le_add_right _ _, Nat.le_add_right _ _⟩)
    | (replace hf := (ac_set_some hf).2)
    | split at hf)
theorem mn_ia (nx : Nat) : ac_mn (o_ia nx) := by
  rintro ⟨pc, ls, st, h, c, k⟩ ⟨pc', ls', st', h', c', k'⟩ hf
  unfold o_ia at hf
  dsimp only at hf
  repeat' (first
    | (cases hf; done)
    | (cases hf; exact ⟨Nat.le_refl _, Nat.le_refl _⟩)
    | (cases hf; exact ⟨Nat.le_add_right _ _, Nat.le_add_right _ _⟩)
    | (replace hf := (ac_set_some hf).2)
    | split at hf)
theorem mn_za (nx : Nat) : ac_mn (o_za nx) := by
  rintro ⟨pc, ls, st, h, c, k⟩ ⟨pc', ls', st', h', c', k'⟩ hf
  unfold o_za at hf
  dsimp only at hf
  repeat' (first
    | (cases hf; done)
    | (cases hf; exact ⟨Nat.le_refl _, Nat.le_refl _⟩)
    | (cases hf; exact ⟨Nat.le_add_right _ _, Nat.le_add_right _ _⟩)
    | (replace hf := (ac_set_some hf).2)
    | split at hf)
theorem mn_la (nx : Nat) : ac_mn (o_la nx) := by
  rintro ⟨pc, ls, st, h, c, k⟩ ⟨pc', ls', st', h', c', k'⟩ hf
  unfold o_la at hf
  dsimp only at hf
  repeat' (first
    | (cases hf; done)
    | (cases hf; exact ⟨Nat.le_refl _, Nat.le_refl _⟩)
    | (cases hf; exact ⟨Nat.le_add_right _ _, Nat.le_add_right _ _⟩)
    | (replace hf := (ac_set_some hf).2)
    | split at hf)
theorem mn_is (nx : Nat) : ac_mn (o_is nx) := by
  rintro ⟨pc, ls, st, h, c, k⟩ ⟨pc', ls', st', h', c', k'⟩ hf
  unfold o_is at hf
  dsimp only at hf
  repeat' (first
    | (cases hf; done)
    | (cases hf; exact ⟨Nat.le_refl _, Nat.le_refl _⟩)
    | (cases hf; exact ⟨Nat.le_add_right _ _, Nat.le_add_right _ _⟩)
    | (replace hf := (ac_set_some hf).2)
    | split at hf)
theorem mn_zs (nx : Nat) : ac_mn (o_zs nx) := by
  rintro ⟨pc, ls, st, h, c, k⟩ ⟨pc', ls', st', h', c', k'⟩ hf
  unfold o_zs at hf
  dsimp only at hf
  repeat' (first
    | (cases hf; done)
    | (cases hf; exact ⟨Nat.le_refl _, Nat.le_refl _⟩)
    | (cases hf; exact ⟨Nat.le_add_right _ _, Nat.le_add_right _ _⟩)
    | (replace hf := (ac_set_some hf).2)
    | split at hf)
theorem mn_ls (nx : Nat) : ac_mn (o_ls nx) := by
  rintro ⟨pc, ls, st, h, c, k⟩ ⟨pc', ls', st', h', c', k'⟩ hf
  unfold o_ls at hf
  dsimp only at hf
  repeat' (first
    | (cases hf; done)
    | (cases hf; exact ⟨Nat.le_refl _, Nat.le_refl _⟩)
    | (cases hf; exact ⟨Nat.le_add_right _ _, Nat.le_add_right _ _⟩)
    | (replace hf := (ac_set_some hf).2)
    | split at hf)
theorem mn_len (nx : Nat) : ac_mn (o_len nx) := by
  rintro ⟨pc, ls, st, h, c, k⟩ ⟨pc', ls', st', h', c', k'⟩ hf
  unfold o_len at hf
  dsimp only at hf
  repeat' (first
    | (cases hf; done)
    | (cases hf; exact ⟨Nat.le_refl _, Nat.le_refl _⟩)
    | (cases hf; exact ⟨Nat.le_add_right _ _, Nat.le_add_right _ _⟩)
    | (replace hf := (ac_set_some hf).2)
    | split at hf)
theorem mn_ni (nx : Nat) : ac_mn (o_ni nx) := by
  rintro ⟨pc, ls, st, h, c, k⟩ ⟨pc', ls', st', h', c', k'⟩ hf
  unfold o_ni at hf
  dsimp only at hf
  repeat' (first
    | (cases hf; done)
    | (cases hf; exact ⟨Nat.le_refl _, Nat.le_refl _⟩)
    | (cases hf; exact ⟨Nat.le_add_right _ _, Nat.le_add_right _ _⟩)
    | (replace hf := (ac_set_some hf).2)
    | split at hf)
theorem mn_nz (nx : Nat) : ac_mn (o_nz nx) := by
  rintro ⟨pc, ls, st, h, c, k⟩ ⟨pc', ls', st', h', c', k'⟩ hf
  unfold o_nz at hf
  dsimp only at hf
  repeat' (first
    | (cases hf; done)
    | (cases hf; exact ⟨Nat.le_refl _, Nat.le_refl _⟩)
    | (cases hf; exact ⟨Nat.le_add_right _ _, Nat.le_add_right _ _⟩)
    | (replace hf := (ac_set_some hf).2)
    | split at hf)
theorem mn_nl (nx : Nat) : ac_mn (o_nl nx) := by
  rintro ⟨pc, ls, st, h, c, k⟩ ⟨pc', ls', st', h', c', k'⟩ hf
  unfold o_nl at hf
  dsimp only at hf
  repeat' (first
    | (cases hf; done)
    | (cases hf; exact ⟨Nat.le_refl _, Nat.le_refl _⟩)
    | (cases hf; exact ⟨Nat.le_add_right _ _, Nat.le_add_right _ _⟩)
    | (replace hf := (ac_set_some hf).2)
    | split at hf)
theorem mn_obj1 (nx : Nat) : ac_mn (o_obj1 nx) := by
  rintro ⟨pc, ls, st, h, c, k⟩ ⟨pc', ls', st', h', c', k'⟩ hf
  unfold o_obj1 at hf
  dsimp only at hf
  repeat' (first
    | (cases hf; done)
    | (cases hf; exact ⟨Nat.le_refl _, Nat.le_refl _⟩)
    | (cases hf; exact ⟨Nat.le_add_right _ _, Nat.le_add_right _ _⟩)
    | (replace hf := (ac_set_some hf).2)
    | split at hf)
theorem mn_eq0 (t nx : Nat) : ac_mn (o_eq0 t nx) := by
  rintro ⟨pc, ls, st, h, c, k⟩ ⟨pc', ls', st', h', c', k'⟩ hf
  unfold o_eq0 at hf
  dsimp only at hf
  repeat' (first
    | (cases hf; done)
    | (cases hf; exact ⟨Nat.le_refl _, Nat.le_refl _⟩)
    | (cases hf; exact ⟨Nat.le_add_right _ _, Nat.le_add_right _ _⟩)
    | (replace hf := (ac_set_some hf).2)
    | split at hf)
theorem mn_ne0 (t nx : Nat) : ac_mn (o_ne0 t nx) := by
  rintro ⟨pc, ls, st, h, c, k⟩ ⟨pc', ls', st', h', c', k'⟩ hf
  unfold o_ne0 at hf
  dsimp only at hf
  repeat' (first
    | (cases hf; done)
    | (cases hf; exact ⟨Nat.le_refl _, Nat.le_refl _⟩)
    | (cases hf; exact ⟨Nat.le_add_right _ _, Nat.le_add_right _ _⟩)
    | (replace hf := (ac_set_some hf).2)
    | split at hf)
theorem mn_lt0 (t nx : Nat) : ac_mn (o_lt0 t nx) := by
  rintro ⟨pc, ls, st, h, c, k⟩ ⟨pc', ls', st', h', c', k'⟩ hf
  unfold o_lt0 at hf
  dsimp only at hf
  repeat' (first
    | (cases hf; done)
    | (cases hf; exact ⟨Nat.le_refl _, Nat.le_refl _⟩)
    | (cases hf; exact ⟨Nat.le_add_right _ _, Nat.le_add_right _ _⟩)
    | (replace hf := (ac_set_some hf).2)
    | split at hf)
theorem mn_ge0 (t nx : Nat) : ac_mn (o_ge0 t nx) := by
  rintro ⟨pc, ls, st, h, c, k⟩ ⟨pc', ls', st', h', c', k'⟩ hf
  unfold o_ge0 at hf
  dsimp only at hf
  repeat' (first
    | (cases hf; done)
    | (cases hf; exact ⟨Nat.le_refl _, Nat.le_refl _⟩)
    | (cases hf; exact ⟨Nat.le_add_right _ _, Nat.le_add_right _ _⟩)
    | (replace hf := (ac_set_some hf).2)
    | split at hf)
theorem mn_le0 (t nx : Nat) : ac_mn (o_le0 t nx) := by
  rintro ⟨pc, ls, st, h, c, k⟩ ⟨pc', ls', st', h', c', k'⟩ hf
  unfold o_le0 at hf
  dsimp only at hf
  repeat' (first
    | (cases hf; done)
    | (cases hf; exact ⟨Nat.le_refl _, Nat.le_refl _⟩)
    | (cases hf; exact ⟨Nat.le_add_right _ _, Nat.le_add_right _ _⟩)
    | (replace hf := (ac_set_some hf).2)
    | split at hf)
theorem mn_gt0 (t nx : Nat) : ac_mn (o_gt0 t nx) := by
  rintro ⟨pc, ls, st, h, c, k⟩ ⟨pc', ls', st', h', c', k'⟩ hf
  unfold o_gt0 at hf
  dsimp only at hf
  repeat' (first
    | (cases hf; done)
    | (cases hf; exact ⟨Nat.le_refl _, Nat.le_refl _⟩)
    | (cases hf; exact ⟨Nat.le_add_right _ _, Nat.le_add_right _ _⟩)
    | (replace hf := (ac_set_some hf).2)
    | split at hf)
theorem mn_eq (t nx : Nat) : ac_mn (o_eq t nx) := by
  rintro ⟨pc, ls, st, h, c, k⟩ ⟨pc', ls', st', h', c', k'⟩ hf
  unfold o_eq at hf
  dsimp only at hf
  repeat' (first
    | (cases hf; done)
    | (cases hf; exact ⟨Nat.le_refl _, Nat.le_refl _⟩)
    | (cases hf; exact ⟨Nat.le_add_right _ _, Nat.le_add_right _ _⟩)
    | (replace hf := (ac_set_some hf).2)
    | split at hf)
theorem mn_ne (t nx : Nat) : ac_mn (o_ne t nx) := by
  rintro ⟨pc, ls, st, h, c, k⟩ ⟨pc', ls', st', h', c', k'⟩ hf
  unfold o_ne at hf
  dsimp only at hf
  repeat' (first
    | (cases hf; done)
    | (cases hf; exact ⟨Nat.le_refl _, Nat.le_refl _⟩)
    | (cases hf; exact ⟨Nat.le_add_right _ _, Nat.le_add_right _ _⟩)
    | (replace hf := (ac_set_some hf).2)
    | split at hf)
theorem mn_lt (t nx : Nat) : ac_mn (o_lt t nx) := by
  rintro ⟨pc, ls, st, h, c, k⟩ ⟨pc', ls', st', h', c', k'⟩ hf
  unfold o_lt at hf
  dsimp only at hf
  repeat' (first
    | (cases hf; done)
    | (cases hf; exact ⟨Nat.le_refl _, Nat.le_refl _⟩)
    | (cases hf; exact ⟨Nat.le_add_right _ _, Nat.le_add_right _ _⟩)
    | (replace hf := (ac_set_some hf).2)
    | split at hf)
theorem mn_ge (t nx : Nat) : ac_mn (o_ge t nx) := by
  rintro ⟨pc, ls, st, h, c, k⟩ ⟨pc', ls', st', h', c', k'⟩ hf
  unfold o_ge at hf
  dsimp only at hf
  repeat' (first
    | (cases hf; done)
    | (cases hf; exact ⟨Nat.le_refl _, Nat.le_refl _⟩)
    | (cases hf; exact ⟨Nat.le_add_right _ _, Nat.le_add_right _ _⟩)
    | (replace hf := (ac_set_some hf).2)
    | split at hf)
theorem mn_le (t nx : Nat) : ac_mn (o_le t nx) := by
  rintro ⟨pc, ls, st, h, c, k⟩ ⟨pc', ls', st', h', c', k'⟩ hf
  unfold o_le at hf
  dsimp only at hf
  repeat' (first
    | (cases hf; done)
    | (cases hf; exact ⟨Nat.le_refl _, Nat.le_refl _⟩)
    | (cases hf; exact ⟨Nat.le_add_right _ _, Nat.le_add_right _ _⟩)
    | (replace hf := (ac_set_some hf).2)
    | split at hf)
theorem mn_gt (t nx : Nat) : ac_mn (o_gt t nx) := by
  rintro ⟨pc, ls, st, h, c, k⟩ ⟨pc', ls', st', h', c', k'⟩ hf
  unfold o_gt at hf
  dsimp only at hf
  repeat' (first
    | (cases hf; done)
    | (cases hf; exact ⟨Nat.le_refl _, Nat.le_refl _⟩)
    | (cases hf; exact ⟨Nat.le_add_right _ _, Nat.le_add_right _ _⟩)
    | (replace hf := (ac_set_some hf).2)
    | split at hf)
theorem ok_sw {E : ac_E} {d : ac_M} {pc : Nat} {ts : List Nat} {df : Nat} {dflt lo hi : Int} {offs : Array Int} {len : Nat} (hd : decode d.2.1 pc = .ok (.tableswitch dflt lo hi offs, len)) (hlo : lo = 0) (hhi : hi + 1 = (ts.length : Int)) (hdf : (pc : Int) + dflt = (df : Int)) (hoffs : (List.range ts.length).all (fun i => match offs[i]? with | some o => decide ((pc : Int) + o = ((ts.getD i 0 : Nat) : Int)) | none => false) = true) : ac_ok E d pc (o_sw ts df) := by
  intro p l e R s m args below meth c X Q ls st h cn kn pc' ls' st' h' cn' kn' hf hrc hrs H locs la hW hS hL k
  obtain ⟨hx, hb, hr, hml, hown, hlk, hnm, htf, htt, hfr, hlo2, hl, hG⟩ := X
  subst hlo
  unfold o_sw at hf
  dsimp only at hf
  split at hf
  · rename_i x st1
    cases hf
    have k1 := k H locs la hW hS hL
    have hx0 : x < 0 ↔ x.toInt < 0 := Int32.lt_iff_toInt_lt
    have hcl : x.toNatClampNeg = x.toInt.toNat := rfl
    by_cases h1 : x < 0
    · rw [if_pos h1] at k1
      exact lv_tableOut hx hb hd (Or.inl (hx0.mp h1)) hdf k1
    · rw [if_neg h1] at k1
      have h2 : ¬ x.toInt < 0 := fun q => h1 (hx0.mpr q)
      by_cases h3 : x.toNatClampNeg < ts.length
      · have h4 := List.all_eq_true.mp hoffs _ (List.mem_range.mpr h3)
        cases ho : offs[x.toNatClampNeg]? with
        | none => rw [ho] at h4; cases h4
        | some o =>
          rw [ho] at h4
          simp only [decide_eq_true_eq] at h4
          refine lv_tableIn hx hb hd h2 (by omega) (off := o) (tgt := ts.getD x.toNatClampNeg df) (by rw [← ho, hcl]; congr 2; omega) ?_ k1
          rw [h4]
          simp [List.getElem?_eq_getElem h3]
      · rw [show ts.getD x.toNatClampNeg df = df by rw [List.getD_eq_getElem?_getD, List.getElem?_eq_none (by omega)]; rfl] at k1
        exact lv_tableOut hx hb hd (Or.inr (by omega)) hdf k1
  · cases hf
