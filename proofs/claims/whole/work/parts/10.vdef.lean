/-! ===== what the abstract machine answers, the machine does ===== -/
abbrev ac_HD : Type := Nat → Nat → Nat → Option (Option (Nat × Nat))
def ac_V (E : ac_E) (MD : Nat → ac_M) (HD : ac_HD) (y pc : Nat) (o : ac_O) : Prop := match o with
  | .inl f => ac_ok E (MD y) pc f ∧ ac_mn f
  | .inr (.inl (z, na, nx, rv)) => ac_okr E (MD y) (MD z) pc na nx rv ∧ ∀ x, (HD y pc x = some none → (MD y).2.2.2.2.2.2.2 = false ∧ ac_okt E (MD y) (MD z) pc na rv) ∧ ∀ i nx', HD y pc x = some (some (i, nx')) → ac_okt E (MD y) (MD z) pc na rv ∧ ac_okh E (MD y) pc x i nx'
  | .inr (.inr (.inl b)) => (b = 0 → decode (MD y).2.1 pc = .ok (.return_, 1) ∧ (MD y).2.2.2.1 = none) ∧ (b = 1 → decode (MD y).2.1 pc = .ok (.ireturn, 1) ∧ (MD y).2.2.2.1 = some .int) ∧ (b = 2 → decode (MD y).2.1 pc = .ok (.ireturn, 1) ∧ (MD y).2.2.2.1 = some .boolean)
  | .inr (.inr (.inr x)) => ac_okx E (MD y) pc x
theorem ac_V_none {E : ac_E} {MD : Nat → ac_M} {HD : ac_HD} {y pc : Nat} : ac_V E MD HD y pc (.inl (fun _ => none)) := ⟨fun p l e R s m args below meth c X Q ls st h cn kn pc' ls' st' h' cn' kn' hf => (by cases hf), fun σ σ' hf => (by cases hf)⟩
