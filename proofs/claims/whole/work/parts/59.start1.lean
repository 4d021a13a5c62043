/-! ===== from the law's entry ===== -/
theorem st_arr {p : Program} {s : State} {m : MethodId} {meth : Method} {c : Code} {b L : Nat} {xs : Nat → Int32} (C0 : lw_At p s m meth c b L xs) : ∃ sa : Nat → Nat, ∀ i n, ac_sn[i]? = some n → va_Z "SixWayGas" n "[I" (.ref (sa i)) (fun q => s.heap.size ≤ q) s s.heap ∧ va_T .int (sa i) 6 (fun j => .int (ac_tab i j)) (fun q => s.heap.size ≤ q) s s.heap := by
  obtain ⟨-, -, -, -, -, hts, -, -, -, hgv⟩ := C0
  have hs := flat_of_before _ hgv
  have hA : ∀ a : Nat, a < s.heap.size → ¬ s.heap.size ≤ a := fun a h => Nat.not_le.mpr h
  have six : ∀ {P : Nat → Prop}, P 0 → P 1 → P 2 → P 3 → P 4 → P 5 → ∀ j, j < 6 → P j := fun h0 h1 h2 h3 h4 h5 j hj => by
    have : j = 0 ∨ j = 1 ∨ j = 2 ∨ j = 3 ∨ j = 4 ∨ j = 5 := by omega
    rcases this with rfl | rfl | rfl | rfl | rfl | rfl <;> assumption
  obtain ⟨t0, e0, T0⟩ := va_Tof (tm := .static "SixWayGas" "MOMENTUM_P" "[I") (ty := .int) (N := 6) (f := fun j => .int (ac_tab 0 j)) (A := fun q => s.heap.size ≤ q) (by decide) (hs _ (by decide +kernel)) (va_eqt (hs _ (by decide +kernel))) (six (P := fun j => (Term.elem (.static "SixWayGas" "MOMENTUM_P" "[I") (.int (Int32.ofNat j))).eval #[Value.ref b] s none [] s = some (.int (ac_tab 0 j))) (va_eqt (hs _ (by decide +kernel))) (va_eqt (hs _ (by decide +kernel))) (va_eqt (hs _ (by decide +kernel))) (va_eqt (hs _ (by decide +kernel))) (va_eqt (hs _ (by decide +kernel))) (va_eqt (hs _ (by decide +kernel)))) hA
  obtain ⟨t1, e1, T1⟩ := va_Tof (tm := .static "SixWayGas" "MOMENTUM_Q" "[I") (ty := .int) (N := 6) (f := fun j => .int (ac_tab 1 j)) (A := fun q => s.heap.size ≤ q) (by decide) (hs _ (by decide +kernel)) (va_eqt (hs _ (by decide +kernel))) (six (P := fun j => (Term.elem (.static "SixWayGas" "MOMENTUM_Q" "[I") (.int (Int32.ofNat j))).eval #[Value.ref b] s none [] s = some (.int (ac_tab 1 j))) (va_eqt (hs _ (by decide +kernel))) (va_eqt (hs _ (by decide +kernel))) (va_eqt (hs _ (by decide +kernel))) (va_eqt (hs _ (by decide +kernel))) (va_eqt (hs _ (by decide +kernel))) (va_eqt (hs _ (by decide +kernel)))) hA
  obtain ⟨t2, e2, T2⟩ := va_Tof (tm := .static "SixWayGas" "ALONG_P" "[I") (ty := .int) (N := 6) (f := fun j => .int (ac_tab 2 j)) (A := fun q => s.heap.size ≤ q) (by decide) (hs _ (by decide +kernel)) (va_eqt (hs _ (by decide +kernel))) (six (P := fun j => (Term.elem (.static "SixWayGas" "ALONG_P" "[I") (.int (Int32.ofNat j))).eval #[Value.ref b] s none [] s = some (.int (ac_tab 2 j))) (va_eqt (hs _ (by decide +kernel))) (va_eqt (hs _ (by decide +kernel))) (va_eqt (hs _ (by decide +kernel))) (va_eqt (hs _ (by decide +kernel))) (va_eqt (hs _ (by decide +kernel))) (va_eqt (hs _ (by decide +kernel)))) hA
  obtain ⟨t3, e3, T3⟩ := va_Tof (tm := .static "SixWayGas" "ALONG_Q" "[I") (ty := .int) (N := 6) (f := fun j => .int (ac_tab 3 j)) (A := fun q => s.heap.size ≤ q) (by decide) (hs _ (by decide +kernel)) (va_eqt (hs _ (by decide +kernel))) (six (P := fun j => (Term.elem (.static "SixWayGas" "ALONG_Q" "[I") (.int (Int32.ofNat j))).eval #[Value.ref b] s none [] s = some (.int (ac_tab 3 j))) (va_eqt (hs _ (by decide +kernel))) (va_eqt (hs _ (by decide +kernel))) (va_eqt (hs _ (by decide +kernel))) (va_eqt (hs _ (by decide +kernel))) (va_eqt (hs _ (by decide +kernel))) (va_eqt (hs _ (by decide +kernel)))) hA
  refine ⟨fun i => match i with | 0 => t0 | 1 => t1 | 2 => t2 | _ => t3, fun i n hi => ?_⟩
  have hi4 : i < 4 := (List.getElem?_eq_some_iff.mp hi).1
  have h4 : i = 0 ∨ i = 1 ∨ i = 2 ∨ i = 3 := by omega
  rcases h4 with rfl | rfl | rfl | rfl
  · cases hi
    exact ⟨va_Zof (hts _ (by decide +kernel)) (hts _ (by decide +kernel)) e0 hA, T0⟩
  · cases hi
    exact ⟨va_Zof (hts _ (by decide +kernel)) (hts _ (by decide +kernel)) e1 hA, T1⟩
  · cases hi
    exact ⟨va_Zof (hts _ (by decide +kernel)) (hts _ (by decide +kernel)) e2 hA, T2⟩
  · cases hi
    exact ⟨va_Zof (hts _ (by decide +kernel)) (hts _ (by decide +kernel)) e3 hA, T3⟩
