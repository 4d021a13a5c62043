/-! ===== flight, bit by bit ===== -/
def gtU (g : Nat → Bool) : Nat → Nat
  | 0 => 0
  | n + 1 => if g n = true then gtU g n ||| 2 ^ n else gtU g n
def gtN (g : Nat → Bool) : Nat := gtU g 7
theorem gtU_bit (g : Nat → Bool) (i : Nat) : ∀ n, (gtU g n).testBit i = (decide (i < n) && g i) := by
  intro n
  induction n with
  | zero => simp [gtU]
  | succ n ih =>
    rw [gtU]
    by_cases h : g n = true
    · rw [if_pos h, Nat.testBit_or, ih, Nat.testBit_two_pow]
      by_cases h2 : n = i
      · subst h2; simp [h]
      · have : (decide (i < n + 1)) = decide (i < n) := by
          congr 1
          exact propext ⟨fun _ => by omega, fun _ => by omega⟩
        simp [h2, this]
    · rw [if_neg h, ih]
      by_cases h2 : n = i
      · subst h2; simp [h]
      · have : (decide (i < n + 1)) = decide (i < n) := by
          congr 1
          exact propext ⟨fun _ => by omega, fun _ => by omega⟩
        rw [this]
theorem gtN_bit (g : Nat → Bool) (i : Nat) : (gtN g).testBit i = (decide (i < 7) && g i) := gtU_bit g i 7
theorem gtN_lt (g : Nat → Bool) : gtN g < 128 := Nat.lt_pow_two_of_testBit (n := 7) _ (fun i hi => by rw [gtN_bit, decide_eq_false (by omega)]; rfl)
theorem gtN_congr {g g' : Nat → Bool} (h : ∀ i, i < 7 → g i = g' i) : gtN g = gtN g' := by
  refine Nat.eq_of_testBit_eq (fun i => ?_)
  rw [gtN_bit, gtN_bit]
  by_cases hi : i < 7
  · rw [h i hi]
  · rw [decide_eq_false hi]; rfl
theorem gtN_self {b : Nat} (h : b < 128) : gtN (fun k => b.testBit k) = b := by
  refine Nat.eq_of_testBit_eq (fun i => ?_)
  rw [gtN_bit]
  by_cases hi : i < 7
  · rw [decide_eq_true hi]; rfl
  · rw [decide_eq_false hi, Nat.testBit_lt_two_pow (Nat.lt_of_lt_of_le h (Nat.pow_le_pow_right (n := 2) (by decide) (show 7 ≤ i by omega)))]; rfl
def btB (bi : Nat → Int32) (a k : Nat) : Bool := (bi a).toNatClampNeg.testBit k
def srN (w q t j k : Nat) : Nat := if k < 6 then nbC w q j (k + t + 3) else j
def dsN (w q t c k : Nat) : Nat := if k < 6 then nbC w q c (k + t) else c
theorem sr_lt {w q t j k : Nat} (hw : sideOk w) (hq : sideOk q) (hj : j < w * q) : srN w q t j k < w * q := by
  unfold srN
  split
  · exact nbC_lt hw hq hj _
  · exact hj
theorem ds_lt {w q t j k : Nat} (hw : sideOk w) (hq : sideOk q) (hj : j < w * q) : dsN w q t j k < w * q := by
  unfold dsN
  split
  · exact nbC_lt hw hq hj _
  · exact hj
theorem sr_ds {w q t c k : Nat} (hw : sideOk w) (hq : sideOk q) (hc : c < w * q) : srN w q t (dsN w q t c k) k = c := by
  unfold srN dsN
  by_cases h : k < 6
  · rw [if_pos h, if_pos h]; exact nbC_back hw hq hc (k + t)
  · rw [if_neg h, if_neg h]
theorem ds_sr {w q t j k : Nat} (hw : sideOk w) (hq : sideOk q) (hj : j < w * q) : dsN w q t (srN w q t j k) k = j := by
  unfold srN dsN
  by_cases h : k < 6
  · rw [if_pos h, if_pos h]; exact nbC_back2 hw hq hj (k + t)
  · rw [if_neg h, if_neg h]
/-- what has arrived of the particles that P names -/
def scF (w q t : Nat) (bi : Nat → Int32) (P : Nat → Nat → Bool) : Nat → Int32 := fun j => if j < w * q then nI (gtN (fun k => P (srN w q t j k) k && btB bi (srN w q t j k) k)) else 0
theorem sc_congr {w q t : Nat} {bi : Nat → Int32} {P P' : Nat → Nat → Bool} (hw : sideOk w) (hq : sideOk q) (h : ∀ a k, a < w * q → k < 7 → btB bi a k = true → P a k = P' a k) : scF w q t bi P = scF w q t bi P' := by
  funext j
  unfold scF
  split
  · rename_i hj
    congr 1
    refine gtN_congr (fun k hk => ?_)
    cases hb : btB bi (srN w q t j k) k
    · rw [Bool.and_false, Bool.and_false]
    · rw [h _ _ (sr_lt hw hq hj) hk hb]
  · rfl
theorem tok {w q t c k : Nat} {bi : Nat → Int32} {P : Nat → Nat → Bool} (hw : sideOk w) (hq : sideOk q) (hc : c < w * q) (hk : k < 7) (hb : btB bi c k = true) : upd (scF w q t bi P) (dsN w q t c k) (scF w q t bi P (dsN w q t c k) ||| ((1 : Int32) <<< (nI k &&& 31))) = scF w q t bi (fun a i => P a i || (decide (a = c) && decide (i = k))) := by
  funext j
  unfold upd
  split
  · rename_i e
    subst e
    unfold scF
    rw [if_pos (ds_lt hw hq hc), if_pos (ds_lt hw hq hc), or_bit _ (gtN_lt _) k hk]
    congr 1
    refine Nat.eq_of_testBit_eq (fun i => ?_)
    rw [Nat.testBit_or, gtN_bit, gtN_bit, Nat.testBit_two_pow]
    by_cases hi : k = i
    · subst hi
      rw [sr_ds hw hq hc, hb]
      simp [hk]
    · have e : decide (i = k) = false := decide_eq_false (fun h => hi h.symm)
      dsimp only
      rw [decide_eq_false hi, e, Bool.and_false, Bool.or_false, Bool.or_false]
  · rename_i e
    unfold scF
    split
    · rename_i hj
      congr 1
      refine gtN_congr (fun i hi => ?_)
      by_cases h2 : i = k
      · subst h2
        have : ¬ srN w q t j i = c := fun h => e (by rw [← h, ds_sr hw hq hj])
        dsimp only
        rw [decide_eq_false this, Bool.false_and, Bool.or_false]
      · dsimp only
        rw [decide_eq_false h2, Bool.and_false, Bool.or_false]
    · rfl
theorem and_64 : ∀ b, b < 128 → nI b &&& 64 = if b.testBit 6 = true then (1 : Int32) <<< (nI 6 &&& 31) else 0 := by decide +kernel
theorem sc_send {w q t c β : Nat} {bi : Nat → Int32} (hw : sideOk w) (hq : sideOk q) (hc : c < w * q) (hb : bi c = nI β) (hβ : β < 128) : ∀ (n k : Nat) (P : Nat → Nat → Bool), k + n = 6 → soF (nbT w q) t c β n k (scF w q t bi P) = scF w q t bi (fun a i => P a i || (decide (a = c) && (decide (k ≤ i) && decide (i < 6)))) := by
  have hB : ∀ i, btB bi c i = β.testBit i := fun i => by unfold btB; rw [hb, nI_clamp (by omega)]
  intro n
  induction n with
  | zero =>
    intro k P hk
    rw [soF]
    refine sc_congr hw hq (fun a i _ _ _ => ?_)
    have : (decide (k ≤ i) && decide (i < 6)) = false := by
      by_cases h : k ≤ i
      · rw [decide_eq_false (show ¬ i < 6 by omega), Bool.and_false]
      · rw [decide_eq_false h, Bool.false_and]
    rw [this, Bool.and_false, Bool.or_false]
  | succ n ih =>
    intro k P hk
    rw [soF]
    have e1 : nbN (nbT w q) c (k + t) = dsN w q t c k := by rw [nbN_T hw hq hc]; unfold dsN; rw [if_pos (show k < 6 by omega)]
    cases hbit : β.testBit k with
    | false =>
      rw [if_neg (by decide), ih (k + 1) P (by omega)]
      refine sc_congr hw hq (fun a i _ _ hbi => ?_)
      by_cases ha : a = c
      · subst ha
        have hik : i ≠ k := fun h => by subst h; rw [hB, hbit] at hbi; cases hbi
        have : decide (k + 1 ≤ i) = decide (k ≤ i) := by congr 1; exact propext ⟨fun _ => by omega, fun _ => by omega⟩
        rw [this]
      · rw [decide_eq_false ha, Bool.false_and, Bool.false_and]
    | true =>
      rw [if_pos rfl, e1, tok hw hq hc (by omega) (by rw [hB]; exact hbit), ih (k + 1) _ (by omega)]
      refine sc_congr hw hq (fun a i _ _ _ => ?_)
      by_cases ha : a = c
      · by_cases hik : i = k
        · subst hik; simp [ha, show i < 6 by omega]
        · have : decide (k + 1 ≤ i) = decide (k ≤ i) := by congr 1; exact propext ⟨fun _ => by omega, fun _ => by omega⟩
          rw [this, decide_eq_false hik, Bool.and_false, Bool.or_false]
      · simp [decide_eq_false ha]
theorem sc_cell {w q t c : Nat} {bi : Nat → Int32} (hw : sideOk w) (hq : sideOk q) (hbt : btOk (w * q) bi) (hc : c < w * q) : (if bi c = 0 then scF w q t bi (fun a _ => decide (a < c)) else soC (nbT w q) t c (bi c).toNatClampNeg (scF w q t bi (fun a _ => decide (a < c)))) = scF w q t bi (fun a _ => decide (a < c + 1)) := by
  obtain ⟨β, hβ, hb⟩ := hbt c hc
  have hB : ∀ i, btB bi c i = β.testBit i := fun i => by unfold btB; rw [hb, nI_clamp (by omega)]
  have eD : ∀ a, a ≠ c → decide (a < c + 1) = decide (a < c) := fun a h => by congr 1; exact propext ⟨fun _ => by omega, fun _ => by omega⟩
  split
  · rename_i z
    have b0 : β = 0 := by
      rw [hb] at z
      exact (nI_eq (b := 0) (by omega) (by decide)).mp z
    refine sc_congr hw hq (fun a i _ _ hbi => ?_)
    by_cases ha : a = c
    · subst ha; rw [hB, b0] at hbi; simp at hbi
    · exact (eD a ha).symm
  · rw [hb, nI_clamp (by omega)]
    unfold soC
    have e0 : upd (scF w q t bi (fun a _ => decide (a < c))) c (scF w q t bi (fun a _ => decide (a < c)) c ||| (nI β &&& 64)) = scF w q t bi (fun a i => decide (a < c) || (decide (a = c) && decide (i = 6))) := by
      rw [and_64 β hβ]
      cases h6 : β.testBit 6 with
      | true =>
        have h := tok (t := t) (P := fun a _ => decide (a < c)) hw hq hc (show 6 < 7 by decide) (by rw [hB]; exact h6)
        rw [show dsN w q t c 6 = c from rfl] at h
        rw [if_pos rfl]
        exact h
      | false =>
        rw [if_neg (by decide), show ∀ x : Int32, x ||| 0 = x from fun x => Int32.or_zero, upd_self]
        refine sc_congr hw hq (fun a i _ _ hbi => ?_)
        by_cases ha : a = c
        · subst ha
          have : i ≠ 6 := fun h => by subst h; rw [hB, h6] at hbi; cases hbi
          rw [decide_eq_false this, Bool.and_false, Bool.or_false]
        · rw [decide_eq_false ha, Bool.false_and, Bool.or_false]
    rw [e0, sc_send hw hq hc hb hβ 6 0 _ rfl]
    refine sc_congr hw hq (fun a i _ hi _ => ?_)
    by_cases ha : a = c
    · subst ha
      by_cases h6 : i = 6
      · simp [h6]
      · simp [show i < 6 by omega]
    · rw [eD a ha, decide_eq_false ha, Bool.false_and, Bool.false_and, Bool.or_false, Bool.or_false]
theorem sc_fly {w q t : Nat} {bi : Nat → Int32} (hw : sideOk w) (hq : sideOk q) (hbt : btOk (w * q) bi) : ∀ (n c : Nat), c + n = w * q → flF (nbT w q) bi t n c (scF w q t bi (fun a _ => decide (a < c))) = scF w q t bi (fun _ _ => true) := by
  intro n
  induction n with
  | zero =>
    intro c hc
    rw [flF]
    exact sc_congr hw hq (fun a i ha _ _ => decide_eq_true (by omega))
  | succ n ih =>
    intro c hc
    rw [flF, sc_cell hw hq hbt (by omega)]
    exact ih (c + 1) (by omega)
theorem sc_0 (w q t : Nat) (bi : Nat → Int32) : scF w q t bi (fun a _ => decide (a < 0)) = fun _ => 0 := by
  funext j
  unfold scF
  split
  · have : gtN (fun k => decide (srN w q t j k < 0) && btB bi (srN w q t j k) k) = 0 := by
      refine Nat.eq_of_testBit_eq (fun i => ?_)
      rw [gtN_bit, decide_eq_false (Nat.not_lt_zero _)]
      simp
    rw [this]; rfl
  · rfl
/-- THE FLIGHT -/
theorem flS_bi {w q t : Nat} {bi : Nat → Int32} (hw : sideOk w) (hq : sideOk q) (hbt : btOk (w * q) bi) : flF (nbT w q) bi t (w * q) 0 (fun _ => 0) = scF w q t bi (fun _ _ => true) := by
  rw [← sc_0 w q t bi]
  exact sc_fly hw hq hbt (w * q) 0 (Nat.zero_add _)
