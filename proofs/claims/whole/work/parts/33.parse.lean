/-! PROGRAMS, READ: T the bytes -/
abbrev isD (c : Nat) : Prop := 50 ≤ c ∧ c ≤ 57
abbrev nL (c : Nat) : Prop := c = 59 ∨ isD c
def LN (T : Nat → Nat) : Nat → Nat
  | 0 => 0
  | k + 1 => if T k = 59 then LN T k + 1 else LN T k
def TM (T : Nat → Nat) : Nat → Nat
  | 0 => 0
  | k + 1 => if isD (T k) then T k - 48 else 0
def ML (T : Nat → Nat) (k : Nat) : Nat := if TM T k = 0 then 1 else TM T k
def WC (T : Nat → Nat) (l : Int32) : Nat → Nat
  | 0 => 0
  | k + 1 => if nL (T k) then WC T l k else if nI (LN T k) = l then WC T l k + ML T k else WC T l k
def WS (T : Nat → Nat) (l : Nat) : Nat → Nat
  | 0 => 0
  | k + 1 => if nL (T k) then WS T l k else if LN T k < l then WS T l k + ML T k else WS T l k
def GO (T : Nat → Nat) (l : Int32) (i : Nat) : Nat → Option Nat
  | 0 => none
  | k + 1 => match GO T l i k with
    | some x => some x
    | none => if ¬ nL (T k) ∧ nI (LN T k) = l ∧ WC T l k ≤ i ∧ i < WC T l k + ML T k then some (T k - 97) else none
abbrev ltr (own c : Nat) : Prop := 97 ≤ c ∧ c ≤ 102 ∧ c - 97 ≠ own
abbrev okc (T : Nat → Nat) (own k : Nat) : Prop := ltr own (T k) ∨ (nL (T k) ∧ TM T k = 0)
/-- the first fault -/
def flt (T : Nat → Nat) (own : Nat) : Nat → Nat → Option Nat
  | 0, p => if TM T p = 0 then none else some p
  | d + 1, p => if okc T own p then flt T own d (p + 1) else some p
section PAR
variable {T : Nat → Nat} {own : Nat}
theorem LN_le : ∀ k, LN T k ≤ k := by
  intro k
  induction k with
  | zero => exact Nat.le_refl _
  | succ k ih =>
    unfold LN
    split <;> omega
theorem LN_mono {j k : Nat} (h : j ≤ k) : LN T j ≤ LN T k := by
  induction h with
  | refl => exact Nat.le_refl _
  | step _ ih =>
    refine Nat.le_trans ih ?_
    rename_i m _
    show _ ≤ (if T m = 59 then LN T m + 1 else LN T m)
    split <;> omega
theorem TM_le : ∀ k, TM T k ≤ 9 := by
  intro k
  cases k with
  | zero => exact Nat.zero_le _
  | succ k =>
    show (if isD (T k) then T k - 48 else 0) ≤ 9
    by_cases c : isD (T k)
    · rw [if_pos c]
      obtain ⟨a, b⟩ := c
      omega
    · rw [if_neg c]
      omega
theorem ML_pos (k : Nat) : 0 < ML T k ∧ ML T k ≤ 9 := by
  have := TM_le (T := T) k
  unfold ML
  split <;> omega
theorem WS_succ {l : Nat} (hl : l < 1000) : ∀ k, k < 1000 → WS T (l + 1) k = WS T l k + WC T (nI l) k := by
  intro k
  induction k with
  | zero => intro _; rfl
  | succ k ih =>
    intro hk
    have := LN_le (T := T) k
    have e : (nI (LN T k) = nI l) = (LN T k = l) := nI_eq_iff (by omega) (by omega)
    unfold WS WC
    rw [ih (by omega)]
    by_cases c : nL (T k)
    · rw [if_pos c, if_pos c, if_pos c]
    · rw [if_neg c, if_neg c, if_neg c]
      simp only [e]
      by_cases a : LN T k = l
      · rw [if_pos (by omega), if_pos a, if_neg (by omega)]
        omega
      · rw [if_neg a]
        by_cases b : LN T k < l
        · rw [if_pos (by omega), if_pos b]
          omega
        · rw [if_neg (by omega), if_neg b]
theorem WS_big {l l' : Nat} : ∀ k, LN T k < l → LN T k < l' → WS T l k = WS T l' k := by
  intro k
  induction k with
  | zero => intro _ _; rfl
  | succ k ih =>
    intro h h'
    have m : LN T k ≤ LN T (k + 1) := LN_mono (by omega)
    unfold WS
    rw [ih (by omega) (by omega), if_pos (show LN T k < l by omega), if_pos (show LN T k < l' by omega)]
theorem WS_old {l k : Nat} (h : l ≤ LN T k) : WS T l (k + 1) = WS T l k := by
  show (if nL (T k) then WS T l k else if LN T k < l then WS T l k + ML T k else WS T l k) = _
  rw [if_neg (show ¬ LN T k < l by omega)]
  split <;> rfl
theorem WS_mono {l l' : Nat} (h : l ≤ l') : ∀ k, WS T l k ≤ WS T l' k := by
  intro k
  induction k with
  | zero => exact Nat.le_refl _
  | succ k ih =>
    unfold WS
    by_cases c : nL (T k)
    · rw [if_pos c, if_pos c]
      exact ih
    · rw [if_neg c, if_neg c]
      by_cases a : LN T k < l
      · rw [if_pos a, if_pos (by omega)]
        omega
      · rw [if_neg a]
        split <;> omega
/-- the words so far -/
def WT (T : Nat → Nat) (k : Nat) : Nat := WS T (LN T k + 1) k
theorem WT_eq {l k : Nat} (h : LN T k < l) : WS T l k = WT T k := WS_big k h (by omega)
theorem WT_succ {k : Nat} : WT T (k + 1) = if nL (T k) then WT T k else WT T k + ML T k := by
  have m : LN T k ≤ LN T (k + 1) := LN_mono (by omega)
  unfold WT
  show (if nL (T k) then WS T (LN T (k + 1) + 1) k else if LN T k < LN T (k + 1) + 1 then WS T (LN T (k + 1) + 1) k + ML T k else WS T (LN T (k + 1) + 1) k) = _
  rw [if_pos (show LN T k < LN T (k + 1) + 1 by omega), WS_big (l' := LN T k + 1) k (by omega) (by omega)]
theorem WT_line {k : Nat} (hk : k < 900) : WT T k = WS T (LN T k) k + WC T (nI (LN T k)) k := WS_succ (by have := LN_le (T := T) k; omega) k (by omega)
theorem WT_bound : ∀ k, (∀ j, j < k → okc T own j) → 2 * WT T k + (if TM T k = 0 then 0 else 9) ≤ 9 * k := by
  intro k
  induction k with
  | zero => intro _; exact Nat.le_refl _
  | succ k ih =>
    intro hv
    have i := ih (fun j hj => hv j (by omega))
    have o := hv k (by omega)
    have tm := TM_le (T := T) k
    rw [WT_succ]
    by_cases c : nL (T k)
    · have z : TM T k = 0 := by
        rcases o with q | q
        · exfalso; rcases c with c | c <;> omega
        · exact q.2
      rw [if_pos z] at i
      rw [if_pos c]
      split <;> omega
    · have z : TM T (k + 1) = 0 := if_neg (fun w => c (Or.inr w))
      rw [if_neg c, if_pos z]
      unfold ML
      split at i <;> rename_i y
      · rw [if_pos y]; omega
      · rw [if_neg y]; omega
theorem flt_none : ∀ d p, flt T own d p = none → (∀ j, p ≤ j → j < p + d → okc T own j) ∧ TM T (p + d) = 0 := by
  intro d
  induction d with
  | zero =>
    intro p h
    unfold flt at h
    split at h
    · exact ⟨fun j a b => by omega, by assumption⟩
    · cases h
  | succ d ih =>
    intro p h
    unfold flt at h
    split at h
    · rename_i o
      obtain ⟨a, b⟩ := ih (p + 1) h
      refine ⟨fun j x y => ?_, by rw [show p + (d + 1) = p + 1 + d by omega]; exact b⟩
      by_cases e : j = p
      · rw [e]; exact o
      · exact a j (by omega) (by omega)
    · cases h
theorem WC_s {l : Int32} {k : Nat} : WC T l (k + 1) = if nL (T k) then WC T l k else if nI (LN T k) = l then WC T l k + ML T k else WC T l k := rfl
theorem GO_s0 {l : Int32} {i k : Nat} (e : GO T l i k = none) : GO T l i (k + 1) = if ¬ nL (T k) ∧ nI (LN T k) = l ∧ WC T l k ≤ i ∧ i < WC T l k + ML T k then some (T k - 97) else none := by
  show (match GO T l i k with
    | some x => some x
    | none => if ¬ nL (T k) ∧ nI (LN T k) = l ∧ WC T l k ≤ i ∧ i < WC T l k + ML T k then some (T k - 97) else none) = _
  rw [e]
theorem GO_s1 {l : Int32} {i k x : Nat} (e : GO T l i k = some x) : GO T l i (k + 1) = some x := by
  show (match GO T l i k with
    | some x => some x
    | none => if ¬ nL (T k) ∧ nI (LN T k) = l ∧ WC T l k ≤ i ∧ i < WC T l k + ML T k then some (T k - 97) else none) = _
  rw [e]
theorem GO_lt {l : Int32} {i : Nat} : ∀ k, Option.isSome (GO T l i k) = true ↔ i < WC T l k := by
  intro k
  induction k with
  | zero => simp [GO, WC]
  | succ k ih =>
    have ml := ML_pos (T := T) k
    rw [WC_s]
    rcases e : GO T l i k with _ | x
    · have hn : ¬ i < WC T l k := fun w => by have := ih.mpr w; rw [e] at this; cases this
      rw [GO_s0 e]
      by_cases c : nL (T k)
      · rw [if_neg (fun w => w.1 c), if_pos c]
        exact ⟨fun w => (by cases w), fun w => absurd w hn⟩
      · rw [if_neg c]
        by_cases a : nI (LN T k) = l
        · rw [if_pos a]
          by_cases b : i < WC T l k + ML T k
          · rw [if_pos ⟨c, a, by omega, b⟩]
            exact ⟨fun _ => b, fun _ => rfl⟩
          · rw [if_neg (fun w => b w.2.2.2)]
            exact ⟨fun w => (by cases w), fun w => absurd w b⟩
        · rw [if_neg a, if_neg (fun w => a w.2.1)]
          exact ⟨fun w => (by cases w), fun w => absurd w hn⟩
    · have hs : i < WC T l k := ih.mp (by rw [e]; rfl)
      rw [GO_s1 e]
      refine ⟨fun _ => ?_, fun _ => rfl⟩
      split
      · exact hs
      · split <;> omega
theorem GO_val {l : Int32} {i x : Nat} : ∀ k, (∀ j, j < k → okc T own j) → GO T l i k = some x → x < 6 ∧ x ≠ own := by
  intro k
  induction k with
  | zero => intro _ h; cases h
  | succ k ih =>
    intro hv h
    unfold GO at h
    rcases e : GO T l i k with _ | y
    · rw [e] at h
      have h' : (if ¬ nL (T k) ∧ nI (LN T k) = l ∧ WC T l k ≤ i ∧ i < WC T l k + ML T k then some (T k - 97) else none) = some x := h
      split at h'
      · rename_i c
        have := Option.some.inj h'
        rcases hv k (by omega) with o | o
        · omega
        · exact absurd o.1 c.1
      · cases h'
    · rw [e] at h
      exact ih (fun j hj => hv j (by omega)) (e.trans h)
theorem WC_hi {l : Int32} : ∀ k, (∀ j, j ≤ k → nI (LN T j) ≠ l) → WC T l k = 0 := by
  intro k
  induction k with
  | zero => intro _; rfl
  | succ k ih =>
    intro h
    unfold WC
    rw [ih (fun j hj => h j (by omega)), if_neg (h k (by omega))]
    split <;> rfl
end PAR
