/-! THE MODEL'S STATE: its object's numbers m, its row of 91 cells as a picture of the class's 123 -/
def MO (m : Nat → Int32) : zE := .inl (7, [.ref 671, .int (m 1), .ref 672, .ref 673, .int (m 4), .ref 674, .int (m 6), .ref 675, .int (m 8), .int (m 9), .int (m 10), .int (m 11), .ref 676, .ref 677, .ref 678, .ref 679, .ref 680, .ref 681, .ref 682, .int (m 19), .ref 683, .ref 684, .ref 685, .ref 686, .ref 687, .int (m 25), .ref 688, .int (m 27), .int (m 28), .ref 689, .ref 690, .ref 691, .ref 692])
def mosc (j : Nat) : Prop := j = 1 ∨ j = 4 ∨ j = 6 ∨ j = 8 ∨ j = 9 ∨ j = 10 ∨ j = 11 ∨ j = 19 ∨ j = 25 ∨ j = 27 ∨ j = 28
theorem MO_rd (h : zH) (m : Nat → Int32) {j : Nat} (q : mosc j) (hm : h 670 = MO m) : zrI h 670 7 j = some (m j) := by
  rcases q with rfl | rfl | rfl | rfl | rfl | rfl | rfl | rfl | rfl | rfl | rfl <;> exact zrI_of hm rfl
theorem MO_ref (h : zH) (m : Nat → Int32) (hm : h 670 = MO m) : zrR h 670 7 0 = some 671 ∧ zrR h 670 7 2 = some 672 ∧ zrR h 670 7 3 = some 673 ∧ zrR h 670 7 5 = some 674 ∧ zrR h 670 7 7 = some 675 ∧ zrR h 670 7 12 = some 676 ∧ zrR h 670 7 13 = some 677 ∧ zrR h 670 7 14 = some 678 ∧ zrR h 670 7 15 = some 679 ∧ zrR h 670 7 16 = some 680 ∧ zrR h 670 7 17 = some 681 ∧ zrR h 670 7 18 = some 682 ∧ zrR h 670 7 20 = some 683 ∧ zrR h 670 7 21 = some 684 ∧ zrR h 670 7 22 = some 685 ∧ zrR h 670 7 23 = some 686 ∧ zrR h 670 7 24 = some 687 ∧ zrR h 670 7 26 = some 688 ∧ zrR h 670 7 29 = some 689 ∧ zrR h 670 7 30 = some 690 ∧ zrR h 670 7 31 = some 691 ∧ zrR h 670 7 32 = some 692 := by
  refine ⟨?_, ?_, ?_, ?_, ?_, ?_, ?_, ?_, ?_, ?_, ?_, ?_, ?_, ?_, ?_, ?_, ?_, ?_, ?_, ?_, ?_, ?_⟩ <;> exact zrR_of hm rfl
theorem MO_wr (h : zH) (m : Nat → Int32) {j : Nat} (x : Int32) (q : mosc j) (hm : h 670 = MO m) : zwI h 670 7 j x = some (zup h 670 (MO (upd m j x))) := by
  rcases q with rfl | rfl | rfl | rfl | rfl | rfl | rfl | rfl | rfl | rfl | rfl <;> exact zwI_of hm (by simp)
theorem MO_wrZ (h : zH) (m : Nat → Int32) {x : Int32} (hx : x = 0 ∨ x = 1) (hm : h 670 = MO m) : zwZ h 670 7 11 x = some (zup h 670 (MO (upd m 11 x))) := zwZ_of hm (by simp) hx
theorem MO_cv {α : Type} (h : zH) (m : Nat → Int32) (hm : h 670 = MO m) (o : Option α) : zcv h 670 7 o = o := zcv_of (zcls_of hm)
/-- which cell of the class a cell of the model shows -/
def pm (fm n : Nat) (j : Nat) : Option Nat :=
  if j < 36 then
    (match j % 6 with
      | 0 => some (j / 6)
      | 1 => some (6 + j / 6)
      | 2 => some (12 + j / 6)
      | 3 => if fm = 1 then some (68 + j / 6) else if fm = 2 then some (75 + j / 6) else if fm = 4 then some (93 + j / 6) else if fm = 5 then some (105 + j / 6) else none
      | 4 => if fm = 2 then (if j / 6 < n then some (81 + j / 6) else none) else if fm = 4 then some (99 + j / 6) else if fm = 5 then some (111 + j / 6) else none
      | _ => if fm = 2 then some (87 + j / 6) else none)
  else if j = 36 then some 18
  else if j < 61 then some (19 + 8 * ((j - 37) % 3) + (j - 37) / 3)
  else if j = 61 then some 43
  else if j < 86 then some (44 + 8 * ((j - 62) % 3) + (j - 62) / 3)
  else if j = 86 then some 74
  else if j = 87 then some 120
  else if j < 91 then some (117 + (j - 88))
  else none
def ph (fm n : Nat) (g : Nat → Int32) : Nat → Int32 := fun j => match pm fm n j with
  | some c => g c
  | none => 0
/-- a cell of the class: where the model shows it -/
def pq (fm : Nat) (c : Nat) : Nat :=
  if c < 18 then 6 * (c % 6) + c / 6
  else if c = 18 then 36
  else if c < 43 then 37 + 3 * ((c - 19) % 8) + (c - 19) / 8
  else if c = 43 then 61
  else if c < 68 then 62 + 3 * ((c - 44) % 8) + (c - 44) / 8
  else if c = 74 then 86
  else if c = 120 then 87
  else if c < 74 then 6 * (c - 68) + 3
  else if c < 81 then 6 * (c - 75) + 3
  else if c < 87 then 6 * (c - 81) + 4
  else if c < 93 then 6 * (c - 87) + 5
  else if c < 99 then 6 * (c - 93) + 3
  else if c < 105 then 6 * (c - 99) + 4
  else if c < 111 then 6 * (c - 105) + 3
  else if c < 117 then 6 * (c - 111) + 4
  else 88 + (c - 117)
theorem pm_tab : ∀ fm, fm < 6 → ∀ n, n < 7 → ∀ j, j < 91 → ∀ c, pm fm n j = some c → pq fm c = j ∧ c < 121 := by
  have z : ∀ fm, fm < 6 → ∀ n, n < 7 → ∀ j, j < 91 → (match pm fm n j with
    | some c => decide (pq fm c = j ∧ c < 121)
    | none => true) = true := by decide +kernel
  intro fm hfm n hn j hj c hc
  have := z fm hfm n hn j hj
  rw [hc] at this
  exact of_decide_eq_true this
theorem pm_hi {fm n j : Nat} (hj : 91 ≤ j) : pm fm n j = none := by
  unfold pm
  rw [if_neg (by omega), if_neg (by omega), if_neg (by omega), if_neg (by omega), if_neg (by omega), if_neg (by omega), if_neg (by omega), if_neg (by omega)]
theorem ph_hi {fm n j : Nat} {g : Nat → Int32} (hj : 91 ≤ j) : ph fm n g j = 0 := by
  unfold ph
  rw [pm_hi hj]
theorem ph_rd {fm n j c : Nat} {g : Nat → Int32} (hc : pm fm n j = some c) : ph fm n g j = g c := by
  unfold ph
  rw [hc]
theorem ph_up {fm n j c : Nat} {g : Nat → Int32} (hfm : fm < 6) (hn : n ≤ 6) (hc : pm fm n j = some c) (v : Int32) : upd (ph fm n g) j v = ph fm n (upd g c v) := by
  funext k
  unfold upd
  have j91 : j < 91 := by
    rcases Nat.lt_or_ge j 91 with h | h
    · exact h
    · rw [pm_hi h] at hc; cases hc
  have e1 := (pm_tab fm hfm n (by omega) j j91 c hc).1
  by_cases e : k = j
  · rw [if_pos e, e]
    unfold ph
    rw [hc]
    exact (if_pos rfl).symm
  · rw [if_neg e]
    unfold ph
    rcases hk : pm fm n k with _ | c'
    · rfl
    · have k91 : k < 91 := by
        rcases Nat.lt_or_ge k 91 with h | h
        · exact h
        · rw [pm_hi h] at hk; cases hk
      have e2 := (pm_tab fm hfm n (by omega) k k91 c' hk).1
      have : c' ≠ c := fun z => e (by rw [← e2, z, e1])
      exact (if_neg this).symm
theorem ph_cg {fm n : Nat} {g g' : Nat → Int32} (hfm : fm < 6) (hn : n ≤ 6) (e : ∀ c, c < 121 → g c = g' c) : ph fm n g = ph fm n g' := by
  funext k
  unfold ph
  rcases hk : pm fm n k with _ | c'
  · rfl
  · have k91 : k < 91 := by
      rcases Nat.lt_or_ge k 91 with h | h
      · exact h
      · rw [pm_hi h] at hk; cases hk
    exact e c' (pm_tab fm hfm n (by omega) k k91 c' hk).2
theorem pm0 {fm n hh : Nat} (q : hh < 6) : pm fm n (6 * hh) = some hh := by
  rcases (show hh = 0 ∨ hh = 1 ∨ hh = 2 ∨ hh = 3 ∨ hh = 4 ∨ hh = 5 by omega) with rfl | rfl | rfl | rfl | rfl | rfl <;> rfl
theorem pm1 {fm n hh : Nat} (q : hh < 6) : pm fm n (6 * hh + 1) = some (6 + hh) := by
  rcases (show hh = 0 ∨ hh = 1 ∨ hh = 2 ∨ hh = 3 ∨ hh = 4 ∨ hh = 5 by omega) with rfl | rfl | rfl | rfl | rfl | rfl <;> rfl
theorem pm2 {fm n hh : Nat} (q : hh < 6) : pm fm n (6 * hh + 2) = some (12 + hh) := by
  rcases (show hh = 0 ∨ hh = 1 ∨ hh = 2 ∨ hh = 3 ∨ hh = 4 ∨ hh = 5 by omega) with rfl | rfl | rfl | rfl | rfl | rfl <;> rfl
def pA : Nat → Nat := fun fm => if fm = 1 then 68 else if fm = 2 then 75 else if fm = 4 then 93 else 105
def pB : Nat → Nat := fun fm => if fm = 2 then 81 else if fm = 4 then 99 else 111
theorem pm3 {fm n hh : Nat} (q : hh < 6) (hf : fm = 1 ∨ fm = 2 ∨ fm = 4 ∨ fm = 5) : pm fm n (6 * hh + 3) = some (pA fm + hh) := by
  rcases (show hh = 0 ∨ hh = 1 ∨ hh = 2 ∨ hh = 3 ∨ hh = 4 ∨ hh = 5 by omega) with rfl | rfl | rfl | rfl | rfl | rfl <;> rcases hf with rfl | rfl | rfl | rfl <;> rfl
theorem pm3n {fm n hh : Nat} (q : hh < 6) (hf : fm = 0 ∨ fm = 3) : pm fm n (6 * hh + 3) = none := by
  rcases (show hh = 0 ∨ hh = 1 ∨ hh = 2 ∨ hh = 3 ∨ hh = 4 ∨ hh = 5 by omega) with rfl | rfl | rfl | rfl | rfl | rfl <;> rcases hf with rfl | rfl <;> rfl
theorem pm4 {fm n hh : Nat} (q : hh < 6) (q2 : hh < n) (hf : fm = 2 ∨ fm = 4 ∨ fm = 5) : pm fm n (6 * hh + 4) = some (pB fm + hh) := by
  rcases (show hh = 0 ∨ hh = 1 ∨ hh = 2 ∨ hh = 3 ∨ hh = 4 ∨ hh = 5 by omega) with rfl | rfl | rfl | rfl | rfl | rfl <;> rcases hf with rfl | rfl | rfl <;> first | rfl | exact if_pos q2
theorem pm5 {n hh : Nat} (q : hh < 6) : pm 2 n (6 * hh + 5) = some (87 + hh) := by
  rcases (show hh = 0 ∨ hh = 1 ∨ hh = 2 ∨ hh = 3 ∨ hh = 4 ∨ hh = 5 by omega) with rfl | rfl | rfl | rfl | rfl | rfl <;> rfl
theorem pmW {fm n i t : Nat} (q : i < 8) (ht : t < 3) : pm fm n (37 + 3 * i + t) = some (19 + 8 * t + i) := by
  rcases (show i = 0 ∨ i = 1 ∨ i = 2 ∨ i = 3 ∨ i = 4 ∨ i = 5 ∨ i = 6 ∨ i = 7 by omega) with rfl | rfl | rfl | rfl | rfl | rfl | rfl | rfl <;> rcases (show t = 0 ∨ t = 1 ∨ t = 2 by omega) with rfl | rfl | rfl <;> rfl
theorem pmN {fm n i t : Nat} (q : i < 8) (ht : t < 3) : pm fm n (62 + 3 * i + t) = some (44 + 8 * t + i) := by
  rcases (show i = 0 ∨ i = 1 ∨ i = 2 ∨ i = 3 ∨ i = 4 ∨ i = 5 ∨ i = 6 ∨ i = 7 by omega) with rfl | rfl | rfl | rfl | rfl | rfl | rfl | rfl <;> rcases (show t = 0 ∨ t = 1 ∨ t = 2 by omega) with rfl | rfl | rfl <;> rfl
theorem pm_c {fm n : Nat} : pm fm n 36 = some 18 ∧ pm fm n 61 = some 43 ∧ pm fm n 86 = some 74 ∧ pm fm n 87 = some 120 ∧ pm fm n 88 = some 117 ∧ pm fm n 89 = some 118 ∧ pm fm n 90 = some 119 := ⟨rfl, rfl, rfl, rfl, rfl, rfl, rfl⟩
theorem pA_v : pA 1 = 68 ∧ pA 2 = 75 ∧ pA 4 = 93 ∧ pA 5 = 105 ∧ pB 2 = 81 ∧ pB 4 = 99 ∧ pB 5 = 111 := ⟨rfl, rfl, rfl, rfl, rfl, rfl, rfl⟩
