/-! THE WORLD BEHIND BOTH CONSTRUCTORS -/
def hN : zH := fun _ => zNil
def D6 : zE := .inl (6, [.null, .int 0, .null, .null, .int 0, .null, .int 0, .null, .null, .null, .null, .null])
def D7 : zE := .inl (7, [.null, .int 0, .null, .null, .int 0, .null, .int 0, .null, .int 0, .int 0, .int 0, .int 0, .null, .null, .null, .null, .null, .null, .null, .int 0, .null, .null, .null, .null, .null, .int 0, .null, .int 0, .int 0, .null, .null, .null, .null])
def hA : zH := i_Home_init (zup hN 0 D6)
def hS : zH := i_Model_init (zup hA 670 D7)
theorem nI00 : (0 : Int32) = nI 0 := nI_0.symm
def b00 : bT := (0, fun _ _ => 0, fun _ => 0, fun _ => 0, fun _ => 0, fun _ _ => 0, fun _ => 0, false)
theorem zJ_hi : hi zZ0 := fun _ _ => rfl
/-- new orders: nothing gone through -/
theorem ini_Orders {r : Nat} {h : zH} : ORB r 0 b00 zZ0 (-1) (i_Orders_init r 2 h) := by
  have q0 : i_Orders_init r 2 h r = OE r (nI 0) (nI 0) (-1) := i_Orders_init_self
  refine ⟨q0, ?_, ⟨fun j => if j < 150 then some (r + 1 + 1 + j) else none, ?_, fun s hs => ?_⟩, ⟨fun j => if j < 150 then some (r + 156 + 1 + j) else none, ?_, fun s hs => ?_⟩, fun s hs => ⟨fun _ => 0, ?_, fun _ _ => rfl, fun l => absurd l (Nat.not_lt_zero s)⟩, ⟨zZ0, ?_, fun s hs => absurd hs (Nat.not_lt_zero s)⟩, ⟨zZ0, ?_, fun s hs => absurd hs (Nat.not_lt_zero s)⟩, ⟨zZ0, ?_, fun s hs => absurd hs (Nat.not_lt_zero s)⟩, ⟨zZ0, ?_, fun s hs => absurd hs (Nat.not_lt_zero s)⟩, fun s hs => ⟨fun _ => 0, ?_, fun l => absurd l (Nat.not_lt_zero s)⟩, ⟨zZ0, ?_, fun s hs => absurd hs (Nat.not_lt_zero s)⟩, ⟨zZ0, ?_⟩, ?_, zJ_hi⟩
  · unfold i_Orders_init i_Rules_init
    rw [zup_ne (by omega), zup_eq]
    rfl
  · unfold i_Orders_init i_Rules_init
    simp (disch := omega) only [zup_ne, zup_eq]
    unfold zmul
    rw [if_neg (by omega), if_neg (by omega)]
    simp (disch := omega) only [zup_ne]
    rw [if_pos trivial]
  · show (if s < 150 then _ else _) = _
    rw [if_pos hs]
  · unfold i_Orders_init i_Rules_init
    simp (disch := omega) only [zup_ne, zup_eq]
    unfold zmul
    rw [if_pos rfl]
  · show (if s < 150 then _ else _) = _
    rw [if_pos hs]
  · unfold i_Orders_init i_Rules_init
    simp (disch := omega) only [zup_ne]
    unfold zmul
    rw [if_neg (by omega), if_neg (by omega)]
    simp (disch := omega) only [zup_ne]
    rw [if_neg (by omega), if_pos (by omega)]
  · unfold i_Orders_init i_Rules_init
    simp (disch := omega) only [zup_ne]
    unfold zmul
    rw [if_neg (by omega), if_neg (by omega)]
    simp (disch := omega) only [zup_ne, zup_eq]
  · unfold i_Orders_init i_Rules_init
    simp (disch := omega) only [zup_ne]
    unfold zmul
    rw [if_neg (by omega), if_neg (by omega)]
    simp (disch := omega) only [zup_ne, zup_eq]
  · unfold i_Orders_init i_Rules_init
    simp (disch := omega) only [zup_ne]
    unfold zmul
    rw [if_neg (by omega), if_neg (by omega)]
    simp (disch := omega) only [zup_ne, zup_eq]
  · unfold i_Orders_init i_Rules_init
    simp (disch := omega) only [zup_ne]
    unfold zmul
    rw [if_neg (by omega), if_neg (by omega)]
    rw [zup_eq]
  · unfold i_Orders_init i_Rules_init
    simp (disch := omega) only [zup_ne]
    unfold zmul
    rw [if_neg (by omega), if_pos (by omega)]
  · unfold i_Orders_init i_Rules_init
    simp (disch := omega) only [zup_ne, zup_eq]
  · unfold i_Orders_init i_Rules_init
    simp (disch := omega) only [zup_ne, zup_eq]
  · unfold i_Orders_init i_Rules_init
    simp (disch := omega) only [zup_ne, zup_eq]
theorem ini_Run {r : Nat} {h : zH} : i_Run_init r 2 h r = .inl (4, [.ref (r + 2), .ref (r + 1), .int 0, .int 0, .int 0, .int 0]) ∧ i_Run_init r 2 h (r + 1) = zI32 123 zZ0 ∧ i_Run_init r 2 h (r + 2) = .inl (3, [.ref 2, .int 0, .int 0]) := by
  refine ⟨i_Run_init_self, ?_, ?_⟩
  · unfold i_Run_init i_Rules_init
    simp (disch := omega) only [zup_ne, zup_eq]
  · unfold i_Run_init i_Rules_init
    simp (disch := omega) only [zup_ne, zup_eq]
theorem ini_Shelf {r : Nat} {h : zH} : i_Shelf_init r h r = .inl (5, [.ref (r + 1), .int 0, .int (-1), .int (-1)]) ∧ i_Shelf_init r h (r + 1) = zI64 60 zJ0 := by
  refine ⟨i_Shelf_init_self, ?_⟩
  unfold i_Shelf_init
  simp (disch := omega) only [zup_ne, zup_eq]
theorem ini_Huts {h : zH} : i_Huts_init 2 h 2 = huE 0 ∧ i_Huts_init 2 h 3 = zRf 5 6 (fun j => if j < 6 then some (4 + j) else none) ∧ i_Huts_init 2 h 10 = zRf 5 6 (fun j => if j < 6 then some (11 + j) else none) ∧ i_Huts_init 2 h 17 = zI32 6 zZ0 ∧ ∀ k, k < 6 → i_Huts_init 2 h (11 + k) = zI32 62 (fun _ => 0) ∧ i_Huts_init 2 h (4 + k) = zI32 270 (fun _ => 0) := by
  refine ⟨i_Huts_init_self, ?_, ?_, ?_, fun k hk => ⟨?_, ?_⟩⟩
  · unfold i_Huts_init
    simp (disch := omega) only [zup_ne]
    unfold zmul
    rw [if_neg (by omega), if_neg (by omega), if_pos (by omega)]
  · unfold i_Huts_init
    simp (disch := omega) only [zup_ne]
    unfold zmul
    rw [if_pos (by omega)]
  · unfold i_Huts_init
    simp (disch := omega) only [zup_ne, zup_eq]
  · unfold i_Huts_init
    simp (disch := omega) only [zup_ne]
    unfold zmul
    rw [if_neg (by omega), if_pos (by omega)]
  · unfold i_Huts_init
    simp (disch := omega) only [zup_ne]
    unfold zmul
    rw [if_neg (by omega), if_neg (by omega), if_neg (by omega), if_pos (by omega)]
theorem hS_lo {k : Nat} (q : k < 670) : hS k = hA k := by
  unfold hS i_Model_init
  simp (disch := omega) only [zup_ne]
/-- each part of the class stands where it was made -/
theorem hA_21 : ∃ Z, ∀ k, 21 ≤ k → k < 332 → hA k = i_Orders_init 21 2 Z k := by
  refine ⟨?Z, fun k a b => ?_⟩
  rotate_left
  · unfold hA i_Home_init
    simp (disch := omega) only [zup_ne, i_Shelf_init_ne, i_Run_init_ne, i_Acts_init_ne]
    rw [i_Orders_init_ne (r := 332) (by omega), zup_ne (by omega)]
theorem hA_332 : ∃ Z, ∀ k, 332 ≤ k → k < 643 → hA k = i_Orders_init 332 2 Z k := by
  refine ⟨?Z, fun k a b => ?_⟩
  rotate_left
  · unfold hA i_Home_init
    simp (disch := omega) only [zup_ne, i_Shelf_init_ne, i_Run_init_ne, i_Acts_init_ne]
    rfl
theorem hA_2 : ∃ Z, ∀ k, 2 ≤ k → k < 18 → hA k = i_Huts_init 2 Z k := by
  refine ⟨?Z, fun k a b => ?_⟩
  rotate_left
  · unfold hA i_Home_init
    simp (disch := omega) only [zup_ne, i_Shelf_init_ne, i_Run_init_ne, i_Acts_init_ne]
    rw [i_Orders_init_ne (r := 332) (by omega), zup_ne (by omega), i_Orders_init_ne (r := 21) (by omega)]
    simp (disch := omega) only [zup_ne]
    rfl
theorem hA_run (r : Nat) (hr : r < 4) : hA (646 + 3 * r) = .inl (4, [.ref (648 + 3 * r), .ref (647 + 3 * r), .int 0, .int 0, .int 0, .int 0]) ∧ hA (647 + 3 * r) = zI32 123 zZ0 ∧ hA (648 + 3 * r) = .inl (3, [.ref 2, .int 0, .int 0]) := by
  rcases (show r = 0 ∨ r = 1 ∨ r = 2 ∨ r = 3 by omega) with rfl | rfl | rfl | rfl
  · refine ⟨?_, ?_, ?_⟩
    · show hA 646 = _
      unfold hA i_Home_init
      simp (disch := omega) only [zup_ne, i_Shelf_init_ne]
      rw [i_Run_init_ne (r := 655) (by omega), zup_ne (by omega), zup_ne (by omega), i_Run_init_ne (r := 652) (by omega), zup_ne (by omega), zup_ne (by omega), i_Run_init_ne (r := 649) (by omega), zup_ne (by omega), zup_ne (by omega)]
      exact (ini_Run (r := 646)).1
    · show hA 647 = _
      unfold hA i_Home_init
      simp (disch := omega) only [zup_ne, i_Shelf_init_ne]
      rw [i_Run_init_ne (r := 655) (by omega), zup_ne (by omega), zup_ne (by omega), i_Run_init_ne (r := 652) (by omega), zup_ne (by omega), zup_ne (by omega), i_Run_init_ne (r := 649) (by omega), zup_ne (by omega), zup_ne (by omega)]
      exact (ini_Run (r := 646)).2.1
    · show hA 648 = _
      unfold hA i_Home_init
      simp (disch := omega) only [zup_ne, i_Shelf_init_ne]
      rw [i_Run_init_ne (r := 655) (by omega), zup_ne (by omega), zup_ne (by omega), i_Run_init_ne (r := 652) (by omega), zup_ne (by omega), zup_ne (by omega), i_Run_init_ne (r := 649) (by omega), zup_ne (by omega), zup_ne (by omega)]
      exact (ini_Run (r := 646)).2.2
  · refine ⟨?_, ?_, ?_⟩
    · show hA 649 = _
      unfold hA i_Home_init
      simp (disch := omega) only [zup_ne, i_Shelf_init_ne]
      rw [i_Run_init_ne (r := 655) (by omega), zup_ne (by omega), zup_ne (by omega), i_Run_init_ne (r := 652) (by omega), zup_ne (by omega), zup_ne (by omega)]
      exact (ini_Run (r := 649)).1
    · show hA 650 = _
      unfold hA i_Home_init
      simp (disch := omega) only [zup_ne, i_Shelf_init_ne]
      rw [i_Run_init_ne (r := 655) (by omega), zup_ne (by omega), zup_ne (by omega), i_Run_init_ne (r := 652) (by omega), zup_ne (by omega), zup_ne (by omega)]
      exact (ini_Run (r := 649)).2.1
    · show hA 651 = _
      unfold hA i_Home_init
      simp (disch := omega) only [zup_ne, i_Shelf_init_ne]
      rw [i_Run_init_ne (r := 655) (by omega), zup_ne (by omega), zup_ne (by omega), i_Run_init_ne (r := 652) (by omega), zup_ne (by omega), zup_ne (by omega)]
      exact (ini_Run (r := 649)).2.2
  · refine ⟨?_, ?_, ?_⟩
    · show hA 652 = _
      unfold hA i_Home_init
      simp (disch := omega) only [zup_ne, i_Shelf_init_ne]
      rw [i_Run_init_ne (r := 655) (by omega), zup_ne (by omega), zup_ne (by omega)]
      exact (ini_Run (r := 652)).1
    · show hA 653 = _
      unfold hA i_Home_init
      simp (disch := omega) only [zup_ne, i_Shelf_init_ne]
      rw [i_Run_init_ne (r := 655) (by omega), zup_ne (by omega), zup_ne (by omega)]
      exact (ini_Run (r := 652)).2.1
    · show hA 654 = _
      unfold hA i_Home_init
      simp (disch := omega) only [zup_ne, i_Shelf_init_ne]
      rw [i_Run_init_ne (r := 655) (by omega), zup_ne (by omega), zup_ne (by omega)]
      exact (ini_Run (r := 652)).2.2
  · refine ⟨?_, ?_, ?_⟩
    · show hA 655 = _
      unfold hA i_Home_init
      simp (disch := omega) only [zup_ne, i_Shelf_init_ne]
      exact (ini_Run (r := 655)).1
    · show hA 656 = _
      unfold hA i_Home_init
      simp (disch := omega) only [zup_ne, i_Shelf_init_ne]
      exact (ini_Run (r := 655)).2.1
    · show hA 657 = _
      unfold hA i_Home_init
      simp (disch := omega) only [zup_ne, i_Shelf_init_ne]
      exact (ini_Run (r := 655)).2.2
theorem hA_sh (r : Nat) (hr : r < 6) : hA (658 + 2 * r) = .inl (5, [.ref (659 + 2 * r), .int 0, .int (-1), .int (-1)]) ∧ hA (659 + 2 * r) = zI64 60 zJ0 := by
  rcases (show r = 0 ∨ r = 1 ∨ r = 2 ∨ r = 3 ∨ r = 4 ∨ r = 5 by omega) with rfl | rfl | rfl | rfl | rfl | rfl
  · refine ⟨?_, ?_⟩
    · show hA 658 = _
      unfold hA i_Home_init
      rw [zup_ne (by omega), zup_ne (by omega), i_Shelf_init_ne (r := 668) (by omega), zup_ne (by omega), zup_ne (by omega), i_Shelf_init_ne (r := 666) (by omega), zup_ne (by omega), zup_ne (by omega), i_Shelf_init_ne (r := 664) (by omega), zup_ne (by omega), zup_ne (by omega), i_Shelf_init_ne (r := 662) (by omega), zup_ne (by omega), zup_ne (by omega), i_Shelf_init_ne (r := 660) (by omega), zup_ne (by omega), zup_ne (by omega)]
      exact (ini_Shelf (r := 658)).1
    · show hA 659 = _
      unfold hA i_Home_init
      rw [zup_ne (by omega), zup_ne (by omega), i_Shelf_init_ne (r := 668) (by omega), zup_ne (by omega), zup_ne (by omega), i_Shelf_init_ne (r := 666) (by omega), zup_ne (by omega), zup_ne (by omega), i_Shelf_init_ne (r := 664) (by omega), zup_ne (by omega), zup_ne (by omega), i_Shelf_init_ne (r := 662) (by omega), zup_ne (by omega), zup_ne (by omega), i_Shelf_init_ne (r := 660) (by omega), zup_ne (by omega), zup_ne (by omega)]
      exact (ini_Shelf (r := 658)).2
  · refine ⟨?_, ?_⟩
    · show hA 660 = _
      unfold hA i_Home_init
      rw [zup_ne (by omega), zup_ne (by omega), i_Shelf_init_ne (r := 668) (by omega), zup_ne (by omega), zup_ne (by omega), i_Shelf_init_ne (r := 666) (by omega), zup_ne (by omega), zup_ne (by omega), i_Shelf_init_ne (r := 664) (by omega), zup_ne (by omega), zup_ne (by omega), i_Shelf_init_ne (r := 662) (by omega), zup_ne (by omega), zup_ne (by omega)]
      exact (ini_Shelf (r := 660)).1
    · show hA 661 = _
      unfold hA i_Home_init
      rw [zup_ne (by omega), zup_ne (by omega), i_Shelf_init_ne (r := 668) (by omega), zup_ne (by omega), zup_ne (by omega), i_Shelf_init_ne (r := 666) (by omega), zup_ne (by omega), zup_ne (by omega), i_Shelf_init_ne (r := 664) (by omega), zup_ne (by omega), zup_ne (by omega), i_Shelf_init_ne (r := 662) (by omega), zup_ne (by omega), zup_ne (by omega)]
      exact (ini_Shelf (r := 660)).2
  · refine ⟨?_, ?_⟩
    · show hA 662 = _
      unfold hA i_Home_init
      rw [zup_ne (by omega), zup_ne (by omega), i_Shelf_init_ne (r := 668) (by omega), zup_ne (by omega), zup_ne (by omega), i_Shelf_init_ne (r := 666) (by omega), zup_ne (by omega), zup_ne (by omega), i_Shelf_init_ne (r := 664) (by omega), zup_ne (by omega), zup_ne (by omega)]
      exact (ini_Shelf (r := 662)).1
    · show hA 663 = _
      unfold hA i_Home_init
      rw [zup_ne (by omega), zup_ne (by omega), i_Shelf_init_ne (r := 668) (by omega), zup_ne (by omega), zup_ne (by omega), i_Shelf_init_ne (r := 666) (by omega), zup_ne (by omega), zup_ne (by omega), i_Shelf_init_ne (r := 664) (by omega), zup_ne (by omega), zup_ne (by omega)]
      exact (ini_Shelf (r := 662)).2
  · refine ⟨?_, ?_⟩
    · show hA 664 = _
      unfold hA i_Home_init
      rw [zup_ne (by omega), zup_ne (by omega), i_Shelf_init_ne (r := 668) (by omega), zup_ne (by omega), zup_ne (by omega), i_Shelf_init_ne (r := 666) (by omega), zup_ne (by omega), zup_ne (by omega)]
      exact (ini_Shelf (r := 664)).1
    · show hA 665 = _
      unfold hA i_Home_init
      rw [zup_ne (by omega), zup_ne (by omega), i_Shelf_init_ne (r := 668) (by omega), zup_ne (by omega), zup_ne (by omega), i_Shelf_init_ne (r := 666) (by omega), zup_ne (by omega), zup_ne (by omega)]
      exact (ini_Shelf (r := 664)).2
  · refine ⟨?_, ?_⟩
    · show hA 666 = _
      unfold hA i_Home_init
      rw [zup_ne (by omega), zup_ne (by omega), i_Shelf_init_ne (r := 668) (by omega), zup_ne (by omega), zup_ne (by omega)]
      exact (ini_Shelf (r := 666)).1
    · show hA 667 = _
      unfold hA i_Home_init
      rw [zup_ne (by omega), zup_ne (by omega), i_Shelf_init_ne (r := 668) (by omega), zup_ne (by omega), zup_ne (by omega)]
      exact (ini_Shelf (r := 666)).2
  · refine ⟨?_, ?_⟩
    · show hA 668 = _
      unfold hA i_Home_init
      rw [zup_ne (by omega), zup_ne (by omega)]
      exact (ini_Shelf (r := 668)).1
    · show hA 669 = _
      unfold hA i_Home_init
      rw [zup_ne (by omega), zup_ne (by omega)]
      exact (ini_Shelf (r := 668)).2
theorem hA_v : hA 0 = HO 0 0 0 ∧ hA 1 = zI32 60 zZ0 ∧ hA 18 = zI32 10 zZ0 ∧ hA 20 = zI32 123 zZ0 ∧ hA 643 = .inl (0, [.ref 644, .int (nI 0), .int 0, .int 0]) ∧ hA 644 = zI32 24 zZ0 := by
  refine ⟨?_, ?_, ?_, ?_, ?_, ?_⟩
  · unfold hA i_Home_init
    rw [zup_eq]
    rfl
  · unfold hA i_Home_init
    simp (disch := omega) only [zup_ne, zup_eq, i_Shelf_init_ne, i_Run_init_ne, i_Acts_init_ne, i_Orders_init_ne, i_Huts_init_ne]
  · unfold hA i_Home_init
    simp (disch := omega) only [zup_ne, zup_eq, i_Shelf_init_ne, i_Run_init_ne, i_Acts_init_ne, i_Orders_init_ne]
  · unfold hA i_Home_init
    simp (disch := omega) only [zup_ne, zup_eq, i_Shelf_init_ne, i_Run_init_ne, i_Acts_init_ne, i_Orders_init_ne]
  · unfold hA i_Home_init
    simp (disch := omega) only [zup_ne, i_Shelf_init_ne, i_Run_init_ne]
    exact i_Acts_init_self
  · unfold hA i_Home_init
    simp (disch := omega) only [zup_ne, i_Shelf_init_ne, i_Run_init_ne]
    unfold i_Acts_init
    rw [zup_ne (by omega), zup_eq]
theorem hA_19 : ∃ g, hA 19 = zRf 3 4 g ∧ ∀ r, r < 4 → g r = some (646 + 3 * r) := by
  refine ⟨(fun k => if k = 3 then some 655 else (fun k => if k = 2 then some 652 else (fun k => if k = 1 then some 649 else (fun k => if k = 0 then some 646 else (fun _ => none) k) k) k) k), ?_, fun r hr => ?_⟩
  · unfold hA i_Home_init
    simp (disch := omega) only [zup_ne, zup_eq, i_Shelf_init_ne]
  · rcases (show r = 0 ∨ r = 1 ∨ r = 2 ∨ r = 3 by omega) with rfl | rfl | rfl | rfl <;> rfl
theorem hA_645 : ∃ g, hA 645 = zRf 4 6 g ∧ ∀ r, r < 6 → g r = some (658 + 2 * r) := by
  refine ⟨(fun k => if k = 5 then some 668 else (fun k => if k = 4 then some 666 else (fun k => if k = 3 then some 664 else (fun k => if k = 2 then some 662 else (fun k => if k = 1 then some 660 else (fun k => if k = 0 then some 658 else (fun _ => none) k) k) k) k) k) k), ?_, fun r hr => ?_⟩
  · unfold hA i_Home_init
    rw [zup_ne (by omega), zup_eq]
  · rcases (show r = 0 ∨ r = 1 ∨ r = 2 ∨ r = 3 ∨ r = 4 ∨ r = 5 by omega) with rfl | rfl | rfl | rfl | rfl | rfl <;> rfl
theorem hS_m : hS 670 = MO (fun _ => 0) ∧ hS 671 = zI32 60 zZ0 ∧ hS 672 = zI32 360 zZ0 ∧ hS 673 = zI32 6 zZ0 ∧ hS 674 = zI32 10 zZ0 ∧ hS 675 = zI32 91 zZ0 ∧ hS 676 = zI32 364 zZ0 ∧ hS 677 = zI32 4 zZ0 ∧ hS 678 = zI32 4 zZ0 ∧ hS 679 = zI32 4 zZ0 ∧ hS 680 = zI32 4 zZ0 ∧ hS 681 = zI32 4 zZ0 ∧ hS 682 = zI32 4 zZ0 ∧ hS 683 = zI32 13741 zZ0 ∧ hS 684 = zI32 151 zZ0 ∧ hS 685 = zI32 151 zZ0 ∧ hS 686 = zI1 151 zZ0 ∧ hS 687 = zI1 22801 zZ0 ∧ hS 688 = zI32 24 zZ0 ∧ hS 689 = zI32 6 (upd (upd (upd (upd (upd (upd zZ0 0 (-1 : Int32)) 1 (-1 : Int32)) 2 (-1 : Int32)) 3 (-1 : Int32)) 4 (-1 : Int32)) 5 (-1 : Int32)) ∧ hS 690 = zI32 6 zZ0 ∧ hS 691 = zI64 360 zJ0 ∧ hS 692 = zI64 60 zJ0 := by
  refine ⟨?_, ?_, ?_, ?_, ?_, ?_, ?_, ?_, ?_, ?_, ?_, ?_, ?_, ?_, ?_, ?_, ?_, ?_, ?_, ?_, ?_, ?_, ?_⟩
  · unfold hS i_Model_init
    rw [zup_eq]
    rfl
  all_goals
    unfold hS i_Model_init
    simp (disch := omega) only [zup_ne, zup_eq]
/-- the beginning -/
theorem INV_0 : INV 0 (fun _ _ => 0) (fun _ => 0) 0 0 0 0 zZ0 0 hS := by
  obtain ⟨v0, v1, v18, v20, v643, v644⟩ := hA_v
  obtain ⟨m0, m1, m2, m3, m4, m5, m6, m7, m8, m9, m10, m11, m12, m13, m14, m15, m16, m17, m18, m19, m20, m21, m22⟩ := hS_m
  obtain ⟨Z2, e2⟩ := hA_2
  obtain ⟨a2, a3, a10, a17, aR⟩ := ini_Huts (h := Z2)
  have lo : ∀ k, k < 670 → hS k = hA k := fun k hk => hS_lo hk
  have z0 : ∀ k, zZ0 k = nI 0 := fun _ => nI00
  obtain ⟨g19, r19, s19⟩ := hA_19
  obtain ⟨g645, r645, s645⟩ := hA_645
  refine ⟨⟨⟨by rw [lo 0 (by omega)]; exact v0, _, m0, nI00, nI00, nI00, nI00, nI00⟩, ⟨by omega, zZ0, by rw [lo 1 (by omega)]; exact v1, m1, fun k _ => ⟨0, by omega, z0 k⟩⟩, ⟨by omega, fun hh q => absurd q (Nat.not_lt_zero hh), ⟨⟨by rw [lo 2 (by omega), e2 2 (by omega) (by omega)]; exact a2, ⟨_, by rw [lo 3 (by omega), e2 3 (by omega) (by omega)]; exact a3, fun k hk => if_pos hk⟩, _, by rw [lo 10 (by omega), e2 10 (by omega) (by omega)]; exact a10, fun k hk => if_pos hk⟩, zZ0, by rw [lo 17 (by omega), e2 17 (by omega) (by omega)]; exact a17, fun hh q => absurd q (Nat.not_lt_zero hh)⟩, ⟨zZ0, zZ0, m2, m3, fun hh q => absurd q (Nat.not_lt_zero hh)⟩, fun k _ hk => ⟨_, _, by rw [lo _ (by omega), e2 _ (by omega) (by omega)]; exact (aR k hk).1, by rw [lo _ (by omega), e2 _ (by omega) (by omega)]; exact (aR k hk).2, nI00⟩⟩, ⟨by omega, by rw [lo 18 (by omega)]; exact v18, m4, fun i q => absurd q (Nat.not_lt_zero i)⟩, ⟨by omega, Or.inl rfl, ⟨g19, by rw [lo 19 (by omega)]; exact r19, s19⟩, zZ0, zZ0, zZ0, zZ0, zZ0, zZ0, zZ0, ⟨m6, m7, m8, m9, m10, m11, m12⟩, fun r q => absurd q (Nat.not_lt_zero r), fun r _ hr => ?_⟩, ⟨zZ0, by rw [lo 20 (by omega)]; exact v20, zJ_hi⟩, ⟨⟨zZ0, m5, fun _ _ => rfl⟩, ⟨_, m13⟩, ⟨_, m14⟩, ⟨_, m15⟩, ⟨_, m16⟩, _, m17⟩, ⟨by omega, ⟨0, 0, by rw [lo 643 (by omega)]; exact v643⟩, zZ0, by rw [lo 644 (by omega)]; exact v644, m18⟩, ⟨g645, by rw [lo 645 (by omega)]; exact r645, s645⟩, _, _, _, m19, m20, m21, ⟨_, m22⟩, fun s hs => ?_⟩, ?_, ?_⟩
  · obtain ⟨x1, x2, x3⟩ := hA_run r hr
    exact ⟨nI00, 0, 0, 0, 0, 0, 0, zZ0, by rw [lo _ (by omega)]; exact x1, by rw [lo _ (by omega)]; exact x2, zJ_hi, by rw [lo _ (by omega)]; exact x3⟩
  · obtain ⟨x1, x2⟩ := hA_sh s hs
    refine ⟨0, -1, -1, zJ0, Or.inl ⟨nI00, rfl, rfl, ?_, nI00⟩, by rw [lo _ (by omega)]; exact x1, by rw [lo _ (by omega)]; exact x2, fun _ _ => rfl⟩
    rcases (show s = 0 ∨ s = 1 ∨ s = 2 ∨ s = 3 ∨ s = 4 ∨ s = 5 by omega) with rfl | rfl | rfl | rfl | rfl | rfl <;> rfl
  · obtain ⟨Z, e⟩ := hA_21
    exact ⟨0, b00, zZ0, -1, by omega, (ini_Orders (r := 21) (h := Z)).fr fun k a b => by rw [lo k (by omega)]; exact e k a (by omega), Or.inl rfl⟩
  · obtain ⟨Z, e⟩ := hA_332
    exact ⟨0, b00, zZ0, -1, by omega, (ini_Orders (r := 332) (h := Z)).fr fun k a b => by rw [lo k (by omega)]; exact e k a (by omega), Or.inl rfl⟩
