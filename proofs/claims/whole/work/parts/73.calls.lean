/-! EACH CALL, IN ONE FORM: both sides answer alike, and the world stands again -/
def INVx (b : Nat) (h : zH) : Prop := ∃ (n : Nat) (X : Nat → Nat → Nat) (Le : Nat → Nat) (tl w rb ran : Nat) (Kf : Nat → Int32), INV n X Le tl w rb ran Kf b h
theorem INV.mono {n tl w rb ran b b' : Nat} {X : Nat → Nat → Nat} {Le : Nat → Nat} {Kf : Nat → Int32} {h : zH} (I : INV n X Le tl w rb ran Kf b h) (q : b ≤ b') : INV n X Le tl w rb ran Kf b' h := by
  obtain ⟨⟨c1, c2, c3, c4, c5, c6⟩, o1, o2⟩ := I
  exact ⟨⟨c1, c2, c3, c4, c5.mono (Nat.le_refl w) q (fun _ _ => rfl), c6⟩, o1, o2⟩
theorem INVx.mono {b b' : Nat} {h : zH} (I : INVx b h) (q : b ≤ b') : INVx b' h := by
  obtain ⟨n, X, Le, tl, w, rb, ran, Kf, I⟩ := I
  exact ⟨n, X, Le, tl, w, rb, ran, Kf, I.mono q⟩
theorem INVx.of {n tl w rb ran b b' tl' w' rb' ran' : Nat} {X : Nat → Nat → Nat} {Le : Nat → Nat} {Kf Kf' : Nat → Int32} {h h2 : zH} (I : INV n X Le tl w rb ran Kf b h) (B : BAS n X Le tl' w' rb' ran' Kf' b' h2) (q : ∀ k, 21 ≤ k → k < 643 → h2 k = h k) (hb : b' ≤ b + 60) : INVx (b + 60) h2 := by
  refine INVx.mono ⟨n, X, Le, tl', w', rb', ran', Kf', B, I.2.1.fr fun k a c => q k (by omega) (by omega), I.2.2.fr fun k a c => q k (by omega) (by omega)⟩ hb
theorem INVx.hut {n n' : Nat} {nw nw' : Nat → Int32 → Nat} {go go' : Nat → Int32 → Nat → Nat} {o : Nat} {h h2 : zH} (O : cOrd o n nw go h) {a1 a2 a3 : Int32} (e1 : h o = OE o a1 a2 a3) (e2 : h2 o = OE o a1 a2 (-1)) (q : ∀ k, o < k → k < o + 311 → h2 k = h k) : cOrd o n' nw' go' h2 := by
  obtain ⟨kd, z, sp, ex, a, O, -⟩ := O
  refine ⟨kd, z, sp, -1, a, ?_, Or.inl rfl⟩
  have e := e1.symm.trans O.1
  unfold OE at e
  injection e with e
  injection e with _ e
  simp only [List.cons.injEq, true_and, and_true, Value.int.injEq] at e
  obtain ⟨x1, x2, x3⟩ := e
  have O' : ORB o kd z sp (-1) (zup h o (OE o a1 a2 (-1))) := by
    obtain ⟨-, d1, ⟨g1, b1, c1⟩, ⟨g2, b2, c2⟩, d4, ⟨g5, b5, c5⟩, ⟨g6, b6, c6⟩, ⟨g7, b7, c7⟩, ⟨g8, b8, c8⟩, d9, ⟨g10, b10, c10⟩, ⟨CS, d11⟩, d12, d13⟩ := O
    refine ⟨by rw [zup_eq, x1, x2], by rw [zup_ne (by omega)]; exact d1, ⟨g1, by rw [zup_ne (by omega)]; exact b1, c1⟩, ⟨g2, by rw [zup_ne (by omega)]; exact b2, c2⟩, fun s hs => ?_, ⟨g5, by rw [zup_ne (by omega)]; exact b5, c5⟩, ⟨g6, by rw [zup_ne (by omega)]; exact b6, c6⟩, ⟨g7, by rw [zup_ne (by omega)]; exact b7, c7⟩, ⟨g8, by rw [zup_ne (by omega)]; exact b8, c8⟩, fun s hs => ?_, ⟨g10, by rw [zup_ne (by omega)]; exact b10, c10⟩, ⟨CS, by rw [zup_ne (by omega)]; exact d11⟩, by rw [zup_ne (by omega)]; exact d12, d13⟩
    · obtain ⟨f, x, y⟩ := d4 s hs
      exact ⟨f, by rw [zup_ne (by omega)]; exact x, y⟩
    · obtain ⟨f, x, y⟩ := d9 s hs
      exact ⟨f, by rw [zup_ne (by omega)]; exact x, y⟩
  refine O'.fr fun k a c => ?_
  by_cases w : k = o
  · rw [w, zup_eq]; exact e2
  · rw [zup_ne w]; exact q k (by omega) c
section KC
variable {b : Nat} {h : zH}
theorem k_feed (I : INVx b h) (hb : b ≤ 900000) (x y : Int32) : ∃ r h1 h2, m_Home_feed 0 x y h = some (r, h1) ∧ m_Model_feed 670 x y h1 = some (r, h2) ∧ INVx (b + 60) h2 := by
  obtain ⟨n, X, Le, tl, w, rb, ran, Kf, I⟩ := I
  obtain ⟨r, h1, h2, p1, p2, ⟨_, B⟩, q⟩ := f_feed I.1 x y
  exact ⟨r, h1, h2, p1, p2, INVx.of I B q (by omega)⟩
theorem k_hut (I : INVx b h) (hb : b ≤ 900000) : ∃ r h1 h2, m_Home_hut 0 h = some (r, h1) ∧ m_Model_hut 670 h1 = some (r, h2) ∧ INVx (b + 60) h2 := by
  obtain ⟨n, X, Le, tl, w, rb, ran, Kf, I⟩ := I
  obtain ⟨kd1, z1, sp1, ex1, -, O1, -⟩ := I.2.1
  obtain ⟨kd2, z2, sp2, ex2, -, O2, -⟩ := I.2.2
  obtain ⟨r, h1, h2, p1, p2, ⟨⟨tl', B⟩, q⟩ | ⟨⟨X', Le', B⟩, e1, e2, q⟩⟩ := f_hut I.1 O1.1 O2.1
  · exact ⟨r, h1, h2, p1, p2, INVx.of I B q (by omega)⟩
  · exact ⟨r, h1, h2, p1, p2, INVx.mono ⟨n + 1, X', Le', 0, w, rb, ran, Kf, B, INVx.hut I.2.1 O1.1 e1 (fun k x y => q k (by omega) (by omega) (by omega) (by omega)), INVx.hut I.2.2 O2.1 e2 (fun k x y => q k (by omega) (by omega) (by omega) (by omega))⟩ (by omega)⟩
theorem k_way (I : INVx b h) (hb : b ≤ 900000) (x : Int32) : ∃ r h1 h2, m_Home_way 0 x h = some (r, h1) ∧ m_Model_way 670 x h1 = some (r, h2) ∧ INVx (b + 60) h2 := by
  obtain ⟨n, X, Le, tl, w, rb, ran, Kf, I⟩ := I
  obtain ⟨r, h1, h2, p1, p2, ⟨_, _, B⟩, q⟩ := f_way I.1 x
  exact ⟨r, h1, h2, p1, p2, INVx.of I B q (by omega)⟩
theorem k_run (I : INVx b h) (hb : b ≤ 900000) (x : Int32) : ∃ r h1 h2, m_Home_run 0 x h = some (r, h1) ∧ m_Model_run 670 x h1 = some (r, h2) ∧ INVx (b + 60) h2 := by
  obtain ⟨n, X, Le, tl, w, rb, ran, Kf, I⟩ := I
  obtain ⟨r, h1, h2, p1, p2, ⟨_, B⟩, q⟩ := f_run I.1 x
  exact ⟨r, h1, h2, p1, p2, INVx.of I B q (by omega)⟩
theorem k_step (I : INVx b h) (hb : b ≤ 900000) (x y z : Int32) : ∃ r h1 h2, m_Home_step 0 x y z h = some (r, h1) ∧ m_Model_step 670 x y z h1 = some (r, h2) ∧ INVx (b + 60) h2 := by
  obtain ⟨n, X, Le, tl, w, rb, ran, Kf, I⟩ := I
  obtain ⟨r, h1, h2, p1, p2, B, q⟩ := f_step I.1 hb x y z
  exact ⟨r, h1, h2, p1, p2, INVx.of I B q (by omega)⟩
theorem k_steps (I : INVx b h) (hb : b ≤ 900000) (x y z u : Int32) : ∃ r h1 h2, m_Home_steps 0 x y z u h = some (r, h1) ∧ m_Model_steps 670 x y z u h1 = some (r, h2) ∧ INVx (b + 60) h2 := by
  obtain ⟨n, X, Le, tl, w, rb, ran, Kf, I⟩ := I
  obtain ⟨r, h1, h2, p1, p2, B, q⟩ := f_steps I.1 hb x y z u
  exact ⟨r, h1, h2, p1, p2, INVx.of I B q (by omega)⟩
theorem k_states (I : INVx b h) (hb : b ≤ 900000) (x : Int32) : ∃ r h1 h2, m_Home_states 0 x h = some (r, h1) ∧ m_Model_states 670 x h1 = some (r, h2) ∧ INVx (b + 60) h2 := by
  obtain ⟨n, X, Le, tl, w, rb, ran, Kf, I⟩ := I
  obtain ⟨r, h1, h2, p1, p2, I'⟩ := f_states I x
  exact ⟨r, h1, h2, p1, p2, INVx.mono ⟨n, X, Le, tl, w, rb, ran, Kf, I'⟩ (by omega)⟩
theorem k_least (I : INVx b h) (hb : b ≤ 900000) (x y z : Int32) : ∃ r h1 h2, m_Home_least 0 x y z h = some (r, h1) ∧ m_Model_least 670 x y z h1 = some (r, h2) ∧ INVx (b + 60) h2 := by
  obtain ⟨n, X, Le, tl, w, rb, ran, Kf, I⟩ := I
  obtain ⟨r, h1, h2, p1, p2, I'⟩ := f_least I x y z
  exact ⟨r, h1, h2, p1, p2, INVx.mono ⟨n, X, Le, tl, w, rb, ran, Kf, I'⟩ (by omega)⟩
theorem k_stuck (I : INVx b h) (hb : b ≤ 900000) (x : Int32) : ∃ r h1 h2, m_Home_stuck 0 x h = some (r, h1) ∧ m_Model_stuck 670 x h1 = some (r, h2) ∧ INVx (b + 60) h2 := by
  obtain ⟨n, X, Le, tl, w, rb, ran, Kf, I⟩ := I
  obtain ⟨r, h1, h2, p1, p2, I'⟩ := f_stuck I x
  exact ⟨r, h1, h2, p1, p2, INVx.mono ⟨n, X, Le, tl, w, rb, ran, Kf, I'⟩ (by omega)⟩
theorem k_work (I : INVx b h) (hb : b ≤ 900000) (x y : Int32) : ∃ r h1 h2, m_Home_work 0 x y h = some (r, h1) ∧ m_Model_work 670 x y h1 = some (r, h2) ∧ INVx (b + 60) h2 := by
  obtain ⟨n, X, Le, tl, w, rb, ran, Kf, I⟩ := I
  obtain ⟨r, h1, h2, p1, p2, I'⟩ := f_work I x y
  exact ⟨r, h1, h2, p1, p2, INVx.mono ⟨n, X, Le, tl, w, rb, ran, Kf, I'⟩ (by omega)⟩
theorem k_act (I : INVx b h) (hb : b ≤ 900000) (x y z : Int32) : ∃ r h1 h2, m_Home_act 0 x y z h = some (r, h1) ∧ m_Model_act 670 x y z h1 = some (r, h2) ∧ INVx (b + 60) h2 := by
  obtain ⟨n, X, Le, tl, w, rb, ran, Kf, I⟩ := I
  obtain ⟨r, h1, h2, p1, p2, ⟨_, B⟩, q⟩ := f_act I.1 x y z
  exact ⟨r, h1, h2, p1, p2, INVx.of I B q (by omega)⟩
theorem k_keep (I : INVx b h) (hb : b ≤ 900000) (x y : Int32) : ∃ r h1 h2, m_Home_keep 0 x y h = some (r, h1) ∧ m_Model_keep 670 x y h1 = some (r, h2) ∧ INVx (b + 60) h2 := by
  obtain ⟨n, X, Le, tl, w, rb, ran, Kf, I⟩ := I
  obtain ⟨r, h1, h2, p1, p2, B, q⟩ := f_keep I.1 x y
  exact ⟨r, h1, h2, p1, p2, INVx.of I B q (by omega)⟩
theorem k_row (I : INVx b h) (hb : b ≤ 900000) (x y z : Int32) : ∃ r h1 h2, m_Home_row 0 x y z h = some (r, h1) ∧ m_Model_row 670 x y z h1 = some (r, h2) ∧ INVx (b + 60) h2 := by
  obtain ⟨n, X, Le, tl, w, rb, ran, Kf, I⟩ := I
  obtain ⟨r, h1, h2, p1, p2, B, q⟩ := f_row I.1 x y z
  exact ⟨r, h1, h2, p1, p2, INVx.of I B q (by omega)⟩
theorem k_put (I : INVx b h) (hb : b ≤ 900000) (x y : Int32) (v : Int64) : ∃ r h1 h2, m_Home_put 0 x y v h = some (r, h1) ∧ m_Model_put 670 x y v h1 = some (r, h2) ∧ INVx (b + 60) h2 := by
  obtain ⟨n, X, Le, tl, w, rb, ran, Kf, I⟩ := I
  obtain ⟨r, h1, h2, p1, p2, B, q⟩ := f_put I.1 x y v
  exact ⟨r, h1, h2, p1, p2, INVx.of I B q (by omega)⟩
theorem k_shift (I : INVx b h) (hb : b ≤ 900000) (x y z u v : Int32) : ∃ r h1 h2, m_Home_shift 0 x y z u v h = some (r, h1) ∧ m_Model_shift 670 x y z u v h1 = some (r, h2) ∧ INVx (b + 60) h2 := by
  obtain ⟨n, X, Le, tl, w, rb, ran, Kf, I⟩ := I
  obtain ⟨r, h1, h2, p1, p2, B, q⟩ := f_shift I.1 x y z u v
  exact ⟨r, h1, h2, p1, p2, INVx.of I B q (by omega)⟩
theorem k_ofRun (I : INVx b h) (x y : Int32) : ∃ r h2, m_Home_ofRun 0 x y h = some r ∧ m_Model_ofRun 670 x y h = some (r, h2) ∧ INVx (b + 60) h2 := by
  obtain ⟨n, X, Le, tl, w, rb, ran, Kf, I⟩ := I
  obtain ⟨r, h2, p1, p2, B, q⟩ := f_ofRun I.1 x y
  exact ⟨r, h2, p1, p2, INVx.of I B q (by omega)⟩
theorem k_total (I : INVx b h) (x : Int32) : ∃ r h2, m_Home_total 0 x h = some r ∧ m_Model_total 670 x h = some (r, h2) ∧ INVx (b + 60) h2 := by
  obtain ⟨n, X, Le, tl, w, rb, ran, Kf, I⟩ := I
  obtain ⟨r, h2, p1, p2, B, q⟩ := f_total I.1 x
  exact ⟨r, h2, p1, p2, INVx.of I B q (by omega)⟩
theorem k_word (I : INVx b h) (x y z : Int32) : ∃ r h2, m_Home_word 0 x y z h = some r ∧ m_Model_word 670 x y z h = some (r, h2) ∧ INVx (b + 60) h2 := by
  obtain ⟨n, X, Le, tl, w, rb, ran, Kf, I⟩ := I
  obtain ⟨r, h2, p1, p2, B, q⟩ := f_word I.1 x y z
  exact ⟨r, h2, p1, p2, INVx.of I B q (by omega)⟩
theorem k_note (I : INVx b h) (x y z : Int32) : ∃ r h2, m_Home_note 0 x y z h = some r ∧ m_Model_note 670 x y z h = some (r, h2) ∧ INVx (b + 60) h2 := by
  obtain ⟨n, X, Le, tl, w, rb, ran, Kf, I⟩ := I
  obtain ⟨r, h2, p1, p2, B, q⟩ := f_note I.1 x y z
  exact ⟨r, h2, p1, p2, INVx.of I B q (by omega)⟩
theorem k_ofHut (I : INVx b h) (x y z : Int32) : ∃ r h2, m_Home_ofHut 0 x y z h = some r ∧ m_Model_ofHut 670 x y z h = some (r, h2) ∧ INVx (b + 60) h2 := by
  obtain ⟨n, X, Le, tl, w, rb, ran, Kf, I⟩ := I
  obtain ⟨r, h2, p1, p2, B, q⟩ := f_ofHut I.1 x y z
  exact ⟨r, h2, p1, p2, INVx.of I B q (by omega)⟩
theorem k_line (I : INVx b h) (x y : Int32) : ∃ r, m_Home_line 0 x y h = some r ∧ m_Model_line 670 x y h = some r := by
  obtain ⟨n, X, Le, tl, w, rb, ran, Kf, I⟩ := I
  exact f_line I.1 x y
theorem k_goesTo (I : INVx b h) (x y z : Int32) : ∃ r, m_Home_goesTo 0 x y z h = some r ∧ m_Model_goesTo 670 x y z h = some r := by
  obtain ⟨n, X, Le, tl, w, rb, ran, Kf, I⟩ := I
  exact f_goesTo I.1 x y z
theorem k_kindOf (I : INVx b h) (x : Int32) : ∃ r, m_Home_kindOf 0 x h = some r ∧ m_Model_kindOf 670 x h = some r := by
  obtain ⟨n, X, Le, tl, w, rb, ran, Kf, I⟩ := I
  exact f_kindOf I.1 x
theorem k_trace (I : INVx b h) (x : Int32) : ∃ r, m_Home_trace 0 x h = some r ∧ m_Model_trace 670 x h = some r := by
  obtain ⟨n, X, Le, tl, w, rb, ran, Kf, I⟩ := I
  exact f_trace I.1 x
theorem k_element (I : INVx b h) (x y : Int32) : ∃ r, m_Home_element 0 x y h = some r ∧ m_Model_element 670 x y h = some r := by
  obtain ⟨n, X, Le, tl, w, rb, ran, Kf, I⟩ := I
  exact f_element I.1 x y
theorem k_taken (I : INVx b h) (x y : Int32) : ∃ r, m_Home_taken 0 x y h = some r ∧ m_Model_taken 670 x y h = some r := by
  obtain ⟨n, X, Le, tl, w, rb, ran, Kf, I⟩ := I
  exact f_taken I.1 x y
theorem k_count (I : INVx b h) (x : Int32) : ∃ r, m_Home_count 0 x h = some r ∧ m_Model_count 670 x h = some r := by
  obtain ⟨n, X, Le, tl, w, rb, ran, Kf, I⟩ := I
  exact f_count I.1 x
end KC
