/-! ALL ORDERS, BOTH SIDES: how many states -/
/-- the whole world between two calls -/
def INV (n : Nat) (X : Nat → Nat → Nat) (Le : Nat → Nat) (tl w rb ran : Nat) (Kf : Nat → Int32) (b : Nat) (h : zH) : Prop := BAS n X Le tl w rb ran Kf b h ∧ cOrd 21 n (nwF X Le) (goF X Le) h ∧ cOrd 332 n (nwF X Le) (goF X Le) h
theorem zbl_1 {α : Type} (o : Option α) : zbl (nI 1) o = o := if_pos (Or.inr rfl)
theorem zbl_0 {α : Type} (o : Option α) : zbl (nI 0) o = o := if_pos (Or.inl nI_0)
section GOT
variable {h h1 h2 : zH} {n tl w rb ran b : Nat} {X : Nat → Nat → Nat} {Le : Nat → Nat} {Kf m : Nat → Int32}
theorem BAS.cls (B : BAS n X Le tl w rb ran Kf b h) (q : ∀ k, k < 21 ∨ 643 ≤ k → h1 k = h k) : BAS n X Le tl w rb ran Kf b h1 := by
  obtain ⟨c1, c2, c3, c4, c5, c6, c7, c8, c9⟩ := B
  exact ⟨c1.fr fun k a => q k (by omega), c2.fr fun k a => q k (by omega), c3.fr fun k a => q k (by omega), c4.fr fun k a => q k (by omega), c5.fr fun k a => q k (by omega), c6.fr fun k a => q k (by omega), c7.fr fun k a => q k (by omega), c8.fr fun k a => q k (by omega), c9.fr fun k a => q k (by omega)⟩
theorem BAS.mod (B : BAS n X Le tl w rb ran Kf b h) (hm : h 670 = MO m) {kd : Nat} {z : bT} (M : MOB m n kd z h1) (q : FRM h h1) : BAS n X Le tl w rb ran Kf b h1 := by
  obtain ⟨⟨h0, mm, hmm, e1, e4, e6, e19, e27⟩, c2, c3, c4, c5, c6, c7, c8, c9⟩ := B
  have key : ∀ (j : Nat), mosc j → mm j = m j := fun j hj => by
    have x := MO_rd h mm hj hmm
    have y := MO_rd h m hj hm
    exact Option.some.inj (x.symm.trans y)
  obtain ⟨m', r, F, A, B, C, L, a1, a2, a3, a4, a5, a6, a7, a8, a9, a10, a11, -⟩ := M
  have qq : ∀ k, k < 670 ∨ (670 < k ∧ k < 675) ∨ (675 < k ∧ k < 683) ∨ 688 ≤ k → h1 k = h k := fun k a => q k (by omega) (by omega) (by omega)
  refine ⟨⟨by rw [qq 0 (by omega)]; exact h0, m', a1, ?_, ?_, ?_, ?_, ?_⟩, c2.fr fun k a => qq k (by omega), c3.fr fun k a => qq k (by omega), c4.fr fun k a => qq k (by omega), c5.fr fun k a => qq k (by omega), c6.fr fun k a => qq k (by omega), ⟨⟨r, a5, a6⟩, ⟨F, a7⟩, ⟨A, a8⟩, ⟨B, a9⟩, ⟨C, a10⟩, L, a11⟩, c8.fr fun k a => qq k (by omega), c9.fr fun k a => qq k (by omega)⟩
  · rw [a2 1 (by omega) (by omega) (by omega) (by omega) (by omega), ← key 1 (by unfold mosc; omega)]; exact e1
  · rw [a2 4 (by omega) (by omega) (by omega) (by omega) (by omega), ← key 4 (by unfold mosc; omega)]; exact e4
  · rw [a2 6 (by omega) (by omega) (by omega) (by omega) (by omega), ← key 6 (by unfold mosc; omega)]; exact e6
  · rw [a2 19 (by omega) (by omega) (by omega) (by omega) (by omega), ← key 19 (by unfold mosc; omega)]; exact e19
  · rw [a2 27 (by omega) (by omega) (by omega) (by omega) (by omega), ← key 27 (by unfold mosc; omega)]; exact e27
theorem BAS.k (B : BAS n X Le tl w rb ran Kf b h) {x : Nat} (hx : x < w) : ∃ kd, kd < 9 ∧ Kf x = nI kd ∧ zaI h 18 (nI x) = some (nI kd) ∧ zaI h 674 (nI x) = some (nI kd) := by
  obtain ⟨-, -, -, ⟨w10, a, b, k⟩, -⟩ := B
  obtain ⟨kd, k9, e⟩ := k x hx
  exact ⟨kd, k9, e, by rw [zaI, zA32_of a (by omega) (by omega), e], by rw [zaI, zA32_of b (by omega) (by omega), e]⟩
theorem f_goC (B : BAS n X Le tl w rb ran Kf b h) (O : cOrd 21 n (nwF X Le) (goF X Le) h) (x : Int32) : ∃ v h1, m_Home_goThrough 0 x h = some (v, h1) ∧ (∀ k, k < 21 ∨ 332 ≤ k → h1 k = h k) ∧ ((ix x w = none ∧ v = -1 ∧ h1 = h) ∨ (∃ t, ix x w = some t ∧ t < w ∧ n = 0 ∧ v = -5 ∧ h1 = h) ∨ ∃ t kd sp, ix x w = some t ∧ t < w ∧ 0 < n ∧ Kf t = nI kd ∧ kd < 9 ∧ v = (if bBig (bfs kd n (nwF X Le) (goF X Le)) = true then -4 else nI 1) ∧ ORB 21 kd (bfs kd n (nwF X Le) (goF X Le)) sp (nI kd) h1) := by
  obtain ⟨⟨h0, m, hm, m1, m4, m6, m19, m27⟩, cT, cH, ⟨w10, k18, k674, kk⟩, -⟩ := id B
  have n1 := nI1_0
  have n0 := nI0_0
  have cvh := fun {α : Type} (o : Option α) => HO_cv h0 o
  have iw := isWay_H h0 w10 x
  have H := cH.HU
  have n6 := hu_n H
  obtain ⟨q0, q1, q2, q3, q4, q5, q6, q7, q8, q9, q10, q11, q12⟩ := HO_rd h0
  have sz := (H h (fun _ _ _ => rfl)).2.2.2.1
  have cv2 : ∀ {α : Type} (x : Option α), zcv h 2 1 x = x := fun x => zcv_of (H h (fun _ _ _ => rfl)).2.1
  rcases ix_cases x w (by omega) with ⟨z, -⟩ | ⟨t, ht, rfl, z⟩
  · rw [z, if_pos rfl] at iw
    exact ⟨-1, h, by simp only [m_Home_goThrough, cvh, iw, bind_some', n0, if_true], fun _ _ => rfl, Or.inl ⟨z, rfl, rfl⟩⟩
  · rw [z] at iw
    have e0 : ((some t : Option Nat) = none) = False := by simp
    simp only [e0, if_false] at iw
    by_cases hn : n = 0
    · refine ⟨-5, h, ?_, fun _ _ => rfl, Or.inr (Or.inl ⟨t, z, ht, hn, rfl, rfl⟩)⟩
      have c : (nI n = 0) = True := eq_true (by rw [hn, nI_0])
      simp only [m_Home_goThrough, cvh, iw, bind_some', n1, if_false, q3, cv2, sz, c, if_true]
    · obtain ⟨kd, k9, ek, l18, -⟩ := B.k ht
      obtain ⟨h1, sp, e1, O1, fr⟩ := s_explore (by omega) k9 (by omega) O H
      have c : (nI n = 0) = False := by rw [nI_eq0 (by omega)]; exact eq_false hn
      have h01 : h1 0 = HO tl w rb := by rw [fr 0 (by omega)]; exact h0
      have q8' := (HO_rd h01).2.2.2.2.2.2.2.2.2.1
      have eb := O1.big
      obtain ⟨kd0, b0, sp0, ex0, -, O0, -⟩ := O
      refine ⟨_, h1, ?_, fun k hk => fr k (by omega), Or.inr (Or.inr ⟨t, kd, sp, z, ht, by omega, ek, k9, rfl, O1⟩)⟩
      by_cases zb : bBig (bfs kd n (nwF X Le) (goF X Le)) = true
      · rw [if_pos zb] at eb
        rw [if_pos zb]
        simp only [m_Home_goThrough, cvh, iw, bind_some', n1, if_false, q3, cv2, sz, c, q9, q4, l18, O0.cvo, e1, q8', O1.cvo, m_Orders_isBig, eb, zbl_1]
      · rw [if_neg zb] at eb
        rw [if_neg zb]
        simp only [m_Home_goThrough, cvh, iw, bind_some', n1, if_false, q3, cv2, sz, c, q9, q4, l18, O0.cvo, e1, q8', O1.cvo, m_Orders_isBig, eb, zbl_0, if_true, n0]
theorem f_goM (B : BAS n X Le tl w rb ran Kf b h) (x : Int32) : (ix x w = none ∧ m_Model_isWay 670 x h = some (nI 0) ∧ m_Model_noOrders 670 x h = some (-1, h)) ∨ (∃ t, ix x w = some t ∧ n = 0 ∧ m_Model_isWay 670 x h = some (nI 1) ∧ m_Model_noOrders 670 x h = some (-5, h)) ∨ ∃ t kd h' m, ix x w = some t ∧ 0 < n ∧ Kf t = nI kd ∧ kd < 9 ∧ h 670 = MO m ∧ m 4 = nI n ∧ m_Model_isWay 670 x h = some (nI 1) ∧ m_Model_noOrders 670 x h = some (if bBig (bfs kd n (nwF X Le) (goF X Le)) = true then -4 else nI 0, h') ∧ FRM h h' ∧ ((n ≤ 4 ∧ MOB m n kd (bfs kd n (nwF X Le) (goF X Le)) h') ∨ (4 < n ∧ h' = h)) := by
  obtain ⟨⟨h0, m, hm, m1, m4, m6, m19, m27⟩, cT, cH, ⟨w10, k18, k674, kk⟩, -, -, cC, -⟩ := id B
  have n1 := nI1_0
  have n0 := nI0_0
  have cvm := fun {α : Type} (o : Option α) => MO_cv h m hm o
  have iw := isWay_M hm m6 w10 x
  have n6 := cH.1
  have HUh := cH.HU
  have e4 : zrI h 670 7 4 = some (nI n) := by rw [MO_rd h m (by unfold mosc; omega) hm, m4]
  rcases ix_cases x w (by omega) with ⟨z, -⟩ | ⟨t, ht, rfl, z⟩
  · rw [z, if_pos rfl] at iw
    exact Or.inl ⟨z, iw, by simp only [m_Model_noOrders, cvm, iw, bind_some', n0, if_true]⟩
  · rw [z] at iw
    have e0 : ((some t : Option Nat) = none) = False := by simp
    simp only [e0, if_false] at iw
    by_cases hn : n = 0
    · refine Or.inr (Or.inl ⟨t, z, hn, iw, ?_⟩)
      have c : (nI n = 0) = True := eq_true (by rw [hn, nI_0])
      simp only [m_Model_noOrders, cvm, iw, bind_some', n1, if_false, e4, c, if_true]
    · obtain ⟨kd, k9, ek, -, l674⟩ := B.k ht
      have hgo : ∀ hh, hh < n → ∀ l i, i < nwF X Le hh l → goF X Le hh l i < 6 := fun hh q l i qi => hu_go HUh q qi
      have hnw : ∀ hh, hh < n → ∀ l, nwF X Le hh l ≤ 270 := fun hh q l => hu_nw HUh q l
      obtain ⟨h', e1, fr, M⟩ := M_findAll (nw := nwF X Le) (go := goF X Le) ⟨hm, cC⟩ m4 k9 n6 (by omega) hgo hnw cH.MU
      have c : (nI n = 0) = False := by rw [nI_eq0 (by omega)]; exact eq_false hn
      refine Or.inr (Or.inr ⟨t, kd, h', m, z, by omega, ek, k9, hm, m4, iw, ?_, fr, M⟩)
      have r5 := (MO_ref h m hm).2.2.2.1
      simp only [m_Model_noOrders, cvm, iw, bind_some', n1, if_false, e4, c, r5, l674, e1, zb2_some]
theorem bfs_n4 {kd : Nat} {nw : Nat → Int32 → Nat} {go : Nat → Int32 → Nat → Nat} (hb : ¬ bBig (bfs kd n nw go) = true) : n ≤ 4 := by
  rcases Nat.lt_or_ge 4 n with q | q
  · refine absurd ?_ hb
    have : bBig (bBeg kd n) = true := decide_eq_true q
    unfold bfs
    rw [bRun_big _ _ _ this]
    exact this
  · exact q
theorem f_both (I : INV n X Le tl w rb ran Kf b h) (x : Int32) : ∃ h1, (∀ k, k < 21 ∨ 332 ≤ k → h1 k = h k) ∧ BAS n X Le tl w rb ran Kf b h1 ∧ cOrd 21 n (nwF X Le) (goF X Le) h1 ∧ cOrd 332 n (nwF X Le) (goF X Le) h1 ∧
    ((∃ v h2, ((0 : Int32) ≤ v) = False ∧ m_Home_goThrough 0 x h = some (v, h1) ∧ m_Model_noOrders 670 x h1 = some (v, h2) ∧ INV n X Le tl w rb ran Kf b h2 ∧ (ix x w = none → h2 = h1)) ∨
    ∃ t kd sp, ix x w = some t ∧ 0 < n ∧ n ≤ 4 ∧ kd < 9 ∧ bBig (bfs kd n (nwF X Le) (goF X Le)) = false ∧ m_Home_goThrough 0 x h = some (nI 1, h1) ∧ ORB 21 kd (bfs kd n (nwF X Le) (goF X Le)) sp (nI kd) h1 ∧ ∀ h1', (∀ k, k < 21 ∨ 643 ≤ k → h1' k = h1 k) → ∃ h2 m, h1' 670 = MO m ∧ m 4 = nI n ∧ m_Model_noOrders 670 x h1' = some (nI 0, h2) ∧ FRM h1' h2 ∧ MOB m n kd (bfs kd n (nwF X Le) (goF X Le)) h2 ∧ BAS n X Le tl w rb ran Kf b h2) := by
  obtain ⟨B, O1, O2⟩ := I
  obtain ⟨v, h1, e1, fr1, D⟩ := f_goC B O1 x
  have B1 : BAS n X Le tl w rb ran Kf b h1 := B.cls fun k hk => fr1 k (by omega)
  have O2' : cOrd 332 n (nwF X Le) (goF X Le) h1 := O2.fr fun k a _ => fr1 k (by omega)
  rcases D with ⟨z, rfl, rfl⟩ | ⟨t, z, ht, hn, rfl, rfl⟩ | ⟨t, kd, sp, z, ht, hn, ek, k9, rfl, OB⟩
  · rcases f_goM B1 x with ⟨z', -, e2⟩ | ⟨t, z', -⟩ | ⟨t, kd, h', m, z', -⟩
    · exact ⟨h1, fun _ _ => rfl, B1, O1, O2', Or.inl ⟨-1, h1, by decide, e1, e2, ⟨B1, O1, O2'⟩, fun _ => rfl⟩⟩
    · rw [z] at z'; cases z'
    · rw [z] at z'; cases z'
  · rcases f_goM B1 x with ⟨z', -⟩ | ⟨t, z', -, -, e2⟩ | ⟨t, kd, h', m, z', hn', -⟩
    · rw [z] at z'; cases z'
    · exact ⟨h1, fun _ _ => rfl, B1, O1, O2', Or.inl ⟨-5, h1, by decide, e1, e2, ⟨B1, O1, O2'⟩, fun _ => rfl⟩⟩
    · omega
  · have O1' : cOrd 21 n (nwF X Le) (goF X Le) h1 := ⟨kd, _, sp, _, k9, OB, Or.inr ⟨rfl, rfl⟩⟩
    refine ⟨h1, fr1, B1, O1', O2', ?_⟩
    have key : ∀ h1', BAS n X Le tl w rb ran Kf b h1' → ∃ h2 m, h1' 670 = MO m ∧ m 4 = nI n ∧ m_Model_noOrders 670 x h1' = some (if bBig (bfs kd n (nwF X Le) (goF X Le)) = true then -4 else nI 0, h2) ∧ FRM h1' h2 ∧ ((n ≤ 4 ∧ MOB m n kd (bfs kd n (nwF X Le) (goF X Le)) h2) ∨ (4 < n ∧ h2 = h1')) := by
      intro h1' B'
      rcases f_goM B' x with ⟨z', -⟩ | ⟨t, z', hn', -⟩ | ⟨t', kd', h', m, z', -, ek', k9', hm, m4, -, e2, fr2, M⟩
      · rw [z] at z'; cases z'
      · omega
      · rw [z] at z'
        obtain rfl := Option.some.inj z'
        obtain rfl : kd = kd' := (nI_eq (by omega) (by omega)).mp (ek.symm.trans ek')
        exact ⟨h', m, hm, m4, e2, fr2, M⟩
    by_cases zb : bBig (bfs kd n (nwF X Le) (goF X Le)) = true
    · obtain ⟨h2, m, hm, m4, e2, fr2, M⟩ := key h1 B1
      rw [if_pos zb] at e1 e2
      refine Or.inl ⟨-4, h2, by decide, e1, e2, ?_, fun q => by rw [z] at q; cases q⟩
      rcases M with ⟨-, M⟩ | ⟨-, rfl⟩
      · exact ⟨B1.mod hm M fr2, O1'.fr fun k a c => fr2 k (by omega) (by omega) (by omega), O2'.fr fun k a c => fr2 k (by omega) (by omega) (by omega)⟩
      · exact ⟨B1, O1', O2'⟩
    · have n4 := bfs_n4 zb
      rw [if_neg zb] at e1
      refine Or.inr ⟨t, kd, sp, z, hn, n4, k9, by simpa using zb, e1, OB, fun h1' q => ?_⟩
      have B' : BAS n X Le tl w rb ran Kf b h1' := B1.cls q
      obtain ⟨h2, m, hm, m4, e2, fr2, M⟩ := key h1' B'
      rw [if_neg zb] at e2
      rcases M with ⟨-, M⟩ | ⟨q5, -⟩
      · exact ⟨h2, m, hm, m4, e2, fr2, M, B'.mod hm M fr2⟩
      · omega
theorem f_states (I : INV n X Le tl w rb ran Kf b h) (x : Int32) : ∃ r h1 h2, m_Home_states 0 x h = some (r, h1) ∧ m_Model_states 670 x h1 = some (r, h2) ∧ INV n X Le tl w rb ran Kf b h2 := by
  have h0 := I.1.1.1
  have cvh := fun {α : Type} (o : Option α) => HO_cv h0 o
  obtain ⟨h1, fr1, B1, O1, O2, D⟩ := f_both I x
  obtain ⟨h01, m1, hm1, -⟩ := id B1.1
  have cvm := fun {α : Type} (o : Option α) => MO_cv h1 m1 hm1 o
  rcases D with ⟨v, h2, c, e1, e2, I2, -⟩ | ⟨t, kd, sp, z, hn, n4, k9, zb, e1, OB, K⟩
  · exact ⟨v, h1, h2, by simp only [m_Home_states, cvh, e1, zb2_some, c, if_false], by simp only [m_Model_states, cvm, e2, zb2_some, c, if_false], I2⟩
  · obtain ⟨h2, m, hm, m4, e2, fr2, M, B2⟩ := K h1 fun _ _ => rfl
    have e25 := M.m25
    have ez : mSz (bfs kd n (nwF X Le) (goF X Le)) = bSz (bfs kd n (nwF X Le) (goF X Le)) := if_neg (by rw [zb]; simp)
    rw [ez] at e25
    have q9 := (HO_rd h01).2.2.2.2.2.2.2.2.2.1
    obtain ⟨-, -, -, -, -, -, -, -, -, -, -, r11, -, -⟩ := OE_rd OB.1
    have c1 : ((0 : Int32) ≤ nI 1) = True := by decide
    have c0 : ((0 : Int32) ≤ nI 0) = True := by decide
    exact ⟨nI (bSz (bfs kd n (nwF X Le) (goF X Le))), h1, h2, by simp only [m_Home_states, cvh, e1, zb2_some, c1, if_true, q9, bind_some', OB.cvo, m_Orders_size, r11], by simp only [m_Model_states, cvm, e2, zb2_some, c0, if_true, e25, bind_some'], B2, O1.fr fun k a c => fr2 k (by omega) (by omega) (by omega), O2.fr fun k a c => fr2 k (by omega) (by omega) (by omega)⟩
end GOT
