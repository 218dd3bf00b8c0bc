/-! A WHOLE STEP OF THE MODEL -/
section MSX
variable {h : zH} {m g : Nat → Int32} {fm n kd c : Nat} {fu d1 d2 : Int32} {nw : Nat → Int32 → Nat} {go : Nat → Int32 → Nat → Nat}
theorem IV.ends {s : Nat} {g : Nat → Int32} (hV : IV fm n c s g) : (∃ k, k ≤ 8 ∧ g 43 = nI k) ∧ (g 0 = 0 ∨ g 0 = nI 1) := ⟨hV.k43, hV.2.2.1.1 0 (by omega)⟩
theorem IV.u0 {s hh : Nat} (hV : IV fm n c s g) (hh6 : hh < 6) (hc : c ≤ 1000000) (f1 : fm = 1) : (g (68 + hh) ≤ 0) = (g (68 + hh) = 0) := by
  obtain ⟨U, V, N, T, a, -, -, -, b, d⟩ := hV.2.2.2.2.2.2.1 f1
  have hU : U hh ≤ s6 U := s6_le hh6
  rw [a hh hh6, ← nI_0]
  exact propext ⟨fun q => by rw [(nI_leI (by omega) (by omega)).mp q |> Nat.le_zero.mp], fun q => by rw [q]; exact (nI_leI (by omega) (by omega)).mpr (Nat.le_refl _)⟩
theorem M_doStep {sort : Nat} (hs : sort < 5) (x : Int32) (hkd : kd < 9) (hf : fm = fmo kd) (hn : n ≤ 6) (hn0 : 0 < n) (h4 : m 4 = nI n) (hc : c ≤ 1000000) (H : MU n nw go h) (hgo : ∀ hh, hh < n → ∀ l i, i < nw hh l → go hh l i < 6) (hnw : ∀ hh, hh < n → ∀ l, nw hh l ≤ 270) (hV : IV fm n c 0 g) : STP h m fm n kd d1 d2 (aStep kd fm n nw go sort x g) (m_Model_doStep 670 (nI sort) x (mg h m fm n kd fu d1 d2 g)) := by
  have hfm : fm < 6 := by rw [hf]; exact fmo_lt kd
  obtain ⟨⟨w, w8, hw, hwt, hwz⟩, ⟨k, k8, hk, hkt, hkz⟩, ⟨-, -, hsn⟩, -⟩ := id hV
  have ew : cnt g 18 = w := cnt_nI hw (by omega)
  have ek : cnt g 43 = k := cnt_nI hk (by omega)
  have n1 := nI1_0
  have n0 := nI0_0
  have no5 : ∀ o : Option (Int32 × zH), o = some (nI 0, mg h m fm n kd (nI 0) d1 d2 g) → SIM h m fm n kd d1 d2 (-5, g) o := fun o ho => Or.inr (Or.inr ⟨rfl, g, ho⟩)
  have w11 : zwZ (mg h m fm n kd fu d1 d2 g) 670 7 11 (nI 0) = some (mg h m fm n kd (nI 0) d1 d2 g) := M_w11 (Or.inl nI_0)
  have fin : ∀ (p : cA) (o : Option (Int32 × zH)), SIM h m fm n kd d1 d2 p o → (p.1 = nI 1 → (∃ k, k ≤ 8 ∧ p.2 43 = nI k) ∧ (p.2 0 = 0 ∨ p.2 0 = nI 1)) → STP h m fm n kd d1 d2 (aFin fm kd n p) (zb2 o fun v h1 => g_Model_doStep_105 670 v h1) := fun p o a b => M_105 hkd hf hn hn0 h4 a b
  unfold aStep
  rcases (show sort = 0 ∨ sort = 1 ∨ sort = 2 ∨ sort = 3 ∨ sort = 4 by omega) with rfl | rfl | rfl | rfl | rfl
  · have e : m_Model_doStep 670 (nI 0) x (mg h m fm n kd fu d1 d2 g) = zb2 (m_Model_goOn 670 x (mg h m fm n kd (nI 0) d1 d2 g)) fun v h1 => g_Model_doStep_105 670 v h1 := by
      simp (disch := omega) only [m_Model_doStep, w11, bind_some', nI_eq_iff, if_true, M_cv]
    rw [e]
    rcases ix_cases x n (by omega) with ⟨z, -⟩ | ⟨hh, hh6, rfl, z⟩
    · simp only [z]
      exact fin _ _ (no5 _ (M_goOn_no h4 hn z)) (fun y => absurd y n5ne)
    · obtain ⟨s, s270, es⟩ := hsn hh (by omega)
      simp only [z]
      exact fin _ _ (M_goOn hkd hf hn h4 H hh6 (hgo hh hh6) (hnw hh hh6) hw w8 hk k8 es s270 (hV.u0 (by omega) hc)) (fun y => (hV.goOn hn hfm hh6 hc (hnw hh hh6) y).ends)
  · have a1 : ((1 : Nat) = 0) = False := by simp
    have e : m_Model_doStep 670 (nI 1) x (mg h m fm n kd fu d1 d2 g) = zb2 (m_Model_comes 670 x (mg h m fm n kd (nI 0) d1 d2 g)) fun v h1 => g_Model_doStep_105 670 v h1 := by
      simp (disch := omega) only [m_Model_doStep, w11, bind_some', nI_eq_iff, a1, if_false, if_true, M_cv]
    rw [e, ew]
    rcases ix_cases x w (by omega) with ⟨z, -⟩ | ⟨j, hj, rfl, z⟩
    · simp only [z]
      exact fin _ _ (no5 _ (M_come_no hw w8 z)) (fun y => absurd y n5ne)
    · obtain ⟨f, t, -, ht, -, et⟩ := hwt j hj
      simp only [z]
      exact fin _ _ (M_come hkd hf hn hw w8 hj hk k8 ⟨t, ht, et⟩ hwz (fun q to h6 => (hV.2.2.2.2.1 q).1 to h6)) (fun y => (hV.come hn hfm hw w8 hj y).ends)
  · have a1 : ((2 : Nat) = 0) = False := by simp
    have a2 : ((2 : Nat) = 1) = False := by simp
    have e : m_Model_doStep 670 (nI 2) x (mg h m fm n kd fu d1 d2 g) = zb2 (m_Model_noteComes 670 x (mg h m fm n kd (nI 0) d1 d2 g)) fun v h1 => g_Model_doStep_105 670 v h1 := by
      simp (disch := omega) only [m_Model_doStep, w11, bind_some', nI_eq_iff, a1, a2, if_false, if_true, M_cv]
    rw [e, ek]
    rcases ix_cases x k (by omega) with ⟨z, -⟩ | ⟨j, hj, rfl, z⟩
    · simp only [z]
      exact fin _ _ (no5 _ (M_cn_no hk k8 z)) (fun y => absurd y n5ne)
    · simp only [z]
      exact fin _ _ (M_cn hkd hf hn hn0 h4 hk k8 hj (hkt j hj) hkz (fun q => (hV.2.2.2.2.2.1 q).2 j (by omega))) (fun y => (hV.cn hn hn0 hfm hk k8 hj y).ends)
  · have a1 : ((3 : Nat) = 0) = False := by simp
    have a2 : ((3 : Nat) = 1) = False := by simp
    have a3 : ((3 : Nat) = 2) = False := by simp
    have e : m_Model_doStep 670 (nI 3) x (mg h m fm n kd fu d1 d2 g) = zb2 (m_Model_asks 670 x (mg h m fm n kd (nI 0) d1 d2 g)) fun v h1 => g_Model_doStep_105 670 v h1 := by
      simp (disch := omega) only [m_Model_doStep, w11, bind_some', nI_eq_iff, a1, a2, a3, if_false, if_true, M_cv]
    rw [e]
    by_cases z : x = 0
    · simp only [eq_true z, if_true]
      rw [z, ← nI_0]
      exact fin _ _ (M_ask hkd hf hn hn0 h4 hk k8) (fun y => (hV.ask hn hn0 y).ends)
    · simp only [eq_false z, if_false]
      exact fin _ _ (no5 _ (M_ask_no z)) (fun y => absurd y n5ne)
  · have a1 : ((4 : Nat) = 0) = False := by simp
    have a2 : ((4 : Nat) = 1) = False := by simp
    have a3 : ((4 : Nat) = 2) = False := by simp
    have a4 : ((4 : Nat) = 3) = False := by simp
    rw [ew]
    rcases ix_cases x w (by omega) with ⟨z, q⟩ | ⟨j, hj, rfl, z⟩
    · have e : m_Model_doStep 670 (nI 4) x (mg h m fm n kd fu d1 d2 g) = zb2 (some (nI 0, mg h m fm n kd (nI 0) d1 d2 g)) fun v h1 => g_Model_doStep_105 670 v h1 := by
        rcases q with q | q
        · simp (disch := omega) only [m_Model_doStep, w11, bind_some', nI_eq_iff, a1, a2, a3, a4, if_false, eq_true q, if_true, g_Model_doStep_92, n0, zb2_some]
        · by_cases q0 : x < 0
          · simp (disch := omega) only [m_Model_doStep, w11, bind_some', nI_eq_iff, a1, a2, a3, a4, if_false, eq_true q0, if_true, g_Model_doStep_92, n0, zb2_some]
          · simp (disch := omega) only [m_Model_doStep, w11, bind_some', nI_eq_iff, a1, a2, a3, a4, if_false, eq_false q0, M_cv, M_words, hw, eq_true q, if_true, g_Model_doStep_92, n0, zb2_some]
      rw [e]
      simp only [z]
      exact fin _ _ (no5 _ rfl) (fun y => absurd y n5ne)
    · have cj : (w ≤ j) = False := eq_false (by omega)
      have e : m_Model_doStep 670 (nI 4) (nI j) (mg h m fm n kd fu d1 d2 g) = zb2 (some (nI 1, mg h m fm n kd (nI 0) d1 d2 (takeW g j))) fun v h1 => g_Model_doStep_105 670 v h1 := by
        simp (disch := omega) only [m_Model_doStep, w11, bind_some', nI_eq_iff, a1, a2, a3, a4, if_false, nI_lt0, M_cv, M_words, hw, nI_le_iff, cj, n1, M_takeW hfm hn hw w8 hj hwz, zb2_some]
      rw [e]
      simp only [z]
      refine fin _ _ (Or.inl ⟨rfl, rfl⟩) (fun _ => ⟨⟨k, k8, (tW_hi j (by omega)).trans hk⟩, ?_⟩)
      show takeW g j 0 = 0 ∨ takeW g j 0 = nI 1
      rw [tW_lo j (by omega)]
      exact hV.2.2.1.1 0 (by omega)
end MSX
