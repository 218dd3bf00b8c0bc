/-! NO CALL CHANGES A CELL'S KIND -/
def CK (h h' : zH) : Prop := ∀ q, zcls h' q = zcls h q
theorem CK.rf {h : zH} : CK h h := fun _ => rfl
theorem CK.up {h0 h : zH} (a : CK h0 h) {k : Nat} {e : zE} (q : zcls (zup h k e) k = zcls h k) : CK h0 (zup h k e) := fun j => by
  by_cases w : j = k
  · rw [w, q]; exact a k
  · have : zcls (zup h k e) j = zcls h j := by unfold zcls; rw [zup_ne w]
    rw [this]; exact a j
def CKg {ρ : Type} (π : ρ → zH) (h0 : zH) (o : Option ρ) : Prop := ∀ r, o = some r → CK h0 (π r)
section CKS
variable {h0 h : zH} {ρ σ : Type} {π : ρ → zH}
theorem CKg.sm {r : ρ} (q : CK h0 (π r)) : CKg π h0 (some r) := fun r' e => by cases e; exact q
theorem CKg.ite {c : Prop} [i : Decidable c] {a b : Option ρ} (x : CKg π h0 a) (y : CKg π h0 b) : CKg π h0 (if c then a else b) := by
  by_cases z : c
  · rw [if_pos z]; exact x
  · rw [if_neg z]; exact y
theorem CKg.bnd {α : Type} {o : Option α} {f : α → Option ρ} (k : ∀ v, CKg π h0 (f v)) : CKg π h0 (o.bind f) := fun r e => by
  obtain ⟨v, -, e⟩ := zbd e
  exact k v r e
theorem CKg.bh {o : Option zH} {f : zH → Option ρ} (q : CKg id h0 o) (k : ∀ h1, CK h0 h1 → CKg π h0 (f h1)) : CKg π h0 (o.bind f) := fun r e => by
  obtain ⟨v, ev, e⟩ := zbd e
  exact k v (q v ev) r e
theorem CKg.zcv {o : Option ρ} {a ci : Nat} (q : CKg π h0 o) : CKg π h0 (zcv h a ci o) := fun r e => q r (zcv_at e).2
theorem CKg.wV (a : CK h0 h) {k c j : Nat} {v : Value} : CKg id h0 (zwV h k c j v) := fun r e => by
  obtain ⟨fs, q, -, rfl⟩ := zwV_at e
  refine a.up ?_
  unfold zcls
  rw [zup_eq, q]
theorem CKg.wI (a : CK h0 h) {k c j : Nat} {v : Int32} : CKg id h0 (zwI h k c j v) := CKg.wV a
theorem CKg.sI (a : CK h0 h) {t k : Nat} {i v : Int32} : CKg id h0 (zS32 t h k i v) := fun r e => by
  obtain ⟨n, g, q, -, rfl⟩ := zS32_at e
  refine a.up ?_
  unfold zcls
  rw [zup_eq, q]
theorem CKg.sJ (a : CK h0 h) {k : Nat} {i : Int32} {v : Int64} : CKg id h0 (zsJ h k i v) := fun r e => by
  obtain ⟨n, g, q, -, rfl⟩ := zsJ_at e
  refine a.up ?_
  unfold zcls
  rw [zup_eq, q]
theorem CKg.cpJ (a : CK h0 h) {k k2 : Nat} {i i2 i3 : Int32} : CKg id h0 (zcpJ h k i k2 i2 i3) := fun r e => by
  obtain ⟨n0, n1, f, g, -, q, -, -, -, -, -, rfl⟩ := zcpJ_at e
  refine a.up ?_
  unfold zcls
  rw [zup_eq, q]
theorem CKg.loop {f : (σ → Option ρ) → σ → Option ρ} {hp : σ → zH} (k : ∀ (g : σ → Option ρ) (u : σ), CK h0 (hp u) → (∀ u', CK h0 (hp u') → CKg π h0 (g u')) → CKg π h0 (f g u)) : ∀ (n : Nat) (u : σ), CK h0 (hp u) → CKg π h0 (zloop f n u) := by
  intro n
  induction n with
  | zero => intro u _ r e; cases e
  | succ n ih => intro u q; exact k _ u q ih
theorem ck_feed (x v : Int32) : CKg Prod.snd h (m_Home_feed 0 x v h) := by
  unfold m_Home_feed
  refine CKg.ite (CKg.sm CK.rf) (CKg.ite (CKg.bnd fun _ => CKg.ite ?_ (CKg.sm CK.rf)) (CKg.sm CK.rf))
  refine CKg.loop (hp := Prod.snd) (fun g u q ih => ?_) _ _ CK.rf
  unfold g_Home_feed_28
  refine CKg.ite (CKg.bnd fun _ => CKg.bh (CKg.wI q) fun h1 q1 => CKg.bnd fun _ => CKg.sm q1) (CKg.bnd fun _ => CKg.bnd fun _ => CKg.bh (CKg.sI q) fun h1 q1 => ih _ q1)
theorem ck_way (x : Int32) : CKg Prod.snd h (m_Home_way 0 x h) := by
  unfold m_Home_way
  exact CKg.bnd fun _ => CKg.ite (CKg.sm CK.rf) (CKg.bnd fun _ => CKg.ite (CKg.bnd fun _ => CKg.bnd fun _ => CKg.bh (CKg.sI CK.rf) fun h1 q1 => CKg.bnd fun _ => CKg.bh (CKg.wI q1) fun h2 q2 => CKg.bnd fun _ => CKg.sm q2) (CKg.sm CK.rf))
theorem ck_holdWay {a : Nat} (x : Int32) : CKg id h (m_Shelf_holdWay a x h) := by
  unfold m_Shelf_holdWay
  exact CKg.bh (CKg.wI CK.rf) fun h1 q1 => CKg.bh (CKg.wI q1) fun h2 q2 => CKg.bh (CKg.wI q2) fun h3 q3 => CKg.sm q3
theorem ck_fill {a : Nat} {x : Int64} (q : CK h0 h) : CKg id h0 (m_Fill_J a x h) := by
  unfold m_Fill_J
  refine CKg.bnd fun _ => CKg.loop (hp := Prod.snd) (fun g u q ih => ?_) _ _ q
  unfold g_Fill_J_6
  exact CKg.ite (CKg.sm q) (CKg.bh (CKg.sJ q) fun h1 q1 => ih _ q1)
theorem ck_holdRow {a : Nat} (x y : Int32) : CKg id h (m_Shelf_holdRow a x y h) := by
  unfold m_Shelf_holdRow
  exact CKg.bh (CKg.wI CK.rf) fun h1 q1 => CKg.bh (CKg.wI q1) fun h2 q2 => CKg.bh (CKg.wI q2) fun h3 q3 => CKg.bnd fun _ => CKg.bh (ck_fill q3) fun h4 q4 => CKg.sm q4
theorem ck_copyTo {a a2 : Nat} (x y z : Int32) : CKg id h (m_Shelf_copyTo a x a2 y z h) := by
  unfold m_Shelf_copyTo
  exact CKg.bnd fun _ => CKg.ite (CKg.sm CK.rf) (CKg.bnd fun _ => CKg.ite (CKg.sm CK.rf) (CKg.bnd fun _ => CKg.bnd fun _ => CKg.bh (CKg.cpJ CK.rf) fun h1 q1 => CKg.sm q1))
theorem ck_keep (x y : Int32) : CKg Prod.snd h (m_Home_keep 0 x y h) := by
  unfold m_Home_keep
  have w : CKg Prod.snd h ((zrR h 0 6 11).bind fun v23 => ((zaR 4 h v23 x).bind fun v27 => ((zcv h v27 5 (m_Shelf_holdWay v27 y h)).bind fun h29 => (some ((nI 1), h29))))) := CKg.bnd fun _ => CKg.bnd fun _ => CKg.bh (CKg.zcv (ck_holdWay y)) fun h1 q1 => CKg.sm q1
  exact CKg.bnd fun _ => CKg.ite (CKg.sm CK.rf) (CKg.ite w (CKg.bnd fun _ => CKg.ite (CKg.sm CK.rf) w))
theorem ck_row (x y v : Int32) : CKg Prod.snd h (m_Home_row 0 x y v h) := by
  unfold m_Home_row
  exact CKg.bnd fun _ => CKg.ite (CKg.sm CK.rf) (CKg.ite (CKg.sm CK.rf) (CKg.ite (CKg.sm CK.rf) (CKg.ite (CKg.ite (CKg.bnd fun _ => CKg.bnd fun _ => CKg.bh (CKg.zcv (ck_holdRow y v)) fun h1 q1 => CKg.sm q1) (CKg.sm CK.rf)) (CKg.sm CK.rf))))
theorem ck_shift (x i y j v : Int32) : CKg Prod.snd h (m_Home_shift 0 x i y j v h) := by
  unfold m_Home_shift
  refine CKg.bnd fun _ => CKg.ite (CKg.sm CK.rf) (CKg.bnd fun _ => CKg.ite (CKg.sm CK.rf) (CKg.bnd fun _ => CKg.bnd fun _ => CKg.bnd fun _ => CKg.bnd fun _ => CKg.bnd fun _ => CKg.ite (CKg.bnd fun _ => CKg.ite ?_ (CKg.sm CK.rf)) (CKg.sm CK.rf)))
  exact CKg.bnd fun _ => CKg.ite (CKg.sm CK.rf) (CKg.bnd fun _ => CKg.bnd fun _ => CKg.ite (CKg.sm CK.rf) (CKg.bnd fun _ => CKg.ite (CKg.sm CK.rf) (CKg.bnd fun _ => CKg.ite (CKg.sm CK.rf) (CKg.bh (CKg.zcv (ck_copyTo i j v)) fun h1 q1 => CKg.sm q1))))
theorem zc_rI {a c j : Nat} {f : Int32 → Option ρ} {r : ρ} (e : (zrI h a c j).bind f = some r) : zcls h a = c := by
  obtain ⟨v, e, -⟩ := zbd e
  obtain ⟨fs, e, -⟩ := zrI_at e
  unfold zcls
  rw [e]
theorem zc_cv {α : Type} {a c : Nat} {o : Option α} {f : α → Option ρ} {r : ρ} (e : (zcv h a c o).bind f = some r) : zcls h a = c := by
  obtain ⟨v, e, -⟩ := zbd e
  exact (zcv_at e).1
theorem zc_b2 {α : Type} {a c : Nat} {o : Option (α × zH)} {f : α → zH → Option ρ} {r : ρ} (e : zb2 (zcv h a c o) f = some r) : zcls h a = c := by
  obtain ⟨v, h1, e, -⟩ := zb2_at e
  exact (zcv_at e).1
theorem zc_wI {a c j : Nat} {x : Int32} {f : zH → Option ρ} {r : ρ} (e : (zwI h a c j x).bind f = some r) : zcls h a = c := by
  obtain ⟨v, e, -⟩ := zbd e
  obtain ⟨fs, e, -⟩ := zwV_at e
  unfold zcls
  rw [e]
theorem INVx.cls {b : Nat} (I : INVx b h) : zcls h 0 = 6 ∧ zcls h 670 = 7 := by
  obtain ⟨n, X, Le, tl, w, rb, ran, Kf, ⟨⟨h0, m, hm, -⟩, -⟩, -⟩ := I
  refine ⟨?_, ?_⟩
  · unfold zcls
    rw [h0]
    rfl
  · unfold zcls
    rw [hm]
    rfl
end CKS
