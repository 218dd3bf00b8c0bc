/-! THE MODEL HEAP, READ: rows for simp; what the class's Rules do to a row of cells. -/
abbrev zI32 (n : Nat) (g : Nat → Int32) : zE := .inr (0, n, .inl g)
abbrev zI64 (n : Nat) (g : Nat → Int64) : zE := .inr (1, n, .inr (.inl g))
abbrev zI1 (n : Nat) (g : Nat → Int32) : zE := .inr (2, n, .inl g)
abbrev zRf (t n : Nat) (g : Nat → Option Nat) : zE := .inr (t, n, .inr (.inr g))
theorem zup_zup (h : zH) (a : Nat) (e e' : zE) : zup (zup h a e) a e' = zup h a e' := by
  funext j
  unfold zup
  split <;> rfl
theorem zup_self {h : zH} {a : Nat} {e : zE} (q : h a = e) : zup h a e = h := by
  funext j
  unfold zup
  split
  · rename_i hj
    rw [hj, q]
  · rfl
theorem zup_comm {h : zH} {a b : Nat} {e e' : zE} (q : a ≠ b) : zup (zup h a e) b e' = zup (zup h b e') a e := by
  funext j
  unfold zup
  split
  · split
    · rename_i h1 h2
      exact absurd (h2.symm.trans h1) q
    · rfl
  · rfl
theorem zrI_ne {h : zH} {a b c j : Nat} {e : zE} (q : b ≠ a) : zrI (zup h a e) b c j = zrI h b c j := by unfold zrI; rw [zup_ne q]
theorem zrR_ne {h : zH} {a b c j : Nat} {e : zE} (q : b ≠ a) : zrR (zup h a e) b c j = zrR h b c j := by unfold zrR; rw [zup_ne q]
theorem zA32_ne {t : Nat} {h : zH} {a b : Nat} {e : zE} {i : Int32} (q : b ≠ a) : zA32 t (zup h a e) b i = zA32 t h b i := by unfold zA32; rw [zup_ne q]
theorem zaJ_ne {h : zH} {a b : Nat} {e : zE} {i : Int32} (q : b ≠ a) : zaJ (zup h a e) b i = zaJ h b i := by unfold zaJ; rw [zup_ne q]
theorem zaR_ne {t : Nat} {h : zH} {a b : Nat} {e : zE} {i : Int32} (q : b ≠ a) : zaR t (zup h a e) b i = zaR t h b i := by unfold zaR; rw [zup_ne q]
theorem zcls_ne {h : zH} {a b : Nat} {e : zE} (q : b ≠ a) : zcls (zup h a e) b = zcls h b := by unfold zcls; rw [zup_ne q]
theorem zlen_ne {h : zH} {a b : Nat} {e : zE} (q : b ≠ a) : zlen (zup h a e) b = zlen h b := by unfold zlen; rw [zup_ne q]
theorem nI_out {k n : Nat} (hk : k < n) (hn : n ≤ 100000) : ¬ (nI k < 0 ∨ n ≤ (nI k).toNatClampNeg) := vp_in_nI hk (by omega)
theorem nI_cl {k : Nat} (hk : k < 1000000) : (nI k).toNatClampNeg = k := nI_clamp (by omega)
theorem zrI_of {h : zH} {a c j : Nat} {fs : List Value} {x : Int32} (ha : h a = .inl (c, fs)) (hj : fs[j]? = some (.int x)) : zrI h a c j = some x := by simp [zrI, ha, hj]
theorem zrR_of {h : zH} {a c j : Nat} {fs : List Value} {x : Nat} (ha : h a = .inl (c, fs)) (hj : fs[j]? = some (.ref x)) : zrR h a c j = some x := by simp [zrR, ha, hj]
theorem zcls_of {h : zH} {a c : Nat} {fs : List Value} (ha : h a = .inl (c, fs)) : zcls h a = c := by simp [zcls, ha]
theorem zcv_of {α : Type} {h : zH} {a c : Nat} {o : Option α} (ha : zcls h a = c) : zcv h a c o = o := if_pos ha
theorem zA32_of {t : Nat} {h : zH} {a n k : Nat} {g : Nat → Int32} (ha : h a = .inr (t, n, .inl g)) (hk : k < n) (hn : n ≤ 100000) : zA32 t h a (nI k) = some (g k) := by
  unfold zA32
  rw [ha]
  show (if _ then _ else _) = _
  rw [if_pos rfl, if_neg (nI_out hk hn), nI_cl (by omega)]
theorem zA32_ld {t : Nat} {h : zH} {a n k : Nat} {g : Nat → Int32} (hk : k < n) (hn : n ≤ 100000) : zA32 t (zup h a (.inr (t, n, .inl g))) a (nI k) = some (g k) := zA32_of (zup_eq _ _ _) hk hn
theorem zS32_of {t : Nat} {h : zH} {a n k : Nat} {g : Nat → Int32} {x : Int32} (ha : h a = .inr (t, n, .inl g)) (hk : k < n) (hn : n ≤ 100000) : zS32 t h a (nI k) x = some (zup h a (.inr (t, n, .inl (upd g k x)))) := by
  unfold zS32
  rw [ha]
  show (if _ then _ else _) = _
  rw [if_pos rfl, if_neg (nI_out hk hn), nI_cl (by omega)]
theorem zS32_st {t : Nat} {h : zH} {a n k : Nat} {g : Nat → Int32} {x : Int32} (hk : k < n) (hn : n ≤ 100000) : zS32 t (zup h a (.inr (t, n, .inl g))) a (nI k) x = some (zup h a (.inr (t, n, .inl (upd g k x)))) := by
  rw [zS32_of (zup_eq _ _ _) hk hn, zup_zup]
theorem zaJ_of {h : zH} {a n k : Nat} {g : Nat → Int64} (ha : h a = zI64 n g) (hk : k < n) (hn : n ≤ 100000) : zaJ h a (nI k) = some (g k) := by
  unfold zaJ
  rw [ha]
  show (if _ then _ else _) = _
  rw [if_pos rfl, if_neg (nI_out hk hn), nI_cl (by omega)]
theorem zsJ_of {h : zH} {a n k : Nat} {g : Nat → Int64} {x : Int64} (ha : h a = zI64 n g) (hk : k < n) (hn : n ≤ 100000) : zsJ h a (nI k) x = some (zup h a (zI64 n (vp_updL g k x))) := by
  unfold zsJ
  rw [ha]
  show (if _ then _ else _) = _
  rw [if_pos rfl, if_neg (nI_out hk hn), nI_cl (by omega)]
theorem zaR_of {t : Nat} {h : zH} {a n k b : Nat} {g : Nat → Option Nat} (ha : h a = zRf t n g) (hk : k < n) (hn : n ≤ 100000) (hg : g k = some b) : zaR t h a (nI k) = some b := by
  unfold zaR
  rw [ha]
  show (if _ then _ else _) = _
  rw [if_pos rfl, if_neg (nI_out hk hn), nI_cl (by omega), hg]
theorem zwI_of {h : zH} {a c j : Nat} {fs : List Value} {x : Int32} (ha : h a = .inl (c, fs)) (hj : j < fs.length) : zwI h a c j x = some (zup h a (.inl (c, fs.set j (.int x)))) := by
  unfold zwI zwV
  rw [ha]
  simp [hj]
theorem zwZ_of {h : zH} {a c j : Nat} {fs : List Value} {x : Int32} (ha : h a = .inl (c, fs)) (hj : j < fs.length) (hx : x = 0 ∨ x = 1) : zwZ h a c j x = some (zup h a (.inl (c, fs.set j (.int x)))) := by
  unfold zwZ zwV
  rw [if_pos hx, ha]
  simp [hj]
theorem zcpI_of {h : zH} {a b n0 n1 n : Nat} {f g : Nat → Int32} (ha : h a = zI32 n0 f) (hb : h b = zI32 n1 g) (h0 : n ≤ n0) (h1 : n ≤ n1) (hn : n ≤ 100000) : zcpI h a (nI 0) b (nI 0) (nI n) = some (zup h b (zI32 n1 (va_cpy f g 0 0 n))) := by
  have e0 : (nI 0).toNatClampNeg = 0 := nI_cl (by omega)
  have en : (nI n).toNatClampNeg = n := nI_cl (by omega)
  have l0 : ¬ nI 0 < 0 := nI_pos (by omega)
  have ln : ¬ nI n < 0 := nI_pos (by omega)
  unfold zcpI
  rw [ha, hb]
  simp only [e0, en, Nat.zero_add]
  rw [if_pos ⟨trivial, trivial, l0, l0, ln, h0, h1⟩]
theorem va_cpy_all {n : Nat} {f g : Nat → Int32} (hf : ∀ k, n ≤ k → f k = 0) (hg : ∀ k, n ≤ k → g k = 0) : va_cpy f g 0 0 n = f := by
  funext k
  unfold va_cpy
  split
  · congr 1; omega
  · rw [hg k (by omega), hf k (by omega)]
theorem upd_eq (f : Nat → Int32) (k : Nat) (x : Int32) : upd f k x k = x := if_pos rfl
theorem upd_ne {f : Nat → Int32} {k j : Nat} {x : Int32} (h : j ≠ k) : upd f k x j = f j := if_neg h
theorem nI_lt_iff {a b : Nat} (ha : a < 100000) (hb : b < 100000) : (nI a < nI b) = (a < b) := propext (nI_ltI (by omega) (by omega))
theorem nI_le_iff {a b : Nat} (ha : a < 100000) (hb : b < 100000) : (nI a ≤ nI b) = (a ≤ b) := propext (nI_leI (by omega) (by omega))
theorem nI_eq_iff {a b : Nat} (ha : a < 100000) (hb : b < 100000) : (nI a = nI b) = (a = b) := propext (nI_eq (by omega) (by omega))
theorem nI_lt0 {a : Nat} (ha : a < 100000) : (nI a < 0) = False := eq_false (nI_pos (by omega))
theorem nI_0le {a : Nat} (ha : a < 100000) : (0 ≤ nI a) = True := eq_true (nI_pos' (by omega))
theorem nI_0lt {a : Nat} (ha : a < 100000) : (0 < nI a) = (0 < a) := by rw [← nI_0]; exact nI_lt_iff (by omega) ha
theorem nI_le0 {a : Nat} (ha : a < 100000) : (nI a ≤ 0) = (a = 0) := by rw [← nI_0, nI_le_iff ha (by omega)]; exact propext (by omega)
theorem nI_eq0 {a : Nat} (ha : a < 100000) : (nI a = 0) = (a = 0) := by rw [← nI_0]; exact nI_eq_iff ha (by omega)
theorem nI_ltm1 {a : Nat} (ha : a < 100000) : (nI a < -1) = False := eq_false (fun h => absurd (Int32.lt_trans h (by decide : (-1 : Int32) < 0)) (nI_pos (by omega)))
theorem nI_eqm1 {a : Nat} (ha : a < 100000) : (nI a = -1) = False := eq_false (fun h => absurd (h ▸ (by decide : (-1 : Int32) < 0)) (nI_pos (by omega)))
theorem nI_subn {a b : Nat} (h : b ≤ a) : nI a - nI b = nI (a - b) := pk_sub h
theorem bind_some' {α β : Type} (a : α) (f : α → Option β) : (some a).bind f = f a := rfl
theorem zb2_some {α β : Type} (a : α) (h : zH) (f : α → zH → Option β) : zb2 (some (a, h)) f = f a h := rfl
/-- a loop that goes on while a measure falls -/
theorem zloop_run {S R : Type} {f : (S → Option R) → S → Option R} (I : S → Prop) (μ : S → Nat) (P : S → R → Prop)
    (hs : ∀ (k : S → Option R) (s : S), I s → (∀ s', I s' → μ s' < μ s → ∃ r, k s' = some r ∧ P s' r) → ∃ r, f k s = some r ∧ P s r) : ∀ (n : Nat) (s : S), I s → μ s < n → ∃ r, zloop f n s = some r ∧ P s r := by
  intro n
  induction n with
  | zero => intro s _ h; omega
  | succ n ih =>
    intro s hI hn
    exact hs (zloop f n) s hI (fun s' hI' hm => ih s' hI' (by omega))
/-- a counted loop: what comes out is a function of the state -/
theorem zloop_val {S R : Type} {f : (S → Option R) → S → Option R} (I : S → Prop) (μ : S → Nat) (v : S → R)
    (hs : ∀ (k : S → Option R) (s : S), I s → (∀ s', I s' → μ s' < μ s → k s' = some (v s')) → f k s = some (v s)) : ∀ (n : Nat) (s : S), I s → μ s < n → zloop f n s = some (v s) := by
  intro n
  induction n with
  | zero => intro s _ h; omega
  | succ n ih =>
    intro s hI hn
    exact hs (zloop f n) s hI (fun s' hI' hm => ih s' hI' (by omega))
theorem zN_big : 1000000 < zN := Classical.choose_spec (⟨1048576, by omega⟩ : ∃ n : Nat, 1000000 < n)
