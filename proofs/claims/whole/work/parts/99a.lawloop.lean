/-! THE LAW'S LOOP AND START -/
section LAW
variable {p : Program} {l : Launch} {e : Env} {s : State} {m : MethodId} {below : List Frame} {meth : Method} {c : Code} {H : Heap} {locs : List Loc} {Q : State → Prop} {ls : Array Slot} {rest : List Value} {G : zG} {h : zH} {b L : Nat} {xs : Nat → Int32} {j : Nat}
theorem q_lt {a b : Nat} (ha : a < 100000) (hb : b < 100000) : (nI a - nI 6 < nI b) = (a < b + 6) := by
  refine propext ?_
  have e1 := pk_sub_toInt (a := a) (b := 6) (by omega) (by omega)
  have e2 : (nI b).toInt = (b : Int) := by
    have := pk_sub_toInt (a := b) (b := 0) (by omega) (by omega)
    rw [nI_0, Int32.sub_zero] at this
    omega
  rw [Int32.lt_iff_toInt_lt, e1, e2]
  omega
theorem q_sw {R : Room} {args : Array Value} {cells slots : Nat} (hx : p.tables.exec = Jvm.exec) (hb : c.code = code) {v : Int32} (kd : W p l e R s m args below meth c H locs cells slots Q (F0 m 1118 ls []))
    (k0 : W p l e R s m args below meth c H locs cells slots Q (F0 m 156 ls []))
    (k1 : W p l e R s m args below meth c H locs cells slots Q (F0 m 189 ls []))
    (k2 : W p l e R s m args below meth c H locs cells slots Q (F0 m 202 ls []))
    (k3 : W p l e R s m args below meth c H locs cells slots Q (F0 m 235 ls []))
    (k4 : W p l e R s m args below meth c H locs cells slots Q (F0 m 278 ls []))
    (k5 : W p l e R s m args below meth c H locs cells slots Q (F0 m 301 ls []))
    (k6 : W p l e R s m args below meth c H locs cells slots Q (F0 m 324 ls []))
    (k7 : W p l e R s m args below meth c H locs cells slots Q (F0 m 347 ls []))
    (k8 : W p l e R s m args below meth c H locs cells slots Q (F0 m 390 ls []))
    (k9 : W p l e R s m args below meth c H locs cells slots Q (F0 m 443 ls []))
    (k10 : W p l e R s m args below meth c H locs cells slots Q (F0 m 476 ls []))
    (k11 : W p l e R s m args below meth c H locs cells slots Q (F0 m 519 ls []))
    (k12 : W p l e R s m args below meth c H locs cells slots Q (F0 m 562 ls []))
    (k13 : W p l e R s m args below meth c H locs cells slots Q (F0 m 605 ls []))
    (k14 : W p l e R s m args below meth c H locs cells slots Q (F0 m 628 ls []))
    (k15 : W p l e R s m args below meth c H locs cells slots Q (F0 m 651 ls []))
    (k16 : W p l e R s m args below meth c H locs cells slots Q (F0 m 694 ls []))
    (k17 : W p l e R s m args below meth c H locs cells slots Q (F0 m 717 ls []))
    (k18 : W p l e R s m args below meth c H locs cells slots Q (F0 m 750 ls []))
    (k19 : W p l e R s m args below meth c H locs cells slots Q (F0 m 793 ls []))
    (k20 : W p l e R s m args below meth c H locs cells slots Q (F0 m 816 ls []))
    (k21 : W p l e R s m args below meth c H locs cells slots Q (F0 m 849 ls []))
    (k22 : W p l e R s m args below meth c H locs cells slots Q (F0 m 892 ls []))
    (k23 : W p l e R s m args below meth c H locs cells slots Q (F0 m 965 ls []))
    (k24 : W p l e R s m args below meth c H locs cells slots Q (F0 m 999 ls []))
    (k25 : W p l e R s m args below meth c H locs cells slots Q (F0 m 1062 ls []))
    (k26 : W p l e R s m args below meth c H locs cells slots Q (F0 m 1095 ls [])) : W p l e R s m args below meth c H locs cells slots Q (F0 m 33 ls [.int v]) := by
  by_cases hr : v.toInt < 0 ∨ 26 < v.toInt
  · exact lv_tableOut (tgt := 1118) hx hb d_law_33 hr (by decide) kd
  · have h1 : ¬ v.toInt < 0 := fun q => hr (Or.inl q)
    have h2 : ¬ 26 < v.toInt := fun q => hr (Or.inr q)
    rcases (show v.toInt = 0 ∨ v.toInt = 1 ∨ v.toInt = 2 ∨ v.toInt = 3 ∨ v.toInt = 4 ∨ v.toInt = 5 ∨ v.toInt = 6 ∨ v.toInt = 7 ∨ v.toInt = 8 ∨ v.toInt = 9 ∨ v.toInt = 10 ∨ v.toInt = 11 ∨ v.toInt = 12 ∨ v.toInt = 13 ∨ v.toInt = 14 ∨ v.toInt = 15 ∨ v.toInt = 16 ∨ v.toInt = 17 ∨ v.toInt = 18 ∨ v.toInt = 19 ∨ v.toInt = 20 ∨ v.toInt = 21 ∨ v.toInt = 22 ∨ v.toInt = 23 ∨ v.toInt = 24 ∨ v.toInt = 25 ∨ v.toInt = 26 by omega) with q | q | q | q | q | q | q | q | q | q | q | q | q | q | q | q | q | q | q | q | q | q | q | q | q | q | q
    · exact lv_tableIn (off := 123) (tgt := 156) hx hb d_law_33 h1 h2 (by rw [q]; rfl) (by decide) k0
    · exact lv_tableIn (off := 156) (tgt := 189) hx hb d_law_33 h1 h2 (by rw [q]; rfl) (by decide) k1
    · exact lv_tableIn (off := 169) (tgt := 202) hx hb d_law_33 h1 h2 (by rw [q]; rfl) (by decide) k2
    · exact lv_tableIn (off := 202) (tgt := 235) hx hb d_law_33 h1 h2 (by rw [q]; rfl) (by decide) k3
    · exact lv_tableIn (off := 245) (tgt := 278) hx hb d_law_33 h1 h2 (by rw [q]; rfl) (by decide) k4
    · exact lv_tableIn (off := 268) (tgt := 301) hx hb d_law_33 h1 h2 (by rw [q]; rfl) (by decide) k5
    · exact lv_tableIn (off := 291) (tgt := 324) hx hb d_law_33 h1 h2 (by rw [q]; rfl) (by decide) k6
    · exact lv_tableIn (off := 314) (tgt := 347) hx hb d_law_33 h1 h2 (by rw [q]; rfl) (by decide) k7
    · exact lv_tableIn (off := 357) (tgt := 390) hx hb d_law_33 h1 h2 (by rw [q]; rfl) (by decide) k8
    · exact lv_tableIn (off := 410) (tgt := 443) hx hb d_law_33 h1 h2 (by rw [q]; rfl) (by decide) k9
    · exact lv_tableIn (off := 443) (tgt := 476) hx hb d_law_33 h1 h2 (by rw [q]; rfl) (by decide) k10
    · exact lv_tableIn (off := 486) (tgt := 519) hx hb d_law_33 h1 h2 (by rw [q]; rfl) (by decide) k11
    · exact lv_tableIn (off := 529) (tgt := 562) hx hb d_law_33 h1 h2 (by rw [q]; rfl) (by decide) k12
    · exact lv_tableIn (off := 572) (tgt := 605) hx hb d_law_33 h1 h2 (by rw [q]; rfl) (by decide) k13
    · exact lv_tableIn (off := 595) (tgt := 628) hx hb d_law_33 h1 h2 (by rw [q]; rfl) (by decide) k14
    · exact lv_tableIn (off := 618) (tgt := 651) hx hb d_law_33 h1 h2 (by rw [q]; rfl) (by decide) k15
    · exact lv_tableIn (off := 661) (tgt := 694) hx hb d_law_33 h1 h2 (by rw [q]; rfl) (by decide) k16
    · exact lv_tableIn (off := 684) (tgt := 717) hx hb d_law_33 h1 h2 (by rw [q]; rfl) (by decide) k17
    · exact lv_tableIn (off := 717) (tgt := 750) hx hb d_law_33 h1 h2 (by rw [q]; rfl) (by decide) k18
    · exact lv_tableIn (off := 760) (tgt := 793) hx hb d_law_33 h1 h2 (by rw [q]; rfl) (by decide) k19
    · exact lv_tableIn (off := 783) (tgt := 816) hx hb d_law_33 h1 h2 (by rw [q]; rfl) (by decide) k20
    · exact lv_tableIn (off := 816) (tgt := 849) hx hb d_law_33 h1 h2 (by rw [q]; rfl) (by decide) k21
    · exact lv_tableIn (off := 859) (tgt := 892) hx hb d_law_33 h1 h2 (by rw [q]; rfl) (by decide) k22
    · exact lv_tableIn (off := 932) (tgt := 965) hx hb d_law_33 h1 h2 (by rw [q]; rfl) (by decide) k23
    · exact lv_tableIn (off := 966) (tgt := 999) hx hb d_law_33 h1 h2 (by rw [q]; rfl) (by decide) k24
    · exact lv_tableIn (off := 1029) (tgt := 1062) hx hb d_law_33 h1 h2 (by rw [q]; rfl) (by decide) k25
    · exact lv_tableIn (off := 1062) (tgt := 1095) hx hb d_law_33 h1 h2 (by rw [q]; rfl) (by decide) k26
theorem q_loop (X : zX p s m #[Value.ref b] meth c "AllHomeLaw" code 4 ret G (bA s.heap.size)) (hX : va_X b L xs s s.heap) (hbl : b < s.heap.size) (hL : L ≤ 3072) : ∀ (n j : Nat), L ≤ 6 * (j + n) → 6 * j ≤ 3078 → ∀ (H : Heap) (locs : List Loc) (h : zH) (ls : Array Slot), zI G 693 s (bA s.heap.size) H locs h → INVx (60 * j) h → lv_has ls 4 [(3, .int (nI (6 * j))), (2, .ref (G.1 670)), (1, .ref (G.1 0)), (0, .ref b)] → W p l e room_1 s m #[Value.ref b] below meth c H locs 693 87448 (lw_Z below #[Value.ref b] s) (F0 m 18 ls []) := by
  obtain ⟨hx, hb, hml, hown, hts, hr, hlocks, hK, hST, hNs⟩ := id X
  have hbA : ¬ bA s.heap.size b := Nat.not_le.mpr hbl
  intro n
  induction n with
  | zero =>
    intro j hn hj H locs h ls hI I hl
    refine lv_iload_n hx hb d_law_18 rfl (lv_at hl 0 rfl) ?_
    refine lv_aload_n hx hb d_law_19 rfl (lv_at hl 3 rfl) ?_
    refine va_slen hx hb hX hbl (A := bA s.heap.size) hbA hI.2.2 d_law_20 ?_
    refine lv_bipush (v := nI 6) hx hb d_law_21 (by decide) ?_
    refine lv_isub hx hb d_law_23 ?_
    refine lv_icmp_gt (tgt := 1124) hx hb d_law_24 (by decide) (fun _ => ?_) (fun q => ?_)
    · refine lv_iconst (v := (1 : Int32)) hx hb d_law_1124 (by decide) ?_
      refine W.widen (k := 600000) (n := 7302250) (Nat.le_of_ble_eq_true rfl) (Nat.le_of_ble_eq_true rfl) ?_
      refine va_forget hI.2.2.2.2 ?_
      exact lw_ret hx hb hr hlocks d_law_1125
    · refine absurd ?_ q
      show nI L - nI 6 < nI (6 * j)
      rw [q_lt (by omega) (by omega)]
      omega
  | succ n ih =>
    intro j hn hj H locs h ls hI I hl
    refine lv_iload_n hx hb d_law_18 rfl (lv_at hl 0 rfl) ?_
    refine lv_aload_n hx hb d_law_19 rfl (lv_at hl 3 rfl) ?_
    refine va_slen hx hb hX hbl (A := bA s.heap.size) hbA hI.2.2 d_law_20 ?_
    refine lv_bipush (v := nI 6) hx hb d_law_21 (by decide) ?_
    refine lv_isub hx hb d_law_23 ?_
    refine lv_icmp_gt (tgt := 1124) hx hb d_law_24 (by decide) (fun _ => ?_) (fun q => ?_)
    · refine lv_iconst (v := (1 : Int32)) hx hb d_law_1124 (by decide) ?_
      refine W.widen (k := 600000) (n := 7302250) (Nat.le_of_ble_eq_true rfl) (Nat.le_of_ble_eq_true rfl) ?_
      refine va_forget hI.2.2.2.2 ?_
      exact lw_ret hx hb hr hlocks d_law_1125
    · have q : ¬ (nI L - nI 6 < nI (6 * j)) := q
      rw [q_lt (by omega) (by omega)] at q
      have hj6 : 6 * j + 6 ≤ L := by omega
      have kk : ∀ (H1 : Heap) (locs1 : List Loc) (h1 : zH), zI G 693 s (bA s.heap.size) H1 locs1 h1 → INVx (60 * j + 60) h1 → W p l e room_1 s m #[Value.ref b] below meth c H1 locs1 693 87448 (lw_Z below #[Value.ref b] s) (F0 m 1118 ls []) := by
        intro H1 locs1 h1 hI1 I1
        refine lv_iinc (k := 0) (v := nI (6 * (j + 1))) (lv' := [(3, .int (nI (6 * (j + 1)))), (2, .ref (G.1 670)), (1, .ref (G.1 0)), (0, .ref b)]) hx hb d_law_1118 hl rfl (by show nI (6 * j) + nI 6 = _; rw [nI_add]; rfl) (by decide) rfl (fun ls hl => ?_)
        refine lv_goto (tgt := 18) hx hb d_law_1121 (by decide) ?_
        exact ih (j + 1) (by omega) (by omega) H1 locs1 h1 ls hI1 (by rw [Nat.mul_add]; exact I1) hl
      refine lv_aload_n hx hb d_law_27 rfl (lv_at hl 3 rfl) ?_
      refine lv_iload_n hx hb d_law_28 rfl (lv_at hl 0 rfl) ?_
      refine va_sld hx hb hX hbl (A := bA s.heap.size) hbA hI.2.2 (vp_in_nI (show 6 * j < L by omega) (by omega)) d_law_29 ?_
      refine lv_bipush (v := (31 : Int32)) hx hb d_law_30 (by decide) ?_
      refine lv_iand hx hb d_law_32 ?_
      exact q_sw hx hb (kk H locs h hI (INVx.mono I (Nat.le_add_right (60 * j) 60))) (w_feed X hX hbl hL hI hl hj6 I kk) (w_hut X hX hbl hL hI hl hj6 I kk) (w_line X hX hbl hL hI hl hj6 I kk) (w_goesTo X hX hbl hL hI hl hj6 I kk) (w_way X hX hbl hL hI hl hj6 I kk) (w_kindOf X hX hbl hL hI hl hj6 I kk) (w_run X hX hbl hL hI hl hj6 I kk) (w_step X hX hbl hL hI hl hj6 I kk) (w_steps X hX hbl hL hI hl hj6 I kk) (w_ofRun X hX hbl hL hI hl hj6 I kk) (w_ofHut X hX hbl hL hI hl hj6 I kk) (w_word X hX hbl hL hI hl hj6 I kk) (w_note X hX hbl hL hI hl hj6 I kk) (w_total X hX hbl hL hI hl hj6 I kk) (w_states X hX hbl hL hI hl hj6 I kk) (w_least X hX hbl hL hI hl hj6 I kk) (w_stuck X hX hbl hL hI hl hj6 I kk) (w_work X hX hbl hL hI hl hj6 I kk) (w_act X hX hbl hL hI hl hj6 I kk) (w_trace X hX hbl hL hI hl hj6 I kk) (w_keep X hX hbl hL hI hl hj6 I kk) (w_row X hX hbl hL hI hl hj6 I kk) (w_put X hX hbl hL hI hl hj6 I kk) (w_element X hX hbl hL hI hl hj6 I kk) (w_shift X hX hbl hL hI hl hj6 I kk) (w_taken X hX hbl hL hI hl hj6 I kk) (w_count X hX hbl hL hI hl hj6 I kk)
end LAW
