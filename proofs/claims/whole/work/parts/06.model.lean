/-! WHAT EACH METHOD DOES TO THE MODEL HEAP, out of its bytecode by program (wip/whole/sym.py) -/
-- AllHome.feed(II)I
noncomputable def g_Home_feed_28 (a0 : Nat) (x1 : Int32) (x2 : Int32) (k28 : (Int32 × zH) → Option (Int32 × zH)) (u : Int32 × zH) : Option (Int32 × zH) :=
(if x1 ≤ u.1 then ((zrI u.2 a0 6 1).bind fun v62 => ((zwI u.2 a0 6 1 (v62 + x1)).bind fun h67 => ((zrI h67 a0 6 1).bind fun v71 => (some (v71, h67)))))
  else ((zrR u.2 a0 6 0).bind fun v34 => ((zrI u.2 a0 6 1).bind fun v38 => ((zsI u.2 v34 (v38 + u.1) ((x2 >>> (((nI 8) * u.1) &&& 31)) &&& (nI 255))).bind fun h53 => (k28 ((u.1 + (nI 1)), h53))))))
noncomputable def m_Home_feed (a0 : Nat) (x1 : Int32) (x2 : Int32) (h : zH) : Option (Int32 × zH) :=
  (if x1 < (nI 1) then (some ((-1 : Int32), h))
  else (if x1 ≤ (nI 4) then ((zrI h a0 6 1).bind fun v13 => (if v13 ≤ ((nI 60) - x1) then (zloop (g_Home_feed_28 a0 x1 x2) zN ((nI 0), h))
      else (some ((-3 : Int32), h))))
    else (some ((-1 : Int32), h))))
-- AllHome$Huts.size()I
noncomputable def m_Huts_size (a0 : Nat) (h : zH) : Option Int32 :=
  ((zrI h a0 1 3).bind fun v1 => (some v1))
-- AllHome$Huts.addWords(III)I
noncomputable def g_Huts_addWords_3 (a0 : Nat) (x1 : Int32) (x2 : Int32) (x3 : Int32) (k3 : (Int32 × zH) → Option (Int32 × zH)) (u : Int32 × zH) : Option (Int32 × zH) :=
(if x3 ≤ u.1 then (some ((if (nI 270) < (x1 + x3) then (nI 270) else (x1 + x3)), u.2))
  else (if (nI 270) ≤ (x1 + u.1) then (some ((if (nI 270) < (x1 + x3) then (nI 270) else (x1 + x3)), u.2))
    else ((zrR u.2 a0 1 0).bind fun v20 => ((zrI u.2 a0 1 3).bind fun v24 => ((zaR 5 u.2 v20 v24).bind fun v27 => ((zsI u.2 v27 (x1 + u.1) x2).bind fun h33 => (k3 ((u.1 + (nI 1)), h33))))))))
noncomputable def m_Huts_addWords (a0 : Nat) (x1 : Int32) (x2 : Int32) (x3 : Int32) (h : zH) : Option (Int32 × zH) :=
  (zloop (g_Huts_addWords_3 a0 x1 x2 x3) zN ((nI 0), h))
-- AllHome$Huts.read([II)I
noncomputable def g_Huts_read_136 (a0 : Nat) (a1 : Nat) (x2 : Int32) (x3 : Int32) (x4 : Int32) (x5 : Int32) (x6 : Int32) (x7 : Int32) (h : zH) (k38 : (Int32 × Int32 × Int32 × Int32 × zH) → Option (Int32 × zH)) : Option (Int32 × zH) :=
(if x7 < (nI 50) then (some (x6, h))
  else (if (nI 57) < x7 then (some (x6, h))
    else (if x5 = 0 then (k38 (x3, x4, (x7 - (nI 48)), (x6 + (nI 1)), h))
      else (some (x6, h)))))
noncomputable def g_Huts_read_105 (a0 : Nat) (a1 : Nat) (x2 : Int32) (x3 : Int32) (x4 : Int32) (x5 : Int32) (x6 : Int32) (x7 : Int32) (h : zH) (k38 : (Int32 × Int32 × Int32 × Int32 × zH) → Option (Int32 × zH)) : Option (Int32 × zH) :=
(if x7 = (nI 59) then (if x5 = 0 then ((zrR h a0 1 1).bind fun v121 => ((zrI h a0 1 3).bind fun v125 => ((zaR 5 h v121 v125).bind fun v128 => ((zsI h v128 (x3 + (nI 1)) x4).bind fun h132 => (k38 ((x3 + (nI 1)), x4, x5, (x6 + (nI 1)), h132))))))
    else (g_Huts_read_136 a0 a1 x2 x3 x4 x5 x6 x7 h k38))
  else (g_Huts_read_136 a0 a1 x2 x3 x4 x5 x6 x7 h k38))
noncomputable def g_Huts_read_38 (a0 : Nat) (a1 : Nat) (x2 : Int32) (k38 : (Int32 × Int32 × Int32 × Int32 × zH) → Option (Int32 × zH)) (u : Int32 × Int32 × Int32 × Int32 × zH) : Option (Int32 × zH) :=
(if x2 ≤ u.2.2.2.1 then (if u.2.2.1 = 0 then ((zrR u.2.2.2.2 a0 1 1).bind fun v182 => ((zrI u.2.2.2.2 a0 1 3).bind fun v186 => ((zaR 5 u.2.2.2.2 v182 v186).bind fun v189 => ((zsI u.2.2.2.2 v189 (u.1 + (nI 1)) u.2.1).bind fun h195 => ((zrR h195 a0 1 2).bind fun v197 => ((zrI h195 a0 1 3).bind fun v201 => ((zsI h195 v197 v201 (u.1 + (nI 1))).bind fun h207 => ((zrI h207 a0 1 3).bind fun v210 => ((zwI h207 a0 1 3 (v210 + (nI 1))).bind fun h215 => (some ((-1 : Int32), h215)))))))))))
    else (some (x2, u.2.2.2.2)))
  else ((zaI u.2.2.2.2 a1 u.2.2.2.1).bind fun v47 => (if (v47 - (nI 97)) < 0 then (g_Huts_read_105 a0 a1 x2 u.1 u.2.1 u.2.2.1 u.2.2.2.1 v47 u.2.2.2.2 k38)
    else (if (nI 6) ≤ (v47 - (nI 97)) then (g_Huts_read_105 a0 a1 x2 u.1 u.2.1 u.2.2.1 u.2.2.2.1 v47 u.2.2.2.2 k38)
      else ((zrI u.2.2.2.2 a0 1 3).bind fun v72 => (if (v47 - (nI 97)) = v72 then (g_Huts_read_105 a0 a1 x2 u.1 u.2.1 u.2.2.1 u.2.2.2.1 v47 u.2.2.2.2 k38)
        else (if u.2.2.1 = 0 then (zb2 (zcv u.2.2.2.2 a0 1 (m_Huts_addWords a0 u.2.1 (v47 - (nI 97)) (nI 1) u.2.2.2.2)) fun v94 h94 => (k38 (u.1, v94, (nI 0), (u.2.2.2.1 + (nI 1)), h94)))
          else (zb2 (zcv u.2.2.2.2 a0 1 (m_Huts_addWords a0 u.2.1 (v47 - (nI 97)) u.2.2.1 u.2.2.2.2)) fun v94 h94 => (k38 (u.1, v94, (nI 0), (u.2.2.2.1 + (nI 1)), h94))))))))))
noncomputable def m_Huts_read (a0 : Nat) (a1 : Nat) (x2 : Int32) (h : zH) : Option (Int32 × zH) :=
  ((zrI h a0 1 3).bind fun v1 => (if (nI 6) ≤ v1 then (some ((nI 0), h))
  else (if x2 < 0 then (some ((nI 0), h))
    else (if (nI 60) < x2 then (some ((nI 0), h))
      else ((zlen h a1).bind fun v21 => (if x2 ≤ v21 then (zloop (g_Huts_read_38 a0 a1 x2) zN ((nI 0), (nI 0), (nI 0), (nI 0), h))
        else (some ((nI 0), h))))))))
-- AllHome$Orders.forget()V
noncomputable def m_Orders_forget (a0 : Nat) (h : zH) : Option zH :=
  ((zwI h a0 2 13 (-1 : Int32)).bind fun h2 => (some h2))
-- AllHome.hut()I
noncomputable def m_Home_hut (a0 : Nat) (h : zH) : Option (Int32 × zH) :=
  ((zrI h a0 6 6).bind fun v1 => (if v1 ≤ 0 then ((zrR h a0 6 2).bind fun v11 => ((zcv h v11 1 (m_Huts_size v11 h)).bind fun v14 => (if v14 < (nI 6) then ((zrR h a0 6 2).bind fun v26 => ((zrR h a0 6 0).bind fun v30 => ((zrI h a0 6 1).bind fun v34 => (zb2 (zcv h v26 1 (m_Huts_read v26 v30 v34 h)) fun v37 h37 => ((zwI h37 a0 6 1 (nI 0)).bind fun h43 => (if v37 = (-1 : Int32) then ((zrR h43 a0 6 8).bind fun v57 => ((zcv h43 v57 2 (m_Orders_forget v57 h43)).bind fun h60 => ((zrR h60 a0 6 9).bind fun v64 => ((zcv h60 v64 2 (m_Orders_forget v64 h60)).bind fun h67 => ((zrR h67 a0 6 2).bind fun v71 => ((zcv h67 v71 1 (m_Huts_size v71 h67)).bind fun v74 => (some ((v74 - (nI 1)), h67))))))))
      else (some (((-100 : Int32) - v37), h43))))))))
    else (some ((-3 : Int32), h)))))
  else (some ((-5 : Int32), h))))
-- AllHome$Huts.has(I)Z
noncomputable def m_Huts_has (a0 : Nat) (x1 : Int32) (h : zH) : Option Int32 :=
  (if x1 < 0 then (some (nI 0))
  else ((zrI h a0 1 3).bind fun v6 => (if v6 ≤ x1 then (some (nI 0))
    else (some (nI 1)))))
-- AllHome$Huts.linesOf(I)I
noncomputable def m_Huts_linesOf (a0 : Nat) (x1 : Int32) (h : zH) : Option Int32 :=
  ((zcv h a0 1 (m_Huts_has a0 x1 h)).bind fun v2 => (if v2 = 0 then (some (nI 0))
  else ((zrR h a0 1 2).bind fun v9 => ((zaI h v9 x1).bind fun v13 => (some v13)))))
-- AllHome$Huts.wordsOf(II)I
noncomputable def m_Huts_wordsOf (a0 : Nat) (x1 : Int32) (x2 : Int32) (h : zH) : Option Int32 :=
  ((zcv h a0 1 (m_Huts_has a0 x1 h)).bind fun v2 => (if v2 = 0 then (some (nI 0))
  else (if x2 < 0 then (some (nI 0))
    else ((zrR h a0 1 2).bind fun v14 => ((zaI h v14 x1).bind fun v18 => (if x2 < v18 then ((zrR h a0 1 1).bind fun v25 => ((zaR 5 h v25 x1).bind fun v29 => ((zaI h v29 (x2 + (nI 1))).bind fun v33 => ((zrR h a0 1 1).bind fun v35 => ((zaR 5 h v35 x1).bind fun v39 => ((zaI h v39 x2).bind fun v41 => (some (v33 - v41))))))))
      else (some (nI 0))))))))
-- AllHome.line(II)I
noncomputable def m_Home_line (a0 : Nat) (x1 : Int32) (x2 : Int32) (h : zH) : Option Int32 :=
  ((zrR h a0 6 2).bind fun v1 => ((zcv h v1 1 (m_Huts_has v1 x1 h)).bind fun v5 => (if v5 = 0 then (some (-1 : Int32))
  else (if x2 < (-1 : Int32) then (some (-1 : Int32))
    else ((zrR h a0 6 2).bind fun v18 => ((zcv h v18 1 (m_Huts_linesOf v18 x1 h)).bind fun v22 => (if x2 < v22 then (if x2 = (-1 : Int32) then ((zrR h a0 6 2).bind fun v36 => ((zcv h v36 1 (m_Huts_linesOf v36 x1 h)).bind fun v40 => (some v40)))
        else ((zrR h a0 6 2).bind fun v47 => ((zcv h v47 1 (m_Huts_wordsOf v47 x1 x2 h)).bind fun v52 => (some v52))))
      else (some (-1 : Int32)))))))))
-- AllHome$Huts.goal(III)I
noncomputable def m_Huts_goal (a0 : Nat) (x1 : Int32) (x2 : Int32) (x3 : Int32) (h : zH) : Option Int32 :=
  ((zcv h a0 1 (m_Huts_has a0 x1 h)).bind fun v2 => (if v2 = 0 then (some (-1 : Int32))
  else (if x2 < 0 then (some (-1 : Int32))
    else ((zrR h a0 1 2).bind fun v14 => ((zaI h v14 x1).bind fun v18 => (if x2 < v18 then ((zrR h a0 1 1).bind fun v25 => ((zaR 5 h v25 x1).bind fun v29 => ((zaI h v29 (x2 + (nI 1))).bind fun v33 => ((zrR h a0 1 1).bind fun v35 => ((zaR 5 h v35 x1).bind fun v39 => ((zaI h v39 x2).bind fun v41 => (if x3 < 0 then (some (-1 : Int32))
        else (if (v33 - v41) ≤ x3 then (some (-1 : Int32))
          else ((zrR h a0 1 0).bind fun v56 => ((zaR 5 h v56 x1).bind fun v60 => ((zrR h a0 1 1).bind fun v62 => ((zaR 5 h v62 x1).bind fun v66 => ((zaI h v66 x2).bind fun v68 => ((zaI h v60 (v68 + x3)).bind fun v71 => (some v71)))))))))))))))
      else (some (-1 : Int32))))))))
-- AllHome.goesTo(III)I
noncomputable def m_Home_goesTo (a0 : Nat) (x1 : Int32) (x2 : Int32) (x3 : Int32) (h : zH) : Option Int32 :=
  ((zrR h a0 6 2).bind fun v1 => ((zcv h v1 1 (m_Huts_has v1 x1 h)).bind fun v5 => (if v5 = 0 then (some (-1 : Int32))
  else (if x3 < 0 then (some (-1 : Int32))
    else ((zrR h a0 6 2).bind fun v17 => ((zcv h v17 1 (m_Huts_wordsOf v17 x1 x2 h)).bind fun v22 => (if x3 < v22 then ((zrR h a0 6 2).bind fun v31 => ((zcv h v31 1 (m_Huts_goal v31 x1 x2 x3 h)).bind fun v37 => (some v37)))
      else (some (-1 : Int32)))))))))
-- AllHome.isKind(I)Z
noncomputable def m_Home_isKind (x0 : Int32) (h : zH) : Option Int32 :=
  (if x0 < 0 then (some (nI 0))
  else (if (nI 9) ≤ x0 then (some (nI 0))
    else (some (nI 1))))
-- AllHome.way(I)I
noncomputable def m_Home_way (a0 : Nat) (x1 : Int32) (h : zH) : Option (Int32 × zH) :=
  ((m_Home_isKind x1 h).bind fun v1 => (if v1 = 0 then (some ((-1 : Int32), h))
  else ((zrI h a0 6 4).bind fun v10 => (if v10 < (nI 10) then ((zrR h a0 6 3).bind fun v22 => ((zrI h a0 6 4).bind fun v26 => ((zsI h v22 v26 x1).bind fun h30 => ((zrI h30 a0 6 4).bind fun v33 => ((zwI h30 a0 6 4 (v33 + (nI 1))).bind fun h38 => ((zrI h38 a0 6 4).bind fun v42 => (some ((v42 - (nI 1)), h38))))))))
    else (some ((-3 : Int32), h))))))
-- AllHome.isWay(I)Z
noncomputable def m_Home_isWay (a0 : Nat) (x1 : Int32) (h : zH) : Option Int32 :=
  (if x1 < 0 then (some (nI 0))
  else ((zrI h a0 6 4).bind fun v6 => (if v6 ≤ x1 then (some (nI 0))
    else (some (nI 1)))))
-- AllHome.kindOf(I)I
noncomputable def m_Home_kindOf (a0 : Nat) (x1 : Int32) (h : zH) : Option Int32 :=
  ((zcv h a0 6 (m_Home_isWay a0 x1 h)).bind fun v2 => (if v2 = 0 then (some (-1 : Int32))
  else ((zrR h a0 6 3).bind fun v9 => ((zaI h v9 x1).bind fun v13 => (some v13)))))
-- java/util/Arrays.fill([II)V
noncomputable def g_Fill_I_5 (a0 : Nat) (x1 : Int32) (x3 : Int32) (k5 : (Int32 × zH) → Option zH) (u : Int32 × zH) : Option zH :=
(if x3 ≤ u.1 then (some u.2)
  else ((zsI u.2 a0 u.1 x1).bind fun h13 => (k5 ((u.1 + (nI 1)), h13))))
noncomputable def m_Fill_I (a0 : Nat) (x1 : Int32) (h : zH) : Option zH :=
  ((zlen h a0).bind fun v3 => (zloop (g_Fill_I_5 a0 x1 v3) zN ((nI 0), h)))
-- AllHome$Rules.begin([II)V
noncomputable def g_Rules_begin_77 (a1 : Nat) (k77 : (Int32 × zH) → Option zH) (u : Int32 × zH) : Option zH :=
(if (nI 6) ≤ u.1 then (some u.2)
  else ((zsI u.2 a1 ((nI 81) + u.1) (-1 : Int32)).bind fun h89 => (k77 ((u.1 + (nI 1)), h89))))
noncomputable def g_Rules_begin_62 (a0 : Nat) (a1 : Nat) (h : zH) : Option zH :=
((zrI h a0 3 2).bind fun v63 => (if v63 = (nI 2) then ((zsI h a1 (nI 87) (nI 1)).bind fun h74 => (zloop (g_Rules_begin_77 a1) zN ((nI 0), h74)))
  else (some h)))
noncomputable def g_Rules_begin_13 (a0 : Nat) (a1 : Nat) (c0 : Nat) (y1 : Int32) (h : zH) : Option zH :=
((zwI h c0 3 1 y1).bind fun h13 => ((zrI h13 a0 3 1).bind fun v21 => ((ztab 1 v21).bind fun v24 => ((zwI h13 a0 3 2 v24).bind fun h25 => ((m_Fill_I a1 (nI 0) h25).bind fun h30 => ((zsI h30 a1 (nI 0) (nI 1)).bind fun h36 => ((zsI h36 a1 (nI 6) (nI 1)).bind fun h41 => ((zrI h41 a0 3 2).bind fun v43 => (if v43 = (nI 1) then ((zsI h41 a1 (nI 68) (nI 64)).bind fun h55 => ((zsI h55 a1 (nI 74) (nI 64)).bind fun h61 => (g_Rules_begin_62 a0 a1 h61)))
  else (g_Rules_begin_62 a0 a1 h41))))))))))
noncomputable def m_Rules_begin (a0 : Nat) (a1 : Nat) (x2 : Int32) (h : zH) : Option zH :=
  ((m_Home_isKind x2 h).bind fun v2 => (if v2 = 0 then (g_Rules_begin_13 a0 a1 a0 (nI 0) h)
  else (g_Rules_begin_13 a0 a1 a0 x2 h)))
-- AllHome$Run.begin(II)V
noncomputable def m_Run_begin (a0 : Nat) (x1 : Int32) (x2 : Int32) (h : zH) : Option zH :=
  ((zrR h a0 4 0).bind fun v1 => ((zrR h a0 4 1).bind fun v5 => ((zcv h v1 3 (m_Rules_begin v1 v5 x2 h)).bind fun h9 => ((zwI h9 a0 4 2 x1).bind fun h14 => ((zwI h14 a0 4 3 (nI 0)).bind fun h19 => ((zwI h19 a0 4 4 (-2 : Int32)).bind fun h25 => ((zwI h25 a0 4 5 (-2 : Int32)).bind fun h31 => (some h31))))))))
-- AllHome.run(I)I
noncomputable def m_Home_run (a0 : Nat) (x1 : Int32) (h : zH) : Option (Int32 × zH) :=
  ((zcv h a0 6 (m_Home_isWay a0 x1 h)).bind fun v2 => (if v2 = 0 then (some ((-1 : Int32), h))
  else ((zrR h a0 6 2).bind fun v11 => ((zcv h v11 1 (m_Huts_size v11 h)).bind fun v14 => (if v14 = 0 then (some ((-5 : Int32), h))
    else ((zrI h a0 6 6).bind fun v24 => (if v24 < (nI 4) then ((zrR h a0 6 5).bind fun v35 => ((zrI h a0 6 6).bind fun v39 => ((zaR 3 h v35 v39).bind fun v42 => ((zrR h a0 6 3).bind fun v45 => ((zaI h v45 x1).bind fun v49 => ((zcv h v42 4 (m_Run_begin v42 x1 v49 h)).bind fun h50 => ((zrI h50 a0 6 6).bind fun v55 => ((zwI h50 a0 6 6 (v55 + (nI 1))).bind fun h60 => ((zrI h60 a0 6 6).bind fun v64 => (some ((v64 - (nI 1)), h60)))))))))))
      else (some ((-3 : Int32), h)))))))))
-- AllHome.isRun(I)Z
noncomputable def m_Home_isRun (a0 : Nat) (x1 : Int32) (h : zH) : Option Int32 :=
  (if x1 < 0 then (some (nI 0))
  else ((zrI h a0 6 6).bind fun v6 => (if v6 ≤ x1 then (some (nI 0))
    else (some (nI 1)))))
-- AllHome$Rules.partUnits([II)I
noncomputable def g_Rules_partUnits_30 (a0 : Nat) (x1 : Int32) (h : zH) : Option (Int32 × zH) :=
((zaI h a0 ((nI 68) + x1)).bind fun v35 => ((zaI h a0 ((nI 68) + x1)).bind fun v45 => ((zsI h a0 ((nI 68) + x1) (v45 - (v35 / (nI 2)))).bind fun h48 => (some ((v35 / (nI 2)), h48)))))
noncomputable def m_Rules_partUnits (a0 : Nat) (x1 : Int32) (h : zH) : Option (Int32 × zH) :=
  ((zaI h a0 ((nI 68) + x1)).bind fun v5 => (if (nI 1) < v5 then (g_Rules_partUnits_30 a0 x1 h)
  else ((zaI h a0 ((nI 68) + x1)).bind fun v16 => ((zsI h a0 ((nI 68) + x1) (v16 + (nI 64))).bind fun h20 => ((zaI h20 a0 (nI 74)).bind fun v25 => ((zsI h20 a0 (nI 74) (v25 + (nI 64))).bind fun h29 => (g_Rules_partUnits_30 a0 x1 h29)))))))
-- AllHome$Rules.send([III)I
noncomputable def g_Rules_send_109 (a0 : Nat) (a1 : Nat) (x2 : Int32) (x3 : Int32) (x4 : Int32) (h : zH) : Option (Int32 × zH) :=
((zrR h a0 3 0).bind fun v110 => ((zcv h v110 1 (m_Huts_has v110 x3 h)).bind fun v114 => (if v114 = 0 then (some ((nI 1), h))
  else ((zaI h a1 (nI 18)).bind fun v125 => (if v125 < 0 then (some ((-3 : Int32), h))
    else (if v125 < (nI 8) then ((zsI h a1 ((nI 19) + v125) x2).bind fun h150 => ((zsI h150 a1 ((nI 27) + v125) x3).bind fun h158 => ((zsI h158 a1 ((nI 35) + v125) x4).bind fun h167 => ((zsI h167 a1 (nI 18) (v125 + (nI 1))).bind fun h175 => (some ((nI 1), h175))))))
      else (some ((-3 : Int32), h))))))))
noncomputable def m_Rules_send (a0 : Nat) (a1 : Nat) (x2 : Int32) (x3 : Int32) (h : zH) : Option (Int32 × zH) :=
  ((zaI h a1 ((nI 12) + x2)).bind fun v6 => ((zsI h a1 ((nI 12) + x2) (v6 + (nI 1))).bind fun h9 => ((zaI h9 a1 (nI 121)).bind fun v14 => ((zsI h9 a1 (nI 121) (v14 + (nI 1))).bind fun h17 => ((zrI h17 a0 3 2).bind fun v22 => (if v22 = (nI 1) then (zb2 (m_Rules_partUnits a1 x2 h17) fun v62 h62 => (g_Rules_send_109 a0 a1 x2 x3 v62 h62))
  else (if v22 = (nI 2) then ((zaI h17 a1 ((nI 75) + x2)).bind fun v76 => ((zsI h17 a1 ((nI 75) + x2) (v76 + (nI 1))).bind fun h79 => (g_Rules_send_109 a0 a1 x2 x3 (nI 0) h79)))
  else (if v22 = (nI 3) then (g_Rules_send_109 a0 a1 x2 x3 (nI 0) h17)
  else (if v22 = (nI 4) then ((zaI h17 a1 ((nI 93) + x2)).bind fun v89 => ((zsI h17 a1 ((nI 93) + x2) (v89 + (nI 1))).bind fun h92 => (g_Rules_send_109 a0 a1 x2 x3 (nI 0) h92)))
  else (if v22 = (nI 5) then ((zaI h17 a1 ((nI 105) + x2)).bind fun v102 => ((zsI h17 a1 ((nI 105) + x2) (v102 + (nI 1))).bind fun h105 => (g_Rules_send_109 a0 a1 x2 x3 (nI 0) h105)))
  else (g_Rules_send_109 a0 a1 x2 x3 (nI 0) h17)))))))))))
-- AllHome$Rules.sendNote([IIII)I
noncomputable def m_Rules_sendNote (a0 : Nat) (x1 : Int32) (x2 : Int32) (x3 : Int32) (h : zH) : Option (Int32 × zH) :=
  ((zaI h a0 (nI 43)).bind fun v3 => (if v3 < 0 then (some ((-3 : Int32), h))
  else (if v3 < (nI 8) then ((zsI h a0 ((nI 44) + v3) x1).bind fun h28 => ((zsI h28 a0 ((nI 52) + v3) x2).bind fun h36 => ((zsI h36 a0 ((nI 60) + v3) x3).bind fun h44 => ((zsI h44 a0 (nI 43) (v3 + (nI 1))).bind fun h52 => ((zaI h52 a0 (nI 122)).bind fun v57 => ((zsI h52 a0 (nI 122) (v57 + (nI 1))).bind fun h60 => (some ((nI 1), h60))))))))
    else (some ((-3 : Int32), h)))))
-- AllHome$Rules.goOn([II)I
noncomputable def m_Rules_goOn (a0 : Nat) (a1 : Nat) (x2 : Int32) (h : zH) : Option (Int32 × zH) :=
  ((zrR h a0 3 0).bind fun v1 => ((zcv h v1 1 (m_Huts_has v1 x2 h)).bind fun v5 => (if v5 = 0 then (some ((-5 : Int32), h))
  else ((zaI h a1 ((nI 0) + x2)).bind fun v15 => (if v15 = 0 then (some ((-5 : Int32), h))
    else ((zaI h a1 ((nI 6) + x2)).bind fun v27 => ((zaI h a1 ((nI 12) + x2)).bind fun v36 => ((zrR h a0 3 0).bind fun v38 => ((zcv h v38 1 (m_Huts_wordsOf v38 x2 (v27 - (nI 1)) h)).bind fun v43 => (if v43 ≤ v36 then ((zsI h a1 ((nI 0) + x2) (nI 0)).bind fun h76 => ((zaI h76 a1 ((nI 68) + x2)).bind fun v82 => ((zrI h76 a0 3 2).bind fun v86 => (if v86 = (nI 1) then (if x2 = 0 then (some ((nI 1), h76))
          else (if v82 = 0 then (some ((nI 1), h76))
            else ((zsI h76 a1 ((nI 68) + x2) (nI 0)).bind fun h110 => (zb2 (m_Rules_sendNote a1 (nI 0) v82 (nI 0) h110) fun v116 h116 => (some (v116, h116))))))
        else (some ((nI 1), h76))))))
      else ((zrR h a0 3 0).bind fun v53 => ((zaI h a1 ((nI 12) + x2)).bind fun v63 => ((zcv h v53 1 (m_Huts_goal v53 x2 (v27 - (nI 1)) v63 h)).bind fun v64 => (zb2 (zcv h a0 3 (m_Rules_send a0 a1 x2 v64 h)) fun v67 h67 => (some (v67, h67))))))))))))))))
-- AllHome$Rules.isOnTheWay([III)Z
noncomputable def m_Rules_isOnTheWay (a0 : Nat) (x1 : Int32) (x2 : Int32) (h : zH) : Option Int32 :=
  (if x2 < 0 then (some (nI 0))
  else ((zaI h a0 x1).bind fun v7 => (if v7 ≤ x2 then (some (nI 0))
    else (if (nI 8) ≤ x2 then (some (nI 0))
      else (some (nI 1))))))
-- AllHome$Rules.closeGap([III)V
noncomputable def g_Rules_closeGap_2 (a0 : Nat) (x1 : Int32) (k2 : (Int32 × zH) → Option zH) (u : Int32 × zH) : Option zH :=
(if (nI 7) ≤ u.1 then ((zsI u.2 a0 ((x1 + (nI 8)) - (nI 1)) (nI 0)).bind fun h34 => (some h34))
  else ((zaI u.2 a0 ((x1 + u.1) + (nI 1))).bind fun v18 => ((zsI u.2 a0 (x1 + u.1) v18).bind fun h19 => (k2 ((u.1 + (nI 1)), h19)))))
noncomputable def m_Rules_closeGap (a0 : Nat) (x1 : Int32) (x2 : Int32) (h : zH) : Option zH :=
  (zloop (g_Rules_closeGap_2 a0 x1) zN (x2, h))
-- AllHome$Rules.takeAwayWord([II)V
noncomputable def m_Rules_takeAwayWord (a0 : Nat) (x1 : Int32) (h : zH) : Option zH :=
  ((zaI h a0 (nI 18)).bind fun v4 => ((zsI h a0 (nI 18) (v4 - (nI 1))).bind fun h7 => ((m_Rules_closeGap a0 (nI 19) x1 h7).bind fun h12 => ((m_Rules_closeGap a0 (nI 27) x1 h12).bind fun h19 => ((m_Rules_closeGap a0 (nI 35) x1 h19).bind fun h26 => (some h26))))))
-- AllHome$Rules.joinTree([III)I
noncomputable def m_Rules_joinTree (a0 : Nat) (x1 : Int32) (x2 : Int32) (h : zH) : Option (Int32 × zH) :=
  ((zaI h a0 ((nI 87) + x2)).bind fun v5 => (if v5 = (nI 1) then (zb2 (m_Rules_sendNote a0 x1 (nI 0) (nI 0) h) fun v14 h14 => (some (v14, h14)))
  else ((zsI h a0 ((nI 87) + x2) (nI 1)).bind fun h24 => ((zsI h24 a0 ((nI 81) + x2) x1).bind fun h31 => (some ((nI 1), h31))))))
-- AllHome$Rules.comeWord([II)I
noncomputable def g_Rules_comeWord_91 (a0 : Nat) (a1 : Nat) (x3 : Int32) (x4 : Int32) (x5 : Int32) (h : zH) : Option (Int32 × zH) :=
((zrI h a0 3 2).bind fun v92 => (if v92 = (nI 1) then ((zaI h a1 ((nI 68) + x4)).bind fun v135 => ((zsI h a1 ((nI 68) + x4) (v135 + x5)).bind fun h139 => (some ((nI 1), h139))))
  else (if v92 = (nI 2) then (zb2 (m_Rules_joinTree a1 x3 x4 h) fun v147 h147 => (some (v147, h147)))
  else (if v92 = (nI 3) then (some ((nI 1), h))
  else (if v92 = (nI 4) then ((zaI h a1 ((nI 93) + x4)).bind fun v158 => ((zsI h a1 ((nI 93) + x4) (v158 - (nI 1))).bind fun h161 => ((zrI h161 a0 3 1).bind fun v169 => (if v169 = (nI 7) then ((zsI h161 a1 ((nI 99) + x4) (nI 0)).bind fun h182 => (some ((nI 1), h182)))
          else ((zsI h161 a1 ((nI 99) + x4) (nI 1)).bind fun h182 => (some ((nI 1), h182)))))))
  else (if v92 = (nI 5) then ((zaI h a1 ((nI 111) + x4)).bind fun v193 => ((zsI h a1 ((nI 111) + x4) (v193 + (nI 1))).bind fun h196 => (some ((nI 1), h196))))
  else (some ((nI 1), h))))))))
noncomputable def m_Rules_comeWord (a0 : Nat) (a1 : Nat) (x2 : Int32) (h : zH) : Option (Int32 × zH) :=
  ((m_Rules_isOnTheWay a1 (nI 18) x2 h).bind fun v4 => (if v4 = 0 then (some ((-5 : Int32), h))
  else ((zaI h a1 ((nI 19) + x2)).bind fun v18 => ((zaI h a1 ((nI 27) + x2)).bind fun v25 => ((zaI h a1 ((nI 35) + x2)).bind fun v33 => ((zrR h a0 3 0).bind fun v37 => ((zcv h v37 1 (m_Huts_has v37 v25 h)).bind fun v42 => (if v42 = 0 then (some ((-5 : Int32), h))
    else ((m_Rules_takeAwayWord a1 x2 h).bind fun h53 => ((zaI h53 a1 ((nI 0) + v25)).bind fun v61 => (if v61 = 0 then ((zsI h53 a1 ((nI 0) + v25) (nI 1)).bind fun h71 => ((zaI h71 a1 ((nI 6) + v25)).bind fun v79 => ((zsI h71 a1 ((nI 6) + v25) (v79 + (nI 1))).bind fun h82 => ((zsI h82 a1 ((nI 12) + v25) (nI 0)).bind fun h90 => (g_Rules_comeWord_91 a0 a1 v18 v25 v33 h90)))))
      else (g_Rules_comeWord_91 a0 a1 v18 v25 v33 h53))))))))))))
-- AllHome$Rules.takeStone([IIII)I
noncomputable def g_Rules_takeStone_51 (a0 : Nat) (x1 : Int32) (x2 : Int32) (y0 : Int32) (h : zH) : Option (Int32 × zH) :=
((zsI h a0 ((nI 99) + x1) (nI 0)).bind fun h59 => ((zaI h59 a0 ((nI 93) + x1)).bind fun v70 => (zb2 (m_Rules_sendNote a0 (x1 - (nI 1)) (x2 + v70) y0 h59) fun v74 h74 => (some (v74, h74)))))
noncomputable def m_Rules_takeStone (a0 : Nat) (x1 : Int32) (x2 : Int32) (x3 : Int32) (h : zH) : Option (Int32 × zH) :=
  (if x1 = 0 then (if x3 = 0 then ((zaI h a0 (nI 99)).bind fun v11 => (if v11 = 0 then ((zaI h a0 (nI 93)).bind fun v19 => (if (x2 + v19) = 0 then ((zsI h a0 (nI 120) (nI 1)).bind fun h28 => (some ((nI 1), h28)))
        else (some ((nI 1), h))))
      else (some ((nI 1), h))))
    else (some ((nI 1), h)))
  else (if x3 = (nI 1) then (g_Rules_takeStone_51 a0 x1 x2 (nI 1) h)
    else ((zaI h a0 ((nI 99) + x1)).bind fun v41 => (if v41 = (nI 1) then (g_Rules_takeStone_51 a0 x1 x2 (nI 1) h)
      else (g_Rules_takeStone_51 a0 x1 x2 (nI 0) h)))))
-- AllHome$Rules.takeSums([IIII)I
noncomputable def g_Rules_takeSums_109 (a1 : Nat) (x3 : Int32) (x4 : Int32) (h : zH) : Option (Int32 × zH) :=
((zsI h a1 (nI 117) (nI 1)).bind fun h113 => ((zsI h113 a1 (nI 118) x3).bind fun h118 => ((zsI h118 a1 (nI 119) x4).bind fun h124 => (some ((nI 1), h124)))))
noncomputable def g_Rules_takeSums_80 (a0 : Nat) (a1 : Nat) (x3 : Int32) (x4 : Int32) (y0 : Int32) (h : zH) : Option (Int32 × zH) :=
(if x3 = x4 then ((zrI h a0 3 1).bind fun v89 => (if v89 = (nI 8) then ((zsI h a1 (nI 120) (nI 1)).bind fun h106 => (some ((nI 1), h106)))
    else (if y0 = 0 then (g_Rules_takeSums_109 a1 x3 x4 h)
      else ((zsI h a1 (nI 120) (nI 1)).bind fun h106 => (some ((nI 1), h106))))))
  else (g_Rules_takeSums_109 a1 x3 x4 h))
noncomputable def g_Rules_takeSums_24 (a1 : Nat) (x2 : Int32) (x3 : Int32) (x4 : Int32) (y0 : Int32) (h : zH) : Option (Int32 × zH) :=
((zaI h a1 ((nI 105) + x2)).bind fun v35 => ((zaI h a1 ((nI 111) + x2)).bind fun v44 => (zb2 (m_Rules_sendNote a1 y0 (x3 + v35) (x4 + v44) h) fun v46 h46 => (some (v46, h46)))))
noncomputable def m_Rules_takeSums (a0 : Nat) (a1 : Nat) (x2 : Int32) (x3 : Int32) (x4 : Int32) (h : zH) : Option (Int32 × zH) :=
  (if x2 = 0 then ((zaI h a1 (nI 117)).bind fun v53 => (if v53 = (nI 1) then ((zaI h a1 (nI 118)).bind fun v61 => (if v61 = x3 then ((zaI h a1 (nI 119)).bind fun v69 => (if v69 = x4 then (g_Rules_takeSums_80 a0 a1 x3 x4 (nI 1) h)
        else (g_Rules_takeSums_80 a0 a1 x3 x4 (nI 0) h)))
      else (g_Rules_takeSums_80 a0 a1 x3 x4 (nI 0) h)))
    else (g_Rules_takeSums_80 a0 a1 x3 x4 (nI 0) h)))
  else ((zrR h a0 3 0).bind fun v8 => ((zcv h v8 1 (m_Huts_size v8 h)).bind fun v11 => (if v11 ≤ (x2 + (nI 1)) then (g_Rules_takeSums_24 a1 x2 x3 x4 (nI 0) h)
    else (g_Rules_takeSums_24 a1 x2 x3 x4 (x2 + (nI 1)) h)))))
-- AllHome$Rules.comeNote([II)I
noncomputable def g_Rules_comeNote_67 (a0 : Nat) (a1 : Nat) (x2 : Int32) (x3 : Int32) (x4 : Int32) (x5 : Int32) (h : zH) : Option (Int32 × zH) :=
((zaI h a1 (nI 43)).bind fun v71 => ((zsI h a1 (nI 43) (v71 - (nI 1))).bind fun h74 => ((m_Rules_closeGap a1 (nI 44) x2 h74).bind fun h79 => ((m_Rules_closeGap a1 (nI 52) x2 h79).bind fun h86 => ((m_Rules_closeGap a1 (nI 60) x2 h86).bind fun h93 => ((zrI h93 a0 3 2).bind fun v97 => (if v97 = (nI 1) then ((zaI h93 a1 ((nI 68) + x3)).bind fun v142 => ((zsI h93 a1 ((nI 68) + x3) (v142 + x4)).bind fun h146 => (some ((nI 1), h146))))
  else (if v97 = (nI 2) then ((zaI h93 a1 ((nI 75) + x3)).bind fun v155 => ((zsI h93 a1 ((nI 75) + x3) (v155 - (nI 1))).bind fun h158 => (some ((nI 1), h158))))
  else (if v97 = (nI 3) then (some ((nI 1), h93))
  else (if v97 = (nI 4) then (zb2 (m_Rules_takeStone a1 x3 x4 x5 h93) fun v167 h167 => (some (v167, h167)))
  else (if v97 = (nI 5) then (zb2 (zcv h93 a0 3 (m_Rules_takeSums a0 a1 x3 x4 x5 h93)) fun v178 h178 => (some (v178, h178)))
  else (some ((nI 1), h93)))))))))))))
noncomputable def m_Rules_comeNote (a0 : Nat) (a1 : Nat) (x2 : Int32) (h : zH) : Option (Int32 × zH) :=
  ((m_Rules_isOnTheWay a1 (nI 43) x2 h).bind fun v4 => (if v4 = 0 then (some ((-5 : Int32), h))
  else ((zaI h a1 ((nI 44) + x2)).bind fun v18 => ((zaI h a1 ((nI 52) + x2)).bind fun v25 => ((zaI h a1 ((nI 60) + x2)).bind fun v33 => ((zrR h a0 3 0).bind fun v37 => ((zcv h v37 1 (m_Huts_has v37 v18 h)).bind fun v41 => (if v41 = 0 then (some ((-5 : Int32), h))
    else ((zrI h a0 3 2).bind fun v48 => (if v48 = (nI 4) then ((zaI h a1 ((nI 0) + v18)).bind fun v59 => (if v59 = (nI 1) then (some ((-5 : Int32), h))
        else (g_Rules_comeNote_67 a0 a1 x2 v18 v25 v33 h)))
      else (g_Rules_comeNote_67 a0 a1 x2 v18 v25 v33 h)))))))))))
-- AllHome.isUnder(II)Z
noncomputable def g_Home_isUnder_4 (x1 : Int32) (h : zH) (k4 : (Int32 × Int32) → Option Int32) (u : Int32 × Int32) : Option Int32 :=
(if (nI 9) ≤ u.2 then (some (nI 0))
  else ((m_Home_isKind u.1 h).bind fun v11 => (if v11 = 0 then (some (nI 0))
    else (if u.1 = x1 then (some (nI 1))
      else ((ztab 0 u.1).bind fun v28 => (k4 (v28, (u.2 + (nI 1)))))))))
noncomputable def m_Home_isUnder (x0 : Int32) (x1 : Int32) (h : zH) : Option Int32 :=
  (zloop (g_Home_isUnder_4 x1 h) zN (x0, (nI 0)))
-- AllHome$Rules.ask([II)I
noncomputable def m_Rules_ask (a0 : Nat) (a1 : Nat) (x2 : Int32) (h : zH) : Option (Int32 × zH) :=
  (if x2 = 0 then ((zrI h a0 3 1).bind fun v5 => ((m_Home_isUnder v5 (nI 3) h).bind fun v9 => (if v9 = 0 then (some ((-5 : Int32), h))
    else ((zaI h a1 (nI 43)).bind fun v18 => (if 0 < v18 then (some ((-5 : Int32), h))
      else ((zaI h a1 (nI 0)).bind fun v24 => (if v24 = (nI 1) then (some ((-5 : Int32), h))
        else ((zrI h a0 3 2).bind fun v33 => (if v33 = (nI 4) then ((zsI h a1 (nI 99) (nI 0)).bind fun h44 => ((zrR h44 a0 3 0).bind fun v47 => ((zcv h44 v47 1 (m_Huts_size v47 h44)).bind fun v50 => (zb2 (m_Rules_sendNote a1 (v50 - (nI 1)) (nI 0) (nI 0) h44) fun v57 h57 => (some (v57, h57))))))
          else ((zrI h a0 3 2).bind fun v62 => (if v62 = (nI 5) then ((zrR h a0 3 0).bind fun v71 => ((zcv h v71 1 (m_Huts_size v71 h)).bind fun v74 => (if v74 ≤ (nI 1) then ((zaI h a1 (nI 105)).bind fun v89 => ((zaI h a1 (nI 111)).bind fun v93 => (zb2 (m_Rules_sendNote a1 (nI 0) v89 v93 h) fun v94 h94 => (some (v94, h94)))))
              else ((zaI h a1 (nI 105)).bind fun v89 => ((zaI h a1 (nI 111)).bind fun v93 => (zb2 (m_Rules_sendNote a1 (nI 1) v89 v93 h) fun v94 h94 => (some (v94, h94))))))))
            else (some ((nI 1), h)))))))))))))
  else (some ((-5 : Int32), h)))
-- AllHome$Rules.lose([II)I
noncomputable def m_Rules_lose (a0 : Nat) (x1 : Int32) (h : zH) : Option (Int32 × zH) :=
  ((m_Rules_isOnTheWay a0 (nI 18) x1 h).bind fun v4 => (if v4 = 0 then (some ((-5 : Int32), h))
  else ((m_Rules_takeAwayWord a0 x1 h).bind fun h15 => (some ((nI 1), h15)))))
-- AllHome$Rules.leaveTree([I)I
noncomputable def g_Rules_leaveTree_43 (a0 : Nat) (a1 : Nat) (x2 : Int32) (x3 : Int32) (y0 : Int32) (h : zH) (k4 : (Int32 × Int32 × zH) → Option (Int32 × zH)) : Option (Int32 × zH) :=
(if y0 = 0 then (k4 (x2, (x3 + (nI 1)), h))
  else ((zaI h a1 ((nI 87) + x3)).bind fun v55 => (if v55 = (nI 1) then ((zaI h a1 ((nI 0) + x3)).bind fun v64 => (if v64 = 0 then ((zaI h a1 ((nI 81) + x3)).bind fun v74 => (zb2 (m_Rules_sendNote a1 v74 (nI 0) (nI 0) h) fun v77 h77 => ((zsI h77 a1 ((nI 87) + x3) (nI 0)).bind fun h87 => ((zsI h87 a1 ((nI 81) + x3) (-1 : Int32)).bind fun h94 => (k4 (v77, (x3 + (nI 1)), h94))))))
      else (k4 (x2, (x3 + (nI 1)), h))))
    else (k4 (x2, (x3 + (nI 1)), h)))))
noncomputable def g_Rules_leaveTree_4 (a0 : Nat) (a1 : Nat) (k4 : (Int32 × Int32 × zH) → Option (Int32 × zH)) (u : Int32 × Int32 × zH) : Option (Int32 × zH) :=
((zrR u.2.2 a0 3 0).bind fun v6 => ((zcv u.2.2 v6 1 (m_Huts_size v6 u.2.2)).bind fun v9 => (if v9 ≤ u.2.1 then (some (u.1, u.2.2))
  else (if u.1 = (nI 1) then ((zrI u.2.2 a0 3 1).bind fun v21 => (if v21 = (nI 6) then (g_Rules_leaveTree_43 a0 a1 u.1 u.2.1 (nI 1) u.2.2 k4)
      else ((zaI u.2.2 a1 ((nI 75) + u.2.1)).bind fun v34 => (if v34 = 0 then (g_Rules_leaveTree_43 a0 a1 u.1 u.2.1 (nI 1) u.2.2 k4)
        else (g_Rules_leaveTree_43 a0 a1 u.1 u.2.1 (nI 0) u.2.2 k4)))))
    else (some (u.1, u.2.2))))))
noncomputable def m_Rules_leaveTree (a0 : Nat) (a1 : Nat) (h : zH) : Option (Int32 × zH) :=
  (zloop (g_Rules_leaveTree_4 a0 a1) zN ((nI 1), (nI 1), h))
-- AllHome$Rules.seesAllHome([I)Z
noncomputable def g_Rules_seesAllHome_54 (x2 : Int32) (y0 : Int32) (h : zH) : Option Int32 :=
(if x2 = 0 then (if y0 = 0 then (some (nI 0))
    else (some (nI 1)))
  else (some (nI 1)))
noncomputable def g_Rules_seesAllHome_33 (a0 : Nat) (a1 : Nat) (y0 : Int32) (h : zH) : Option Int32 :=
((zrI h a0 3 2).bind fun v35 => (if v35 = (nI 2) then ((zaI h a1 (nI 75)).bind fun v45 => (if 0 < v45 then (g_Rules_seesAllHome_54 y0 (nI 0) h)
    else (g_Rules_seesAllHome_54 y0 (nI 1) h)))
  else (g_Rules_seesAllHome_54 y0 (nI 0) h)))
noncomputable def m_Rules_seesAllHome (a0 : Nat) (a1 : Nat) (h : zH) : Option Int32 :=
  ((zaI h a1 (nI 0)).bind fun v2 => (if v2 = (nI 1) then (some (nI 0))
  else ((zrI h a0 3 2).bind fun v10 => (if v10 = (nI 1) then ((zaI h a1 (nI 68)).bind fun v20 => ((zaI h a1 (nI 74)).bind fun v24 => (if v20 = v24 then (g_Rules_seesAllHome_33 a0 a1 (nI 1) h)
      else (g_Rules_seesAllHome_33 a0 a1 (nI 0) h))))
    else (g_Rules_seesAllHome_33 a0 a1 (nI 0) h)))))
-- AllHome$Rules.apply([III)I
noncomputable def g_Rules_apply_115 (a0 : Nat) (a1 : Nat) (x4 : Int32) (h : zH) : Option (Int32 × zH) :=
(if x4 = (nI 1) then ((zcv h a0 3 (m_Rules_seesAllHome a0 a1 h)).bind fun v123 => (if v123 = 0 then (some (x4, h))
    else ((zsI h a1 (nI 120) (nI 1)).bind fun h133 => (some (x4, h133)))))
  else (some (x4, h)))
noncomputable def g_Rules_apply_94 (a0 : Nat) (a1 : Nat) (x4 : Int32) (h : zH) : Option (Int32 × zH) :=
(if x4 = (nI 1) then ((zrI h a0 3 2).bind fun v101 => (if v101 = (nI 2) then (zb2 (zcv h a0 3 (m_Rules_leaveTree a0 a1 h)) fun v110 h110 => (g_Rules_apply_115 a0 a1 v110 h110))
    else (g_Rules_apply_115 a0 a1 x4 h)))
  else (g_Rules_apply_115 a0 a1 x4 h))
noncomputable def m_Rules_apply (a0 : Nat) (a1 : Nat) (x2 : Int32) (x3 : Int32) (h : zH) : Option (Int32 × zH) :=
  (if x2 = (nI 0) then (zb2 (zcv h a0 3 (m_Rules_goOn a0 a1 x3 h)) fun v43 h43 => (g_Rules_apply_94 a0 a1 v43 h43))
  else (if x2 = (nI 1) then (zb2 (zcv h a0 3 (m_Rules_comeWord a0 a1 x3 h)) fun v54 h54 => (g_Rules_apply_94 a0 a1 v54 h54))
  else (if x2 = (nI 2) then (zb2 (zcv h a0 3 (m_Rules_comeNote a0 a1 x3 h)) fun v65 h65 => (g_Rules_apply_94 a0 a1 v65 h65))
  else (if x2 = (nI 3) then (zb2 (zcv h a0 3 (m_Rules_ask a0 a1 x3 h)) fun v76 h76 => (g_Rules_apply_94 a0 a1 v76 h76))
  else (if x2 = (nI 4) then (zb2 (m_Rules_lose a1 x3 h) fun v86 h86 => (g_Rules_apply_94 a0 a1 v86 h86))
  else (g_Rules_apply_94 a0 a1 (-5 : Int32) h))))))
-- AllHome.isOver([I)Z
noncomputable def g_Home_isOver_2 (a0 : Nat) (h : zH) (k2 : (Int32) → Option Int32) (u : Int32) : Option Int32 :=
(if (nI 6) ≤ u then ((zaI h a0 (nI 18)).bind fun v28 => (if v28 = 0 then (some (nI 1))
    else (some (nI 0))))
  else ((zaI h a0 ((nI 0) + u)).bind fun v12 => (if v12 = (nI 1) then (some (nI 0))
    else (k2 (u + (nI 1))))))
noncomputable def m_Home_isOver (a0 : Nat) (h : zH) : Option Int32 :=
  (zloop (g_Home_isOver_2 a0 h) zN (nI 0))
-- AllHome$Run.advance([III)I
noncomputable def g_Run_advance_83 (a0 : Nat) (h : zH) : Option (Int32 × zH) :=
((zrR h a0 4 1).bind fun v84 => ((m_Home_isOver v84 h).bind fun v87 => (if v87 = 0 then ((zwI h a0 4 5 (-2 : Int32)).bind fun h96 => ((zrI h96 a0 4 3).bind fun v120 => (some (v120, h96))))
  else ((zrI h a0 4 5).bind fun v103 => (if v103 = (-2 : Int32) then ((zrI h a0 4 3).bind fun v113 => ((zwI h a0 4 5 v113).bind fun h116 => ((zrI h116 a0 4 3).bind fun v120 => (some (v120, h116)))))
    else ((zrI h a0 4 3).bind fun v120 => (some (v120, h))))))))
noncomputable def m_Run_advance (a0 : Nat) (a1 : Nat) (x2 : Int32) (x3 : Int32) (h : zH) : Option (Int32 × zH) :=
  ((zrR h a0 4 1).bind fun v1 => ((zcpI h v1 (nI 0) a1 (nI 0) (nI 123)).bind fun h9 => ((zrR h9 a0 4 0).bind fun v13 => (zb2 (zcv h9 v13 3 (m_Rules_apply v13 a1 x2 x3 h9)) fun v19 h19 => (if v19 = (nI 1) then ((zrR h19 a0 4 1).bind fun v36 => ((zcpI h19 a1 (nI 0) v36 (nI 0) (nI 123)).bind fun h42 => ((zrI h42 a0 4 3).bind fun v47 => ((zwI h42 a0 4 3 (v47 + (nI 1))).bind fun h52 => ((zrR h52 a0 4 1).bind fun v56 => ((zaI h52 v56 (nI 120)).bind fun v61 => (if v61 = (nI 1) then ((zrI h52 a0 4 4).bind fun v67 => (if v67 = (-2 : Int32) then ((zrI h52 a0 4 3).bind fun v77 => ((zwI h52 a0 4 4 v77).bind fun h80 => (g_Run_advance_83 a0 h80)))
      else (g_Run_advance_83 a0 h52)))
    else (g_Run_advance_83 a0 h52))))))))
  else (some (v19, h19)))))))
-- AllHome.step(III)I
noncomputable def m_Home_step (a0 : Nat) (x1 : Int32) (x2 : Int32) (x3 : Int32) (h : zH) : Option (Int32 × zH) :=
  ((zcv h a0 6 (m_Home_isRun a0 x1 h)).bind fun v2 => (if v2 = 0 then (some ((-1 : Int32), h))
  else (if x2 < 0 then (some ((-1 : Int32), h))
    else (if x2 ≤ (nI 4) then ((zrR h a0 6 5).bind fun v20 => ((zaR 3 h v20 x1).bind fun v24 => ((zrR h a0 6 7).bind fun v26 => (zb2 (zcv h v24 4 (m_Run_advance v24 v26 x2 x3 h)) fun v31 h31 => (some (v31, h31))))))
      else (some ((-1 : Int32), h))))))
-- AllHome.isShelf(I)Z
noncomputable def m_Home_isShelf (x0 : Int32) (h : zH) : Option Int32 :=
  (if x0 < 0 then (some (nI 0))
  else (if (nI 6) ≤ x0 then (some (nI 0))
    else (some (nI 1))))
-- AllHome$Shelf.isEmpty()Z
noncomputable def m_Shelf_isEmpty (a0 : Nat) (h : zH) : Option Int32 :=
  ((zrI h a0 5 3).bind fun v1 => (if v1 = (-1 : Int32) then ((zrI h a0 5 2).bind fun v9 => (if v9 = (-1 : Int32) then (some (nI 1))
    else (some (nI 0))))
  else (some (nI 0))))
-- AllHome$Shelf.isRowOf(I)Z
noncomputable def m_Shelf_isRowOf (a0 : Nat) (x1 : Int32) (h : zH) : Option Int32 :=
  ((zrI h a0 5 2).bind fun v1 => (if v1 = x1 then (some (nI 1))
  else (some (nI 0))))
-- AllHome$Shelf.hasPlace(I)Z
noncomputable def m_Shelf_hasPlace (a0 : Nat) (x1 : Int32) (h : zH) : Option Int32 :=
  (if x1 < 0 then (some (nI 0))
  else ((zrI h a0 5 1).bind fun v6 => (if v6 ≤ x1 then (some (nI 0))
    else (some (nI 1)))))
-- AllHome$Shelf.at(I)J
noncomputable def m_Shelf_at (a0 : Nat) (x1 : Int32) (h : zH) : Option Int64 :=
  ((zcv h a0 5 (m_Shelf_hasPlace a0 x1 h)).bind fun v2 => (if v2 = 0 then (some (-9223372036854775808 : Int64))
  else ((zrR h a0 5 0).bind fun v9 => ((zaJ h v9 x1).bind fun v13 => (some v13)))))
-- AllHome.steps(IIII)I
noncomputable def g_Home_steps_63 (a0 : Nat) (x1 : Int32) (x3 : Int32) (x4 : Int32) (a5 : Nat) (k63 : (Int32 × zH) → Option (Int32 × zH)) (u : Int32 × zH) : Option (Int32 × zH) :=
(if x4 ≤ u.1 then (some (u.1, u.2))
  else ((zcv u.2 a5 5 (m_Shelf_hasPlace a5 x3 u.2)).bind fun v73 => (if v73 = 0 then (some (u.1, u.2))
    else ((zcv u.2 a5 5 (m_Shelf_hasPlace a5 (x3 + u.1) u.2)).bind fun v85 => (if v85 = 0 then (some (u.1, u.2))
      else ((zcv u.2 a5 5 (m_Shelf_at a5 (x3 + u.1) u.2)).bind fun v97 => (if v97.toInt32 < 0 then (some (u.1, u.2))
        else ((zrR u.2 a0 6 5).bind fun v109 => ((zaR 3 u.2 v109 x1).bind fun v113 => ((zrR u.2 a0 6 7).bind fun v115 => (zb2 (zcv u.2 v113 4 (m_Run_advance v113 v115 (v97.toInt32 / (nI 100)) (v97.toInt32 - v97.toInt32 / (nI 100) * (nI 100)) u.2)) fun v128 h128 => (if 0 ≤ v128 then (k63 ((u.1 + (nI 1)), h128))
          else (some (u.1, h128))))))))))))))
noncomputable def m_Home_steps (a0 : Nat) (x1 : Int32) (x2 : Int32) (x3 : Int32) (x4 : Int32) (h : zH) : Option (Int32 × zH) :=
  ((zcv h a0 6 (m_Home_isRun a0 x1 h)).bind fun v2 => (if v2 = 0 then (some ((-1 : Int32), h))
  else ((m_Home_isShelf x2 h).bind fun v9 => (if v9 = 0 then (some ((-1 : Int32), h))
    else (if x4 < (nI 1) then (some ((-1 : Int32), h))
      else (if x4 ≤ (nI 60) then ((zrR h a0 6 11).bind fun v31 => ((zaR 4 h v31 x2).bind fun v35 => ((zcv h v35 5 (m_Shelf_isEmpty v35 h)).bind fun v40 => (if v40 = 0 then ((zcv h v35 5 (m_Shelf_isRowOf v35 (nI 1) h)).bind fun v51 => (if v51 = 0 then (some ((-12 : Int32), h))
            else (zloop (g_Home_steps_63 a0 x1 x3 x4 v35) zN ((nI 0), h))))
          else (some ((nI 0), h))))))
        else (some ((-1 : Int32), h))))))))
-- AllHome$Run.hutsAwake()I
noncomputable def g_Run_hutsAwake_4 (a0 : Nat) (h : zH) (k4 : (Int32 × Int32) → Option Int32) (u : Int32 × Int32) : Option Int32 :=
(if (nI 6) ≤ u.2 then (some u.1)
  else ((zrR h a0 4 1).bind fun v12 => ((zaI h v12 ((nI 0) + u.2)).bind fun v18 => (k4 ((u.1 + v18), (u.2 + (nI 1)))))))
noncomputable def m_Run_hutsAwake (a0 : Nat) (h : zH) : Option Int32 :=
  (zloop (g_Run_hutsAwake_4 a0 h) zN ((nI 0), (nI 0)))
-- AllHome$Run.tell(I)I
noncomputable def m_Run_tell (a0 : Nat) (x1 : Int32) (h : zH) : Option Int32 :=
  (if x1 = (nI 0) then ((zrI h a0 4 2).bind fun v61 => (some v61))
  else (if x1 = (nI 1) then ((zrI h a0 4 3).bind fun v66 => (some v66))
  else (if x1 = (nI 2) then ((zrR h a0 4 1).bind fun v71 => ((zaI h v71 (nI 18)).bind fun v76 => (some v76)))
  else (if x1 = (nI 3) then ((zrR h a0 4 1).bind fun v79 => ((zaI h v79 (nI 43)).bind fun v84 => (some v84)))
  else (if x1 = (nI 4) then ((zrR h a0 4 1).bind fun v87 => ((m_Home_isOver v87 h).bind fun v90 => (if v90 = 0 then (some (nI 0))
            else (some (nI 1)))))
  else (if x1 = (nI 5) then ((zrR h a0 4 1).bind fun v103 => ((zaI h v103 (nI 120)).bind fun v108 => (some v108)))
  else (if x1 = (nI 6) then ((zcv h a0 4 (m_Run_hutsAwake a0 h)).bind fun v111 => (some v111))
  else (if x1 = (nI 7) then ((zrR h a0 4 1).bind fun v116 => ((zaI h v116 (nI 121)).bind fun v121 => (some v121)))
  else (if x1 = (nI 8) then ((zrR h a0 4 1).bind fun v124 => ((zaI h v124 (nI 122)).bind fun v129 => (some v129)))
  else (if x1 = (nI 9) then ((zrI h a0 4 4).bind fun v132 => (some v132))
  else (if x1 = (nI 10) then ((zrI h a0 4 5).bind fun v137 => (some v137))
  else (some (-1 : Int32)))))))))))))
-- AllHome.ofRun(II)I
noncomputable def m_Home_ofRun (a0 : Nat) (x1 : Int32) (x2 : Int32) (h : zH) : Option Int32 :=
  ((zcv h a0 6 (m_Home_isRun a0 x1 h)).bind fun v2 => (if v2 = 0 then (some (-1 : Int32))
  else ((zrR h a0 6 5).bind fun v9 => ((zaR 3 h v9 x1).bind fun v13 => ((zcv h v13 4 (m_Run_tell v13 x2 h)).bind fun v15 => (some v15))))))
-- AllHome$Rules.family()I
noncomputable def m_Rules_family (a0 : Nat) (h : zH) : Option Int32 :=
  ((zrI h a0 3 2).bind fun v1 => (some v1))
-- AllHome$Run.family()I
noncomputable def m_Run_family (a0 : Nat) (h : zH) : Option Int32 :=
  ((zrR h a0 4 0).bind fun v1 => ((zcv h v1 3 (m_Rules_family v1 h)).bind fun v4 => (some v4)))
-- AllHome$Run.cell(I)I
noncomputable def m_Run_cell (a0 : Nat) (x1 : Int32) (h : zH) : Option Int32 :=
  (if x1 < 0 then (some (-2000000000 : Int32))
  else (if (nI 123) ≤ x1 then (some (-2000000000 : Int32))
    else ((zrR h a0 4 1).bind fun v11 => ((zaI h v11 x1).bind fun v15 => (some v15)))))
-- AllHome.ofHut(III)I
noncomputable def g_Home_ofHut_63 (a0 : Nat) (x1 : Int32) (x2 : Int32) (x3 : Int32) (h : zH) : Option Int32 :=
((zrR h a0 6 5).bind fun v64 => ((zaR 3 h v64 x1).bind fun v68 => ((ztab 2 x3).bind fun v73 => ((zcv h v68 4 (m_Run_cell v68 (v73 + x2) h)).bind fun v76 => (some v76)))))
noncomputable def m_Home_ofHut (a0 : Nat) (x1 : Int32) (x2 : Int32) (x3 : Int32) (h : zH) : Option Int32 :=
  ((zcv h a0 6 (m_Home_isRun a0 x1 h)).bind fun v2 => (if v2 = 0 then (some (-2000000000 : Int32))
  else ((zrR h a0 6 2).bind fun v9 => ((zcv h v9 1 (m_Huts_has v9 x2 h)).bind fun v13 => (if v13 = 0 then (some (-2000000000 : Int32))
    else (if x3 < 0 then (some (-2000000000 : Int32))
      else (if x3 < (nI 11) then ((ztab 3 x3).bind fun v38 => (if v38 = (-1 : Int32) then (g_Home_ofHut_63 a0 x1 x2 x3 h)
          else ((ztab 3 x3).bind fun v47 => ((zrR h a0 6 5).bind fun v49 => ((zaR 3 h v49 x1).bind fun v53 => ((zcv h v53 4 (m_Run_family v53 h)).bind fun v54 => (if v47 = v54 then (g_Home_ofHut_63 a0 x1 x2 x3 h)
            else (some (-2000000000 : Int32)))))))))
        else (some (-2000000000 : Int32)))))))))
-- AllHome.word(III)I
noncomputable def m_Home_word (a0 : Nat) (x1 : Int32) (x2 : Int32) (x3 : Int32) (h : zH) : Option Int32 :=
  ((zcv h a0 6 (m_Home_isRun a0 x1 h)).bind fun v2 => (if v2 = 0 then (some (-1 : Int32))
  else (if x2 < 0 then (some (-1 : Int32))
    else ((zrR h a0 6 5).bind fun v14 => ((zaR 3 h v14 x1).bind fun v18 => ((zcv h v18 4 (m_Run_cell v18 (nI 18) h)).bind fun v21 => (if x2 < v21 then (if x3 = (nI 0) then ((zrR h a0 6 5).bind fun v57 => ((zaR 3 h v57 x1).bind fun v61 => ((zcv h v61 4 (m_Run_cell v61 ((nI 19) + x2) h)).bind fun v66 => (some v66))))
        else (if x3 = (nI 1) then ((zrR h a0 6 5).bind fun v71 => ((zaR 3 h v71 x1).bind fun v75 => ((zcv h v75 4 (m_Run_cell v75 ((nI 27) + x2) h)).bind fun v80 => (some v80))))
        else (if x3 = (nI 2) then ((zrR h a0 6 5).bind fun v85 => ((zaR 3 h v85 x1).bind fun v89 => ((zcv h v89 4 (m_Run_cell v89 ((nI 35) + x2) h)).bind fun v94 => (some v94))))
        else (some (-1 : Int32)))))
      else (some (-1 : Int32)))))))))
-- AllHome.note(III)I
noncomputable def m_Home_note (a0 : Nat) (x1 : Int32) (x2 : Int32) (x3 : Int32) (h : zH) : Option Int32 :=
  ((zcv h a0 6 (m_Home_isRun a0 x1 h)).bind fun v2 => (if v2 = 0 then (some (-2000000000 : Int32))
  else (if x2 < 0 then (some (-2000000000 : Int32))
    else ((zrR h a0 6 5).bind fun v14 => ((zaR 3 h v14 x1).bind fun v18 => ((zcv h v18 4 (m_Run_cell v18 (nI 43) h)).bind fun v21 => (if x2 < v21 then (if x3 = (nI 0) then ((zrR h a0 6 5).bind fun v57 => ((zaR 3 h v57 x1).bind fun v61 => ((zcv h v61 4 (m_Run_cell v61 ((nI 44) + x2) h)).bind fun v66 => (some v66))))
        else (if x3 = (nI 1) then ((zrR h a0 6 5).bind fun v71 => ((zaR 3 h v71 x1).bind fun v75 => ((zcv h v75 4 (m_Run_cell v75 ((nI 52) + x2) h)).bind fun v80 => (some v80))))
        else (if x3 = (nI 2) then ((zrR h a0 6 5).bind fun v85 => ((zaR 3 h v85 x1).bind fun v89 => ((zcv h v89 4 (m_Run_cell v89 ((nI 60) + x2) h)).bind fun v94 => (some v94))))
        else (some (-2000000000 : Int32)))))
      else (some (-2000000000 : Int32)))))))))
-- AllHome.total(I)I
noncomputable def m_Home_total (a0 : Nat) (x1 : Int32) (h : zH) : Option Int32 :=
  ((zcv h a0 6 (m_Home_isRun a0 x1 h)).bind fun v2 => (if v2 = 0 then (some (-1 : Int32))
  else ((zrR h a0 6 5).bind fun v11 => ((zaR 3 h v11 x1).bind fun v15 => ((zcv h v15 4 (m_Run_family v15 h)).bind fun v16 => (if v16 = (nI 1) then ((zrR h a0 6 5).bind fun v24 => ((zaR 3 h v24 x1).bind fun v28 => ((zcv h v28 4 (m_Run_cell v28 (nI 74) h)).bind fun v31 => (some v31))))
    else (some (-2 : Int32))))))))
-- AllHome$Orders.printOf([I)I
noncomputable def g_Orders_printOf_4 (a0 : Nat) (h : zH) (k4 : (Int32 × Int32) → Option Int32) (u : Int32 × Int32) : Option Int32 :=
(if (nI 121) ≤ u.2 then (some u.1)
  else ((zaI h a0 u.2).bind fun v16 => (k4 (((u.1 * (nI 31)) + v16), (u.2 + (nI 1))))))
noncomputable def m_Orders_printOf (a0 : Nat) (h : zH) : Option Int32 :=
  (zloop (g_Orders_printOf_4 a0 h) zN ((nI 0), (nI 0)))
-- AllHome$Orders.addSpare(II)I
noncomputable def g_Orders_addSpare_105 (a0 : Nat) (c0 : Nat) (y1 : Int32) (y2 : Int32) (h : zH) : Option (Int32 × zH) :=
((zsI h c0 y1 y2).bind fun h105 => ((zrR h105 a0 2 8).bind fun v107 => ((zrI h105 a0 2 11).bind fun v111 => ((zsI h105 v107 v111 (nI 0)).bind fun h115 => ((zrI h115 a0 2 11).bind fun v118 => ((zwI h115 a0 2 11 (v118 + (nI 1))).bind fun h123 => ((zrI h123 a0 2 11).bind fun v127 => (some ((v127 - (nI 1)), h123)))))))))
noncomputable def m_Orders_addSpare (a0 : Nat) (x1 : Int32) (x2 : Int32) (h : zH) : Option (Int32 × zH) :=
  ((zrI h a0 2 11).bind fun v1 => (if v1 < (nI 150) then ((zrR h a0 2 10).bind fun v18 => ((zrR h a0 2 2).bind fun v23 => ((zrI h a0 2 11).bind fun v27 => ((zaR 5 h v23 v27).bind fun v30 => ((zcpI h v18 (nI 0) v30 (nI 0) (nI 123)).bind fun h34 => ((zrR h34 a0 2 3).bind fun v38 => ((zrI h34 a0 2 11).bind fun v42 => ((zrR h34 a0 2 10).bind fun v46 => ((m_Orders_printOf v46 h34).bind fun v49 => ((zsI h34 v38 v42 v49).bind fun h52 => ((zrR h52 a0 2 4).bind fun v54 => ((zrI h52 a0 2 11).bind fun v58 => ((zsI h52 v54 v58 x1).bind fun h62 => ((zrR h62 a0 2 5).bind fun v64 => ((zrI h62 a0 2 11).bind fun v68 => ((zsI h62 v64 v68 x2).bind fun h72 => ((zrR h72 a0 2 6).bind fun v74 => ((zrI h72 a0 2 11).bind fun v78 => (if x1 < 0 then (g_Orders_addSpare_105 a0 v74 v78 (nI 0) h72)
    else ((zrI h72 a0 2 11).bind fun v87 => (if v87 ≤ x1 then (g_Orders_addSpare_105 a0 v74 v78 (nI 0) h72)
      else ((zrR h72 a0 2 6).bind fun v94 => ((zaI h72 v94 x1).bind fun v98 => (g_Orders_addSpare_105 a0 v74 v78 (v98 + (nI 1)) h72))))))))))))))))))))))))
  else ((zwZ h a0 2 12 (nI 1)).bind fun h12 => (some ((-1 : Int32), h12)))))
-- AllHome$Orders.numbersOf([II)I
noncomputable def m_Orders_numbersOf (a0 : Nat) (a1 : Nat) (x2 : Int32) (h : zH) : Option Int32 :=
  (if x2 = (nI 0) then ((zrR h a0 2 0).bind fun v29 => ((zcv h v29 1 (m_Huts_size v29 h)).bind fun v32 => (some v32)))
  else (if x2 = (nI 1) then ((zaI h a1 (nI 18)).bind fun v39 => (some v39))
  else (if x2 = (nI 2) then ((zaI h a1 (nI 43)).bind fun v44 => (some v44))
  else (some (nI 1)))))
-- AllHome$Orders.alike([I[II)Z
noncomputable def g_Orders_alike_2 (a0 : Nat) (a1 : Nat) (x2 : Int32) (h : zH) (k2 : (Int32) → Option Int32) (u : Int32) : Option Int32 :=
(if x2 ≤ u then (some (nI 1))
  else ((zaI h a0 u).bind fun v9 => ((zaI h a1 u).bind fun v12 => (if v9 = v12 then (k2 (u + (nI 1)))
    else (some (nI 0))))))
noncomputable def m_Orders_alike (a0 : Nat) (a1 : Nat) (x2 : Int32) (h : zH) : Option Int32 :=
  (zloop (g_Orders_alike_2 a0 a1 x2 h) zN (nI 0))
-- AllHome$Orders.findSpare()I
noncomputable def g_Orders_findSpare_10 (a0 : Nat) (x1 : Int32) (h : zH) (k10 : (Int32) → Option Int32) (u : Int32) : Option Int32 :=
((zrI h a0 2 11).bind fun v12 => (if v12 ≤ u then (some (-1 : Int32))
  else ((zrR h a0 2 3).bind fun v19 => ((zaI h v19 u).bind fun v23 => (if v23 = x1 then ((zrR h a0 2 2).bind fun v29 => ((zaR 5 h v29 u).bind fun v33 => ((zrR h a0 2 10).bind fun v35 => ((m_Orders_alike v33 v35 (nI 121) h).bind fun v40 => (if v40 = 0 then (k10 (u + (nI 1)))
      else (some u))))))
    else (k10 (u + (nI 1))))))))
noncomputable def m_Orders_findSpare (a0 : Nat) (h : zH) : Option Int32 :=
  ((zrR h a0 2 10).bind fun v1 => ((m_Orders_printOf v1 h).bind fun v4 => (zloop (g_Orders_findSpare_10 a0 v4 h) zN (nI 0))))
-- AllHome$Orders.tryStep(III)V
noncomputable def g_Orders_tryStep_60 (a0 : Nat) (x1 : Int32) (x4 : Int32) (h : zH) : Option zH :=
(if x4 = (-1 : Int32) then (some h)
  else ((zrR h a0 2 8).bind fun v67 => ((zaI h v67 x1).bind fun v71 => (if (nI 21) ≤ v71 then (some h)
    else ((zrR h a0 2 7).bind fun v78 => ((zaR 5 h v78 x1).bind fun v82 => ((zrR h a0 2 8).bind fun v84 => ((zaI h v84 x1).bind fun v88 => ((zsI h v82 v88 x4).bind fun h91 => ((zrR h91 a0 2 8).bind fun v93 => ((zaI h91 v93 x1).bind fun v98 => ((zsI h91 v93 x1 (v98 + (nI 1))).bind fun h101 => (some h101)))))))))))))
noncomputable def m_Orders_tryStep (a0 : Nat) (x1 : Int32) (x2 : Int32) (x3 : Int32) (h : zH) : Option zH :=
  ((zrR h a0 2 2).bind fun v1 => ((zaR 5 h v1 x1).bind fun v5 => ((zrR h a0 2 10).bind fun v8 => ((zcpI h v5 (nI 0) v8 (nI 0) (nI 123)).bind fun h14 => ((zrR h14 a0 2 1).bind fun v18 => ((zrR h14 a0 2 10).bind fun v22 => (zb2 (zcv h14 v18 3 (m_Rules_apply v18 v22 x2 x3 h14)) fun v27 h27 => (if v27 = (nI 1) then ((zcv h27 a0 2 (m_Orders_findSpare a0 h27)).bind fun v36 => (if v36 = (-1 : Int32) then (zb2 (zcv h27 a0 2 (m_Orders_addSpare a0 x1 (((nI 100) * x2) + x3) h27)) fun v55 h55 => (g_Orders_tryStep_60 a0 x1 v55 h55))
    else (g_Orders_tryStep_60 a0 x1 v36 h27)))
  else (some h27)))))))))
-- AllHome$Orders.explore(I)V
noncomputable def g_Orders_explore_120 (a0 : Nat) (x2 : Int32) (x3 : Int32) (x4 : Int32) (x5 : Int32) (k60 : (Int32 × zH) → Option zH) (k97 : (Int32 × zH) → Option zH) (k120 : (Int32 × zH) → Option zH) (u : Int32 × zH) : Option zH :=
(if x5 ≤ u.1 then (k97 ((x4 + (nI 1)), u.2))
  else ((zrI u.2 a0 2 12).bind fun v128 => (if v128 = 0 then ((zcv u.2 a0 2 (m_Orders_tryStep a0 x2 x4 u.1 u.2)).bind fun h140 => (k120 ((u.1 + (nI 1)), h140)))
    else (k97 ((x4 + (nI 1)), u.2)))))
noncomputable def g_Orders_explore_97 (a0 : Nat) (x2 : Int32) (x3 : Int32) (k60 : (Int32 × zH) → Option zH) (k97 : (Int32 × zH) → Option zH) (u : Int32 × zH) : Option zH :=
(if x3 < u.1 then (k60 ((x2 + (nI 1)), u.2))
  else ((zrR u.2 a0 2 2).bind fun v105 => ((zaR 5 u.2 v105 x2).bind fun v109 => ((zcv u.2 a0 2 (m_Orders_numbersOf a0 v109 u.1 u.2)).bind fun v112 => (zloop (g_Orders_explore_120 a0 x2 x3 u.1 v112 k60 k97) zN ((nI 0), u.2))))))
noncomputable def g_Orders_explore_60 (a0 : Nat) (k60 : (Int32 × zH) → Option zH) (u : Int32 × zH) : Option zH :=
((zrI u.2 a0 2 11).bind fun v62 => (if v62 ≤ u.1 then (some u.2)
  else (if (nI 150) ≤ u.1 then (some u.2)
    else ((zrR u.2 a0 2 2).bind fun v76 => ((zaR 5 u.2 v76 u.1).bind fun v80 => ((zaI u.2 v80 (nI 120)).bind fun v83 => (if v83 = (nI 1) then (zloop (g_Orders_explore_97 a0 u.1 (-1 : Int32) k60) zN ((nI 0), u.2))
      else (zloop (g_Orders_explore_97 a0 u.1 (nI 3) k60) zN ((nI 0), u.2)))))))))
noncomputable def g_Orders_explore_36 (a0 : Nat) (x1 : Int32) (c0 : Nat) (y1 : Int32) (h : zH) : Option zH :=
((zwZ h c0 2 12 y1).bind fun h36 => ((zrR h36 a0 2 1).bind fun v40 => ((zrR h36 a0 2 10).bind fun v44 => ((zcv h36 v40 3 (m_Rules_begin v40 v44 x1 h36)).bind fun h48 => (zb2 (zcv h48 a0 2 (m_Orders_addSpare a0 (-1 : Int32) (nI 0) h48)) fun v54 h54 => (zloop (g_Orders_explore_60 a0) zN ((nI 0), h54)))))))
noncomputable def m_Orders_explore (a0 : Nat) (x1 : Int32) (h : zH) : Option zH :=
  ((zrI h a0 2 13).bind fun v2 => (if x1 = v2 then (some h)
  else ((zwI h a0 2 13 x1).bind fun h11 => ((zwI h11 a0 2 11 (nI 0)).bind fun h16 => ((zrR h16 a0 2 0).bind fun v21 => ((zcv h16 v21 1 (m_Huts_size v21 h16)).bind fun v24 => (if v24 ≤ (nI 4) then (g_Orders_explore_36 a0 x1 a0 (nI 0) h16)
    else (g_Orders_explore_36 a0 x1 a0 (nI 1) h16))))))))
-- AllHome$Orders.isBig()Z
noncomputable def m_Orders_isBig (a0 : Nat) (h : zH) : Option Int32 :=
  ((zrI h a0 2 12).bind fun v1 => (zbl v1 (some v1)))
-- AllHome.goThrough(I)I
noncomputable def m_Home_goThrough (a0 : Nat) (x1 : Int32) (h : zH) : Option (Int32 × zH) :=
  ((zcv h a0 6 (m_Home_isWay a0 x1 h)).bind fun v2 => (if v2 = 0 then (some ((-1 : Int32), h))
  else ((zrR h a0 6 2).bind fun v11 => ((zcv h v11 1 (m_Huts_size v11 h)).bind fun v14 => (if v14 = 0 then (some ((-5 : Int32), h))
    else ((zrR h a0 6 8).bind fun v24 => ((zrR h a0 6 3).bind fun v28 => ((zaI h v28 x1).bind fun v32 => ((zcv h v24 2 (m_Orders_explore v24 v32 h)).bind fun h33 => ((zrR h33 a0 6 8).bind fun v37 => ((zcv h33 v37 2 (m_Orders_isBig v37 h33)).bind fun v40 => (if v40 = 0 then (some ((nI 1), h33))
      else (some ((-4 : Int32), h33))))))))))))))
-- AllHome$Orders.size()I
noncomputable def m_Orders_size (a0 : Nat) (h : zH) : Option Int32 :=
  ((zrI h a0 2 11).bind fun v1 => (some v1))
-- AllHome.states(I)I
noncomputable def m_Home_states (a0 : Nat) (x1 : Int32) (h : zH) : Option (Int32 × zH) :=
  (zb2 (zcv h a0 6 (m_Home_goThrough a0 x1 h)) fun v2 h2 => (if 0 ≤ v2 then ((zrR h2 a0 6 8).bind fun v15 => ((zcv h2 v15 2 (m_Orders_size v15 h2)).bind fun v18 => (some (v18, h2))))
  else (some (v2, h2))))
-- AllHome$Orders.firstSaying(Z)I
noncomputable def g_Orders_firstSaying_2 (a0 : Nat) (x1 : Int32) (h : zH) (k2 : (Int32) → Option Int32) (u : Int32) : Option Int32 :=
((zrI h a0 2 11).bind fun v4 => (if v4 ≤ u then (some (-1 : Int32))
  else ((zrR h a0 2 2).bind fun v11 => ((zaR 5 h v11 u).bind fun v15 => ((zaI h v15 (nI 120)).bind fun v18 => (if v18 = (nI 1) then ((zrR h a0 2 2).bind fun v24 => ((zaR 5 h v24 u).bind fun v28 => ((m_Home_isOver v28 h).bind fun v29 => (if v29 = x1 then (some u)
      else (k2 (u + (nI 1)))))))
    else (k2 (u + (nI 1)))))))))
noncomputable def m_Orders_firstSaying (a0 : Nat) (x1 : Int32) (h : zH) : Option Int32 :=
  (zloop (g_Orders_firstSaying_2 a0 x1 h) zN (nI 0))
-- AllHome$Orders.early()I
noncomputable def m_Orders_early (a0 : Nat) (h : zH) : Option Int32 :=
  ((zcv h a0 2 (m_Orders_firstSaying a0 (nI 0) h)).bind fun v2 => (some v2))
-- AllHome$Orders.soon()I
noncomputable def m_Orders_soon (a0 : Nat) (h : zH) : Option Int32 :=
  ((zcv h a0 2 (m_Orders_firstSaying a0 (nI 1) h)).bind fun v2 => (some v2))
-- AllHome$Orders.stepsTo(I)I
noncomputable def m_Orders_stepsTo (a0 : Nat) (x1 : Int32) (h : zH) : Option Int32 :=
  (if x1 < 0 then (some (nI 0))
  else ((zrI h a0 2 11).bind fun v6 => (if v6 ≤ x1 then (some (nI 0))
    else ((zrR h a0 2 6).bind fun v13 => ((zaI h v13 x1).bind fun v17 => (some v17))))))
-- AllHome$Orders.stepOnTheWayTo(II)I
noncomputable def g_Orders_stepOnTheWayTo_42 (a0 : Nat) (x3 : Int32) (h : zH) : Option Int32 :=
(if x3 < 0 then (some (-1 : Int32))
  else ((zrI h a0 2 11).bind fun v48 => (if v48 ≤ x3 then (some (-1 : Int32))
    else ((zrR h a0 2 5).bind fun v55 => ((zaI h v55 x3).bind fun v59 => (some v59))))))
noncomputable def g_Orders_stepOnTheWayTo_11 (a0 : Nat) (x2 : Int32) (h : zH) (k11 : (Int32 × Int32) → Option Int32) (u : Int32 × Int32) : Option Int32 :=
(if u.2 ≤ x2 then (g_Orders_stepOnTheWayTo_42 a0 u.1 h)
  else (if u.1 < 0 then (g_Orders_stepOnTheWayTo_42 a0 u.1 h)
    else ((zrI h a0 2 11).bind fun v23 => (if v23 ≤ u.1 then (g_Orders_stepOnTheWayTo_42 a0 u.1 h)
      else ((zrR h a0 2 4).bind fun v30 => ((zaI h v30 u.1).bind fun v34 => (k11 (v34, (u.2 + (-1 : Int32))))))))))
noncomputable def m_Orders_stepOnTheWayTo (a0 : Nat) (x1 : Int32) (x2 : Int32) (h : zH) : Option Int32 :=
  ((zcv h a0 2 (m_Orders_stepsTo a0 x1 h)).bind fun v4 => (zloop (g_Orders_stepOnTheWayTo_11 a0 x2 h) zN (x1, (v4 - (nI 1)))))
-- AllHome.least(III)I
noncomputable def g_Home_least_52 (a0 : Nat) (x3 : Int32) (y0 : Int32) (h : zH) : Option (Int32 × zH) :=
(if y0 = (-1 : Int32) then (some ((-2 : Int32), h))
  else ((zrR h a0 6 8).bind fun v64 => ((zcv h v64 2 (m_Orders_stepsTo v64 y0 h)).bind fun v69 => (if x3 = (-1 : Int32) then (some (v69, h))
    else (if v69 ≤ x3 then (some ((-1 : Int32), h))
      else ((zrR h a0 6 8).bind fun v89 => ((zcv h v89 2 (m_Orders_stepOnTheWayTo v89 y0 x3 h)).bind fun v95 => (some (v95, h)))))))))
noncomputable def m_Home_least (a0 : Nat) (x1 : Int32) (x2 : Int32) (x3 : Int32) (h : zH) : Option (Int32 × zH) :=
  (if x2 < 0 then (some ((-1 : Int32), h))
  else (if (nI 1) < x2 then (some ((-1 : Int32), h))
    else (if (-1 : Int32) ≤ x3 then (zb2 (zcv h a0 6 (m_Home_goThrough a0 x1 h)) fun v18 h18 => (if 0 ≤ v18 then (if x2 = 0 then ((zrR h18 a0 6 8).bind fun v36 => ((zcv h18 v36 2 (m_Orders_early v36 h18)).bind fun v39 => (g_Home_least_52 a0 x3 v39 h18)))
          else ((zrR h18 a0 6 8).bind fun v46 => ((zcv h18 v46 2 (m_Orders_soon v46 h18)).bind fun v49 => (g_Home_least_52 a0 x3 v49 h18))))
        else (some (v18, h18))))
      else (some ((-1 : Int32), h)))))
-- AllHome$Orders.spreadCanSay()Z
noncomputable def g_Orders_spreadCanSay_15 (a0 : Nat) (x2 : Int32) (k9 : (Int32 × Int32 × zH) → Option (Int32 × zH)) (k15 : (Int32 × Int32 × zH) → Option (Int32 × zH)) (u : Int32 × Int32 × zH) : Option (Int32 × zH) :=
((zrR u.2.2 a0 2 8).bind fun v17 => ((zaI u.2.2 v17 x2).bind fun v21 => (if v21 ≤ u.2.1 then (k9 (u.1, (x2 + (-1 : Int32)), u.2.2))
  else (if (nI 21) ≤ u.2.1 then (k9 (u.1, (x2 + (-1 : Int32)), u.2.2))
    else ((zrR u.2.2 a0 2 9).bind fun v32 => ((zaZ u.2.2 v32 x2).bind fun v36 => (if v36 = 0 then ((zrR u.2.2 a0 2 7).bind fun v41 => ((zaR 5 u.2.2 v41 x2).bind fun v45 => ((zaI u.2.2 v45 u.2.1).bind fun v47 => (if v47 < 0 then (k15 (u.1, (u.2.1 + (nI 1)), u.2.2))
        else ((zrI u.2.2 a0 2 11).bind fun v58 => (if v58 ≤ v47 then (k15 (u.1, (u.2.1 + (nI 1)), u.2.2))
          else ((zrR u.2.2 a0 2 9).bind fun v65 => ((zaZ u.2.2 v65 v47).bind fun v70 => (if v70 = 0 then (k15 (u.1, (u.2.1 + (nI 1)), u.2.2))
            else ((zrR u.2.2 a0 2 9).bind fun v75 => ((zsZ u.2.2 v75 x2 (nI 1)).bind fun h80 => (k15 ((nI 1), (u.2.1 + (nI 1)), h80)))))))))))))
      else (k9 (u.1, (x2 + (-1 : Int32)), u.2.2)))))))))
noncomputable def g_Orders_spreadCanSay_9 (a0 : Nat) (k9 : (Int32 × Int32 × zH) → Option (Int32 × zH)) (u : Int32 × Int32 × zH) : Option (Int32 × zH) :=
(if u.2.1 < 0 then (zbl u.1 (some (u.1, u.2.2)))
  else (zloop (g_Orders_spreadCanSay_15 a0 u.2.1 k9) zN (u.1, (nI 0), u.2.2)))
noncomputable def m_Orders_spreadCanSay (a0 : Nat) (h : zH) : Option (Int32 × zH) :=
  ((zrI h a0 2 11).bind fun v3 => (zloop (g_Orders_spreadCanSay_9 a0) zN ((nI 0), (v3 - (nI 1)), h)))
-- AllHome$Orders.stuckStates()I
noncomputable def g_Orders_stuckStates_70 (a0 : Nat) (h : zH) (k70 : (Int32 × Int32) → Option (Int32 × zH)) (u : Int32 × Int32) : Option (Int32 × zH) :=
((zrI h a0 2 11).bind fun v72 => (if v72 ≤ u.2 then (some (u.1, h))
  else ((zrR h a0 2 9).bind fun v80 => ((zaZ h v80 u.2).bind fun v84 => (if v84 = 0 then (k70 ((u.1 + (nI 1)), (u.2 + (nI 1))))
    else (k70 ((u.1 + (nI 0)), (u.2 + (nI 1)))))))))
noncomputable def g_Orders_stuckStates_44 (a0 : Nat) (k44 : (Int32 × Int32 × zH) → Option (Int32 × zH)) (u : Int32 × Int32 × zH) : Option (Int32 × zH) :=
(if (nI 150) ≤ u.2.1 then (zloop (g_Orders_stuckStates_70 a0 u.2.2) zN ((nI 0), (nI 0)))
  else (if u.1 = 0 then (zloop (g_Orders_stuckStates_70 a0 u.2.2) zN ((nI 0), (nI 0)))
    else (zb2 (zcv u.2.2 a0 2 (m_Orders_spreadCanSay a0 u.2.2)) fun v56 h56 => (k44 (v56, (u.2.1 + (nI 1)), h56)))))
noncomputable def g_Orders_stuckStates_2 (a0 : Nat) (k2 : (Int32 × zH) → Option (Int32 × zH)) (u : Int32 × zH) : Option (Int32 × zH) :=
((zrI u.2 a0 2 11).bind fun v4 => (if v4 ≤ u.1 then (zloop (g_Orders_stuckStates_44 a0) zN ((nI 1), (nI 0), u.2))
  else ((zrR u.2 a0 2 9).bind fun v11 => ((zrR u.2 a0 2 2).bind fun v16 => ((zaR 5 u.2 v16 u.1).bind fun v20 => ((zaI u.2 v20 (nI 120)).bind fun v23 => (if v23 = (nI 1) then ((zsZ u.2 v11 u.1 (nI 1)).bind fun h33 => (k2 ((u.1 + (nI 1)), h33)))
    else ((zsZ u.2 v11 u.1 (nI 0)).bind fun h33 => (k2 ((u.1 + (nI 1)), h33))))))))))
noncomputable def m_Orders_stuckStates (a0 : Nat) (h : zH) : Option (Int32 × zH) :=
  (zloop (g_Orders_stuckStates_2 a0) zN ((nI 0), h))
-- AllHome.stuck(I)I
noncomputable def m_Home_stuck (a0 : Nat) (x1 : Int32) (h : zH) : Option (Int32 × zH) :=
  (zb2 (zcv h a0 6 (m_Home_goThrough a0 x1 h)) fun v2 h2 => (if 0 ≤ v2 then ((zrR h2 a0 6 8).bind fun v15 => (zb2 (zcv h2 v15 2 (m_Orders_stuckStates v15 h2)) fun v18 h18 => (some (v18, h18))))
  else (some (v2, h2))))
-- AllHome$Orders.unlikeWorks()I
noncomputable def g_Orders_unlikeWorks_60 (a0 : Nat) (x1 : Int32) (x2 : Int32) (x3 : Int32) (h : zH) (k4 : (Int32 × Int32) → Option Int32) : Option Int32 :=
(if x3 = 0 then (k4 ((x1 + (nI 0)), (x2 + (nI 1))))
  else (k4 ((x1 + (nI 1)), (x2 + (nI 1)))))
noncomputable def g_Orders_unlikeWorks_17 (a0 : Nat) (x1 : Int32) (x2 : Int32) (h : zH) (k4 : (Int32 × Int32) → Option Int32) (k17 : (Int32 × Int32) → Option Int32) (u : Int32 × Int32) : Option Int32 :=
(if x2 ≤ u.2 then (g_Orders_unlikeWorks_60 a0 x1 x2 u.1 h k4)
  else (if u.1 = 0 then (g_Orders_unlikeWorks_60 a0 x1 x2 u.1 h k4)
    else ((zrR h a0 2 2).bind fun v28 => ((zaR 5 h v28 x2).bind fun v32 => ((zrR h a0 2 2).bind fun v34 => ((zaR 5 h v34 u.2).bind fun v39 => ((m_Orders_alike v32 v39 (nI 35) h).bind fun v42 => (if v42 = 0 then (k17 ((nI 1), (u.2 + (nI 1))))
      else (k17 ((nI 0), (u.2 + (nI 1))))))))))))
noncomputable def g_Orders_unlikeWorks_4 (a0 : Nat) (h : zH) (k4 : (Int32 × Int32) → Option Int32) (u : Int32 × Int32) : Option Int32 :=
((zrI h a0 2 11).bind fun v6 => (if v6 ≤ u.2 then (some u.1)
  else (zloop (g_Orders_unlikeWorks_17 a0 u.1 u.2 h k4) zN ((nI 1), (nI 0)))))
noncomputable def m_Orders_unlikeWorks (a0 : Nat) (h : zH) : Option Int32 :=
  (zloop (g_Orders_unlikeWorks_4 a0 h) zN ((nI 0), (nI 0)))
-- AllHome.work(II)I
noncomputable def m_Home_work (a0 : Nat) (x1 : Int32) (x2 : Int32) (h : zH) : Option (Int32 × zH) :=
  (if x2 < 0 then (some ((-1 : Int32), h))
  else (if x2 ≤ (nI 1) then (zb2 (zcv h a0 6 (m_Home_goThrough a0 x1 h)) fun v13 h13 => (if 0 ≤ v13 then (if x2 = 0 then ((zrR h13 a0 6 8).bind fun v28 => ((zcv h13 v28 2 (m_Orders_unlikeWorks v28 h13)).bind fun v31 => (some (v31, h13))))
        else ((zrR h13 a0 6 9).bind fun v36 => ((zcv h13 v36 2 (m_Orders_explore v36 (nI 0) h13)).bind fun h40 => ((zrR h40 a0 6 9).bind fun v44 => ((zcv h40 v44 2 (m_Orders_isBig v44 h40)).bind fun v47 => (if v47 = 0 then ((zrR h40 a0 6 8).bind fun v57 => ((zcv h40 v57 2 (m_Orders_unlikeWorks v57 h40)).bind fun v60 => ((zrR h40 a0 6 9).bind fun v64 => ((zcv h40 v64 2 (m_Orders_unlikeWorks v64 h40)).bind fun v67 => (if v60 = v67 then (some ((nI 1), h40))
            else (some ((nI 0), h40)))))))
          else (some ((-4 : Int32), h40))))))))
      else (some (v13, h13))))
    else (some ((-1 : Int32), h))))
-- AllHome$Acts.clear()V
noncomputable def m_Acts_clear (a0 : Nat) (h : zH) : Option zH :=
  ((zwI h a0 0 1 (nI 0)).bind fun h2 => (some h2))
-- AllHome$Acts.bodyOf(II)I
noncomputable def m_Acts_bodyOf (x0 : Int32) (x1 : Int32) (h : zH) : Option Int32 :=
  ((m_Home_isKind x0 h).bind fun v1 => (if v1 = 0 then (some (nI 0))
  else (if x1 < 0 then (some (nI 0))
    else (if x1 < (nI 4) then ((ztab 4 ((x0 * (nI 4)) + x1)).bind fun v26 => (some v26))
      else (some (nI 0))))))
-- AllHome$Acts.begun(I)V
noncomputable def m_Acts_begun (a0 : Nat) (x1 : Int32) (h : zH) : Option zH :=
  ((zrI h a0 0 1).bind fun v1 => (if (nI 24) ≤ v1 then ((zrI h a0 0 1).bind fun v21 => ((zwI h a0 0 1 (v21 + (nI 1))).bind fun h26 => (some h26)))
  else ((zrR h a0 0 0).bind fun v10 => ((zrI h a0 0 1).bind fun v14 => ((zsI h v10 v14 x1).bind fun h18 => ((zrI h18 a0 0 1).bind fun v21 => ((zwI h18 a0 0 1 (v21 + (nI 1))).bind fun h26 => (some h26))))))))
-- AllHome$Acts.perform(IIII)I
noncomputable def g_Acts_perform_48 (a0 : Nat) (x2 : Int32) (x3 : Int32) (x4 : Int32) (x5 : Int32) (h : zH) (kk : (Nat × Int32 × Int32 × Int32 × Int32 × zH) → Option (Int32 × zH)) : Option (Int32 × zH) :=
((m_Acts_bodyOf x5 x2 h).bind fun v51 => (if v51 = 0 then (some ((nI 0), h))
  else ((m_Home_isKind x5 h).bind fun v63 => (if v63 = 0 then (some ((nI 0), h))
    else (if x4 ≤ (nI 30) then ((zcv h a0 0 (m_Acts_begun a0 v51 h)).bind fun h81 => ((ztab 0 x5).bind fun v89 => (if v51 = (nI 1) then ((zrI h81 a0 0 3).bind fun v218 => (some ((x3 + v218), h81)))
        else (if v51 = (nI 2) then ((zrI h81 a0 0 2).bind fun v225 => (zb2 (zcv h81 a0 0 (kk (a0, v225, (nI 1), x3, (x4 + (nI 1)), h81))) fun v232 h232 => ((zrI h232 a0 0 2).bind fun v237 => (zb2 (zcv h232 a0 0 (kk (a0, v237, (nI 2), (nI 1), (x4 + (nI 1)), h232))) fun v244 h244 => (some ((v232 - v244), h244))))))
        else (if v51 = (nI 10) then ((zrI h81 a0 0 2).bind fun v251 => (zb2 (zcv h81 a0 0 (kk (a0, v251, (nI 0), x3, (x4 + (nI 1)), h81))) fun v258 h258 => (some ((v258 * (nI 2)), h258))))
        else (if v51 = (nI 11) then ((zrI h81 a0 0 3).bind fun v266 => (some ((x3 ^^^ v266), h81)))
        else (if v51 = (nI 20) then (zb2 (zcv h81 a0 0 (kk (a0, v89, (nI 0), x3, (x4 + (nI 1)), h81))) fun v278 h278 => (some ((v278 / (nI 2)), h278)))
        else (if v51 = (nI 30) then (zb2 (zcv h81 a0 0 (kk (a0, v89, (nI 2), x3, (x4 + (nI 1)), h81))) fun v291 h291 => ((zrI h291 a0 0 2).bind fun v296 => (zb2 (zcv h291 a0 0 (kk (a0, v296, (nI 0), (nI 2), (x4 + (nI 1)), h291))) fun v303 h303 => (some ((v291 + v303), h303)))))
        else (if v51 = (nI 40) then (zb2 (zcv h81 a0 0 (kk (a0, v89, (nI 1), x3, (x4 + (nI 1)), h81))) fun v315 h315 => (some ((v315 - (nI 1)), h315)))
        else (if v51 = (nI 50) then (zb2 (zcv h81 a0 0 (kk (a0, v89, (nI 0), x3, (x4 + (nI 1)), h81))) fun v328 h328 => (some ((v328 * (nI 3)), h328)))
        else (if v51 = (nI 60) then (zb2 (zcv h81 a0 0 (kk (a0, v89, (nI 3), x3, (x4 + (nI 1)), h81))) fun v341 h341 => (some ((v341 ^^^ (nI 5)), h341)))
        else (if v51 = (nI 61) then (zb2 (zcv h81 a0 0 (kk (a0, v89, (nI 2), (x3 + (nI 1)), (x4 + (nI 1)), h81))) fun v356 h356 => (some (v356, h356)))
        else (if v51 = (nI 70) then (zb2 (zcv h81 a0 0 (kk (a0, v89, (nI 2), x3, (x4 + (nI 1)), h81))) fun v367 h367 => (some ((-v367), h367)))
        else (if v51 = (nI 80) then (zb2 (zcv h81 a0 0 (kk (a0, v89, (nI 1), x3, (x4 + (nI 1)), h81))) fun v379 h379 => (zb2 (zcv h379 a0 0 (kk (a0, v89, (nI 0), x3, (x4 + (nI 1)), h379))) fun v389 h389 => (some ((v379 + v389), h389))))
        else (if v51 = (nI 90) then (zb2 (zcv h81 a0 0 (kk (a0, v89, (nI 3), x3, (x4 + (nI 1)), h81))) fun v401 h401 => (some ((v401 * (nI 2)), h401)))
        else (some ((nI 0), h81)))))))))))))))))
      else (some ((nI 0), h)))))))
noncomputable def g_Acts_perform_6 (a0 : Nat) (x2 : Int32) (x3 : Int32) (x4 : Int32) (h : zH) (kk : (Nat × Int32 × Int32 × Int32 × Int32 × zH) → Option (Int32 × zH)) (k6 : (Int32 × Int32) → Option (Int32 × zH)) (u : Int32 × Int32) : Option (Int32 × zH) :=
(if (nI 9) ≤ u.2 then (g_Acts_perform_48 a0 x2 x3 x4 u.1 h kk)
  else ((m_Acts_bodyOf u.1 x2 h).bind fun v16 => (if v16 = 0 then ((m_Home_isKind u.1 h).bind fun v24 => (if v24 = 0 then (k6 ((-1 : Int32), (u.2 + (nI 1))))
      else ((ztab 0 u.1).bind fun v35 => (k6 (v35, (u.2 + (nI 1)))))))
    else (g_Acts_perform_48 a0 x2 x3 x4 u.1 h kk))))
noncomputable def g_Acts_perform_0 (kk : (Nat × Int32 × Int32 × Int32 × Int32 × zH) → Option (Int32 × zH)) (u : Nat × Int32 × Int32 × Int32 × Int32 × zH) : Option (Int32 × zH) :=
  (zloop (g_Acts_perform_6 u.1 u.2.2.1 u.2.2.2.1 u.2.2.2.2.1 u.2.2.2.2.2 kk) zN (u.2.1, (nI 0)))
noncomputable def m_Acts_perform (n : Nat) (a0 : Nat) (x1 : Int32) (x2 : Int32) (x3 : Int32) (x4 : Int32) (h : zH) : Option (Int32 × zH) := zloop g_Acts_perform_0 n (a0, x1, x2, x3, x4, h)
-- AllHome$Acts.begin(IIII)I
noncomputable def m_Acts_begin (a0 : Nat) (x1 : Int32) (x2 : Int32) (x3 : Int32) (x4 : Int32) (h : zH) : Option (Int32 × zH) :=
  ((zwI h a0 0 2 x1).bind fun h2 => ((zwI h2 a0 0 3 x2).bind fun h7 => ((zrI h7 a0 0 2).bind fun v12 => (zb2 (zcv h7 a0 0 (m_Acts_perform 40 a0 v12 x3 x4 (nI 0) h7)) fun v19 h19 => (some (v19, h19))))))
-- AllHome.act(III)I
noncomputable def m_Home_act (a0 : Nat) (x1 : Int32) (x2 : Int32) (x3 : Int32) (h : zH) : Option (Int32 × zH) :=
  ((zrR h a0 6 10).bind fun v1 => ((zcv h v1 0 (m_Acts_clear v1 h)).bind fun h4 => ((zcv h4 a0 6 (m_Home_isWay a0 x1 h4)).bind fun v9 => (if v9 = 0 then (some ((nI 0), h4))
  else (if x2 < 0 then (some ((nI 0), h4))
    else (if x2 < (nI 4) then ((zrR h4 a0 6 10).bind fun v27 => ((zrR h4 a0 6 3).bind fun v31 => ((zaI h4 v31 x1).bind fun v35 => (zb2 (zcv h4 v27 0 (m_Acts_begin v27 v35 x1 x2 x3 h4)) fun v39 h39 => (some (v39, h39))))))
      else (some ((nI 0), h4))))))))
-- AllHome$Acts.traced(I)I
noncomputable def m_Acts_traced (a0 : Nat) (x1 : Int32) (h : zH) : Option Int32 :=
  (if x1 < 0 then (some (-1 : Int32))
  else ((zrI h a0 0 1).bind fun v6 => (if v6 ≤ x1 then (some (-1 : Int32))
    else (if (nI 24) ≤ x1 then (some (-1 : Int32))
      else ((zrR h a0 0 0).bind fun v19 => ((zaI h v19 x1).bind fun v23 => (some v23)))))))
-- AllHome.trace(I)I
noncomputable def m_Home_trace (a0 : Nat) (x1 : Int32) (h : zH) : Option Int32 :=
  ((zrR h a0 6 10).bind fun v1 => ((zcv h v1 0 (m_Acts_traced v1 x1 h)).bind fun v5 => (some v5)))
-- AllHome$Shelf.holdWay(I)V
noncomputable def m_Shelf_holdWay (a0 : Nat) (x1 : Int32) (h : zH) : Option zH :=
  ((zwI h a0 5 3 x1).bind fun h2 => ((zwI h2 a0 5 2 (-1 : Int32)).bind fun h7 => ((zwI h7 a0 5 1 (nI 0)).bind fun h12 => (some h12))))
-- AllHome.keep(II)I
noncomputable def m_Home_keep (a0 : Nat) (x1 : Int32) (x2 : Int32) (h : zH) : Option (Int32 × zH) :=
  ((m_Home_isShelf x1 h).bind fun v1 => (if v1 = 0 then (some ((-1 : Int32), h))
  else (if x2 = (-1 : Int32) then ((zrR h a0 6 11).bind fun v23 => ((zaR 4 h v23 x1).bind fun v27 => ((zcv h v27 5 (m_Shelf_holdWay v27 x2 h)).bind fun h29 => (some ((nI 1), h29)))))
    else ((zcv h a0 6 (m_Home_isWay a0 x2 h)).bind fun v14 => (if v14 = 0 then (some ((-1 : Int32), h))
      else ((zrR h a0 6 11).bind fun v23 => ((zaR 4 h v23 x1).bind fun v27 => ((zcv h v27 5 (m_Shelf_holdWay v27 x2 h)).bind fun h29 => (some ((nI 1), h29))))))))))
-- java/util/Arrays.fill([JJ)V
noncomputable def g_Fill_J_6 (a0 : Nat) (x1 : Int64) (x4 : Int32) (k6 : (Int32 × zH) → Option zH) (u : Int32 × zH) : Option zH :=
(if x4 ≤ u.1 then (some u.2)
  else ((zsJ u.2 a0 u.1 x1).bind fun h15 => (k6 ((u.1 + (nI 1)), h15))))
noncomputable def m_Fill_J (a0 : Nat) (x1 : Int64) (h : zH) : Option zH :=
  ((zlen h a0).bind fun v3 => (zloop (g_Fill_J_6 a0 x1 v3) zN ((nI 0), h)))
-- AllHome$Shelf.holdRow(II)V
noncomputable def m_Shelf_holdRow (a0 : Nat) (x1 : Int32) (x2 : Int32) (h : zH) : Option zH :=
  ((zwI h a0 5 3 (-1 : Int32)).bind fun h2 => ((zwI h2 a0 5 2 x1).bind fun h7 => ((zwI h7 a0 5 1 (if (nI 0) < (if (nI 60) < x2 then (nI 60) else x2) then (if (nI 60) < x2 then (nI 60) else x2) else (nI 0))).bind fun h21 => ((zrR h21 a0 5 0).bind fun v25 => ((m_Fill_J v25 (0 : Int64) h21).bind fun h29 => (some h29))))))
-- AllHome.row(III)I
noncomputable def m_Home_row (a0 : Nat) (x1 : Int32) (x2 : Int32) (x3 : Int32) (h : zH) : Option (Int32 × zH) :=
  ((m_Home_isShelf x1 h).bind fun v1 => (if v1 = 0 then (some ((-1 : Int32), h))
  else (if x2 < 0 then (some ((-1 : Int32), h))
    else (if (nI 4) < x2 then (some ((-1 : Int32), h))
      else (if x3 ≤ (nI 60) then (if 0 ≤ x3 then ((zrR h a0 6 11).bind fun v32 => ((zaR 4 h v32 x1).bind fun v36 => ((zcv h v36 5 (m_Shelf_holdRow v36 x2 x3 h)).bind fun h39 => (some ((nI 1), h39)))))
          else (some ((-14 : Int32), h)))
        else (some ((-1 : Int32), h)))))))
-- AllHome$Shelf.isRow()Z
noncomputable def m_Shelf_isRow (a0 : Nat) (h : zH) : Option Int32 :=
  ((zrI h a0 5 2).bind fun v1 => (if v1 = (-1 : Int32) then (some (nI 0))
  else (some (nI 1))))
-- AllHome.wantPlace(II)I
noncomputable def m_Home_wantPlace (a0 : Nat) (x1 : Int32) (x2 : Int32) (h : zH) : Option Int32 :=
  ((m_Home_isShelf x1 h).bind fun v1 => (if v1 = 0 then (some (-1 : Int32))
  else ((zrR h a0 6 11).bind fun v10 => ((zaR 4 h v10 x1).bind fun v14 => ((zcv h v14 5 (m_Shelf_isEmpty v14 h)).bind fun v15 => (if v15 = 0 then ((zrR h a0 6 11).bind fun v25 => ((zaR 4 h v25 x1).bind fun v29 => ((zcv h v29 5 (m_Shelf_isRow v29 h)).bind fun v30 => (if v30 = 0 then (some (-12 : Int32))
      else ((zrR h a0 6 11).bind fun v40 => ((zaR 4 h v40 x1).bind fun v44 => ((zcv h v44 5 (m_Shelf_hasPlace v44 x2 h)).bind fun v46 => (if v46 = 0 then (some (-13 : Int32))
        else (some (nI 1))))))))))
    else (some (-11 : Int32))))))))
-- AllHome$Shelf.lowestBits(J)J
noncomputable def m_Shelf_lowestBits (a0 : Nat) (x1 : Int64) (h : zH) : Option Int64 :=
  ((zrI h a0 5 2).bind fun v1 => (if v1 = (nI 0) then (some x1.toInt32.toInt8.toInt32.toInt64)
  else (if v1 = (nI 1) then (some x1.toInt32.toInt16.toInt32.toInt64)
  else (if v1 = (nI 2) then (some x1.toInt32.toInt64)
  else (if v1 = (nI 3) then (some x1)
  else (if v1 = (nI 4) then (if (lg_cmp x1 (0 : Int64)) = 0 then (some (0 : Int64))
            else (some (1 : Int64)))
  else (some x1)))))))
-- AllHome$Shelf.set(IJ)V
noncomputable def m_Shelf_set (a0 : Nat) (x1 : Int32) (x2 : Int64) (h : zH) : Option zH :=
  ((zcv h a0 5 (m_Shelf_hasPlace a0 x1 h)).bind fun v2 => (if v2 = 0 then (some h)
  else ((zrR h a0 5 0).bind fun v9 => ((zcv h a0 5 (m_Shelf_lowestBits a0 x2 h)).bind fun v15 => ((zsJ h v9 x1 v15).bind fun h18 => (some h18))))))
-- AllHome.put(IIJ)I
noncomputable def m_Home_put (a0 : Nat) (x1 : Int32) (x2 : Int32) (x3 : Int64) (h : zH) : Option (Int32 × zH) :=
  ((zcv h a0 6 (m_Home_wantPlace a0 x1 x2 h)).bind fun v3 => (if 0 ≤ v3 then ((zrR h a0 6 11).bind fun v17 => ((zaR 4 h v17 x1).bind fun v21 => ((zcv h v21 5 (m_Shelf_set v21 x2 x3 h)).bind fun h24 => (some ((nI 1), h24)))))
  else (some (v3, h))))
-- AllHome.element(II)J
noncomputable def m_Home_element (a0 : Nat) (x1 : Int32) (x2 : Int32) (h : zH) : Option Int64 :=
  ((zcv h a0 6 (m_Home_wantPlace a0 x1 x2 h)).bind fun v3 => (if 0 ≤ v3 then ((zrR h a0 6 11).bind fun v16 => ((zaR 4 h v16 x1).bind fun v20 => ((zcv h v20 5 (m_Shelf_at v20 x2 h)).bind fun v22 => (some v22))))
  else (some (-9223372036854775808 : Int64))))
-- AllHome$Shelf.sort()I
noncomputable def m_Shelf_sort (a0 : Nat) (h : zH) : Option Int32 :=
  ((zrI h a0 5 2).bind fun v1 => (some v1))
-- AllHome$Shelf.hasPlaces(II)Z
noncomputable def m_Shelf_hasPlaces (a0 : Nat) (x1 : Int32) (x2 : Int32) (h : zH) : Option Int32 :=
  (if x2 < 0 then (some (nI 0))
  else (if x1 < 0 then (some (nI 0))
    else ((zrI h a0 5 1).bind fun v10 => (if (v10 - x2) < x1 then (some (nI 0))
      else (some (nI 1))))))
-- AllHome$Shelf.copyTo(ILAllHome$Shelf;II)V
noncomputable def m_Shelf_copyTo (a0 : Nat) (x1 : Int32) (a2 : Nat) (x3 : Int32) (x4 : Int32) (h : zH) : Option zH :=
  ((zcv h a0 5 (m_Shelf_hasPlaces a0 x1 x4 h)).bind fun v4 => (if v4 = 0 then (some h)
  else ((zcv h a2 5 (m_Shelf_hasPlaces a2 x3 x4 h)).bind fun v14 => (if v14 = 0 then (some h)
    else ((zrR h a0 5 0).bind fun v21 => ((zrR h a2 5 0).bind fun v26 => ((zcpJ h v21 x1 v26 x3 x4).bind fun h32 => (some h32))))))))
-- AllHome.shift(IIIII)I
noncomputable def m_Home_shift (a0 : Nat) (x1 : Int32) (x2 : Int32) (x3 : Int32) (x4 : Int32) (x5 : Int32) (h : zH) : Option (Int32 × zH) :=
  ((m_Home_isShelf x1 h).bind fun v1 => (if v1 = 0 then (some ((-1 : Int32), h))
  else ((m_Home_isShelf x3 h).bind fun v8 => (if v8 = 0 then (some ((-1 : Int32), h))
    else ((zrR h a0 6 11).bind fun v17 => ((zaR 4 h v17 x1).bind fun v21 => ((zrR h a0 6 11).bind fun v25 => ((zaR 4 h v25 x3).bind fun v29 => ((zcv h v21 5 (m_Shelf_isEmpty v21 h)).bind fun v34 => (if v34 = 0 then ((zcv h v29 5 (m_Shelf_isEmpty v29 h)).bind fun v42 => (if v42 = 0 then ((zcv h v21 5 (m_Shelf_isRow v21 h)).bind fun v53 => (if v53 = 0 then (some ((-12 : Int32), h))
          else ((zcv h v21 5 (m_Shelf_sort v21 h)).bind fun v63 => ((zcv h v29 5 (m_Shelf_isRowOf v29 v63 h)).bind fun v66 => (if v66 = 0 then (some ((-12 : Int32), h))
            else ((zcv h v21 5 (m_Shelf_hasPlaces v21 x2 x5 h)).bind fun v80 => (if v80 = 0 then (some ((-13 : Int32), h))
              else ((zcv h v29 5 (m_Shelf_hasPlaces v29 x4 x5 h)).bind fun v92 => (if v92 = 0 then (some ((-13 : Int32), h))
                else ((zcv h v21 5 (m_Shelf_copyTo v21 x2 v29 x4 x5 h)).bind fun h110 => (some (x5, h110))))))))))))
        else (some ((-11 : Int32), h))))
      else (some ((-11 : Int32), h))))))))))))
-- AllHome$Shelf.heldWay()I
noncomputable def m_Shelf_heldWay (a0 : Nat) (h : zH) : Option Int32 :=
  ((zrI h a0 5 3).bind fun v1 => (some v1))
-- AllHome.taken(II)I
noncomputable def m_Home_taken (a0 : Nat) (x1 : Int32) (x2 : Int32) (h : zH) : Option Int32 :=
  ((m_Home_isShelf x1 h).bind fun v1 => (if v1 = 0 then (some (-1 : Int32))
  else ((m_Home_isKind x2 h).bind fun v8 => (if v8 = 0 then (some (-1 : Int32))
    else ((zrR h a0 6 11).bind fun v17 => ((zaR 4 h v17 x1).bind fun v21 => ((zcv h v21 5 (m_Shelf_isEmpty v21 h)).bind fun v22 => (if v22 = 0 then ((zrR h a0 6 11).bind fun v32 => ((zaR 4 h v32 x1).bind fun v36 => ((zcv h v36 5 (m_Shelf_heldWay v36 h)).bind fun v37 => ((zcv h a0 6 (m_Home_isWay a0 v37 h)).bind fun v43 => (if v43 = 0 then (some (-12 : Int32))
        else ((zrR h a0 6 3).bind fun v50 => ((zaI h v50 v37).bind fun v54 => ((m_Home_isUnder v54 x2 h).bind fun v56 => (if v56 = 0 then (some (-12 : Int32))
          else ((zrR h a0 6 3).bind fun v66 => ((zaI h v66 v37).bind fun v70 => (some v70))))))))))))
      else (some (-11 : Int32))))))))))
-- AllHome$Acts.ran()I
noncomputable def m_Acts_ran (a0 : Nat) (h : zH) : Option Int32 :=
  ((zrI h a0 0 1).bind fun v1 => (some v1))
-- AllHome.count(I)I
noncomputable def m_Home_count (a0 : Nat) (x1 : Int32) (h : zH) : Option Int32 :=
  (if x1 = (nI 0) then ((zrR h a0 6 2).bind fun v37 => ((zcv h v37 1 (m_Huts_size v37 h)).bind fun v40 => (some v40)))
  else (if x1 = (nI 1) then ((zrI h a0 6 4).bind fun v45 => (some v45))
  else (if x1 = (nI 2) then ((zrI h a0 6 6).bind fun v50 => (some v50))
  else (if x1 = (nI 3) then ((zrI h a0 6 1).bind fun v55 => (some v55))
  else (if x1 = (nI 4) then ((zrR h a0 6 10).bind fun v60 => ((zcv h v60 0 (m_Acts_ran v60 h)).bind fun v63 => (some v63)))
  else (some (-1 : Int32)))))))
-- AllHomeModel.within(JJJ)Z
noncomputable def m_Model_within (x0 : Int64) (x2 : Int64) (x4 : Int64) (h : zH) : Option Int32 :=
  (if (lg_cmp x0 x2) < 0 then (some (nI 0))
  else (if 0 < (lg_cmp x0 x4) then (some (nI 0))
    else (some (nI 1))))
-- AllHomeModel.isHut(I)Z
noncomputable def m_Model_isHut (a0 : Nat) (x1 : Int32) (h : zH) : Option Int32 :=
  (if x1 < 0 then (some (nI 0))
  else ((zrI h a0 7 4).bind fun v6 => (if v6 ≤ x1 then (some (nI 0))
    else (some (nI 1)))))
-- AllHomeModel.isWay(I)Z
noncomputable def m_Model_isWay (a0 : Nat) (x1 : Int32) (h : zH) : Option Int32 :=
  (if x1 < 0 then (some (nI 0))
  else ((zrI h a0 7 6).bind fun v6 => (if v6 ≤ x1 then (some (nI 0))
    else (some (nI 1)))))
-- AllHomeModel.feed(II)I
noncomputable def g_Model_feed_30 (a0 : Nat) (x1 : Int32) (x2 : Int32) (k30 : (Int32 × zH) → Option (Int32 × zH)) (u : Int32 × zH) : Option (Int32 × zH) :=
(if x1 ≤ u.1 then ((zrI u.2 a0 7 1).bind fun v71 => (some (v71, u.2)))
  else ((zrR u.2 a0 7 0).bind fun v36 => ((zrI u.2 a0 7 1).bind fun v40 => ((zsI u.2 v36 v40 ((x2 >>> (((nI 8) * u.1) &&& 31)) &&& (nI 255))).bind fun h53 => ((zrI h53 a0 7 1).bind fun v56 => ((zwI h53 a0 7 1 (v56 + (nI 1))).bind fun h61 => (k30 ((u.1 + (nI 1)), h61))))))))
noncomputable def m_Model_feed (a0 : Nat) (x1 : Int32) (x2 : Int32) (h : zH) : Option (Int32 × zH) :=
  ((m_Model_within x1.toInt64 (1 : Int64) (4 : Int64) h).bind fun v6 => (if v6 = 0 then (some ((-1 : Int32), h))
  else ((zrI h a0 7 1).bind fun v15 => (if (v15 + x1) ≤ (nI 60) then (zloop (g_Model_feed_30 a0 x1 x2) zN ((nI 0), h))
    else (some ((-3 : Int32), h))))))
-- AllHomeModel.isOther(II)Z
noncomputable def m_Model_isOther (x0 : Int32) (x1 : Int32) (h : zH) : Option Int32 :=
  ((m_Model_within x0.toInt64 (97 : Int64) (102 : Int64) h).bind fun v8 => (if v8 = 0 then (some (nI 0))
  else (if (x0 - (nI 97)) = x1 then (some (nI 0))
    else (some (nI 1)))))
-- AllHomeModel.faultOf(I)I
noncomputable def g_Model_faultOf_2 (a0 : Nat) (x1 : Int32) (h : zH) (k2 : (Int32) → Option Int32) (u : Int32) : Option Int32 :=
((zrI h a0 7 1).bind fun v4 => (if v4 ≤ u then (some (-1 : Int32))
  else ((zrR h a0 7 0).bind fun v11 => ((zaI h v11 u).bind fun v15 => ((m_Model_within v15.toInt64 (50 : Int64) (57 : Int64) h).bind fun v25 => (if v25 = 0 then (if v15 = (nI 59) then (k2 (u + (nI 1)))
      else ((m_Model_isOther v15 x1 h).bind fun v65 => (if v65 = 0 then (some u)
        else (k2 (u + (nI 1))))))
    else ((zrI h a0 7 1).bind fun v36 => (if (u + (nI 1)) = v36 then (some (u + (nI 1)))
      else ((zrR h a0 7 0).bind fun v43 => ((zaI h v43 (u + (nI 1))).bind fun v47 => ((m_Model_isOther v47 x1 h).bind fun v49 => (if v49 = 0 then (some (u + (nI 1)))
        else (k2 ((u + (nI 1)) + (nI 1)))))))))))))))
noncomputable def m_Model_faultOf (a0 : Nat) (x1 : Int32) (h : zH) : Option Int32 :=
  (zloop (g_Model_faultOf_2 a0 x1 h) zN (nI 0))
-- AllHomeModel.hut()I
noncomputable def g_Model_hut_52 (a0 : Nat) (x2 : Int32) (k52 : (Int32 × zH) → Option (Int32 × zH)) (u : Int32 × zH) : Option (Int32 × zH) :=
(if x2 ≤ u.1 then ((zrR u.2 a0 7 3).bind fun v84 => ((zrI u.2 a0 7 4).bind fun v88 => ((zsI u.2 v84 v88 x2).bind fun h92 => ((zrI h92 a0 7 4).bind fun v95 => ((zwI h92 a0 7 4 (v95 + (nI 1))).bind fun h100 => ((zrI h100 a0 7 4).bind fun v104 => (some ((v104 - (nI 1)), h100))))))))
  else ((zrR u.2 a0 7 2).bind fun v58 => ((zrI u.2 a0 7 4).bind fun v64 => ((zrR u.2 a0 7 0).bind fun v71 => ((zaI u.2 v71 u.1).bind fun v75 => ((zsI u.2 v58 (((nI 60) * v64) + u.1) v75).bind fun h76 => (k52 ((u.1 + (nI 1)), h76))))))))
noncomputable def m_Model_hut (a0 : Nat) (h : zH) : Option (Int32 × zH) :=
  ((zrI h a0 7 19).bind fun v1 => (if v1 ≤ 0 then ((zrI h a0 7 4).bind fun v11 => (if v11 = (nI 6) then (some ((-3 : Int32), h))
    else ((zrI h a0 7 4).bind fun v24 => ((zcv h a0 7 (m_Model_faultOf a0 v24 h)).bind fun v27 => ((zrI h a0 7 1).bind fun v32 => ((zwI h a0 7 1 (nI 0)).bind fun h38 => (if v27 < 0 then (zloop (g_Model_hut_52 a0 v32) zN ((nI 0), h38))
      else (some (((-100 : Int32) - v27), h38)))))))))
  else (some ((-5 : Int32), h))))
-- AllHomeModel.lines(I)I
noncomputable def g_Model_lines_4 (a0 : Nat) (x1 : Int32) (h : zH) (k4 : (Int32 × Int32) → Option Int32) (u : Int32 × Int32) : Option Int32 :=
((zrR h a0 7 3).bind fun v6 => ((zaI h v6 x1).bind fun v10 => (if v10 ≤ u.2 then (some u.1)
  else ((zrR h a0 7 2).bind fun v16 => ((zaI h v16 (((nI 60) * x1) + u.2)).bind fun v25 => (if v25 = (nI 59) then (k4 ((u.1 + (nI 1)), (u.2 + (nI 1))))
    else (k4 ((u.1 + (nI 0)), (u.2 + (nI 1))))))))))
noncomputable def m_Model_lines (a0 : Nat) (x1 : Int32) (h : zH) : Option Int32 :=
  (zloop (g_Model_lines_4 a0 x1 h) zN ((nI 1), (nI 0)))
-- AllHomeModel.inLine(III)I
noncomputable def g_Model_inLine_15 (a0 : Nat) (x1 : Int32) (x2 : Int32) (x3 : Int32) (h : zH) (k15 : (Int32 × Int32 × Int32 × Int32) → Option Int32) (u : Int32 × Int32 × Int32 × Int32) : Option Int32 :=
((zrR h a0 7 3).bind fun v18 => ((zaI h v18 x1).bind fun v22 => (if v22 ≤ u.2.2.2 then (if 0 ≤ x3 then (some (-1 : Int32))
    else (some u.2.1))
  else ((zrR h a0 7 2).bind fun v27 => ((zaI h v27 (((nI 60) * x1) + u.2.2.2)).bind fun v37 => (if v37 = (nI 59) then (k15 ((u.1 + (nI 1)), u.2.1, u.2.2.1, (u.2.2.2 + (nI 1))))
    else ((m_Model_within v37.toInt64 (50 : Int64) (57 : Int64) h).bind fun v62 => (if v62 = 0 then (if u.1 = x2 then (if x3 < u.2.1 then (k15 (u.1, (u.2.1 + u.2.2.1), (nI 1), (u.2.2.2 + (nI 1))))
          else (if (u.2.1 + u.2.2.1) ≤ x3 then (k15 (u.1, (u.2.1 + u.2.2.1), (nI 1), (u.2.2.2 + (nI 1))))
            else (some (v37 - (nI 97)))))
        else (k15 (u.1, u.2.1, (nI 1), (u.2.2.2 + (nI 1)))))
      else (k15 (u.1, u.2.1, (v37 - (nI 48)), (u.2.2.2 + (nI 1))))))))))))
noncomputable def m_Model_inLine (a0 : Nat) (x1 : Int32) (x2 : Int32) (x3 : Int32) (h : zH) : Option Int32 :=
  (zloop (g_Model_inLine_15 a0 x1 x2 x3 h) zN ((nI 0), (nI 0), (nI 1), (nI 0)))
-- AllHomeModel.line(II)I
noncomputable def g_Model_line_27 (a0 : Nat) (x1 : Int32) (x2 : Int32) (y0 : Int64) (y1 : Int64) (c2 : Nat) (y3 : Int32) (h : zH) : Option Int32 :=
((zcv h c2 7 (m_Model_lines c2 y3 h)).bind fun v27 => ((m_Model_within y0 y1 (v27 - (nI 1)).toInt64 h).bind fun v33 => (if v33 = 0 then (some (-1 : Int32))
  else (if 0 ≤ x2 then ((zcv h a0 7 (m_Model_inLine a0 x1 x2 (-1 : Int32) h)).bind fun v57 => (some v57))
    else ((zcv h a0 7 (m_Model_lines a0 x1 h)).bind fun v47 => (some v47))))))
noncomputable def m_Model_line (a0 : Nat) (x1 : Int32) (x2 : Int32) (h : zH) : Option Int32 :=
  ((zcv h a0 7 (m_Model_isHut a0 x1 h)).bind fun v2 => (if v2 = 0 then (some (-1 : Int32))
  else ((zcv h a0 7 (m_Model_isHut a0 x1 h)).bind fun v16 => (if v16 = 0 then (g_Model_line_27 a0 x1 x2 x2.toInt64 (-1 : Int64) a0 (nI 0) h)
    else (g_Model_line_27 a0 x1 x2 x2.toInt64 (-1 : Int64) a0 x1 h)))))
-- AllHomeModel.goesTo(III)I
noncomputable def g_Model_goesTo_25 (a0 : Nat) (x1 : Int32) (x2 : Int32) (x3 : Int32) (y0 : Int64) (y1 : Int64) (c2 : Nat) (y3 : Int32) (h : zH) : Option Int32 :=
((zcv h c2 7 (m_Model_lines c2 y3 h)).bind fun v25 => ((m_Model_within y0 y1 (v25 - (nI 1)).toInt64 h).bind fun v31 => (if v31 = 0 then (some (-1 : Int32))
  else (if 0 ≤ x3 then ((zcv h a0 7 (m_Model_inLine a0 x1 x2 x3 h)).bind fun v47 => (some v47))
    else (some (-1 : Int32))))))
noncomputable def m_Model_goesTo (a0 : Nat) (x1 : Int32) (x2 : Int32) (x3 : Int32) (h : zH) : Option Int32 :=
  ((zcv h a0 7 (m_Model_isHut a0 x1 h)).bind fun v2 => (if v2 = 0 then (some (-1 : Int32))
  else ((zcv h a0 7 (m_Model_isHut a0 x1 h)).bind fun v14 => (if v14 = 0 then (g_Model_goesTo_25 a0 x1 x2 x3 x2.toInt64 (0 : Int64) a0 (nI 0) h)
    else (g_Model_goesTo_25 a0 x1 x2 x3 x2.toInt64 (0 : Int64) a0 x1 h)))))
-- AllHomeModel.way(I)I
noncomputable def m_Model_way (a0 : Nat) (x1 : Int32) (h : zH) : Option (Int32 × zH) :=
  ((m_Model_within x1.toInt64 (0 : Int64) (8 : Int64) h).bind fun v6 => (if v6 = 0 then (some ((-1 : Int32), h))
  else ((zrI h a0 7 6).bind fun v15 => (if v15 = (nI 10) then (some ((-3 : Int32), h))
    else ((zrR h a0 7 5).bind fun v27 => ((zrI h a0 7 6).bind fun v31 => ((zsI h v27 v31 x1).bind fun h35 => ((zrI h35 a0 7 6).bind fun v38 => ((zwI h35 a0 7 6 (v38 + (nI 1))).bind fun h43 => ((zrI h43 a0 7 6).bind fun v47 => (some ((v47 - (nI 1)), h43))))))))))))
-- AllHomeModel.kindOf(I)I
noncomputable def m_Model_kindOf (a0 : Nat) (x1 : Int32) (h : zH) : Option Int32 :=
  ((zcv h a0 7 (m_Model_isWay a0 x1 h)).bind fun v2 => (if v2 = 0 then (some (-1 : Int32))
  else ((zrR h a0 7 5).bind fun v9 => ((zaI h v9 x1).bind fun v13 => (some v13)))))
-- AllHomeModel.above(I)I
noncomputable def m_Model_above (x0 : Int32) (h : zH) : Option Int32 :=
  (if x0 = (nI 4) then (some (nI 3))
  else (if x0 = (nI 5) then (some (nI 3))
    else (if x0 = (nI 6) then (some (nI 2))
      else (if x0 = (nI 7) then (some (nI 4))
        else (if x0 = (nI 8) then (some (nI 5))
          else (some (nI 0)))))))
-- AllHomeModel.isUnder(II)Z
noncomputable def g_Model_isUnder_2 (x1 : Int32) (h : zH) (k2 : (Int32) → Option Int32) (u : Int32) : Option Int32 :=
(if u = x1 then (if u = x1 then (some (nI 1))
    else (some (nI 0)))
  else (if u ≤ 0 then (if u = x1 then (some (nI 1))
      else (some (nI 0)))
    else ((m_Model_above u h).bind fun v12 => (k2 v12))))
noncomputable def m_Model_isUnder (x0 : Int32) (x1 : Int32) (h : zH) : Option Int32 :=
  (zloop (g_Model_isUnder_2 x1 h) zN x0)
-- AllHomeModel.begin(I)V
noncomputable def g_Model_begin_121 (a0 : Nat) (c0 : Nat) (y1 : Int32) (h : zH) : Option zH :=
((zsI h c0 y1 (nI 1)).bind fun h126 => ((zwI h126 a0 7 8 (nI 0)).bind fun h129 => ((zwI h129 a0 7 9 (nI 0)).bind fun h134 => (some h134))))
noncomputable def g_Model_begin_105 (a0 : Nat) (x1 : Int32) (h : zH) : Option zH :=
((zrR h a0 7 7).bind fun v106 => (if x1 = (nI 2) then (g_Model_begin_121 a0 v106 (nI 5) h)
  else (if x1 = (nI 6) then (g_Model_begin_121 a0 v106 (nI 5) h)
    else ((zsI h v106 (nI 5) (nI 0)).bind fun h126 => ((zwI h126 a0 7 8 (nI 0)).bind fun h129 => ((zwI h129 a0 7 9 (nI 0)).bind fun h134 => (some h134)))))))
noncomputable def g_Model_begin_28 (a0 : Nat) (x1 : Int32) (k28 : (Int32 × zH) → Option zH) (u : Int32 × zH) : Option zH :=
((zrI u.2 a0 7 4).bind fun v30 => (if v30 ≤ u.1 then ((zrR u.2 a0 7 7).bind fun v70 => ((zsI u.2 v70 (nI 0) (nI 1)).bind fun h75 => ((zrR h75 a0 7 7).bind fun v77 => ((zsI h75 v77 (nI 1) (nI 1)).bind fun h82 => (if x1 = (nI 1) then ((zrR h82 a0 7 7).bind fun v89 => ((zsI h82 v89 (nI 3) (nI 64)).bind fun h95 => ((zrR h95 a0 7 7).bind fun v97 => ((zsI h95 v97 (nI 86) (nI 64)).bind fun h104 => (g_Model_begin_105 a0 x1 h104)))))
    else (g_Model_begin_105 a0 x1 h82))))))
  else ((zrR u.2 a0 7 7).bind fun v37 => (if x1 = (nI 2) then ((zsI u.2 v37 (((nI 6) * u.1) + (nI 4)) (-1 : Int32)).bind fun h62 => (k28 ((u.1 + (nI 1)), h62)))
    else (if x1 = (nI 6) then ((zsI u.2 v37 (((nI 6) * u.1) + (nI 4)) (-1 : Int32)).bind fun h62 => (k28 ((u.1 + (nI 1)), h62)))
      else ((zsI u.2 v37 (((nI 6) * u.1) + (nI 4)) (nI 0)).bind fun h62 => (k28 ((u.1 + (nI 1)), h62))))))))
noncomputable def g_Model_begin_7 (a0 : Nat) (x1 : Int32) (k7 : (Int32 × zH) → Option zH) (u : Int32 × zH) : Option zH :=
(if (nI 91) ≤ u.1 then (zloop (g_Model_begin_28 a0 x1) zN ((nI 0), u.2))
  else ((zrR u.2 a0 7 7).bind fun v14 => ((zsI u.2 v14 u.1 (nI 0)).bind fun h19 => (k7 ((u.1 + (nI 1)), h19)))))
noncomputable def m_Model_begin (a0 : Nat) (x1 : Int32) (h : zH) : Option zH :=
  ((zwI h a0 7 10 x1).bind fun h2 => (zloop (g_Model_begin_7 a0 x1) zN ((nI 0), h2)))
-- AllHomeModel.of(II)I
noncomputable def m_Model_of (a0 : Nat) (x1 : Int32) (x2 : Int32) (h : zH) : Option Int32 :=
  ((zrR h a0 7 7).bind fun v1 => ((zaI h v1 (((nI 6) * x1) + x2)).bind fun v10 => (some v10)))
-- AllHomeModel.add(III)V
noncomputable def m_Model_add (a0 : Nat) (x1 : Int32) (x2 : Int32) (x3 : Int32) (h : zH) : Option zH :=
  ((zrR h a0 7 7).bind fun v1 => ((zaI h v1 (((nI 6) * x1) + x2)).bind fun v11 => ((zsI h v1 (((nI 6) * x1) + x2) (v11 + x3)).bind fun h14 => (some h14))))
-- AllHomeModel.become(III)V
noncomputable def m_Model_become (a0 : Nat) (x1 : Int32) (x2 : Int32) (x3 : Int32) (h : zH) : Option zH :=
  ((zrR h a0 7 7).bind fun v1 => ((zsI h v1 (((nI 6) * x1) + x2) x3).bind fun h11 => (some h11)))
-- AllHomeModel.words()I
noncomputable def m_Model_words (a0 : Nat) (h : zH) : Option Int32 :=
  ((zrR h a0 7 7).bind fun v1 => ((zaI h v1 (nI 36)).bind fun v6 => (some v6)))
-- AllHomeModel.notes()I
noncomputable def m_Model_notes (a0 : Nat) (h : zH) : Option Int32 :=
  ((zrR h a0 7 7).bind fun v1 => ((zaI h v1 (nI 61)).bind fun v6 => (some v6)))
-- AllHomeModel.putLast(IIII)V
noncomputable def m_Model_putLast (a0 : Nat) (x1 : Int32) (x2 : Int32) (x3 : Int32) (x4 : Int32) (h : zH) : Option zH :=
  ((zrR h a0 7 7).bind fun v1 => ((zaI h v1 x1).bind fun v5 => (if v5 = (nI 8) then ((zwZ h a0 7 11 (nI 1)).bind fun h17 => (some h17))
  else ((zrR h a0 7 7).bind fun v22 => ((zsI h v22 ((x1 + (nI 1)) + ((nI 3) * v5)) x2).bind fun h34 => ((zrR h34 a0 7 7).bind fun v36 => ((zsI h34 v36 ((x1 + (nI 2)) + ((nI 3) * v5)) x3).bind fun h48 => ((zrR h48 a0 7 7).bind fun v50 => ((zsI h48 v50 ((x1 + (nI 3)) + ((nI 3) * v5)) x4).bind fun h63 => ((zrR h63 a0 7 7).bind fun v65 => ((zaI h63 v65 x1).bind fun v70 => ((zsI h63 v65 x1 (v70 + (nI 1))).bind fun h73 => (some h73)))))))))))))
-- AllHomeModel.takeOut(II)V
noncomputable def g_Model_takeOut_53 (a0 : Nat) (x1 : Int32) (x3 : Int32) (k53 : (Int32 × zH) → Option zH) (u : Int32 × zH) : Option zH :=
(if (nI 3) ≤ u.1 then ((zrR u.2 a0 7 7).bind fun v82 => ((zsI u.2 v82 x1 x3).bind fun h87 => (some h87)))
  else ((zrR u.2 a0 7 7).bind fun v60 => ((zsI u.2 v60 (((x1 + (nI 1)) + ((nI 3) * x3)) + u.1) (nI 0)).bind fun h74 => (k53 ((u.1 + (nI 1)), h74)))))
noncomputable def g_Model_takeOut_14 (a0 : Nat) (x1 : Int32) (x3 : Int32) (k14 : (Int32 × zH) → Option zH) (u : Int32 × zH) : Option zH :=
(if ((nI 3) * x3) ≤ u.1 then (zloop (g_Model_takeOut_53 a0 x1 x3) zN ((nI 0), u.2))
  else ((zrR u.2 a0 7 7).bind fun v23 => ((zrR u.2 a0 7 7).bind fun v33 => ((zaI u.2 v33 ((x1 + (nI 4)) + u.1)).bind fun v42 => ((zsI u.2 v23 ((x1 + (nI 1)) + u.1) v42).bind fun h43 => (k14 ((u.1 + (nI 1)), h43)))))))
noncomputable def m_Model_takeOut (a0 : Nat) (x1 : Int32) (x2 : Int32) (h : zH) : Option zH :=
  ((zrR h a0 7 7).bind fun v1 => ((zaI h v1 x1).bind fun v5 => (zloop (g_Model_takeOut_14 a0 x1 (v5 - (nI 1))) zN (((nI 3) * x2), h))))
-- AllHomeModel.sendNote(III)V
noncomputable def m_Model_sendNote (a0 : Nat) (x1 : Int32) (x2 : Int32) (x3 : Int32) (h : zH) : Option zH :=
  ((zcv h a0 7 (m_Model_putLast a0 (nI 61) x1 x2 x3 h)).bind fun h6 => ((zrI h6 a0 7 9).bind fun v11 => ((zwI h6 a0 7 9 (v11 + (nI 1))).bind fun h16 => (some h16))))
-- AllHomeModel.sendWord(II)V
noncomputable def g_Model_sendWord_117 (a0 : Nat) (x1 : Int32) (x2 : Int32) (x3 : Int32) (h : zH) : Option zH :=
((zrI h a0 7 4).bind fun v119 => (if v119 ≤ x2 then (some h)
  else ((zcv h a0 7 (m_Model_putLast a0 (nI 36) x1 x2 x3 h)).bind fun h131 => (some h131))))
noncomputable def g_Model_sendWord_57 (a0 : Nat) (x1 : Int32) (x2 : Int32) (h : zH) : Option zH :=
((zcv h a0 7 (m_Model_of a0 x1 (nI 3) h)).bind fun v60 => ((zcv h a0 7 (m_Model_add a0 x1 (nI 3) (-(v60 / (nI 2))) h)).bind fun h71 => (g_Model_sendWord_117 a0 x1 x2 (v60 / (nI 2)) h71)))
noncomputable def m_Model_sendWord (a0 : Nat) (x1 : Int32) (x2 : Int32) (h : zH) : Option zH :=
  ((zcv h a0 7 (m_Model_add a0 x1 (nI 2) (nI 1) h)).bind fun h4 => ((zrI h4 a0 7 8).bind fun v9 => ((zwI h4 a0 7 8 (v9 + (nI 1))).bind fun h14 => ((zrI h14 a0 7 10).bind fun v20 => (if v20 = (nI 1) then ((zcv h14 a0 7 (m_Model_of a0 x1 (nI 3) h14)).bind fun v30 => (if (nI 1) < v30 then (g_Model_sendWord_57 a0 x1 x2 h14)
    else ((zcv h14 a0 7 (m_Model_add a0 x1 (nI 3) (nI 64) h14)).bind fun h42 => ((zrR h42 a0 7 7).bind fun v46 => ((zaI h42 v46 (nI 86)).bind fun v52 => ((zsI h42 v46 (nI 86) (v52 + (nI 64))).bind fun h56 => (g_Model_sendWord_57 a0 x1 x2 h56)))))))
  else ((zrI h14 a0 7 10).bind fun v78 => ((m_Model_isUnder v78 (nI 2) h14).bind fun v82 => (if v82 = 0 then ((zrI h14 a0 7 10).bind fun v89 => ((m_Model_isUnder v89 (nI 4) h14).bind fun v93 => (if v93 = 0 then ((zrI h14 a0 7 10).bind fun v100 => ((m_Model_isUnder v100 (nI 5) h14).bind fun v104 => (if v104 = 0 then (g_Model_sendWord_117 a0 x1 x2 (nI 0) h14)
        else ((zcv h14 a0 7 (m_Model_add a0 x1 (nI 3) (nI 1) h14)).bind fun h114 => (g_Model_sendWord_117 a0 x1 x2 (nI 0) h114)))))
      else ((zcv h14 a0 7 (m_Model_add a0 x1 (nI 3) (nI 1) h14)).bind fun h114 => (g_Model_sendWord_117 a0 x1 x2 (nI 0) h114)))))
    else ((zcv h14 a0 7 (m_Model_add a0 x1 (nI 3) (nI 1) h14)).bind fun h114 => (g_Model_sendWord_117 a0 x1 x2 (nI 0) h114))))))))))
-- AllHomeModel.goOn(I)Z
noncomputable def g_Model_goOn_57 (a0 : Nat) (x1 : Int32) (y0 : Int32) (h : zH) : Option (Int32 × zH) :=
(if y0 < 0 then ((zcv h a0 7 (m_Model_become a0 x1 (nI 0) (nI 0) h)).bind fun h74 => ((zrI h74 a0 7 10).bind fun v78 => (if v78 = (nI 1) then (if x1 ≤ 0 then (some ((nI 1), h74))
      else ((zcv h74 a0 7 (m_Model_of a0 x1 (nI 3) h74)).bind fun v92 => (if v92 ≤ 0 then (some ((nI 1), h74))
        else ((zcv h74 a0 7 (m_Model_of a0 x1 (nI 3) h74)).bind fun v103 => ((zcv h74 a0 7 (m_Model_sendNote a0 (nI 0) v103 (nI 0) h74)).bind fun h107 => ((zcv h107 a0 7 (m_Model_become a0 x1 (nI 3) (nI 0) h107)).bind fun h114 => (some ((nI 1), h114))))))))
    else (some ((nI 1), h74)))))
  else ((zcv h a0 7 (m_Model_sendWord a0 x1 y0 h)).bind fun h65 => (some ((nI 1), h65))))
noncomputable def m_Model_goOn (a0 : Nat) (x1 : Int32) (h : zH) : Option (Int32 × zH) :=
  (if x1 < 0 then (some ((nI 0), h))
  else ((zrI h a0 7 4).bind fun v6 => (if v6 ≤ x1 then (some ((nI 0), h))
    else ((zcv h a0 7 (m_Model_of a0 x1 (nI 0) h)).bind fun v15 => (if v15 = 0 then (some ((nI 0), h))
      else ((zcv h a0 7 (m_Model_of a0 x1 (nI 1) h)).bind fun v26 => ((zcv h a0 7 (m_Model_lines a0 x1 h)).bind fun v35 => (if v35 ≤ (v26 - (nI 1)) then (g_Model_goOn_57 a0 x1 (-1 : Int32) h)
        else ((zcv h a0 7 (m_Model_of a0 x1 (nI 2) h)).bind fun v47 => ((zcv h a0 7 (m_Model_inLine a0 x1 (v26 - (nI 1)) v47 h)).bind fun v50 => (g_Model_goOn_57 a0 x1 v50 h)))))))))))
-- AllHomeModel.comes(I)Z
noncomputable def g_Model_comes_88 (a0 : Nat) (x2 : Int32) (x3 : Int32) (x4 : Int32) (h : zH) : Option (Int32 × zH) :=
((zrI h a0 7 10).bind fun v89 => (if v89 = (nI 1) then ((zcv h a0 7 (m_Model_add a0 x3 (nI 3) x4 h)).bind fun h101 => (some ((nI 1), h101)))
  else ((zrI h a0 7 10).bind fun v108 => ((m_Model_isUnder v108 (nI 2) h).bind fun v112 => (if v112 = 0 then ((zrI h a0 7 10).bind fun v155 => ((m_Model_isUnder v155 (nI 4) h).bind fun v159 => (if v159 = 0 then ((zrI h a0 7 10).bind fun v196 => ((m_Model_isUnder v196 (nI 5) h).bind fun v200 => (if v200 = 0 then (some ((nI 1), h))
        else ((zcv h a0 7 (m_Model_add a0 x3 (nI 4) (nI 1) h)).bind fun h210 => (some ((nI 1), h210))))))
      else ((zcv h a0 7 (m_Model_add a0 x3 (nI 3) (-1 : Int32) h)).bind fun h169 => ((zrI h169 a0 7 10).bind fun v176 => (if v176 = (nI 7) then ((zcv h169 a0 7 (m_Model_become a0 x3 (nI 4) (nI 0) h169)).bind fun h189 => (some ((nI 1), h189)))
        else ((zcv h169 a0 7 (m_Model_become a0 x3 (nI 4) (nI 1) h169)).bind fun h189 => (some ((nI 1), h189)))))))))
    else ((zcv h a0 7 (m_Model_of a0 x3 (nI 5) h)).bind fun v121 => (if v121 = 0 then ((zcv h a0 7 (m_Model_become a0 x3 (nI 5) (nI 1) h)).bind fun h131 => ((zcv h131 a0 7 (m_Model_become a0 x3 (nI 4) x2 h131)).bind fun h138 => (some ((nI 1), h138))))
      else ((zcv h a0 7 (m_Model_sendNote a0 x2 (nI 0) (nI 0) h)).bind fun h148 => (some ((nI 1), h148))))))))))
noncomputable def m_Model_comes (a0 : Nat) (x1 : Int32) (h : zH) : Option (Int32 × zH) :=
  (if x1 < 0 then (some ((nI 0), h))
  else ((zcv h a0 7 (m_Model_words a0 h)).bind fun v6 => (if x1 < v6 then ((zrR h a0 7 7).bind fun v15 => ((zaI h v15 ((nI 37) + ((nI 3) * x1))).bind fun v24 => ((zrR h a0 7 7).bind fun v27 => ((zaI h v27 ((nI 38) + ((nI 3) * x1))).bind fun v36 => ((zrR h a0 7 7).bind fun v39 => ((zaI h v39 ((nI 39) + ((nI 3) * x1))).bind fun v48 => ((zcv h a0 7 (m_Model_takeOut a0 (nI 36) x1 h)).bind fun h55 => ((zcv h55 a0 7 (m_Model_of a0 v36 (nI 0) h55)).bind fun v61 => (if v61 = 0 then ((zcv h55 a0 7 (m_Model_become a0 v36 (nI 0) (nI 1) h55)).bind fun h71 => ((zcv h71 a0 7 (m_Model_add a0 v36 (nI 1) (nI 1) h71)).bind fun h78 => ((zcv h78 a0 7 (m_Model_become a0 v36 (nI 2) (nI 0) h78)).bind fun h85 => (g_Model_comes_88 a0 v24 v36 v48 h85))))
      else (g_Model_comes_88 a0 v24 v36 v48 h55))))))))))
    else (some ((nI 0), h)))))
-- AllHomeModel.stoneAt(III)V
noncomputable def g_Model_stoneAt_74 (a0 : Nat) (x1 : Int32) (x2 : Int32) (y0 : Int32) (h : zH) : Option zH :=
((zcv h a0 7 (m_Model_become a0 x1 (nI 4) (nI 0) h)).bind fun h80 => ((zcv h80 a0 7 (m_Model_of a0 x1 (nI 3) h80)).bind fun v91 => ((zcv h80 a0 7 (m_Model_sendNote a0 (x1 - (nI 1)) (x2 + v91) y0 h80)).bind fun h97 => (some h97))))
noncomputable def g_Model_stoneAt_33 (a0 : Nat) (y0 : Int32) (h : zH) : Option zH :=
((zrR h a0 7 7).bind fun v36 => (if y0 = 0 then ((zrR h a0 7 7).bind fun v51 => ((zaI h v51 (nI 87)).bind fun v56 => ((zsI h v36 (nI 87) v56).bind fun h57 => (some h57))))
  else ((zsI h v36 (nI 87) (nI 1)).bind fun h57 => (some h57))))
noncomputable def m_Model_stoneAt (a0 : Nat) (x1 : Int32) (x2 : Int32) (x3 : Int32) (h : zH) : Option zH :=
  (if x1 = 0 then (if x3 = 0 then ((zcv h a0 7 (m_Model_of a0 (nI 0) (nI 4) h)).bind fun v11 => (if v11 = 0 then ((zcv h a0 7 (m_Model_of a0 (nI 0) (nI 3) h)).bind fun v21 => (if (x2 + v21) = 0 then (g_Model_stoneAt_33 a0 (nI 1) h)
        else (g_Model_stoneAt_33 a0 (nI 0) h)))
      else (g_Model_stoneAt_33 a0 (nI 0) h)))
    else (g_Model_stoneAt_33 a0 (nI 0) h))
  else ((zcv h a0 7 (m_Model_of a0 x1 (nI 4) h)).bind fun v62 => (if v62 = (nI 1) then (g_Model_stoneAt_74 a0 x1 x2 (nI 1) h)
    else (g_Model_stoneAt_74 a0 x1 x2 x3 h))))
-- AllHomeModel.sumsAt(III)V
noncomputable def g_Model_sumsAt_106 (a0 : Nat) (x2 : Int32) (x3 : Int32) (y0 : Int32) (h : zH) : Option zH :=
(if y0 = 0 then ((zrR h a0 7 7).bind fun v125 => ((zsI h v125 (nI 88) (nI 1)).bind fun h131 => ((zrR h131 a0 7 7).bind fun v133 => ((zsI h131 v133 (nI 89) x2).bind fun h139 => ((zrR h139 a0 7 7).bind fun v141 => ((zsI h139 v141 (nI 90) x3).bind fun h147 => (some h147)))))))
  else ((zrR h a0 7 7).bind fun v114 => ((zsI h v114 (nI 87) (nI 1)).bind fun h120 => (some h120))))
noncomputable def g_Model_sumsAt_80 (a0 : Nat) (x2 : Int32) (x3 : Int32) (y0 : Int32) (h : zH) : Option zH :=
(if x2 = x3 then ((zrI h a0 7 10).bind fun v88 => (if v88 = (nI 8) then (g_Model_sumsAt_106 a0 x2 x3 (nI 1) h)
    else (if y0 = 0 then (g_Model_sumsAt_106 a0 x2 x3 (nI 0) h)
      else (g_Model_sumsAt_106 a0 x2 x3 (nI 1) h))))
  else (g_Model_sumsAt_106 a0 x2 x3 (nI 0) h))
noncomputable def g_Model_sumsAt_22 (a0 : Nat) (x1 : Int32) (x2 : Int32) (x3 : Int32) (c0 : Nat) (y1 : Int32) (h : zH) : Option zH :=
((zcv h a0 7 (m_Model_of a0 x1 (nI 3) h)).bind fun v26 => ((zcv h a0 7 (m_Model_of a0 x1 (nI 4) h)).bind fun v34 => ((zcv h c0 7 (m_Model_sendNote c0 y1 (x2 + v26) (x3 + v34) h)).bind fun h38 => (some h38))))
noncomputable def m_Model_sumsAt (a0 : Nat) (x1 : Int32) (x2 : Int32) (x3 : Int32) (h : zH) : Option zH :=
  (if x1 ≤ 0 then ((zrR h a0 7 7).bind fun v43 => ((zaI h v43 (nI 88)).bind fun v48 => (if v48 = (nI 1) then ((zrR h a0 7 7).bind fun v54 => ((zaI h v54 (nI 89)).bind fun v59 => (if v59 = x2 then ((zrR h a0 7 7).bind fun v65 => ((zaI h v65 (nI 90)).bind fun v70 => (if v70 = x3 then (g_Model_sumsAt_80 a0 x2 x3 (nI 1) h)
        else (g_Model_sumsAt_80 a0 x2 x3 (nI 0) h))))
      else (g_Model_sumsAt_80 a0 x2 x3 (nI 0) h))))
    else (g_Model_sumsAt_80 a0 x2 x3 (nI 0) h))))
  else ((zrI h a0 7 4).bind fun v9 => (if v9 ≤ (x1 + (nI 1)) then (g_Model_sumsAt_22 a0 x1 x2 x3 a0 (nI 0) h)
    else (g_Model_sumsAt_22 a0 x1 x2 x3 a0 (x1 + (nI 1)) h))))
-- AllHomeModel.noteComes(I)Z
noncomputable def g_Model_noteComes_74 (a0 : Nat) (x1 : Int32) (x2 : Int32) (x3 : Int32) (x4 : Int32) (h : zH) : Option (Int32 × zH) :=
((zcv h a0 7 (m_Model_takeOut a0 (nI 61) x1 h)).bind fun h78 => ((zrI h78 a0 7 10).bind fun v82 => (if v82 = (nI 1) then ((zcv h78 a0 7 (m_Model_add a0 x2 (nI 3) x3 h78)).bind fun h93 => (some ((nI 1), h93)))
  else ((zrI h78 a0 7 10).bind fun v100 => ((m_Model_isUnder v100 (nI 2) h78).bind fun v104 => (if v104 = 0 then ((zrI h78 a0 7 10).bind fun v121 => ((m_Model_isUnder v121 (nI 4) h78).bind fun v125 => (if v125 = 0 then ((zrI h78 a0 7 10).bind fun v143 => ((m_Model_isUnder v143 (nI 5) h78).bind fun v147 => (if v147 = 0 then (some ((nI 1), h78))
        else ((zcv h78 a0 7 (m_Model_sumsAt a0 x2 x3 x4 h78)).bind fun h158 => (some ((nI 1), h158))))))
      else ((zcv h78 a0 7 (m_Model_stoneAt a0 x2 x3 x4 h78)).bind fun h136 => (some ((nI 1), h136))))))
    else ((zcv h78 a0 7 (m_Model_add a0 x2 (nI 3) (-1 : Int32) h78)).bind fun h114 => (some ((nI 1), h114)))))))))
noncomputable def m_Model_noteComes (a0 : Nat) (x1 : Int32) (h : zH) : Option (Int32 × zH) :=
  (if x1 < 0 then (some ((nI 0), h))
  else ((zcv h a0 7 (m_Model_notes a0 h)).bind fun v6 => (if x1 < v6 then ((zrR h a0 7 7).bind fun v15 => ((zaI h v15 ((nI 62) + ((nI 3) * x1))).bind fun v24 => ((zrR h a0 7 7).bind fun v27 => ((zaI h v27 ((nI 63) + ((nI 3) * x1))).bind fun v36 => ((zrR h a0 7 7).bind fun v39 => ((zaI h v39 ((nI 64) + ((nI 3) * x1))).bind fun v48 => ((zrI h a0 7 10).bind fun v52 => ((m_Model_isUnder v52 (nI 4) h).bind fun v56 => (if v56 = 0 then (g_Model_noteComes_74 a0 x1 v24 v36 v48 h)
      else ((zcv h a0 7 (m_Model_of a0 v24 (nI 0) h)).bind fun v65 => (if v65 = (nI 1) then (some ((nI 0), h))
        else (g_Model_noteComes_74 a0 x1 v24 v36 v48 h))))))))))))
    else (some ((nI 0), h)))))
-- AllHomeModel.asks(I)Z
noncomputable def g_Model_asks_59 (a0 : Nat) (c0 : Nat) (y1 : Int32) (h : zH) : Option (Int32 × zH) :=
((zcv h a0 7 (m_Model_of a0 (nI 0) (nI 3) h)).bind fun v62 => ((zcv h a0 7 (m_Model_of a0 (nI 0) (nI 4) h)).bind fun v68 => ((zcv h c0 7 (m_Model_sendNote c0 y1 v62 v68 h)).bind fun h71 => (some ((nI 1), h71)))))
noncomputable def m_Model_asks (a0 : Nat) (x1 : Int32) (h : zH) : Option (Int32 × zH) :=
  (if x1 = 0 then ((zrI h a0 7 10).bind fun v5 => ((m_Model_isUnder v5 (nI 3) h).bind fun v9 => (if v9 = 0 then (some ((nI 0), h))
    else ((zcv h a0 7 (m_Model_notes a0 h)).bind fun v16 => (if 0 < v16 then (some ((nI 0), h))
      else ((zcv h a0 7 (m_Model_of a0 (nI 0) (nI 0) h)).bind fun v25 => (if v25 = (nI 1) then (some ((nI 0), h))
        else ((zrI h a0 7 10).bind fun v35 => ((m_Model_isUnder v35 (nI 5) h).bind fun v39 => (if v39 = 0 then ((zrI h a0 7 10).bind fun v78 => ((m_Model_isUnder v78 (nI 4) h).bind fun v82 => (if v82 = 0 then (some ((nI 1), h))
            else ((zcv h a0 7 (m_Model_become a0 (nI 0) (nI 4) (nI 0) h)).bind fun h92 => ((zrI h92 a0 7 4).bind fun v97 => ((zcv h92 a0 7 (m_Model_sendNote a0 (v97 - (nI 1)) (nI 0) (nI 0) h92)).bind fun h104 => (some ((nI 1), h104))))))))
          else ((zrI h a0 7 4).bind fun v47 => (if v47 ≤ (nI 1) then (g_Model_asks_59 a0 a0 (nI 0) h)
            else (g_Model_asks_59 a0 a0 (nI 1) h)))))))))))))
  else (some ((nI 0), h)))
-- AllHomeModel.behind()V
noncomputable def g_Model_behind_126 (a0 : Nat) (h : zH) : Option zH :=
((zrI h a0 7 10).bind fun v127 => (if v127 = (nI 1) then ((zrR h a0 7 7).bind fun v135 => ((zcv h a0 7 (m_Model_of a0 (nI 0) (nI 0) h)).bind fun v143 => (if v143 = 0 then ((zcv h a0 7 (m_Model_of a0 (nI 0) (nI 3) h)).bind fun v152 => ((zrR h a0 7 7).bind fun v156 => ((zaI h v156 (nI 86)).bind fun v161 => (if v152 = v161 then ((zsI h v135 (nI 87) (nI 1)).bind fun h176 => (some h176))
      else ((zrR h a0 7 7).bind fun v170 => ((zaI h v170 (nI 87)).bind fun v175 => ((zsI h v135 (nI 87) v175).bind fun h176 => (some h176))))))))
    else ((zrR h a0 7 7).bind fun v170 => ((zaI h v170 (nI 87)).bind fun v175 => ((zsI h v135 (nI 87) v175).bind fun h176 => (some h176)))))))
  else (some h)))
noncomputable def g_Model_behind_58 (a0 : Nat) (x1 : Int32) (h : zH) (k13 : (Int32 × zH) → Option zH) : Option zH :=
((zcv h a0 7 (m_Model_of a0 x1 (nI 4) h)).bind fun v62 => ((zcv h a0 7 (m_Model_sendNote a0 v62 (nI 0) (nI 0) h)).bind fun h67 => ((zcv h67 a0 7 (m_Model_become a0 x1 (nI 5) (nI 0) h67)).bind fun h74 => ((zcv h74 a0 7 (m_Model_become a0 x1 (nI 4) (-1 : Int32) h74)).bind fun h81 => (k13 ((x1 + (nI 1)), h81))))))
noncomputable def g_Model_behind_13 (a0 : Nat) (k13 : (Int32 × zH) → Option zH) (u : Int32 × zH) : Option zH :=
((zrI u.2 a0 7 4).bind fun v15 => (if v15 ≤ u.1 then ((zrR u.2 a0 7 7).bind fun v91 => ((zcv u.2 a0 7 (m_Model_of a0 (nI 0) (nI 0) u.2)).bind fun v99 => (if v99 = 0 then ((zcv u.2 a0 7 (m_Model_of a0 (nI 0) (nI 3) u.2)).bind fun v108 => (if 0 < v108 then ((zrR u.2 a0 7 7).bind fun v119 => ((zaI u.2 v119 (nI 87)).bind fun v124 => ((zsI u.2 v91 (nI 87) v124).bind fun h125 => (g_Model_behind_126 a0 h125))))
      else ((zsI u.2 v91 (nI 87) (nI 1)).bind fun h125 => (g_Model_behind_126 a0 h125))))
    else ((zrR u.2 a0 7 7).bind fun v119 => ((zaI u.2 v119 (nI 87)).bind fun v124 => ((zsI u.2 v91 (nI 87) v124).bind fun h125 => (g_Model_behind_126 a0 h125)))))))
  else ((zcv u.2 a0 7 (m_Model_of a0 u.1 (nI 5) u.2)).bind fun v24 => (if v24 = (nI 1) then ((zcv u.2 a0 7 (m_Model_of a0 u.1 (nI 0) u.2)).bind fun v34 => (if v34 = 0 then ((zrI u.2 a0 7 10).bind fun v41 => (if v41 = (nI 6) then (g_Model_behind_58 a0 u.1 u.2 k13)
        else ((zcv u.2 a0 7 (m_Model_of a0 u.1 (nI 3) u.2)).bind fun v52 => (if v52 = 0 then (g_Model_behind_58 a0 u.1 u.2 k13)
          else (k13 ((u.1 + (nI 1)), u.2))))))
      else (k13 ((u.1 + (nI 1)), u.2))))
    else (k13 ((u.1 + (nI 1)), u.2))))))
noncomputable def m_Model_behind (a0 : Nat) (h : zH) : Option zH :=
  ((zrI h a0 7 10).bind fun v1 => ((m_Model_isUnder v1 (nI 2) h).bind fun v5 => (if v5 = 0 then (g_Model_behind_126 a0 h)
  else (zloop (g_Model_behind_13 a0) zN ((nI 1), h)))))
-- AllHomeModel.doStep(II)I
noncomputable def g_Model_doStep_105 (a0 : Nat) (x3 : Int32) (h : zH) : Option (Int32 × zH) :=
(if x3 = 0 then (some ((-5 : Int32), h))
  else ((zcv h a0 7 (m_Model_behind a0 h)).bind fun h113 => ((zrI h113 a0 7 11).bind fun v117 => (if v117 = 0 then (some ((nI 1), h113))
    else (some ((-3 : Int32), h113))))))
noncomputable def g_Model_doStep_92 (a0 : Nat) (x2 : Int32) (h : zH) : Option (Int32 × zH) :=
(if (nI 0) = 0 then (g_Model_doStep_105 a0 (nI 0) h)
  else ((zcv h a0 7 (m_Model_takeOut a0 (nI 36) x2 h)).bind fun h102 => (g_Model_doStep_105 a0 (nI 0) h102)))
noncomputable def m_Model_doStep (a0 : Nat) (x1 : Int32) (x2 : Int32) (h : zH) : Option (Int32 × zH) :=
  ((zwZ h a0 7 11 (nI 0)).bind fun h2 => (if x1 = (nI 0) then (zb2 (zcv h2 a0 7 (m_Model_goOn a0 x2 h2)) fun v42 h42 => (g_Model_doStep_105 a0 v42 h42))
  else (if x1 = (nI 1) then (zb2 (zcv h2 a0 7 (m_Model_comes a0 x2 h2)) fun v51 h51 => (g_Model_doStep_105 a0 v51 h51))
  else (if x1 = (nI 2) then (zb2 (zcv h2 a0 7 (m_Model_noteComes a0 x2 h2)) fun v60 h60 => (g_Model_doStep_105 a0 v60 h60))
  else (if x1 = (nI 3) then (zb2 (zcv h2 a0 7 (m_Model_asks a0 x2 h2)) fun v69 h69 => (g_Model_doStep_105 a0 v69 h69))
  else (if x2 < 0 then (g_Model_doStep_92 a0 x2 h2)
          else ((zcv h2 a0 7 (m_Model_words a0 h2)).bind fun v82 => (if v82 ≤ x2 then (g_Model_doStep_92 a0 x2 h2)
            else (if (nI 1) = 0 then (g_Model_doStep_105 a0 (nI 1) h2)
              else ((zcv h2 a0 7 (m_Model_takeOut a0 (nI 36) x2 h2)).bind fun h102 => (g_Model_doStep_105 a0 (nI 1) h102)))))))))))
-- AllHomeModel.isOver()Z
noncomputable def g_Model_isOver_15 (a0 : Nat) (h : zH) (k15 : (Int32 × Int32) → Option Int32) (u : Int32 × Int32) : Option Int32 :=
((zrI h a0 7 4).bind fun v17 => (if v17 ≤ u.2 then (zbl u.1 (some u.1))
  else (if u.1 = 0 then (k15 ((nI 0), (u.2 + (nI 1))))
    else ((zcv h a0 7 (m_Model_of a0 u.2 (nI 0) h)).bind fun v30 => (if v30 = 0 then (k15 ((nI 1), (u.2 + (nI 1))))
      else (k15 ((nI 0), (u.2 + (nI 1)))))))))
noncomputable def m_Model_isOver (a0 : Nat) (h : zH) : Option Int32 :=
  ((zcv h a0 7 (m_Model_words a0 h)).bind fun v1 => (if v1 = 0 then (zloop (g_Model_isOver_15 a0 h) zN ((nI 1), (nI 0)))
  else (zloop (g_Model_isOver_15 a0 h) zN ((nI 0), (nI 0)))))
-- AllHomeModel.keepRun(I)V
noncomputable def g_Model_keepRun_2 (a0 : Nat) (x1 : Int32) (k2 : (Int32 × zH) → Option zH) (u : Int32 × zH) : Option zH :=
(if (nI 91) ≤ u.1 then ((zrR u.2 a0 7 15).bind fun v32 => ((zrI u.2 a0 7 8).bind fun v37 => ((zsI u.2 v32 x1 v37).bind fun h40 => ((zrR h40 a0 7 16).bind fun v42 => ((zrI h40 a0 7 9).bind fun v47 => ((zsI h40 v42 x1 v47).bind fun h50 => (some h50)))))))
  else ((zrR u.2 a0 7 12).bind fun v9 => ((zrR u.2 a0 7 7).bind fun v19 => ((zaI u.2 v19 u.1).bind fun v23 => ((zsI u.2 v9 (((nI 91) * x1) + u.1) v23).bind fun h24 => (k2 ((u.1 + (nI 1)), h24)))))))
noncomputable def m_Model_keepRun (a0 : Nat) (x1 : Int32) (h : zH) : Option zH :=
  (zloop (g_Model_keepRun_2 a0 x1) zN ((nI 0), h))
-- AllHomeModel.takeRun(I)V
noncomputable def g_Model_takeRun_17 (a0 : Nat) (x1 : Int32) (k17 : (Int32 × zH) → Option zH) (u : Int32 × zH) : Option zH :=
(if (nI 91) ≤ u.1 then ((zrR u.2 a0 7 15).bind fun v48 => ((zaI u.2 v48 x1).bind fun v52 => ((zwI u.2 a0 7 8 v52).bind fun h53 => ((zrR h53 a0 7 16).bind fun v58 => ((zaI h53 v58 x1).bind fun v62 => ((zwI h53 a0 7 9 v62).bind fun h63 => (some h63)))))))
  else ((zrR u.2 a0 7 7).bind fun v24 => ((zrR u.2 a0 7 12).bind fun v29 => ((zaI u.2 v29 (((nI 91) * x1) + u.1)).bind fun v38 => ((zsI u.2 v24 u.1 v38).bind fun h39 => (k17 ((u.1 + (nI 1)), h39)))))))
noncomputable def m_Model_takeRun (a0 : Nat) (x1 : Int32) (h : zH) : Option zH :=
  ((zrR h a0 7 5).bind fun v2 => ((zrR h a0 7 13).bind fun v6 => ((zaI h v6 x1).bind fun v10 => ((zaI h v2 v10).bind fun v11 => ((zwI h a0 7 10 v11).bind fun h12 => (zloop (g_Model_takeRun_17 a0 x1) zN ((nI 0), h12)))))))
-- AllHomeModel.run(I)I
noncomputable def m_Model_run (a0 : Nat) (x1 : Int32) (h : zH) : Option (Int32 × zH) :=
  ((zcv h a0 7 (m_Model_isWay a0 x1 h)).bind fun v2 => (if v2 = 0 then (some ((-1 : Int32), h))
  else ((zrI h a0 7 4).bind fun v11 => (if v11 = 0 then (some ((-5 : Int32), h))
    else ((zrI h a0 7 19).bind fun v21 => (if v21 = (nI 4) then (some ((-3 : Int32), h))
      else ((zrR h a0 7 5).bind fun v33 => ((zaI h v33 x1).bind fun v37 => ((zcv h a0 7 (m_Model_begin a0 v37 h)).bind fun h38 => ((zrR h38 a0 7 13).bind fun v42 => ((zrI h38 a0 7 19).bind fun v46 => ((zsI h38 v42 v46 x1).bind fun h50 => ((zrR h50 a0 7 17).bind fun v52 => ((zrI h50 a0 7 19).bind fun v56 => ((zsI h50 v52 v56 (-2 : Int32)).bind fun h61 => ((zrR h61 a0 7 18).bind fun v63 => ((zrI h61 a0 7 19).bind fun v67 => ((zsI h61 v63 v67 (-2 : Int32)).bind fun h72 => ((zrI h72 a0 7 19).bind fun v75 => ((zcv h72 a0 7 (m_Model_keepRun a0 v75 h72)).bind fun h78 => ((zrI h78 a0 7 19).bind fun v83 => ((zwI h78 a0 7 19 (v83 + (nI 1))).bind fun h88 => ((zrI h88 a0 7 19).bind fun v92 => (some ((v92 - (nI 1)), h88)))))))))))))))))))))))))
-- AllHomeModel.isRun(I)Z
noncomputable def m_Model_isRun (a0 : Nat) (x1 : Int32) (h : zH) : Option Int32 :=
  (if x1 < 0 then (some (nI 0))
  else ((zrI h a0 7 19).bind fun v6 => (if v6 ≤ x1 then (some (nI 0))
    else (some (nI 1)))))
-- AllHomeModel.stepOf(III)I
noncomputable def g_Model_stepOf_76 (a0 : Nat) (x1 : Int32) (c0 : Nat) (y1 : Int32) (y2 : Int32) (h : zH) : Option (Int32 × zH) :=
((zsI h c0 y1 y2).bind fun h76 => ((zrR h76 a0 7 18).bind fun v78 => ((zcv h76 a0 7 (m_Model_isOver a0 h76)).bind fun v83 => (if v83 = 0 then ((zsI h76 v78 x1 (-2 : Int32)).bind fun h118 => ((zrR h118 a0 7 14).bind fun v120 => ((zaI h118 v120 x1).bind fun v124 => (some (v124, h118)))))
  else ((zrR h76 a0 7 18).bind fun v95 => ((zaI h76 v95 x1).bind fun v99 => (if 0 ≤ v99 then ((zrR h76 a0 7 18).bind fun v113 => ((zaI h76 v113 x1).bind fun v117 => ((zsI h76 v78 x1 v117).bind fun h118 => ((zrR h118 a0 7 14).bind fun v120 => ((zaI h118 v120 x1).bind fun v124 => (some (v124, h118)))))))
    else ((zrR h76 a0 7 14).bind fun v104 => ((zaI h76 v104 x1).bind fun v108 => ((zsI h76 v78 x1 v108).bind fun h118 => ((zrR h118 a0 7 14).bind fun v120 => ((zaI h118 v120 x1).bind fun v124 => (some (v124, h118))))))))))))))
noncomputable def m_Model_stepOf (a0 : Nat) (x1 : Int32) (x2 : Int32) (x3 : Int32) (h : zH) : Option (Int32 × zH) :=
  ((zcv h a0 7 (m_Model_takeRun a0 x1 h)).bind fun h2 => (zb2 (zcv h2 a0 7 (m_Model_doStep a0 x2 x3 h2)) fun v8 h8 => (if 0 ≤ v8 then ((zcv h8 a0 7 (m_Model_keepRun a0 x1 h8)).bind fun h23 => ((zrR h23 a0 7 14).bind fun v27 => ((zaI h23 v27 x1).bind fun v32 => ((zsI h23 v27 x1 (v32 + (nI 1))).bind fun h35 => ((zrR h35 a0 7 17).bind fun v37 => ((zrR h35 a0 7 7).bind fun v42 => ((zaI h35 v42 (nI 87)).bind fun v47 => (if v47 = (nI 1) then ((zrR h35 a0 7 17).bind fun v53 => ((zaI h35 v53 x1).bind fun v57 => (if 0 ≤ v57 then ((zrR h35 a0 7 17).bind fun v71 => ((zaI h35 v71 x1).bind fun v75 => (g_Model_stepOf_76 a0 x1 v37 x1 v75 h35)))
      else ((zrR h35 a0 7 14).bind fun v62 => ((zaI h35 v62 x1).bind fun v66 => (g_Model_stepOf_76 a0 x1 v37 x1 v66 h35))))))
    else ((zrR h35 a0 7 17).bind fun v71 => ((zaI h35 v71 x1).bind fun v75 => (g_Model_stepOf_76 a0 x1 v37 x1 v75 h35)))))))))))
  else (some (v8, h8)))))
-- AllHomeModel.step(III)I
noncomputable def m_Model_step (a0 : Nat) (x1 : Int32) (x2 : Int32) (x3 : Int32) (h : zH) : Option (Int32 × zH) :=
  ((zcv h a0 7 (m_Model_isRun a0 x1 h)).bind fun v2 => (if v2 = 0 then (some ((-1 : Int32), h))
  else ((m_Model_within x2.toInt64 (0 : Int64) (4 : Int64) h).bind fun v14 => (if v14 = 0 then (some ((-1 : Int32), h))
    else (zb2 (zcv h a0 7 (m_Model_stepOf a0 x1 x2 x3 h)) fun v24 h24 => (some (v24, h24)))))))
-- AllHomeModel.isShelf(I)Z
noncomputable def m_Model_isShelf (x0 : Int32) (h : zH) : Option Int32 :=
  ((m_Model_within x0.toInt64 (0 : Int64) (5 : Int64) h).bind fun v6 => (zbl v6 (some v6)))
-- AllHomeModel.steps(IIII)I
noncomputable def g_Model_steps_179 (a0 : Nat) (x1 : Int32) (x2 : Int32) (x3 : Int32) (x4 : Int32) (x5 : Int32) (y0 : Int32) (h : zH) (k74 : (Int32 × Int32 × zH) → Option (Int32 × zH)) : Option (Int32 × zH) :=
(if y0 = 0 then (k74 ((x5 + (nI 0)), y0, h))
  else (k74 ((x5 + (nI 1)), y0, h)))
noncomputable def g_Model_steps_119 (a0 : Nat) (x1 : Int32) (x2 : Int32) (x3 : Int32) (x4 : Int32) (x5 : Int32) (x7 : Int64) (y0 : Int32) (h : zH) (k74 : (Int32 × Int32 × zH) → Option (Int32 × zH)) : Option (Int32 × zH) :=
(if y0 = 0 then (k74 (x5, y0, h))
  else ((zrR h a0 7 31).bind fun v127 => ((zaJ h v127 (((nI 60) * x2) + x7.toInt32)).bind fun v138 => (if v138.toInt32 < 0 then (g_Model_steps_179 a0 x1 x2 x3 x4 x5 (nI 0) h k74)
    else (if (nI 4) < (v138.toInt32 / (nI 100)) then (g_Model_steps_179 a0 x1 x2 x3 x4 x5 (nI 0) h k74)
      else (zb2 (zcv h a0 7 (m_Model_stepOf a0 x1 (v138.toInt32 / (nI 100)) (v138.toInt32 - v138.toInt32 / (nI 100) * (nI 100)) h)) fun v168 h168 => (if v168 ≤ 0 then (g_Model_steps_179 a0 x1 x2 x3 x4 x5 (nI 0) h168 k74)
        else (g_Model_steps_179 a0 x1 x2 x3 x4 x5 (nI 1) h168 k74))))))))
noncomputable def g_Model_steps_74 (a0 : Nat) (x1 : Int32) (x2 : Int32) (x3 : Int32) (x4 : Int32) (k74 : (Int32 × Int32 × zH) → Option (Int32 × zH)) (u : Int32 × Int32 × zH) : Option (Int32 × zH) :=
(if u.2.1 = 0 then (some (u.1, u.2.2))
  else (if x4 ≤ u.1 then (some (u.1, u.2.2))
    else (if (lg_cmp (x3.toInt64 + u.1.toInt64) (0 : Int64)) < 0 then (g_Model_steps_119 a0 x1 x2 x3 x4 u.1 (x3.toInt64 + u.1.toInt64) (nI 0) u.2.2 k74)
      else ((zrR u.2.2 a0 7 30).bind fun v104 => ((zaI u.2.2 v104 x2).bind fun v108 => (if 0 ≤ (lg_cmp (x3.toInt64 + u.1.toInt64) v108.toInt64) then (g_Model_steps_119 a0 x1 x2 x3 x4 u.1 (x3.toInt64 + u.1.toInt64) (nI 0) u.2.2 k74)
        else (g_Model_steps_119 a0 x1 x2 x3 x4 u.1 (x3.toInt64 + u.1.toInt64) (nI 1) u.2.2 k74)))))))
noncomputable def g_Model_steps_54 (a0 : Nat) (x1 : Int32) (x2 : Int32) (x3 : Int32) (x4 : Int32) (h : zH) : Option (Int32 × zH) :=
((zrR h a0 7 29).bind fun v58 => ((zaI h v58 x2).bind fun v62 => (if v62 = (-1 : Int32) then (zloop (g_Model_steps_74 a0 x1 x2 x3 x4) zN ((nI 0), (nI 0), h))
  else (zloop (g_Model_steps_74 a0 x1 x2 x3 x4) zN ((nI 0), (nI 1), h)))))
noncomputable def m_Model_steps (a0 : Nat) (x1 : Int32) (x2 : Int32) (x3 : Int32) (x4 : Int32) (h : zH) : Option (Int32 × zH) :=
  ((zcv h a0 7 (m_Model_isRun a0 x1 h)).bind fun v2 => (if v2 = 0 then (some ((-1 : Int32), h))
  else ((m_Model_isShelf x2 h).bind fun v9 => (if v9 = 0 then (some ((-1 : Int32), h))
    else ((m_Model_within x4.toInt64 (1 : Int64) (60 : Int64) h).bind fun v22 => (if v22 = 0 then (some ((-1 : Int32), h))
      else ((zrR h a0 7 29).bind fun v31 => ((zaI h v31 x2).bind fun v35 => (if v35 = (-1 : Int32) then (g_Model_steps_54 a0 x1 x2 x3 x4 h)
        else ((zrR h a0 7 29).bind fun v41 => ((zaI h v41 x2).bind fun v45 => (if v45 = (nI 11) then (g_Model_steps_54 a0 x1 x2 x3 x4 h)
          else (some ((-12 : Int32), h))))))))))))))
-- AllHomeModel.ofRun(II)I
noncomputable def g_Model_ofRun_20 (a0 : Nat) (x1 : Int32) (x2 : Int32) (h : zH) (k20 : (Int32 × Int32) → Option (Int32 × zH)) (u : Int32 × Int32) : Option (Int32 × zH) :=
((zrI h a0 7 4).bind fun v23 => (if v23 ≤ u.2 then (if x2 = (nI 0) then ((zrR h a0 7 13).bind fun v105 => ((zaI h v105 x1).bind fun v109 => (some (v109, h))))
    else (if x2 = (nI 1) then ((zrR h a0 7 14).bind fun v112 => ((zaI h v112 x1).bind fun v116 => (some (v116, h))))
    else (if x2 = (nI 2) then ((zcv h a0 7 (m_Model_words a0 h)).bind fun v119 => (some (v119, h)))
    else (if x2 = (nI 3) then ((zcv h a0 7 (m_Model_notes a0 h)).bind fun v124 => (some (v124, h)))
    else (if x2 = (nI 4) then ((zcv h a0 7 (m_Model_isOver a0 h)).bind fun v129 => (if v129 = 0 then (some ((nI 0), h))
              else (some ((nI 1), h))))
    else (if x2 = (nI 5) then ((zrR h a0 7 7).bind fun v142 => ((zaI h v142 (nI 87)).bind fun v147 => (some (v147, h))))
    else (if x2 = (nI 6) then (some (u.1, h))
    else (if x2 = (nI 7) then ((zrI h a0 7 8).bind fun v152 => (some (v152, h)))
    else (if x2 = (nI 8) then ((zrI h a0 7 9).bind fun v157 => (some (v157, h)))
    else (if x2 = (nI 9) then ((zrR h a0 7 17).bind fun v162 => ((zaI h v162 x1).bind fun v166 => (some (v166, h))))
    else (if x2 = (nI 10) then ((zrR h a0 7 18).bind fun v169 => ((zaI h v169 x1).bind fun v173 => (some (v173, h))))
    else (some ((-1 : Int32), h)))))))))))))
  else ((zcv h a0 7 (m_Model_of a0 u.2 (nI 0) h)).bind fun v34 => (k20 ((u.1 + v34), (u.2 + (nI 1)))))))
noncomputable def m_Model_ofRun (a0 : Nat) (x1 : Int32) (x2 : Int32) (h : zH) : Option (Int32 × zH) :=
  ((zcv h a0 7 (m_Model_isRun a0 x1 h)).bind fun v2 => (if v2 = 0 then (some ((-1 : Int32), h))
  else ((zcv h a0 7 (m_Model_takeRun a0 x1 h)).bind fun h12 => (zloop (g_Model_ofRun_20 a0 x1 x2 h12) zN ((nI 0), (nI 0))))))
-- AllHomeModel.ofHut(III)I
noncomputable def m_Model_ofHut (a0 : Nat) (x1 : Int32) (x2 : Int32) (x3 : Int32) (h : zH) : Option (Int32 × zH) :=
  ((zcv h a0 7 (m_Model_isRun a0 x1 h)).bind fun v2 => (if v2 = 0 then (some ((-2000000000 : Int32), h))
  else ((zcv h a0 7 (m_Model_isHut a0 x2 h)).bind fun v10 => (if v10 = 0 then (some ((-2000000000 : Int32), h))
    else ((zcv h a0 7 (m_Model_takeRun a0 x1 h)).bind fun h21 => ((zrI h21 a0 7 10).bind fun v25 => ((m_Model_isUnder v25 (nI 2) h21).bind fun v29 => ((zrI h21 a0 7 10).bind fun v35 => ((m_Model_isUnder v35 (nI 4) h21).bind fun v39 => ((zrI h21 a0 7 10).bind fun v45 => ((m_Model_isUnder v45 (nI 5) h21).bind fun v49 => (if x3 = (nI 0) then ((zcv h21 a0 7 (m_Model_of a0 x2 (nI 0) h21)).bind fun v115 => (some (v115, h21)))
      else (if x3 = (nI 1) then ((zcv h21 a0 7 (m_Model_of a0 x2 (nI 1) h21)).bind fun v122 => (some (v122, h21)))
      else (if x3 = (nI 2) then ((zcv h21 a0 7 (m_Model_of a0 x2 (nI 2) h21)).bind fun v129 => (some (v129, h21)))
      else (if x3 = (nI 3) then ((zrI h21 a0 7 10).bind fun v134 => (if v134 = (nI 1) then ((zcv h21 a0 7 (m_Model_of a0 x2 (nI 3) h21)).bind fun v144 => (some (v144, h21)))
              else (some ((-2000000000 : Int32), h21))))
      else (if x3 = (nI 4) then (if v29 = 0 then (some ((-2000000000 : Int32), h21))
                else ((zcv h21 a0 7 (m_Model_of a0 x2 (nI 3) h21)).bind fun v161 => (some (v161, h21))))
      else (if x3 = (nI 5) then (if v29 = 0 then (some ((-2000000000 : Int32), h21))
                  else ((zcv h21 a0 7 (m_Model_of a0 x2 (nI 4) h21)).bind fun v178 => (some (v178, h21))))
      else (if x3 = (nI 6) then (if v29 = 0 then (some ((-2000000000 : Int32), h21))
                    else ((zcv h21 a0 7 (m_Model_of a0 x2 (nI 5) h21)).bind fun v195 => (some (v195, h21))))
      else (if x3 = (nI 7) then (if v39 = 0 then (some ((-2000000000 : Int32), h21))
                      else ((zcv h21 a0 7 (m_Model_of a0 x2 (nI 3) h21)).bind fun v212 => (some (v212, h21))))
      else (if x3 = (nI 8) then (if v39 = 0 then (some ((-2000000000 : Int32), h21))
                        else ((zcv h21 a0 7 (m_Model_of a0 x2 (nI 4) h21)).bind fun v229 => (some (v229, h21))))
      else (if x3 = (nI 9) then (if v49 = 0 then (some ((-2000000000 : Int32), h21))
                          else ((zcv h21 a0 7 (m_Model_of a0 x2 (nI 3) h21)).bind fun v246 => (some (v246, h21))))
      else (if x3 = (nI 10) then (if v49 = 0 then (some ((-2000000000 : Int32), h21))
                            else ((zcv h21 a0 7 (m_Model_of a0 x2 (nI 4) h21)).bind fun v263 => (some (v263, h21))))
      else (some ((-2000000000 : Int32), h21))))))))))))))))))))))))
-- AllHomeModel.word(III)I
noncomputable def m_Model_word (a0 : Nat) (x1 : Int32) (x2 : Int32) (x3 : Int32) (h : zH) : Option (Int32 × zH) :=
  ((zcv h a0 7 (m_Model_isRun a0 x1 h)).bind fun v2 => (if v2 = 0 then (some ((-1 : Int32), h))
  else ((m_Model_within x3.toInt64 (0 : Int64) (2 : Int64) h).bind fun v14 => (if v14 = 0 then (some ((-1 : Int32), h))
    else ((zcv h a0 7 (m_Model_takeRun a0 x1 h)).bind fun h24 => (if x2 < 0 then (some ((-1 : Int32), h24))
      else ((zcv h24 a0 7 (m_Model_words a0 h24)).bind fun v33 => (if v33 ≤ x2 then (some ((-1 : Int32), h24))
        else ((zrR h24 a0 7 7).bind fun v40 => ((zaI h24 v40 (((nI 37) + ((nI 3) * x2)) + x3)).bind fun v51 => (some (v51, h24))))))))))))
-- AllHomeModel.note(III)I
noncomputable def m_Model_note (a0 : Nat) (x1 : Int32) (x2 : Int32) (x3 : Int32) (h : zH) : Option (Int32 × zH) :=
  ((zcv h a0 7 (m_Model_isRun a0 x1 h)).bind fun v2 => (if v2 = 0 then (some ((-2000000000 : Int32), h))
  else ((m_Model_within x3.toInt64 (0 : Int64) (2 : Int64) h).bind fun v14 => (if v14 = 0 then (some ((-2000000000 : Int32), h))
    else ((zcv h a0 7 (m_Model_takeRun a0 x1 h)).bind fun h25 => (if x2 < 0 then (some ((-2000000000 : Int32), h25))
      else ((zcv h25 a0 7 (m_Model_notes a0 h25)).bind fun v34 => (if v34 ≤ x2 then (some ((-2000000000 : Int32), h25))
        else ((zrR h25 a0 7 7).bind fun v41 => ((zaI h25 v41 (((nI 62) + ((nI 3) * x2)) + x3)).bind fun v52 => (some (v52, h25))))))))))))
-- AllHomeModel.total(I)I
noncomputable def m_Model_total (a0 : Nat) (x1 : Int32) (h : zH) : Option (Int32 × zH) :=
  ((zcv h a0 7 (m_Model_isRun a0 x1 h)).bind fun v2 => (if v2 = 0 then (some ((-1 : Int32), h))
  else ((zcv h a0 7 (m_Model_takeRun a0 x1 h)).bind fun h12 => ((zrI h12 a0 7 10).bind fun v16 => (if v16 = (nI 1) then ((zrR h12 a0 7 7).bind fun v24 => ((zaI h12 v24 (nI 86)).bind fun v29 => (some (v29, h12))))
    else (some ((-2 : Int32), h12)))))))
-- AllHomeModel.bringBack(I)V
noncomputable def g_Model_bringBack_2 (a0 : Nat) (x1 : Int32) (k2 : (Int32 × zH) → Option zH) (u : Int32 × zH) : Option zH :=
(if (nI 91) ≤ u.1 then (some u.2)
  else ((zrR u.2 a0 7 7).bind fun v9 => ((zrR u.2 a0 7 20).bind fun v14 => ((zaI u.2 v14 (((nI 91) * x1) + u.1)).bind fun v23 => ((zsI u.2 v9 u.1 v23).bind fun h24 => (k2 ((u.1 + (nI 1)), h24)))))))
noncomputable def m_Model_bringBack (a0 : Nat) (x1 : Int32) (h : zH) : Option zH :=
  (zloop (g_Model_bringBack_2 a0 x1) zN ((nI 0), h))
-- AllHomeModel.findState()I
noncomputable def g_Model_findState_14 (a0 : Nat) (x1 : Int32) (h : zH) (k2 : (Int32) → Option Int32) (k14 : (Int32 × Int32) → Option Int32) (u : Int32 × Int32) : Option Int32 :=
(if (nI 91) ≤ u.2 then (if u.1 = 0 then (k2 (x1 + (nI 1)))
    else (some x1))
  else (if u.1 = 0 then (if u.1 = 0 then (k2 (x1 + (nI 1)))
      else (some x1))
    else ((zrR h a0 7 20).bind fun v25 => ((zaI h v25 (((nI 91) * x1) + u.2)).bind fun v34 => ((zrR h a0 7 7).bind fun v36 => ((zaI h v36 u.2).bind fun v40 => (if v34 = v40 then (k14 ((nI 1), (u.2 + (nI 1))))
      else (k14 ((nI 0), (u.2 + (nI 1)))))))))))
noncomputable def g_Model_findState_2 (a0 : Nat) (h : zH) (k2 : (Int32) → Option Int32) (u : Int32) : Option Int32 :=
((zrI h a0 7 25).bind fun v4 => (if v4 ≤ u then ((zrI h a0 7 25).bind fun v69 => (some v69))
  else (zloop (g_Model_findState_14 a0 u h k2) zN ((nI 1), (nI 0)))))
noncomputable def m_Model_findState (a0 : Nat) (h : zH) : Option Int32 :=
  (zloop (g_Model_findState_2 a0 h) zN (nI 0))
-- AllHomeModel.keepState(II)V
noncomputable def g_Model_keepState_2 (a0 : Nat) (x1 : Int32) (x2 : Int32) (k2 : (Int32 × zH) → Option zH) (u : Int32 × zH) : Option zH :=
(if (nI 91) ≤ u.1 then ((zrR u.2 a0 7 21).bind fun v35 => ((zrI u.2 a0 7 25).bind fun v39 => ((zsI u.2 v35 v39 x1).bind fun h43 => ((zrR h43 a0 7 22).bind fun v45 => ((zrI h43 a0 7 25).bind fun v49 => ((zsI h43 v45 v49 x2).bind fun h53 => ((zrI h53 a0 7 25).bind fun v56 => ((zwI h53 a0 7 25 (v56 + (nI 1))).bind fun h61 => (some h61)))))))))
  else ((zrR u.2 a0 7 20).bind fun v9 => ((zrI u.2 a0 7 25).bind fun v15 => ((zrR u.2 a0 7 7).bind fun v22 => ((zaI u.2 v22 u.1).bind fun v26 => ((zsI u.2 v9 (((nI 91) * v15) + u.1) v26).bind fun h27 => (k2 ((u.1 + (nI 1)), h27))))))))
noncomputable def m_Model_keepState (a0 : Nat) (x1 : Int32) (x2 : Int32) (h : zH) : Option zH :=
  (zloop (g_Model_keepState_2 a0 x1 x2) zN ((nI 0), h))
-- AllHomeModel.goFrom(I)V
noncomputable def g_Model_goFrom_67 (a0 : Nat) (x1 : Int32) (x2 : Int32) (x3 : Int32) (h : zH) (k2 : (Int32 × zH) → Option zH) : Option zH :=
((zrR h a0 7 24).bind fun v68 => ((zsZ h v68 (((nI 151) * x1) + x3) (nI 1)).bind fun h79 => (k2 ((x2 + (nI 1)), h79))))
noncomputable def g_Model_goFrom_2 (a0 : Nat) (x1 : Int32) (k2 : (Int32 × zH) → Option zH) (u : Int32 × zH) : Option zH :=
(if (nI 400) ≤ u.1 then (some u.2)
  else ((zrI u.2 a0 7 25).bind fun v10 => (if (nI 151) ≤ v10 then (some u.2)
    else (if (nI 8) ≤ (u.1 - u.1 / (nI 100) * (nI 100)) then (k2 ((u.1 + (nI 1)), u.2))
      else ((zcv u.2 a0 7 (m_Model_bringBack a0 x1 u.2)).bind fun h30 => (zb2 (zcv h30 a0 7 (m_Model_doStep a0 (u.1 / (nI 100)) (u.1 - u.1 / (nI 100) * (nI 100)) h30)) fun v42 h42 => (if v42 ≤ 0 then (k2 ((u.1 + (nI 1)), h42))
        else ((zcv h42 a0 7 (m_Model_findState a0 h42)).bind fun v49 => ((zrI h42 a0 7 25).bind fun v55 => (if v49 = v55 then ((zcv h42 a0 7 (m_Model_keepState a0 x1 u.1 h42)).bind fun h64 => (g_Model_goFrom_67 a0 x1 u.1 v49 h64 k2))
          else (g_Model_goFrom_67 a0 x1 u.1 v49 h42 k2)))))))))))
noncomputable def m_Model_goFrom (a0 : Nat) (x1 : Int32) (h : zH) : Option zH :=
  (zloop (g_Model_goFrom_2 a0 x1) zN ((nI 0), h))
-- AllHomeModel.findAll(I)I
noncomputable def g_Model_findAll_51 (a0 : Nat) (k51 : (Int32 × zH) → Option (Int32 × zH)) (u : Int32 × zH) : Option (Int32 × zH) :=
((zrI u.2 a0 7 25).bind fun v53 => (if v53 ≤ u.1 then ((zrI u.2 a0 7 25).bind fun v96 => (if v96 = (nI 151) then (some ((-4 : Int32), u.2))
    else (some ((nI 0), u.2))))
  else ((zrI u.2 a0 7 25).bind fun v60 => (if (nI 151) ≤ v60 then ((zrI u.2 a0 7 25).bind fun v96 => (if v96 = (nI 151) then (some ((-4 : Int32), u.2))
      else (some ((nI 0), u.2))))
    else ((zrR u.2 a0 7 20).bind fun v70 => ((zaI u.2 v70 (((nI 91) * u.1) + (nI 87))).bind fun v80 => (if v80 = 0 then ((zcv u.2 a0 7 (m_Model_goFrom a0 u.1 u.2)).bind fun h86 => (k51 ((u.1 + (nI 1)), h86)))
      else (k51 ((u.1 + (nI 1)), u.2)))))))))
noncomputable def g_Model_findAll_13 (a0 : Nat) (x1 : Int32) (k13 : (Int32 × zH) → Option (Int32 × zH)) (u : Int32 × zH) : Option (Int32 × zH) :=
(if (nI 22801) ≤ u.1 then ((zcv u.2 a0 7 (m_Model_begin a0 x1 u.2)).bind fun h35 => ((zwI h35 a0 7 25 (nI 0)).bind fun h40 => ((zcv h40 a0 7 (m_Model_keepState a0 (-1 : Int32) (nI 0) h40)).bind fun h46 => (zloop (g_Model_findAll_51 a0) zN ((nI 0), h46)))))
  else ((zrR u.2 a0 7 24).bind fun v21 => ((zsZ u.2 v21 u.1 (nI 0)).bind fun h26 => (k13 ((u.1 + (nI 1)), h26)))))
noncomputable def m_Model_findAll (a0 : Nat) (x1 : Int32) (h : zH) : Option (Int32 × zH) :=
  ((zrI h a0 7 4).bind fun v1 => (if v1 ≤ (nI 4) then (zloop (g_Model_findAll_13 a0 x1) zN ((nI 0), h))
  else (some ((-4 : Int32), h))))
-- AllHomeModel.noOrders(I)I
noncomputable def m_Model_noOrders (a0 : Nat) (x1 : Int32) (h : zH) : Option (Int32 × zH) :=
  ((zcv h a0 7 (m_Model_isWay a0 x1 h)).bind fun v2 => (if v2 = 0 then (some ((-1 : Int32), h))
  else ((zrI h a0 7 4).bind fun v11 => (if v11 = 0 then (some ((-5 : Int32), h))
    else ((zrR h a0 7 5).bind fun v24 => ((zaI h v24 x1).bind fun v28 => (zb2 (zcv h a0 7 (m_Model_findAll a0 v28 h)) fun v29 h29 => (some (v29, h29)))))))))
-- AllHomeModel.states(I)I
noncomputable def m_Model_states (a0 : Nat) (x1 : Int32) (h : zH) : Option (Int32 × zH) :=
  (zb2 (zcv h a0 7 (m_Model_noOrders a0 x1 h)) fun v2 h2 => (if 0 ≤ v2 then ((zrI h2 a0 7 25).bind fun v15 => (some (v15, h2)))
  else (some (v2, h2))))
-- AllHomeModel.stepsTo(I)I
noncomputable def g_Model_stepsTo_4 (a0 : Nat) (h : zH) (k4 : (Int32 × Int32) → Option Int32) (u : Int32 × Int32) : Option Int32 :=
((zrR h a0 7 21).bind fun v5 => ((zaI h v5 u.2).bind fun v9 => (if v9 < 0 then (some u.1)
  else ((zrR h a0 7 21).bind fun v17 => ((zaI h v17 u.2).bind fun v21 => (k4 ((u.1 + (nI 1)), v21)))))))
noncomputable def m_Model_stepsTo (a0 : Nat) (x1 : Int32) (h : zH) : Option Int32 :=
  (zloop (g_Model_stepsTo_4 a0 h) zN ((nI 0), x1))
-- AllHomeModel.least(III)I
noncomputable def g_Model_least_156 (a0 : Nat) (x3 : Int32) (h : zH) (k156 : (Int32 × Int32) → Option (Int32 × zH)) (u : Int32 × Int32) : Option (Int32 × zH) :=
(if u.2 ≤ x3 then ((zrR h a0 7 22).bind fun v178 => ((zaI h v178 u.1).bind fun v183 => (some (v183, h))))
  else ((zrR h a0 7 21).bind fun v163 => ((zaI h v163 u.1).bind fun v168 => (k156 (v168, (u.2 + (-1 : Int32)))))))
noncomputable def g_Model_least_119 (a0 : Nat) (x3 : Int32) (x5 : Int32) (x6 : Int32) (h : zH) : Option (Int32 × zH) :=
(if x6 = 0 then (some ((-2 : Int32), h))
  else ((zcv h a0 7 (m_Model_stepsTo a0 x5 h)).bind fun v130 => (if 0 ≤ x3 then (if x3 < v130 then (zloop (g_Model_least_156 a0 x3 h) zN (x5, (v130 - (nI 1))))
      else (some ((-1 : Int32), h)))
    else (some (v130, h)))))
noncomputable def g_Model_least_99 (a0 : Nat) (x2 : Int32) (x3 : Int32) (x5 : Int32) (y0 : Int32) (h : zH) (k46 : (Int32 × Int32 × zH) → Option (Int32 × zH)) : Option (Int32 × zH) :=
(if y0 = 0 then (k46 ((x5 + (nI 1)), y0, h))
  else (k46 ((x5 + (nI 0)), y0, h)))
noncomputable def g_Model_least_46 (a0 : Nat) (x2 : Int32) (x3 : Int32) (k46 : (Int32 × Int32 × zH) → Option (Int32 × zH)) (u : Int32 × Int32 × zH) : Option (Int32 × zH) :=
(if u.2.1 = 0 then ((zrI u.2.2 a0 7 25).bind fun v54 => (if v54 ≤ u.1 then (g_Model_least_119 a0 x3 u.1 u.2.1 u.2.2)
    else ((zcv u.2.2 a0 7 (m_Model_bringBack a0 u.1 u.2.2)).bind fun h63 => ((zrR h63 a0 7 7).bind fun v67 => ((zaI h63 v67 (nI 87)).bind fun v72 => (if v72 = (nI 1) then ((zcv h63 a0 7 (m_Model_isOver a0 h63)).bind fun v78 => (if x2 = (nI 1) then (if v78 = (nI 1) then (g_Model_least_99 a0 x2 x3 u.1 (nI 1) h63 k46)
          else (g_Model_least_99 a0 x2 x3 u.1 (nI 0) h63 k46))
        else (if v78 = (nI 0) then (g_Model_least_99 a0 x2 x3 u.1 (nI 1) h63 k46)
          else (g_Model_least_99 a0 x2 x3 u.1 (nI 0) h63 k46))))
      else (g_Model_least_99 a0 x2 x3 u.1 (nI 0) h63 k46)))))))
  else (g_Model_least_119 a0 x3 u.1 u.2.1 u.2.2))
noncomputable def m_Model_least (a0 : Nat) (x1 : Int32) (x2 : Int32) (x3 : Int32) (h : zH) : Option (Int32 × zH) :=
  ((zcv h a0 7 (m_Model_isWay a0 x1 h)).bind fun v2 => (if v2 = 0 then (some ((-1 : Int32), h))
  else ((m_Model_within x2.toInt64 (0 : Int64) (1 : Int64) h).bind fun v12 => (if v12 = 0 then (some ((-1 : Int32), h))
    else (if (-1 : Int32) ≤ x3 then (zb2 (zcv h a0 7 (m_Model_noOrders a0 x1 h)) fun v27 h27 => (if 0 ≤ v27 then (zloop (g_Model_least_46 a0 x2 x3) zN ((nI 0), (nI 0), h27))
        else (some (v27, h27))))
      else (some ((-1 : Int32), h)))))))
-- AllHomeModel.stuck(I)I
noncomputable def g_Model_stuck_155 (a0 : Nat) (h : zH) (k155 : (Int32 × Int32) → Option (Int32 × zH)) (u : Int32 × Int32) : Option (Int32 × zH) :=
((zrI h a0 7 25).bind fun v158 => (if v158 ≤ u.2 then (some (u.1, h))
  else ((zrR h a0 7 23).bind fun v167 => ((zaZ h v167 u.2).bind fun v172 => (if v172 = 0 then (k155 ((u.1 + (nI 1)), (u.2 + (nI 1))))
    else (k155 ((u.1 + (nI 0)), (u.2 + (nI 1)))))))))
noncomputable def g_Model_stuck_78 (a0 : Nat) (x4 : Int32) (k57 : (Int32 × zH) → Option (Int32 × zH)) (k66 : (Int32 × Int32 × zH) → Option (Int32 × zH)) (k78 : (Int32 × Int32 × zH) → Option (Int32 × zH)) (u : Int32 × Int32 × zH) : Option (Int32 × zH) :=
((zrI u.2.2 a0 7 25).bind fun v81 => (if v81 ≤ u.2.1 then (k66 (u.1, (x4 + (nI 1)), u.2.2))
  else ((zrR u.2.2 a0 7 23).bind fun v88 => ((zaZ u.2.2 v88 x4).bind fun v93 => (if v93 = 0 then ((zrR u.2.2 a0 7 24).bind fun v98 => ((zaZ u.2.2 v98 (((nI 151) * x4) + u.2.1)).bind fun v110 => (if v110 = 0 then (k78 (u.1, (u.2.1 + (nI 1)), u.2.2))
      else ((zrR u.2.2 a0 7 23).bind fun v115 => ((zaZ u.2.2 v115 u.2.1).bind fun v120 => (if v120 = 0 then (k78 (u.1, (u.2.1 + (nI 1)), u.2.2))
        else ((zrR u.2.2 a0 7 23).bind fun v125 => ((zsZ u.2.2 v125 x4 (nI 1)).bind fun h131 => (k78 ((nI 1), (u.2.1 + (nI 1)), h131))))))))))
    else (k66 (u.1, (x4 + (nI 1)), u.2.2)))))))
noncomputable def g_Model_stuck_66 (a0 : Nat) (k57 : (Int32 × zH) → Option (Int32 × zH)) (k66 : (Int32 × Int32 × zH) → Option (Int32 × zH)) (u : Int32 × Int32 × zH) : Option (Int32 × zH) :=
((zrI u.2.2 a0 7 25).bind fun v69 => (if v69 ≤ u.2.1 then (k57 (u.1, u.2.2))
  else (zloop (g_Model_stuck_78 a0 u.2.1 k57 k66) zN (u.1, (nI 0), u.2.2))))
noncomputable def g_Model_stuck_57 (a0 : Nat) (k57 : (Int32 × zH) → Option (Int32 × zH)) (u : Int32 × zH) : Option (Int32 × zH) :=
(if u.1 = 0 then (zloop (g_Model_stuck_155 a0 u.2) zN ((nI 0), (nI 0)))
  else (zloop (g_Model_stuck_66 a0 k57) zN ((nI 0), (nI 0), u.2)))
noncomputable def g_Model_stuck_14 (a0 : Nat) (k14 : (Int32 × zH) → Option (Int32 × zH)) (u : Int32 × zH) : Option (Int32 × zH) :=
((zrI u.2 a0 7 25).bind fun v16 => (if v16 ≤ u.1 then (zloop (g_Model_stuck_57 a0) zN ((nI 1), u.2))
  else ((zrR u.2 a0 7 23).bind fun v23 => ((zrR u.2 a0 7 20).bind fun v28 => ((zaI u.2 v28 (((nI 91) * u.1) + (nI 87))).bind fun v38 => (if v38 = (nI 1) then ((zsZ u.2 v23 u.1 (nI 1)).bind fun h48 => (k14 ((u.1 + (nI 1)), h48)))
    else ((zsZ u.2 v23 u.1 (nI 0)).bind fun h48 => (k14 ((u.1 + (nI 1)), h48)))))))))
noncomputable def m_Model_stuck (a0 : Nat) (x1 : Int32) (h : zH) : Option (Int32 × zH) :=
  (zb2 (zcv h a0 7 (m_Model_noOrders a0 x1 h)) fun v2 h2 => (if 0 ≤ v2 then (zloop (g_Model_stuck_14 a0) zN ((nI 0), h2))
  else (some (v2, h2))))
-- AllHomeModel.worksAlike(II)Z
noncomputable def g_Model_worksAlike_122 (a0 : Nat) (x3 : Int32) (x4 : Int32) (h : zH) (k122 : (Int32 × Int32) → Option Int32) (u : Int32 × Int32) : Option Int32 :=
(if (nI 8) ≤ u.2 then (zbl u.1 (some u.1))
  else (if u.1 = 0 then (k122 ((nI 0), (u.2 + (nI 1))))
    else ((zrR h a0 7 20).bind fun v135 => ((zaI h v135 (((x3 + (nI 36)) + (nI 1)) + ((nI 3) * u.2))).bind fun v149 => ((zrR h a0 7 20).bind fun v151 => ((zaI h v151 (((x4 + (nI 36)) + (nI 1)) + ((nI 3) * u.2))).bind fun v166 => (if v149 = v166 then ((zrR h a0 7 20).bind fun v171 => ((zaI h v171 (((x3 + (nI 36)) + (nI 2)) + ((nI 3) * u.2))).bind fun v185 => ((zrR h a0 7 20).bind fun v187 => ((zaI h v187 (((x4 + (nI 36)) + (nI 2)) + ((nI 3) * u.2))).bind fun v202 => (if v185 = v202 then (k122 ((nI 1), (u.2 + (nI 1))))
        else (k122 ((nI 0), (u.2 + (nI 1)))))))))
      else (k122 ((nI 0), (u.2 + (nI 1)))))))))))
noncomputable def g_Model_worksAlike_55 (a0 : Nat) (x3 : Int32) (x4 : Int32) (x6 : Int32) (h : zH) (k43 : (Int32 × Int32) → Option Int32) (k55 : (Int32 × Int32) → Option Int32) (u : Int32 × Int32) : Option Int32 :=
(if (nI 2) < u.2 then (k43 (u.1, (x6 + (nI 1))))
  else (if u.1 = 0 then (k55 ((nI 0), (u.2 + (nI 1))))
    else ((zrR h a0 7 20).bind fun v67 => ((zaI h v67 ((x3 + ((nI 6) * x6)) + u.2)).bind fun v80 => ((zrR h a0 7 20).bind fun v82 => ((zaI h v82 ((x4 + ((nI 6) * x6)) + u.2)).bind fun v96 => (if v80 = v96 then (k55 ((nI 1), (u.2 + (nI 1))))
      else (k55 ((nI 0), (u.2 + (nI 1)))))))))))
noncomputable def g_Model_worksAlike_43 (a0 : Nat) (x3 : Int32) (x4 : Int32) (h : zH) (k43 : (Int32 × Int32) → Option Int32) (u : Int32 × Int32) : Option Int32 :=
((zrI h a0 7 4).bind fun v46 => (if v46 ≤ u.2 then (zloop (g_Model_worksAlike_122 a0 x3 x4 h) zN (u.1, (nI 0)))
  else (zloop (g_Model_worksAlike_55 a0 x3 x4 u.2 h k43) zN (u.1, (nI 0)))))
noncomputable def m_Model_worksAlike (a0 : Nat) (x1 : Int32) (x2 : Int32) (h : zH) : Option Int32 :=
  ((zrR h a0 7 20).bind fun v12 => ((zaI h v12 (((nI 91) * x1) + (nI 36))).bind fun v19 => ((zrR h a0 7 20).bind fun v21 => ((zaI h v21 (((nI 91) * x2) + (nI 36))).bind fun v29 => (if v19 = v29 then (zloop (g_Model_worksAlike_43 a0 ((nI 91) * x1) ((nI 91) * x2) h) zN ((nI 1), (nI 0)))
  else (zloop (g_Model_worksAlike_43 a0 ((nI 91) * x1) ((nI 91) * x2) h) zN ((nI 0), (nI 0))))))))
-- AllHomeModel.workMany()I
noncomputable def g_Model_workMany_17 (a0 : Nat) (x1 : Int32) (x2 : Int32) (h : zH) (k4 : (Int32 × Int32) → Option Int32) (k17 : (Int32 × Int32) → Option Int32) (u : Int32 × Int32) : Option Int32 :=
(if x2 ≤ u.2 then (if u.1 = 0 then (k4 ((x1 + (nI 0)), (x2 + (nI 1))))
    else (k4 ((x1 + (nI 1)), (x2 + (nI 1)))))
  else (if u.1 = 0 then (k17 ((nI 0), (u.2 + (nI 1))))
    else ((zcv h a0 7 (m_Model_worksAlike a0 x2 u.2 h)).bind fun v31 => (if v31 = 0 then (k17 ((nI 1), (u.2 + (nI 1))))
      else (k17 ((nI 0), (u.2 + (nI 1))))))))
noncomputable def g_Model_workMany_4 (a0 : Nat) (h : zH) (k4 : (Int32 × Int32) → Option Int32) (u : Int32 × Int32) : Option Int32 :=
((zrI h a0 7 25).bind fun v6 => (if v6 ≤ u.2 then (some u.1)
  else (zloop (g_Model_workMany_17 a0 u.1 u.2 h k4) zN ((nI 1), (nI 0)))))
noncomputable def m_Model_workMany (a0 : Nat) (h : zH) : Option Int32 :=
  (zloop (g_Model_workMany_4 a0 h) zN ((nI 0), (nI 0)))
-- AllHomeModel.work(II)I
noncomputable def m_Model_work (a0 : Nat) (x1 : Int32) (x2 : Int32) (h : zH) : Option (Int32 × zH) :=
  ((zcv h a0 7 (m_Model_isWay a0 x1 h)).bind fun v2 => (if v2 = 0 then (some ((-1 : Int32), h))
  else ((m_Model_within x2.toInt64 (0 : Int64) (1 : Int64) h).bind fun v12 => (if v12 = 0 then (some ((-1 : Int32), h))
    else (zb2 (zcv h a0 7 (m_Model_noOrders a0 x1 h)) fun v22 h22 => (if 0 ≤ v22 then ((zcv h22 a0 7 (m_Model_workMany a0 h22)).bind fun v33 => (if x2 = 0 then (some (v33, h22))
        else (zb2 (zcv h22 a0 7 (m_Model_findAll a0 (nI 0) h22)) fun v47 h47 => (if 0 ≤ v47 then ((zcv h47 a0 7 (m_Model_workMany a0 h47)).bind fun v62 => (if v33 = v62 then (some ((nI 1), h47))
            else (some ((nI 0), h47))))
          else (some (v47, h47))))))
      else (some (v22, h22))))))))
-- AllHomeModel.ranBody(I)V
noncomputable def m_Model_ranBody (a0 : Nat) (x1 : Int32) (h : zH) : Option zH :=
  ((zrI h a0 7 27).bind fun v1 => (if (nI 24) ≤ v1 then ((zrI h a0 7 27).bind fun v21 => ((zwI h a0 7 27 (v21 + (nI 1))).bind fun h26 => (some h26)))
  else ((zrR h a0 7 26).bind fun v10 => ((zrI h a0 7 27).bind fun v14 => ((zsI h v10 v14 x1).bind fun h18 => ((zrI h18 a0 7 27).bind fun v21 => ((zwI h18 a0 7 27 (v21 + (nI 1))).bind fun h26 => (some h26))))))))
-- AllHomeModel.sends(II)I
noncomputable def g_Model_sends_0 (kk : (Nat × Int32 × Int32 × zH) → Option (Int32 × zH)) (u : Nat × Int32 × Int32 × zH) : Option (Int32 × zH) :=
  (if u.2.1 = (nI 0) then ((zcv u.2.2.2 u.1 7 (m_Model_ranBody u.1 (nI 1) u.2.2.2)).bind fun h38 => ((zrI h38 u.1 7 28).bind fun v43 => (some ((u.2.2.1 + v43), h38))))
  else (if u.2.1 = (nI 1) then ((zcv u.2.2.2 u.1 7 (m_Model_ranBody u.1 (nI 20) u.2.2.2)).bind fun h51 => ((m_Model_above (nI 1) h51).bind fun v56 => (zb2 (zcv h51 u.1 7 (kk (u.1, v56, u.2.2.1, h51))) fun v60 h60 => (some ((v60 / (nI 2)), h60)))))
  else (if u.2.1 = (nI 2) then ((m_Model_above u.2.1 u.2.2.2).bind fun v86 => (zb2 (zcv u.2.2.2 u.1 7 (kk (u.1, v86, u.2.2.1, u.2.2.2))) fun v90 h90 => (some (v90, h90))))
  else (if u.2.1 = (nI 3) then ((m_Model_above u.2.1 u.2.2.2).bind fun v86 => (zb2 (zcv u.2.2.2 u.1 7 (kk (u.1, v86, u.2.2.1, u.2.2.2))) fun v90 h90 => (some (v90, h90))))
  else (if u.2.1 = (nI 4) then ((zcv u.2.2.2 u.1 7 (m_Model_ranBody u.1 (nI 50) u.2.2.2)).bind fun h69 => ((m_Model_above (nI 4) h69).bind fun v74 => (zb2 (zcv h69 u.1 7 (kk (u.1, v74, u.2.2.1, h69))) fun v78 h78 => (some ((v78 * (nI 3)), h78)))))
  else ((m_Model_above u.2.1 u.2.2.2).bind fun v86 => (zb2 (zcv u.2.2.2 u.1 7 (kk (u.1, v86, u.2.2.1, u.2.2.2))) fun v90 h90 => (some (v90, h90)))))))))
noncomputable def m_Model_sends (n : Nat) (a0 : Nat) (x1 : Int32) (x2 : Int32) (h : zH) : Option (Int32 × zH) := zloop g_Model_sends_0 n (a0, x1, x2, h)
-- AllHomeModel.asksOf(II)I
noncomputable def g_Model_asksOf_0 (kk : (Nat × Int32 × Int32 × zH) → Option (Int32 × zH)) (u : Nat × Int32 × Int32 × zH) : Option (Int32 × zH) :=
  (if u.2.1 = (nI 0) then ((zcv u.2.2.2 u.1 7 (m_Model_ranBody u.1 (nI 10) u.2.2.2)).bind fun h39 => ((zrR h39 u.1 7 5).bind fun v44 => ((zrI h39 u.1 7 28).bind fun v48 => ((zaI h39 v44 v48).bind fun v51 => (zb2 (zcv h39 u.1 7 (m_Model_sends 40 u.1 v51 u.2.2.1 h39)) fun v53 h53 => (some ((v53 * (nI 2)), h53)))))))
  else (if u.2.1 = (nI 3) then ((zcv u.2.2.2 u.1 7 (m_Model_ranBody u.1 (nI 40) u.2.2.2)).bind fun h62 => ((m_Model_above (nI 3) h62).bind fun v67 => (zb2 (zcv h62 u.1 7 (kk (u.1, v67, u.2.2.1, h62))) fun v71 h71 => (some ((v71 - (nI 1)), h71)))))
  else (if u.2.1 = (nI 7) then ((zcv u.2.2.2 u.1 7 (m_Model_ranBody u.1 (nI 80) u.2.2.2)).bind fun h80 => ((m_Model_above (nI 7) h80).bind fun v86 => (zb2 (zcv h80 u.1 7 (kk (u.1, v86, u.2.2.1, h80))) fun v90 h90 => ((m_Model_above (nI 7) h90).bind fun v98 => (zb2 (zcv h90 u.1 7 (m_Model_sends 40 u.1 v98 u.2.2.1 h90)) fun v102 h102 => (some ((v90 + v102), h102)))))))
  else ((m_Model_above u.2.1 u.2.2.2).bind fun v109 => (zb2 (zcv u.2.2.2 u.1 7 (kk (u.1, v109, u.2.2.1, u.2.2.2))) fun v113 h113 => (some (v113, h113)))))))
noncomputable def m_Model_asksOf (n : Nat) (a0 : Nat) (x1 : Int32) (x2 : Int32) (h : zH) : Option (Int32 × zH) := zloop g_Model_asksOf_0 n (a0, x1, x2, h)
-- AllHomeModel.owes(II)I
noncomputable def g_Model_owes_0 (kk : (Nat × Int32 × Int32 × zH) → Option (Int32 × zH)) (u : Nat × Int32 × Int32 × zH) : Option (Int32 × zH) :=
  (if u.2.1 = (nI 0) then ((zcv u.2.2.2 u.1 7 (m_Model_ranBody u.1 (nI 11) u.2.2.2)).bind fun h47 => ((zrI h47 u.1 7 28).bind fun v52 => (some ((u.2.2.1 ^^^ v52), h47))))
  else (if u.2.1 = (nI 1) then ((m_Model_above u.2.1 u.2.2.2).bind fun v128 => (zb2 (zcv u.2.2.2 u.1 7 (kk (u.1, v128, u.2.2.1, u.2.2.2))) fun v132 h132 => (some (v132, h132))))
  else (if u.2.1 = (nI 2) then ((zcv u.2.2.2 u.1 7 (m_Model_ranBody u.1 (nI 30) u.2.2.2)).bind fun h60 => ((m_Model_above (nI 2) h60).bind fun v65 => (zb2 (zcv h60 u.1 7 (kk (u.1, v65, u.2.2.1, h60))) fun v69 h69 => ((zrR h69 u.1 7 5).bind fun v76 => ((zrI h69 u.1 7 28).bind fun v80 => ((zaI h69 v76 v80).bind fun v83 => (zb2 (zcv h69 u.1 7 (m_Model_sends 40 u.1 v83 (nI 2) h69)) fun v85 h85 => (some ((v69 + v85), h85)))))))))
  else (if u.2.1 = (nI 3) then ((m_Model_above u.2.1 u.2.2.2).bind fun v128 => (zb2 (zcv u.2.2.2 u.1 7 (kk (u.1, v128, u.2.2.1, u.2.2.2))) fun v132 h132 => (some (v132, h132))))
  else (if u.2.1 = (nI 4) then ((m_Model_above u.2.1 u.2.2.2).bind fun v128 => (zb2 (zcv u.2.2.2 u.1 7 (kk (u.1, v128, u.2.2.1, u.2.2.2))) fun v132 h132 => (some (v132, h132))))
  else (if u.2.1 = (nI 5) then ((zcv u.2.2.2 u.1 7 (m_Model_ranBody u.1 (nI 61) u.2.2.2)).bind fun h93 => ((m_Model_above (nI 5) h93).bind fun v98 => (zb2 (zcv h93 u.1 7 (kk (u.1, v98, (u.2.2.1 + (nI 1)), h93))) fun v104 h104 => (some (v104, h104)))))
  else (if u.2.1 = (nI 6) then ((zcv u.2.2.2 u.1 7 (m_Model_ranBody u.1 (nI 70) u.2.2.2)).bind fun h111 => ((m_Model_above (nI 6) h111).bind fun v117 => (zb2 (zcv h111 u.1 7 (kk (u.1, v117, u.2.2.1, h111))) fun v121 h121 => (some ((-v121), h121)))))
  else ((m_Model_above u.2.1 u.2.2.2).bind fun v128 => (zb2 (zcv u.2.2.2 u.1 7 (kk (u.1, v128, u.2.2.1, u.2.2.2))) fun v132 h132 => (some (v132, h132)))))))))))
noncomputable def m_Model_owes (n : Nat) (a0 : Nat) (x1 : Int32) (x2 : Int32) (h : zH) : Option (Int32 × zH) := zloop g_Model_owes_0 n (a0, x1, x2, h)
-- AllHomeModel.tells(II)I
noncomputable def g_Model_tells_0 (kk : (Nat × Int32 × Int32 × zH) → Option (Int32 × zH)) (u : Nat × Int32 × Int32 × zH) : Option (Int32 × zH) :=
  (if u.2.1 = (nI 0) then ((zcv u.2.2.2 u.1 7 (m_Model_ranBody u.1 (nI 2) u.2.2.2)).bind fun h38 => ((zrR h38 u.1 7 5).bind fun v43 => ((zrI h38 u.1 7 28).bind fun v47 => ((zaI h38 v43 v47).bind fun v50 => (zb2 (zcv h38 u.1 7 (m_Model_asksOf 40 u.1 v50 u.2.2.1 h38)) fun v52 h52 => ((zrR h52 u.1 7 5).bind fun v59 => ((zrI h52 u.1 7 28).bind fun v63 => ((zaI h52 v59 v63).bind fun v66 => (zb2 (zcv h52 u.1 7 (m_Model_owes 40 u.1 v66 (nI 1) h52)) fun v68 h68 => (some ((v52 - v68), h68)))))))))))
  else (if u.2.1 = (nI 5) then ((zcv u.2.2.2 u.1 7 (m_Model_ranBody u.1 (nI 60) u.2.2.2)).bind fun h76 => ((m_Model_above (nI 5) h76).bind fun v81 => (zb2 (zcv h76 u.1 7 (kk (u.1, v81, u.2.2.1, h76))) fun v85 h85 => (some ((v85 ^^^ (nI 5)), h85)))))
  else (if u.2.1 = (nI 8) then ((zcv u.2.2.2 u.1 7 (m_Model_ranBody u.1 (nI 90) u.2.2.2)).bind fun h94 => ((m_Model_above (nI 8) h94).bind fun v100 => (zb2 (zcv h94 u.1 7 (kk (u.1, v100, u.2.2.1, h94))) fun v104 h104 => (some ((v104 * (nI 2)), h104)))))
  else ((m_Model_above u.2.1 u.2.2.2).bind fun v112 => (zb2 (zcv u.2.2.2 u.1 7 (kk (u.1, v112, u.2.2.1, u.2.2.2))) fun v116 h116 => (some (v116, h116)))))))
noncomputable def m_Model_tells (n : Nat) (a0 : Nat) (x1 : Int32) (x2 : Int32) (h : zH) : Option (Int32 × zH) := zloop g_Model_tells_0 n (a0, x1, x2, h)
-- AllHomeModel.act(III)I
noncomputable def m_Model_act (a0 : Nat) (x1 : Int32) (x2 : Int32) (x3 : Int32) (h : zH) : Option (Int32 × zH) :=
  ((zwI h a0 7 27 (nI 0)).bind fun h2 => ((zcv h2 a0 7 (m_Model_isWay a0 x1 h2)).bind fun v7 => (if v7 = 0 then (some ((nI 0), h2))
  else ((m_Model_within x2.toInt64 (0 : Int64) (3 : Int64) h2).bind fun v19 => (if v19 = 0 then (some ((nI 0), h2))
    else ((zwI h2 a0 7 28 x1).bind fun h29 => (if x2 = 0 then ((zrR h29 a0 7 5).bind fun v38 => ((zaI h29 v38 x1).bind fun v42 => (zb2 (zcv h29 a0 7 (m_Model_sends 40 a0 v42 x3 h29)) fun v44 h44 => (some (v44, h44)))))
      else (if x2 = (nI 1) then ((zrR h29 a0 7 5).bind fun v57 => ((zaI h29 v57 x1).bind fun v61 => (zb2 (zcv h29 a0 7 (m_Model_asksOf 40 a0 v61 x3 h29)) fun v63 h63 => (some (v63, h63)))))
        else (if x2 = (nI 2) then ((zrR h29 a0 7 5).bind fun v76 => ((zaI h29 v76 x1).bind fun v80 => (zb2 (zcv h29 a0 7 (m_Model_owes 40 a0 v80 x3 h29)) fun v82 h82 => (some (v82, h82)))))
          else ((zrR h29 a0 7 5).bind fun v90 => ((zaI h29 v90 x1).bind fun v94 => (zb2 (zcv h29 a0 7 (m_Model_tells 40 a0 v94 x3 h29)) fun v96 h96 => (some (v96, h96))))))))))))))
-- AllHomeModel.trace(I)I
noncomputable def m_Model_trace (a0 : Nat) (x1 : Int32) (h : zH) : Option Int32 :=
  (if x1 < 0 then (some (-1 : Int32))
  else ((zrI h a0 7 27).bind fun v6 => (if v6 ≤ x1 then (some (-1 : Int32))
    else (if (nI 24) ≤ x1 then (some (-1 : Int32))
      else ((zrR h a0 7 26).bind fun v19 => ((zaI h v19 x1).bind fun v23 => (some v23)))))))
-- AllHomeModel.keep(II)I
noncomputable def g_Model_keep_22 (a0 : Nat) (x1 : Int32) (x2 : Int32) (h : zH) : Option (Int32 × zH) :=
((zrR h a0 7 29).bind fun v23 => ((zsI h v23 x1 x2).bind fun h28 => ((zrR h28 a0 7 30).bind fun v30 => ((zsI h28 v30 x1 (nI 0)).bind fun h35 => (some ((nI 1), h35))))))
noncomputable def m_Model_keep (a0 : Nat) (x1 : Int32) (x2 : Int32) (h : zH) : Option (Int32 × zH) :=
  ((m_Model_isShelf x1 h).bind fun v1 => (if v1 = 0 then (some ((-1 : Int32), h))
  else (if x2 = (-1 : Int32) then (g_Model_keep_22 a0 x1 x2 h)
    else ((zcv h a0 7 (m_Model_isWay a0 x2 h)).bind fun v14 => (if v14 = 0 then (some ((-1 : Int32), h))
      else (g_Model_keep_22 a0 x1 x2 h))))))
-- AllHomeModel.row(III)I
noncomputable def g_Model_row_57 (a0 : Nat) (x1 : Int32) (k57 : (Int32 × zH) → Option (Int32 × zH)) (u : Int32 × zH) : Option (Int32 × zH) :=
(if (((nI 60) * x1) + (nI 60)) ≤ u.1 then (some ((nI 1), u.2))
  else ((zrR u.2 a0 7 31).bind fun v70 => ((zsJ u.2 v70 u.1 (0 : Int64)).bind fun h76 => (k57 ((u.1 + (nI 1)), h76)))))
noncomputable def m_Model_row (a0 : Nat) (x1 : Int32) (x2 : Int32) (x3 : Int32) (h : zH) : Option (Int32 × zH) :=
  ((m_Model_isShelf x1 h).bind fun v1 => (if v1 = 0 then (some ((-1 : Int32), h))
  else ((m_Model_within x2.toInt64 (0 : Int64) (4 : Int64) h).bind fun v13 => (if v13 = 0 then (some ((-1 : Int32), h))
    else (if x3 ≤ (nI 60) then (if 0 ≤ x3 then ((zrR h a0 7 29).bind fun v35 => ((zsI h v35 x1 ((nI 10) + x2)).bind fun h43 => ((zrR h43 a0 7 30).bind fun v45 => ((zsI h43 v45 x1 x3).bind fun h50 => (zloop (g_Model_row_57 a0 x1) zN (((nI 60) * x1), h50))))))
        else (some ((-14 : Int32), h)))
      else (some ((-1 : Int32), h)))))))
-- AllHomeModel.refusal(II)I
noncomputable def m_Model_refusal (a0 : Nat) (x1 : Int32) (x2 : Int32) (h : zH) : Option Int32 :=
  ((m_Model_isShelf x1 h).bind fun v1 => (if v1 = 0 then (some (-1 : Int32))
  else ((zrR h a0 7 29).bind fun v10 => ((zaI h v10 x1).bind fun v14 => (if 0 ≤ v14 then ((zrR h a0 7 29).bind fun v22 => ((zaI h v22 x1).bind fun v26 => (if (nI 10) ≤ v26 then (if x2 < 0 then (some (-13 : Int32))
        else ((zrR h a0 7 30).bind fun v41 => ((zaI h v41 x1).bind fun v45 => (if v45 ≤ x2 then (some (-13 : Int32))
          else (some (nI 0))))))
      else (some (-12 : Int32)))))
    else (some (-11 : Int32)))))))
-- AllHomeModel.asSort(IJ)J
noncomputable def m_Model_asSort (x0 : Int32) (x1 : Int64) (h : zH) : Option Int64 :=
  (if x0 = 0 then (some x1.toInt32.toInt8.toInt32.toInt64)
  else (if x0 = (nI 1) then (some x1.toInt32.toInt16.toInt32.toInt64)
    else (if x0 = (nI 2) then (some x1.toInt32.toInt64)
      else (if x0 = (nI 4) then (if (lg_cmp x1 (0 : Int64)) = 0 then (some (0 : Int64))
          else (some (1 : Int64)))
        else (some x1)))))
-- AllHomeModel.put(IIJ)I
noncomputable def m_Model_put (a0 : Nat) (x1 : Int32) (x2 : Int32) (x3 : Int64) (h : zH) : Option (Int32 × zH) :=
  ((zcv h a0 7 (m_Model_refusal a0 x1 x2 h)).bind fun v3 => (if v3 = 0 then ((zrR h a0 7 31).bind fun v14 => ((zrR h a0 7 29).bind fun v24 => ((zaI h v24 x1).bind fun v28 => ((m_Model_asSort (v28 - (nI 10)) x3 h).bind fun v33 => ((zsJ h v14 (((nI 60) * x1) + x2) v33).bind fun h36 => (if v3 = 0 then (some ((nI 1), h36))
    else (some (v3, h36))))))))
  else (if v3 = 0 then (some ((nI 1), h))
    else (some (v3, h)))))
-- AllHomeModel.element(II)J
noncomputable def m_Model_element (a0 : Nat) (x1 : Int32) (x2 : Int32) (h : zH) : Option Int64 :=
  ((zcv h a0 7 (m_Model_refusal a0 x1 x2 h)).bind fun v3 => (if v3 = 0 then ((zrR h a0 7 31).bind fun v16 => ((zaJ h v16 (((nI 60) * x1) + x2)).bind fun v25 => (some v25)))
  else (some (-9223372036854775808 : Int64))))
-- AllHomeModel.shift(IIIII)I
noncomputable def g_Model_shift_150 (a0 : Nat) (x3 : Int32) (x4 : Int32) (x5 : Int32) (k150 : (Int32 × zH) → Option (Int32 × zH)) (u : Int32 × zH) : Option (Int32 × zH) :=
(if x5 ≤ u.1 then (some (x5, u.2))
  else ((zrR u.2 a0 7 31).bind fun v158 => ((zrR u.2 a0 7 32).bind fun v172 => ((zaJ u.2 v172 u.1).bind fun v177 => ((zsJ u.2 v158 ((((nI 60) * x3) + x4) + u.1) v177).bind fun h178 => (k150 ((u.1 + (nI 1)), h178)))))))
noncomputable def g_Model_shift_113 (a0 : Nat) (x1 : Int32) (x2 : Int32) (x3 : Int32) (x4 : Int32) (x5 : Int32) (k113 : (Int32 × zH) → Option (Int32 × zH)) (u : Int32 × zH) : Option (Int32 × zH) :=
(if x5 ≤ u.1 then (zloop (g_Model_shift_150 a0 x3 x4 x5) zN ((nI 0), u.2))
  else ((zrR u.2 a0 7 32).bind fun v121 => ((zrR u.2 a0 7 31).bind fun v127 => ((zaJ u.2 v127 ((((nI 60) * x1) + x2) + u.1)).bind fun v139 => ((zsJ u.2 v121 u.1 v139).bind fun h140 => (k113 ((u.1 + (nI 1)), h140)))))))
noncomputable def m_Model_shift (a0 : Nat) (x1 : Int32) (x2 : Int32) (x3 : Int32) (x4 : Int32) (x5 : Int32) (h : zH) : Option (Int32 × zH) :=
  ((m_Model_isShelf x1 h).bind fun v1 => (if v1 = 0 then (some ((-1 : Int32), h))
  else ((m_Model_isShelf x3 h).bind fun v8 => (if v8 = 0 then (some ((-1 : Int32), h))
    else ((zrR h a0 7 29).bind fun v17 => ((zaI h v17 x1).bind fun v21 => (if v21 < 0 then (some ((-11 : Int32), h))
      else ((zrR h a0 7 29).bind fun v26 => ((zaI h v26 x3).bind fun v30 => (if 0 ≤ v30 then ((zrR h a0 7 29).bind fun v38 => ((zaI h v38 x1).bind fun v42 => (if v42 < (nI 10) then (some ((-12 : Int32), h))
          else ((zrR h a0 7 29).bind fun v49 => ((zaI h v49 x1).bind fun v53 => ((zrR h a0 7 29).bind fun v55 => ((zaI h v55 x3).bind fun v59 => (if v53 = v59 then (if x5 < 0 then (some ((-13 : Int32), h))
              else (if x2 < 0 then (some ((-13 : Int32), h))
                else (if x4 < 0 then (some ((-13 : Int32), h))
                  else ((zrR h a0 7 30).bind fun v82 => ((zaI h v82 x1).bind fun v86 => (if (v86 - x5) < x2 then (some ((-13 : Int32), h))
                    else ((zrR h a0 7 30).bind fun v96 => ((zaI h v96 x3).bind fun v100 => (if x4 ≤ (v100 - x5) then (zloop (g_Model_shift_113 a0 x1 x2 x3 x4 x5) zN ((nI 0), h))
                      else (some ((-13 : Int32), h)))))))))))
            else (some ((-12 : Int32), h))))))))))
        else (some ((-11 : Int32), h))))))))))))
-- AllHomeModel.taken(II)I
noncomputable def g_Model_taken_76 (a0 : Nat) (x1 : Int32) (x2 : Int32) (x3 : Int32) (h : zH) : Option Int32 :=
(if x3 = x2 then ((zrR h a0 7 5).bind fun v82 => ((zrR h a0 7 29).bind fun v86 => ((zaI h v86 x1).bind fun v90 => ((zaI h v82 v90).bind fun v91 => (some v91)))))
  else (some (-12 : Int32)))
noncomputable def g_Model_taken_59 (a0 : Nat) (x1 : Int32) (x2 : Int32) (h : zH) (k59 : (Int32) → Option Int32) (u : Int32) : Option Int32 :=
(if u = x2 then (g_Model_taken_76 a0 x1 x2 u h)
  else (if u ≤ 0 then (g_Model_taken_76 a0 x1 x2 u h)
    else ((m_Model_above u h).bind fun v69 => (k59 v69))))
noncomputable def m_Model_taken (a0 : Nat) (x1 : Int32) (x2 : Int32) (h : zH) : Option Int32 :=
  ((m_Model_isShelf x1 h).bind fun v1 => (if v1 = 0 then (some (-1 : Int32))
  else ((m_Model_within x2.toInt64 (0 : Int64) (8 : Int64) h).bind fun v13 => (if v13 = 0 then (some (-1 : Int32))
    else ((zrR h a0 7 29).bind fun v22 => ((zaI h v22 x1).bind fun v26 => (if 0 ≤ v26 then ((zrR h a0 7 29).bind fun v34 => ((zaI h v34 x1).bind fun v38 => (if v38 < (nI 10) then ((zrR h a0 7 5).bind fun v48 => ((zrR h a0 7 29).bind fun v52 => ((zaI h v52 x1).bind fun v56 => ((zaI h v48 v56).bind fun v57 => (zloop (g_Model_taken_59 a0 x1 x2 h) zN v57)))))
        else (some (-12 : Int32)))))
      else (some (-11 : Int32)))))))))
-- AllHomeModel.count(I)I
noncomputable def m_Model_count (a0 : Nat) (x1 : Int32) (h : zH) : Option Int32 :=
  (if x1 = (nI 0) then ((zrI h a0 7 4).bind fun v37 => (some v37))
  else (if x1 = (nI 1) then ((zrI h a0 7 6).bind fun v42 => (some v42))
  else (if x1 = (nI 2) then ((zrI h a0 7 19).bind fun v47 => (some v47))
  else (if x1 = (nI 3) then ((zrI h a0 7 1).bind fun v52 => (some v52))
  else (if x1 = (nI 4) then ((zrI h a0 7 27).bind fun v57 => (some v57))
  else (some (-1 : Int32)))))))
