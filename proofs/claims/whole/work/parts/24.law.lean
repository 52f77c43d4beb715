def zlp : Option zE × Nat → Bool := fun q => match q.1 with
  | none => true
  | some e => zce (zons.getD 330 0) (zinits.getD 330 0) (zrc (zret 330)) q.2 e && decide (decode (zbyt 330) q.2 = .ok (e.1, e.2.1))
theorem zlw_0 : ((zk_330.zipIdx.drop 0).take 50).all zlp = true := by decide +kernel
theorem zlw_1 : ((zk_330.zipIdx.drop 50).take 50).all zlp = true := by decide +kernel
theorem zlw_2 : ((zk_330.zipIdx.drop 100).take 50).all zlp = true := by decide +kernel
theorem zlw_3 : ((zk_330.zipIdx.drop 150).take 50).all zlp = true := by decide +kernel
theorem zlw_4 : ((zk_330.zipIdx.drop 200).take 50).all zlp = true := by decide +kernel
theorem zlw_5 : ((zk_330.zipIdx.drop 250).take 50).all zlp = true := by decide +kernel
theorem zlw_6 : ((zk_330.zipIdx.drop 300).take 50).all zlp = true := by decide +kernel
theorem zlw_7 : ((zk_330.zipIdx.drop 350).take 50).all zlp = true := by decide +kernel
theorem zlw_8 : ((zk_330.zipIdx.drop 400).take 50).all zlp = true := by decide +kernel
theorem zlw_9 : ((zk_330.zipIdx.drop 450).take 50).all zlp = true := by decide +kernel
theorem zlw_10 : ((zk_330.zipIdx.drop 500).take 50).all zlp = true := by decide +kernel
theorem zlw_11 : ((zk_330.zipIdx.drop 550).take 50).all zlp = true := by decide +kernel
theorem zlw_12 : ((zk_330.zipIdx.drop 600).take 50).all zlp = true := by decide +kernel
theorem zlw_13 : ((zk_330.zipIdx.drop 650).take 50).all zlp = true := by decide +kernel
theorem zlw_14 : ((zk_330.zipIdx.drop 700).take 50).all zlp = true := by decide +kernel
theorem zlw_15 : ((zk_330.zipIdx.drop 750).take 50).all zlp = true := by decide +kernel
theorem zlw_16 : ((zk_330.zipIdx.drop 800).take 50).all zlp = true := by decide +kernel
theorem zlw_17 : ((zk_330.zipIdx.drop 850).take 50).all zlp = true := by decide +kernel
theorem zlw_18 : ((zk_330.zipIdx.drop 900).take 50).all zlp = true := by decide +kernel
theorem zlw_19 : ((zk_330.zipIdx.drop 950).take 50).all zlp = true := by decide +kernel
theorem zlw_20 : ((zk_330.zipIdx.drop 1000).take 50).all zlp = true := by decide +kernel
theorem zlw_21 : ((zk_330.zipIdx.drop 1050).take 50).all zlp = true := by decide +kernel
theorem zlw_22 : ((zk_330.zipIdx.drop 1100).take 50).all zlp = true := by decide +kernel
theorem zlw_23 : ((zk_330.zipIdx.drop 1150).take 50).all zlp = true := by decide +kernel
theorem zlw_24 : ((zk_330.zipIdx.drop 1200).take 50).all zlp = true := by decide +kernel
theorem zlw_all : zk_330.zipIdx.all zlp = true := by
  refine List.all_eq_true.mpr fun q hq => ?_
  obtain ⟨i, hi⟩ := List.getElem?_of_mem hq
  have hz : zk_330.zipIdx.length = 1221 := by decide +kernel
  have hl := (List.getElem?_eq_some_iff.mp hi).1
  rw [hz] at hl
  have key : ∀ o : Nat, ((zk_330.zipIdx.drop o).take 50).all zlp = true → o ≤ i → i < o + 50 → zlp q = true := by
    intro o ho h1 h2
    refine List.all_eq_true.mp ho q (List.mem_of_getElem? (i := i - o) ?_)
    rw [List.getElem?_take, if_pos (by omega), List.getElem?_drop, show o + (i - o) = i by omega]
    exact hi
  rcases Nat.lt_or_ge i 50 with z | z
  · exact key 0 zlw_0 (by omega) (by omega)
  rcases Nat.lt_or_ge i 100 with z | z
  · exact key 50 zlw_1 (by omega) (by omega)
  rcases Nat.lt_or_ge i 150 with z | z
  · exact key 100 zlw_2 (by omega) (by omega)
  rcases Nat.lt_or_ge i 200 with z | z
  · exact key 150 zlw_3 (by omega) (by omega)
  rcases Nat.lt_or_ge i 250 with z | z
  · exact key 200 zlw_4 (by omega) (by omega)
  rcases Nat.lt_or_ge i 300 with z | z
  · exact key 250 zlw_5 (by omega) (by omega)
  rcases Nat.lt_or_ge i 350 with z | z
  · exact key 300 zlw_6 (by omega) (by omega)
  rcases Nat.lt_or_ge i 400 with z | z
  · exact key 350 zlw_7 (by omega) (by omega)
  rcases Nat.lt_or_ge i 450 with z | z
  · exact key 400 zlw_8 (by omega) (by omega)
  rcases Nat.lt_or_ge i 500 with z | z
  · exact key 450 zlw_9 (by omega) (by omega)
  rcases Nat.lt_or_ge i 550 with z | z
  · exact key 500 zlw_10 (by omega) (by omega)
  rcases Nat.lt_or_ge i 600 with z | z
  · exact key 550 zlw_11 (by omega) (by omega)
  rcases Nat.lt_or_ge i 650 with z | z
  · exact key 600 zlw_12 (by omega) (by omega)
  rcases Nat.lt_or_ge i 700 with z | z
  · exact key 650 zlw_13 (by omega) (by omega)
  rcases Nat.lt_or_ge i 750 with z | z
  · exact key 700 zlw_14 (by omega) (by omega)
  rcases Nat.lt_or_ge i 800 with z | z
  · exact key 750 zlw_15 (by omega) (by omega)
  rcases Nat.lt_or_ge i 850 with z | z
  · exact key 800 zlw_16 (by omega) (by omega)
  rcases Nat.lt_or_ge i 900 with z | z
  · exact key 850 zlw_17 (by omega) (by omega)
  rcases Nat.lt_or_ge i 950 with z | z
  · exact key 900 zlw_18 (by omega) (by omega)
  rcases Nat.lt_or_ge i 1000 with z | z
  · exact key 950 zlw_19 (by omega) (by omega)
  rcases Nat.lt_or_ge i 1050 with z | z
  · exact key 1000 zlw_20 (by omega) (by omega)
  rcases Nat.lt_or_ge i 1100 with z | z
  · exact key 1050 zlw_21 (by omega) (by omega)
  rcases Nat.lt_or_ge i 1150 with z | z
  · exact key 1100 zlw_22 (by omega) (by omega)
  rcases Nat.lt_or_ge i 1200 with z | z
  · exact key 1150 zlw_23 (by omega) (by omega)
  exact key 1200 zlw_24 (by omega) (by omega)
theorem zcm_330 : zckM 330 = true := by
  have h : zckM 330 = (decide ((zmn 330).cls = zcn (zons.getD 330 0)) && decide (zinits.getD 330 0 = 1 → (zmn 330).name = "<init>") && zk_330.zipIdx.all zlp) := rfl
  rw [h, zlw_all, Bool.and_true]
  decide +kernel
theorem zPOK_ok : zPOK zcl zTs zcod zinf zmn zbyt zret := by
  intro M pc i len a b c hc
  refine zckM_ok ?_ pc i len a b c hc
  have hM : M < 331 := by
    rcases Nat.lt_or_ge M 331 with q | q
    · exact q
    · exfalso
      unfold zcod at hc
      split at hc
      · cases hc
      · next ch hch =>
        have h8 : zpcs.length = 9 := by decide +kernel
        have hl := (List.getElem?_eq_some_iff.mp hch).1
        rw [h8] at hl
        have h9 : M / 40 = 8 := by omega
        rw [h9] at hch
        have e9 : zpcs[8]? = some zpr_8 := rfl
        rw [e9] at hch
        cases hch
        split at hc
        · cases hc
        · next l2 hl2 =>
          have h10 : zpr_8.length = 11 := by decide +kernel
          have := (List.getElem?_eq_some_iff.mp hl2).1
          rw [h10] at this
          omega
  rcases Nat.lt_or_ge M 165 with q165 | q165
  · rcases Nat.lt_or_ge M 82 with q82 | q82
    · rcases Nat.lt_or_ge M 41 with q41 | q41
      · rcases Nat.lt_or_ge M 20 with q20 | q20
        · rcases Nat.lt_or_ge M 10 with q10 | q10
          · rcases Nat.lt_or_ge M 5 with q5 | q5
            · rcases Nat.lt_or_ge M 2 with q2 | q2
              · rcases Nat.lt_or_ge M 1 with q1 | q1
                · have e : M = 0 := by omega
                  subst e
                  exact zcm_0
                · have e : M = 1 := by omega
                  subst e
                  exact zcm_1
              · rcases Nat.lt_or_ge M 3 with q3 | q3
                · have e : M = 2 := by omega
                  subst e
                  exact zcm_2
                · rcases Nat.lt_or_ge M 4 with q4 | q4
                  · have e : M = 3 := by omega
                    subst e
                    exact zcm_3
                  · have e : M = 4 := by omega
                    subst e
                    exact zcm_4
            · rcases Nat.lt_or_ge M 7 with q7 | q7
              · rcases Nat.lt_or_ge M 6 with q6 | q6
                · have e : M = 5 := by omega
                  subst e
                  exact zcm_5
                · have e : M = 6 := by omega
                  subst e
                  exact zcm_6
              · rcases Nat.lt_or_ge M 8 with q8 | q8
                · have e : M = 7 := by omega
                  subst e
                  exact zcm_7
                · rcases Nat.lt_or_ge M 9 with q9 | q9
                  · have e : M = 8 := by omega
                    subst e
                    exact zcm_8
                  · have e : M = 9 := by omega
                    subst e
                    exact zcm_9
          · rcases Nat.lt_or_ge M 15 with q15 | q15
            · rcases Nat.lt_or_ge M 12 with q12 | q12
              · rcases Nat.lt_or_ge M 11 with q11 | q11
                · have e : M = 10 := by omega
                  subst e
                  exact zcm_10
                · have e : M = 11 := by omega
                  subst e
                  exact zcm_11
              · rcases Nat.lt_or_ge M 13 with q13 | q13
                · have e : M = 12 := by omega
                  subst e
                  exact zcm_12
                · rcases Nat.lt_or_ge M 14 with q14 | q14
                  · have e : M = 13 := by omega
                    subst e
                    exact zcm_13
                  · have e : M = 14 := by omega
                    subst e
                    exact zcm_14
            · rcases Nat.lt_or_ge M 17 with q17 | q17
              · rcases Nat.lt_or_ge M 16 with q16 | q16
                · have e : M = 15 := by omega
                  subst e
                  exact zcm_15
                · have e : M = 16 := by omega
                  subst e
                  exact zcm_16
              · rcases Nat.lt_or_ge M 18 with q18 | q18
                · have e : M = 17 := by omega
                  subst e
                  exact zcm_17
                · rcases Nat.lt_or_ge M 19 with q19 | q19
                  · have e : M = 18 := by omega
                    subst e
                    exact zcm_18
                  · have e : M = 19 := by omega
                    subst e
                    exact zcm_19
        · rcases Nat.lt_or_ge M 30 with q30 | q30
          · rcases Nat.lt_or_ge M 25 with q25 | q25
            · rcases Nat.lt_or_ge M 22 with q22 | q22
              · rcases Nat.lt_or_ge M 21 with q21 | q21
                · have e : M = 20 := by omega
                  subst e
                  exact zcm_20
                · have e : M = 21 := by omega
                  subst e
                  exact zcm_21
              · rcases Nat.lt_or_ge M 23 with q23 | q23
                · have e : M = 22 := by omega
                  subst e
                  exact zcm_22
                · rcases Nat.lt_or_ge M 24 with q24 | q24
                  · have e : M = 23 := by omega
                    subst e
                    exact zcm_23
                  · have e : M = 24 := by omega
                    subst e
                    exact zcm_24
            · rcases Nat.lt_or_ge M 27 with q27 | q27
              · rcases Nat.lt_or_ge M 26 with q26 | q26
                · have e : M = 25 := by omega
                  subst e
                  exact zcm_25
                · have e : M = 26 := by omega
                  subst e
                  exact zcm_26
              · rcases Nat.lt_or_ge M 28 with q28 | q28
                · have e : M = 27 := by omega
                  subst e
                  exact zcm_27
                · rcases Nat.lt_or_ge M 29 with q29 | q29
                  · have e : M = 28 := by omega
                    subst e
                    exact zcm_28
                  · have e : M = 29 := by omega
                    subst e
                    exact zcm_29
          · rcases Nat.lt_or_ge M 35 with q35 | q35
            · rcases Nat.lt_or_ge M 32 with q32 | q32
              · rcases Nat.lt_or_ge M 31 with q31 | q31
                · have e : M = 30 := by omega
                  subst e
                  exact zcm_30
                · have e : M = 31 := by omega
                  subst e
                  exact zcm_31
              · rcases Nat.lt_or_ge M 33 with q33 | q33
                · have e : M = 32 := by omega
                  subst e
                  exact zcm_32
                · rcases Nat.lt_or_ge M 34 with q34 | q34
                  · have e : M = 33 := by omega
                    subst e
                    exact zcm_33
                  · have e : M = 34 := by omega
                    subst e
                    exact zcm_34
            · rcases Nat.lt_or_ge M 38 with q38 | q38
              · rcases Nat.lt_or_ge M 36 with q36 | q36
                · have e : M = 35 := by omega
                  subst e
                  exact zcm_35
                · rcases Nat.lt_or_ge M 37 with q37 | q37
                  · have e : M = 36 := by omega
                    subst e
                    exact zcm_36
                  · have e : M = 37 := by omega
                    subst e
                    exact zcm_37
              · rcases Nat.lt_or_ge M 39 with q39 | q39
                · have e : M = 38 := by omega
                  subst e
                  exact zcm_38
                · rcases Nat.lt_or_ge M 40 with q40 | q40
                  · have e : M = 39 := by omega
                    subst e
                    exact zcm_39
                  · have e : M = 40 := by omega
                    subst e
                    exact zcm_40
      · rcases Nat.lt_or_ge M 61 with q61 | q61
        · rcases Nat.lt_or_ge M 51 with q51 | q51
          · rcases Nat.lt_or_ge M 46 with q46 | q46
            · rcases Nat.lt_or_ge M 43 with q43 | q43
              · rcases Nat.lt_or_ge M 42 with q42 | q42
                · have e : M = 41 := by omega
                  subst e
                  exact zcm_41
                · have e : M = 42 := by omega
                  subst e
                  exact zcm_42
              · rcases Nat.lt_or_ge M 44 with q44 | q44
                · have e : M = 43 := by omega
                  subst e
                  exact zcm_43
                · rcases Nat.lt_or_ge M 45 with q45 | q45
                  · have e : M = 44 := by omega
                    subst e
                    exact zcm_44
                  · have e : M = 45 := by omega
                    subst e
                    exact zcm_45
            · rcases Nat.lt_or_ge M 48 with q48 | q48
              · rcases Nat.lt_or_ge M 47 with q47 | q47
                · have e : M = 46 := by omega
                  subst e
                  exact zcm_46
                · have e : M = 47 := by omega
                  subst e
                  exact zcm_47
              · rcases Nat.lt_or_ge M 49 with q49 | q49
                · have e : M = 48 := by omega
                  subst e
                  exact zcm_48
                · rcases Nat.lt_or_ge M 50 with q50 | q50
                  · have e : M = 49 := by omega
                    subst e
                    exact zcm_49
                  · have e : M = 50 := by omega
                    subst e
                    exact zcm_50
          · rcases Nat.lt_or_ge M 56 with q56 | q56
            · rcases Nat.lt_or_ge M 53 with q53 | q53
              · rcases Nat.lt_or_ge M 52 with q52 | q52
                · have e : M = 51 := by omega
                  subst e
                  exact zcm_51
                · have e : M = 52 := by omega
                  subst e
                  exact zcm_52
              · rcases Nat.lt_or_ge M 54 with q54 | q54
                · have e : M = 53 := by omega
                  subst e
                  exact zcm_53
                · rcases Nat.lt_or_ge M 55 with q55 | q55
                  · have e : M = 54 := by omega
                    subst e
                    exact zcm_54
                  · have e : M = 55 := by omega
                    subst e
                    exact zcm_55
            · rcases Nat.lt_or_ge M 58 with q58 | q58
              · rcases Nat.lt_or_ge M 57 with q57 | q57
                · have e : M = 56 := by omega
                  subst e
                  exact zcm_56
                · have e : M = 57 := by omega
                  subst e
                  exact zcm_57
              · rcases Nat.lt_or_ge M 59 with q59 | q59
                · have e : M = 58 := by omega
                  subst e
                  exact zcm_58
                · rcases Nat.lt_or_ge M 60 with q60 | q60
                  · have e : M = 59 := by omega
                    subst e
                    exact zcm_59
                  · have e : M = 60 := by omega
                    subst e
                    exact zcm_60
        · rcases Nat.lt_or_ge M 71 with q71 | q71
          · rcases Nat.lt_or_ge M 66 with q66 | q66
            · rcases Nat.lt_or_ge M 63 with q63 | q63
              · rcases Nat.lt_or_ge M 62 with q62 | q62
                · have e : M = 61 := by omega
                  subst e
                  exact zcm_61
                · have e : M = 62 := by omega
                  subst e
                  exact zcm_62
              · rcases Nat.lt_or_ge M 64 with q64 | q64
                · have e : M = 63 := by omega
                  subst e
                  exact zcm_63
                · rcases Nat.lt_or_ge M 65 with q65 | q65
                  · have e : M = 64 := by omega
                    subst e
                    exact zcm_64
                  · have e : M = 65 := by omega
                    subst e
                    exact zcm_65
            · rcases Nat.lt_or_ge M 68 with q68 | q68
              · rcases Nat.lt_or_ge M 67 with q67 | q67
                · have e : M = 66 := by omega
                  subst e
                  exact zcm_66
                · have e : M = 67 := by omega
                  subst e
                  exact zcm_67
              · rcases Nat.lt_or_ge M 69 with q69 | q69
                · have e : M = 68 := by omega
                  subst e
                  exact zcm_68
                · rcases Nat.lt_or_ge M 70 with q70 | q70
                  · have e : M = 69 := by omega
                    subst e
                    exact zcm_69
                  · have e : M = 70 := by omega
                    subst e
                    exact zcm_70
          · rcases Nat.lt_or_ge M 76 with q76 | q76
            · rcases Nat.lt_or_ge M 73 with q73 | q73
              · rcases Nat.lt_or_ge M 72 with q72 | q72
                · have e : M = 71 := by omega
                  subst e
                  exact zcm_71
                · have e : M = 72 := by omega
                  subst e
                  exact zcm_72
              · rcases Nat.lt_or_ge M 74 with q74 | q74
                · have e : M = 73 := by omega
                  subst e
                  exact zcm_73
                · rcases Nat.lt_or_ge M 75 with q75 | q75
                  · have e : M = 74 := by omega
                    subst e
                    exact zcm_74
                  · have e : M = 75 := by omega
                    subst e
                    exact zcm_75
            · rcases Nat.lt_or_ge M 79 with q79 | q79
              · rcases Nat.lt_or_ge M 77 with q77 | q77
                · have e : M = 76 := by omega
                  subst e
                  exact zcm_76
                · rcases Nat.lt_or_ge M 78 with q78 | q78
                  · have e : M = 77 := by omega
                    subst e
                    exact zcm_77
                  · have e : M = 78 := by omega
                    subst e
                    exact zcm_78
              · rcases Nat.lt_or_ge M 80 with q80 | q80
                · have e : M = 79 := by omega
                  subst e
                  exact zcm_79
                · rcases Nat.lt_or_ge M 81 with q81 | q81
                  · have e : M = 80 := by omega
                    subst e
                    exact zcm_80
                  · have e : M = 81 := by omega
                    subst e
                    exact zcm_81
    · rcases Nat.lt_or_ge M 123 with q123 | q123
      · rcases Nat.lt_or_ge M 102 with q102 | q102
        · rcases Nat.lt_or_ge M 92 with q92 | q92
          · rcases Nat.lt_or_ge M 87 with q87 | q87
            · rcases Nat.lt_or_ge M 84 with q84 | q84
              · rcases Nat.lt_or_ge M 83 with q83 | q83
                · have e : M = 82 := by omega
                  subst e
                  exact zcm_82
                · have e : M = 83 := by omega
                  subst e
                  exact zcm_83
              · rcases Nat.lt_or_ge M 85 with q85 | q85
                · have e : M = 84 := by omega
                  subst e
                  exact zcm_84
                · rcases Nat.lt_or_ge M 86 with q86 | q86
                  · have e : M = 85 := by omega
                    subst e
                    exact zcm_85
                  · have e : M = 86 := by omega
                    subst e
                    exact zcm_86
            · rcases Nat.lt_or_ge M 89 with q89 | q89
              · rcases Nat.lt_or_ge M 88 with q88 | q88
                · have e : M = 87 := by omega
                  subst e
                  exact zcm_87
                · have e : M = 88 := by omega
                  subst e
                  exact zcm_88
              · rcases Nat.lt_or_ge M 90 with q90 | q90
                · have e : M = 89 := by omega
                  subst e
                  exact zcm_89
                · rcases Nat.lt_or_ge M 91 with q91 | q91
                  · have e : M = 90 := by omega
                    subst e
                    exact zcm_90
                  · have e : M = 91 := by omega
                    subst e
                    exact zcm_91
          · rcases Nat.lt_or_ge M 97 with q97 | q97
            · rcases Nat.lt_or_ge M 94 with q94 | q94
              · rcases Nat.lt_or_ge M 93 with q93 | q93
                · have e : M = 92 := by omega
                  subst e
                  exact zcm_92
                · have e : M = 93 := by omega
                  subst e
                  exact zcm_93
              · rcases Nat.lt_or_ge M 95 with q95 | q95
                · have e : M = 94 := by omega
                  subst e
                  exact zcm_94
                · rcases Nat.lt_or_ge M 96 with q96 | q96
                  · have e : M = 95 := by omega
                    subst e
                    exact zcm_95
                  · have e : M = 96 := by omega
                    subst e
                    exact zcm_96
            · rcases Nat.lt_or_ge M 99 with q99 | q99
              · rcases Nat.lt_or_ge M 98 with q98 | q98
                · have e : M = 97 := by omega
                  subst e
                  exact zcm_97
                · have e : M = 98 := by omega
                  subst e
                  exact zcm_98
              · rcases Nat.lt_or_ge M 100 with q100 | q100
                · have e : M = 99 := by omega
                  subst e
                  exact zcm_99
                · rcases Nat.lt_or_ge M 101 with q101 | q101
                  · have e : M = 100 := by omega
                    subst e
                    exact zcm_100
                  · have e : M = 101 := by omega
                    subst e
                    exact zcm_101
        · rcases Nat.lt_or_ge M 112 with q112 | q112
          · rcases Nat.lt_or_ge M 107 with q107 | q107
            · rcases Nat.lt_or_ge M 104 with q104 | q104
              · rcases Nat.lt_or_ge M 103 with q103 | q103
                · have e : M = 102 := by omega
                  subst e
                  exact zcm_102
                · have e : M = 103 := by omega
                  subst e
                  exact zcm_103
              · rcases Nat.lt_or_ge M 105 with q105 | q105
                · have e : M = 104 := by omega
                  subst e
                  exact zcm_104
                · rcases Nat.lt_or_ge M 106 with q106 | q106
                  · have e : M = 105 := by omega
                    subst e
                    exact zcm_105
                  · have e : M = 106 := by omega
                    subst e
                    exact zcm_106
            · rcases Nat.lt_or_ge M 109 with q109 | q109
              · rcases Nat.lt_or_ge M 108 with q108 | q108
                · have e : M = 107 := by omega
                  subst e
                  exact zcm_107
                · have e : M = 108 := by omega
                  subst e
                  exact zcm_108
              · rcases Nat.lt_or_ge M 110 with q110 | q110
                · have e : M = 109 := by omega
                  subst e
                  exact zcm_109
                · rcases Nat.lt_or_ge M 111 with q111 | q111
                  · have e : M = 110 := by omega
                    subst e
                    exact zcm_110
                  · have e : M = 111 := by omega
                    subst e
                    exact zcm_111
          · rcases Nat.lt_or_ge M 117 with q117 | q117
            · rcases Nat.lt_or_ge M 114 with q114 | q114
              · rcases Nat.lt_or_ge M 113 with q113 | q113
                · have e : M = 112 := by omega
                  subst e
                  exact zcm_112
                · have e : M = 113 := by omega
                  subst e
                  exact zcm_113
              · rcases Nat.lt_or_ge M 115 with q115 | q115
                · have e : M = 114 := by omega
                  subst e
                  exact zcm_114
                · rcases Nat.lt_or_ge M 116 with q116 | q116
                  · have e : M = 115 := by omega
                    subst e
                    exact zcm_115
                  · have e : M = 116 := by omega
                    subst e
                    exact zcm_116
            · rcases Nat.lt_or_ge M 120 with q120 | q120
              · rcases Nat.lt_or_ge M 118 with q118 | q118
                · have e : M = 117 := by omega
                  subst e
                  exact zcm_117
                · rcases Nat.lt_or_ge M 119 with q119 | q119
                  · have e : M = 118 := by omega
                    subst e
                    exact zcm_118
                  · have e : M = 119 := by omega
                    subst e
                    exact zcm_119
              · rcases Nat.lt_or_ge M 121 with q121 | q121
                · have e : M = 120 := by omega
                  subst e
                  exact zcm_120
                · rcases Nat.lt_or_ge M 122 with q122 | q122
                  · have e : M = 121 := by omega
                    subst e
                    exact zcm_121
                  · have e : M = 122 := by omega
                    subst e
                    exact zcm_122
      · rcases Nat.lt_or_ge M 144 with q144 | q144
        · rcases Nat.lt_or_ge M 133 with q133 | q133
          · rcases Nat.lt_or_ge M 128 with q128 | q128
            · rcases Nat.lt_or_ge M 125 with q125 | q125
              · rcases Nat.lt_or_ge M 124 with q124 | q124
                · have e : M = 123 := by omega
                  subst e
                  exact zcm_123
                · have e : M = 124 := by omega
                  subst e
                  exact zcm_124
              · rcases Nat.lt_or_ge M 126 with q126 | q126
                · have e : M = 125 := by omega
                  subst e
                  exact zcm_125
                · rcases Nat.lt_or_ge M 127 with q127 | q127
                  · have e : M = 126 := by omega
                    subst e
                    exact zcm_126
                  · have e : M = 127 := by omega
                    subst e
                    exact zcm_127
            · rcases Nat.lt_or_ge M 130 with q130 | q130
              · rcases Nat.lt_or_ge M 129 with q129 | q129
                · have e : M = 128 := by omega
                  subst e
                  exact zcm_128
                · have e : M = 129 := by omega
                  subst e
                  exact zcm_129
              · rcases Nat.lt_or_ge M 131 with q131 | q131
                · have e : M = 130 := by omega
                  subst e
                  exact zcm_130
                · rcases Nat.lt_or_ge M 132 with q132 | q132
                  · have e : M = 131 := by omega
                    subst e
                    exact zcm_131
                  · have e : M = 132 := by omega
                    subst e
                    exact zcm_132
          · rcases Nat.lt_or_ge M 138 with q138 | q138
            · rcases Nat.lt_or_ge M 135 with q135 | q135
              · rcases Nat.lt_or_ge M 134 with q134 | q134
                · have e : M = 133 := by omega
                  subst e
                  exact zcm_133
                · have e : M = 134 := by omega
                  subst e
                  exact zcm_134
              · rcases Nat.lt_or_ge M 136 with q136 | q136
                · have e : M = 135 := by omega
                  subst e
                  exact zcm_135
                · rcases Nat.lt_or_ge M 137 with q137 | q137
                  · have e : M = 136 := by omega
                    subst e
                    exact zcm_136
                  · have e : M = 137 := by omega
                    subst e
                    exact zcm_137
            · rcases Nat.lt_or_ge M 141 with q141 | q141
              · rcases Nat.lt_or_ge M 139 with q139 | q139
                · have e : M = 138 := by omega
                  subst e
                  exact zcm_138
                · rcases Nat.lt_or_ge M 140 with q140 | q140
                  · have e : M = 139 := by omega
                    subst e
                    exact zcm_139
                  · have e : M = 140 := by omega
                    subst e
                    exact zcm_140
              · rcases Nat.lt_or_ge M 142 with q142 | q142
                · have e : M = 141 := by omega
                  subst e
                  exact zcm_141
                · rcases Nat.lt_or_ge M 143 with q143 | q143
                  · have e : M = 142 := by omega
                    subst e
                    exact zcm_142
                  · have e : M = 143 := by omega
                    subst e
                    exact zcm_143
        · rcases Nat.lt_or_ge M 154 with q154 | q154
          · rcases Nat.lt_or_ge M 149 with q149 | q149
            · rcases Nat.lt_or_ge M 146 with q146 | q146
              · rcases Nat.lt_or_ge M 145 with q145 | q145
                · have e : M = 144 := by omega
                  subst e
                  exact zcm_144
                · have e : M = 145 := by omega
                  subst e
                  exact zcm_145
              · rcases Nat.lt_or_ge M 147 with q147 | q147
                · have e : M = 146 := by omega
                  subst e
                  exact zcm_146
                · rcases Nat.lt_or_ge M 148 with q148 | q148
                  · have e : M = 147 := by omega
                    subst e
                    exact zcm_147
                  · have e : M = 148 := by omega
                    subst e
                    exact zcm_148
            · rcases Nat.lt_or_ge M 151 with q151 | q151
              · rcases Nat.lt_or_ge M 150 with q150 | q150
                · have e : M = 149 := by omega
                  subst e
                  exact zcm_149
                · have e : M = 150 := by omega
                  subst e
                  exact zcm_150
              · rcases Nat.lt_or_ge M 152 with q152 | q152
                · have e : M = 151 := by omega
                  subst e
                  exact zcm_151
                · rcases Nat.lt_or_ge M 153 with q153 | q153
                  · have e : M = 152 := by omega
                    subst e
                    exact zcm_152
                  · have e : M = 153 := by omega
                    subst e
                    exact zcm_153
          · rcases Nat.lt_or_ge M 159 with q159 | q159
            · rcases Nat.lt_or_ge M 156 with q156 | q156
              · rcases Nat.lt_or_ge M 155 with q155 | q155
                · have e : M = 154 := by omega
                  subst e
                  exact zcm_154
                · have e : M = 155 := by omega
                  subst e
                  exact zcm_155
              · rcases Nat.lt_or_ge M 157 with q157 | q157
                · have e : M = 156 := by omega
                  subst e
                  exact zcm_156
                · rcases Nat.lt_or_ge M 158 with q158 | q158
                  · have e : M = 157 := by omega
                    subst e
                    exact zcm_157
                  · have e : M = 158 := by omega
                    subst e
                    exact zcm_158
            · rcases Nat.lt_or_ge M 162 with q162 | q162
              · rcases Nat.lt_or_ge M 160 with q160 | q160
                · have e : M = 159 := by omega
                  subst e
                  exact zcm_159
                · rcases Nat.lt_or_ge M 161 with q161 | q161
                  · have e : M = 160 := by omega
                    subst e
                    exact zcm_160
                  · have e : M = 161 := by omega
                    subst e
                    exact zcm_161
              · rcases Nat.lt_or_ge M 163 with q163 | q163
                · have e : M = 162 := by omega
                  subst e
                  exact zcm_162
                · rcases Nat.lt_or_ge M 164 with q164 | q164
                  · have e : M = 163 := by omega
                    subst e
                    exact zcm_163
                  · have e : M = 164 := by omega
                    subst e
                    exact zcm_164
  · rcases Nat.lt_or_ge M 248 with q248 | q248
    · rcases Nat.lt_or_ge M 206 with q206 | q206
      · rcases Nat.lt_or_ge M 185 with q185 | q185
        · rcases Nat.lt_or_ge M 175 with q175 | q175
          · rcases Nat.lt_or_ge M 170 with q170 | q170
            · rcases Nat.lt_or_ge M 167 with q167 | q167
              · rcases Nat.lt_or_ge M 166 with q166 | q166
                · have e : M = 165 := by omega
                  subst e
                  exact zcm_165
                · have e : M = 166 := by omega
                  subst e
                  exact zcm_166
              · rcases Nat.lt_or_ge M 168 with q168 | q168
                · have e : M = 167 := by omega
                  subst e
                  exact zcm_167
                · rcases Nat.lt_or_ge M 169 with q169 | q169
                  · have e : M = 168 := by omega
                    subst e
                    exact zcm_168
                  · have e : M = 169 := by omega
                    subst e
                    exact zcm_169
            · rcases Nat.lt_or_ge M 172 with q172 | q172
              · rcases Nat.lt_or_ge M 171 with q171 | q171
                · have e : M = 170 := by omega
                  subst e
                  exact zcm_170
                · have e : M = 171 := by omega
                  subst e
                  exact zcm_171
              · rcases Nat.lt_or_ge M 173 with q173 | q173
                · have e : M = 172 := by omega
                  subst e
                  exact zcm_172
                · rcases Nat.lt_or_ge M 174 with q174 | q174
                  · have e : M = 173 := by omega
                    subst e
                    exact zcm_173
                  · have e : M = 174 := by omega
                    subst e
                    exact zcm_174
          · rcases Nat.lt_or_ge M 180 with q180 | q180
            · rcases Nat.lt_or_ge M 177 with q177 | q177
              · rcases Nat.lt_or_ge M 176 with q176 | q176
                · have e : M = 175 := by omega
                  subst e
                  exact zcm_175
                · have e : M = 176 := by omega
                  subst e
                  exact zcm_176
              · rcases Nat.lt_or_ge M 178 with q178 | q178
                · have e : M = 177 := by omega
                  subst e
                  exact zcm_177
                · rcases Nat.lt_or_ge M 179 with q179 | q179
                  · have e : M = 178 := by omega
                    subst e
                    exact zcm_178
                  · have e : M = 179 := by omega
                    subst e
                    exact zcm_179
            · rcases Nat.lt_or_ge M 182 with q182 | q182
              · rcases Nat.lt_or_ge M 181 with q181 | q181
                · have e : M = 180 := by omega
                  subst e
                  exact zcm_180
                · have e : M = 181 := by omega
                  subst e
                  exact zcm_181
              · rcases Nat.lt_or_ge M 183 with q183 | q183
                · have e : M = 182 := by omega
                  subst e
                  exact zcm_182
                · rcases Nat.lt_or_ge M 184 with q184 | q184
                  · have e : M = 183 := by omega
                    subst e
                    exact zcm_183
                  · have e : M = 184 := by omega
                    subst e
                    exact zcm_184
        · rcases Nat.lt_or_ge M 195 with q195 | q195
          · rcases Nat.lt_or_ge M 190 with q190 | q190
            · rcases Nat.lt_or_ge M 187 with q187 | q187
              · rcases Nat.lt_or_ge M 186 with q186 | q186
                · have e : M = 185 := by omega
                  subst e
                  exact zcm_185
                · have e : M = 186 := by omega
                  subst e
                  exact zcm_186
              · rcases Nat.lt_or_ge M 188 with q188 | q188
                · have e : M = 187 := by omega
                  subst e
                  exact zcm_187
                · rcases Nat.lt_or_ge M 189 with q189 | q189
                  · have e : M = 188 := by omega
                    subst e
                    exact zcm_188
                  · have e : M = 189 := by omega
                    subst e
                    exact zcm_189
            · rcases Nat.lt_or_ge M 192 with q192 | q192
              · rcases Nat.lt_or_ge M 191 with q191 | q191
                · have e : M = 190 := by omega
                  subst e
                  exact zcm_190
                · have e : M = 191 := by omega
                  subst e
                  exact zcm_191
              · rcases Nat.lt_or_ge M 193 with q193 | q193
                · have e : M = 192 := by omega
                  subst e
                  exact zcm_192
                · rcases Nat.lt_or_ge M 194 with q194 | q194
                  · have e : M = 193 := by omega
                    subst e
                    exact zcm_193
                  · have e : M = 194 := by omega
                    subst e
                    exact zcm_194
          · rcases Nat.lt_or_ge M 200 with q200 | q200
            · rcases Nat.lt_or_ge M 197 with q197 | q197
              · rcases Nat.lt_or_ge M 196 with q196 | q196
                · have e : M = 195 := by omega
                  subst e
                  exact zcm_195
                · have e : M = 196 := by omega
                  subst e
                  exact zcm_196
              · rcases Nat.lt_or_ge M 198 with q198 | q198
                · have e : M = 197 := by omega
                  subst e
                  exact zcm_197
                · rcases Nat.lt_or_ge M 199 with q199 | q199
                  · have e : M = 198 := by omega
                    subst e
                    exact zcm_198
                  · have e : M = 199 := by omega
                    subst e
                    exact zcm_199
            · rcases Nat.lt_or_ge M 203 with q203 | q203
              · rcases Nat.lt_or_ge M 201 with q201 | q201
                · have e : M = 200 := by omega
                  subst e
                  exact zcm_200
                · rcases Nat.lt_or_ge M 202 with q202 | q202
                  · have e : M = 201 := by omega
                    subst e
                    exact zcm_201
                  · have e : M = 202 := by omega
                    subst e
                    exact zcm_202
              · rcases Nat.lt_or_ge M 204 with q204 | q204
                · have e : M = 203 := by omega
                  subst e
                  exact zcm_203
                · rcases Nat.lt_or_ge M 205 with q205 | q205
                  · have e : M = 204 := by omega
                    subst e
                    exact zcm_204
                  · have e : M = 205 := by omega
                    subst e
                    exact zcm_205
      · rcases Nat.lt_or_ge M 227 with q227 | q227
        · rcases Nat.lt_or_ge M 216 with q216 | q216
          · rcases Nat.lt_or_ge M 211 with q211 | q211
            · rcases Nat.lt_or_ge M 208 with q208 | q208
              · rcases Nat.lt_or_ge M 207 with q207 | q207
                · have e : M = 206 := by omega
                  subst e
                  exact zcm_206
                · have e : M = 207 := by omega
                  subst e
                  exact zcm_207
              · rcases Nat.lt_or_ge M 209 with q209 | q209
                · have e : M = 208 := by omega
                  subst e
                  exact zcm_208
                · rcases Nat.lt_or_ge M 210 with q210 | q210
                  · have e : M = 209 := by omega
                    subst e
                    exact zcm_209
                  · have e : M = 210 := by omega
                    subst e
                    exact zcm_210
            · rcases Nat.lt_or_ge M 213 with q213 | q213
              · rcases Nat.lt_or_ge M 212 with q212 | q212
                · have e : M = 211 := by omega
                  subst e
                  exact zcm_211
                · have e : M = 212 := by omega
                  subst e
                  exact zcm_212
              · rcases Nat.lt_or_ge M 214 with q214 | q214
                · have e : M = 213 := by omega
                  subst e
                  exact zcm_213
                · rcases Nat.lt_or_ge M 215 with q215 | q215
                  · have e : M = 214 := by omega
                    subst e
                    exact zcm_214
                  · have e : M = 215 := by omega
                    subst e
                    exact zcm_215
          · rcases Nat.lt_or_ge M 221 with q221 | q221
            · rcases Nat.lt_or_ge M 218 with q218 | q218
              · rcases Nat.lt_or_ge M 217 with q217 | q217
                · have e : M = 216 := by omega
                  subst e
                  exact zcm_216
                · have e : M = 217 := by omega
                  subst e
                  exact zcm_217
              · rcases Nat.lt_or_ge M 219 with q219 | q219
                · have e : M = 218 := by omega
                  subst e
                  exact zcm_218
                · rcases Nat.lt_or_ge M 220 with q220 | q220
                  · have e : M = 219 := by omega
                    subst e
                    exact zcm_219
                  · have e : M = 220 := by omega
                    subst e
                    exact zcm_220
            · rcases Nat.lt_or_ge M 224 with q224 | q224
              · rcases Nat.lt_or_ge M 222 with q222 | q222
                · have e : M = 221 := by omega
                  subst e
                  exact zcm_221
                · rcases Nat.lt_or_ge M 223 with q223 | q223
                  · have e : M = 222 := by omega
                    subst e
                    exact zcm_222
                  · have e : M = 223 := by omega
                    subst e
                    exact zcm_223
              · rcases Nat.lt_or_ge M 225 with q225 | q225
                · have e : M = 224 := by omega
                  subst e
                  exact zcm_224
                · rcases Nat.lt_or_ge M 226 with q226 | q226
                  · have e : M = 225 := by omega
                    subst e
                    exact zcm_225
                  · have e : M = 226 := by omega
                    subst e
                    exact zcm_226
        · rcases Nat.lt_or_ge M 237 with q237 | q237
          · rcases Nat.lt_or_ge M 232 with q232 | q232
            · rcases Nat.lt_or_ge M 229 with q229 | q229
              · rcases Nat.lt_or_ge M 228 with q228 | q228
                · have e : M = 227 := by omega
                  subst e
                  exact zcm_227
                · have e : M = 228 := by omega
                  subst e
                  exact zcm_228
              · rcases Nat.lt_or_ge M 230 with q230 | q230
                · have e : M = 229 := by omega
                  subst e
                  exact zcm_229
                · rcases Nat.lt_or_ge M 231 with q231 | q231
                  · have e : M = 230 := by omega
                    subst e
                    exact zcm_230
                  · have e : M = 231 := by omega
                    subst e
                    exact zcm_231
            · rcases Nat.lt_or_ge M 234 with q234 | q234
              · rcases Nat.lt_or_ge M 233 with q233 | q233
                · have e : M = 232 := by omega
                  subst e
                  exact zcm_232
                · have e : M = 233 := by omega
                  subst e
                  exact zcm_233
              · rcases Nat.lt_or_ge M 235 with q235 | q235
                · have e : M = 234 := by omega
                  subst e
                  exact zcm_234
                · rcases Nat.lt_or_ge M 236 with q236 | q236
                  · have e : M = 235 := by omega
                    subst e
                    exact zcm_235
                  · have e : M = 236 := by omega
                    subst e
                    exact zcm_236
          · rcases Nat.lt_or_ge M 242 with q242 | q242
            · rcases Nat.lt_or_ge M 239 with q239 | q239
              · rcases Nat.lt_or_ge M 238 with q238 | q238
                · have e : M = 237 := by omega
                  subst e
                  exact zcm_237
                · have e : M = 238 := by omega
                  subst e
                  exact zcm_238
              · rcases Nat.lt_or_ge M 240 with q240 | q240
                · have e : M = 239 := by omega
                  subst e
                  exact zcm_239
                · rcases Nat.lt_or_ge M 241 with q241 | q241
                  · have e : M = 240 := by omega
                    subst e
                    exact zcm_240
                  · have e : M = 241 := by omega
                    subst e
                    exact zcm_241
            · rcases Nat.lt_or_ge M 245 with q245 | q245
              · rcases Nat.lt_or_ge M 243 with q243 | q243
                · have e : M = 242 := by omega
                  subst e
                  exact zcm_242
                · rcases Nat.lt_or_ge M 244 with q244 | q244
                  · have e : M = 243 := by omega
                    subst e
                    exact zcm_243
                  · have e : M = 244 := by omega
                    subst e
                    exact zcm_244
              · rcases Nat.lt_or_ge M 246 with q246 | q246
                · have e : M = 245 := by omega
                  subst e
                  exact zcm_245
                · rcases Nat.lt_or_ge M 247 with q247 | q247
                  · have e : M = 246 := by omega
                    subst e
                    exact zcm_246
                  · have e : M = 247 := by omega
                    subst e
                    exact zcm_247
    · rcases Nat.lt_or_ge M 289 with q289 | q289
      · rcases Nat.lt_or_ge M 268 with q268 | q268
        · rcases Nat.lt_or_ge M 258 with q258 | q258
          · rcases Nat.lt_or_ge M 253 with q253 | q253
            · rcases Nat.lt_or_ge M 250 with q250 | q250
              · rcases Nat.lt_or_ge M 249 with q249 | q249
                · have e : M = 248 := by omega
                  subst e
                  exact zcm_248
                · have e : M = 249 := by omega
                  subst e
                  exact zcm_249
              · rcases Nat.lt_or_ge M 251 with q251 | q251
                · have e : M = 250 := by omega
                  subst e
                  exact zcm_250
                · rcases Nat.lt_or_ge M 252 with q252 | q252
                  · have e : M = 251 := by omega
                    subst e
                    exact zcm_251
                  · have e : M = 252 := by omega
                    subst e
                    exact zcm_252
            · rcases Nat.lt_or_ge M 255 with q255 | q255
              · rcases Nat.lt_or_ge M 254 with q254 | q254
                · have e : M = 253 := by omega
                  subst e
                  exact zcm_253
                · have e : M = 254 := by omega
                  subst e
                  exact zcm_254
              · rcases Nat.lt_or_ge M 256 with q256 | q256
                · have e : M = 255 := by omega
                  subst e
                  exact zcm_255
                · rcases Nat.lt_or_ge M 257 with q257 | q257
                  · have e : M = 256 := by omega
                    subst e
                    exact zcm_256
                  · have e : M = 257 := by omega
                    subst e
                    exact zcm_257
          · rcases Nat.lt_or_ge M 263 with q263 | q263
            · rcases Nat.lt_or_ge M 260 with q260 | q260
              · rcases Nat.lt_or_ge M 259 with q259 | q259
                · have e : M = 258 := by omega
                  subst e
                  exact zcm_258
                · have e : M = 259 := by omega
                  subst e
                  exact zcm_259
              · rcases Nat.lt_or_ge M 261 with q261 | q261
                · have e : M = 260 := by omega
                  subst e
                  exact zcm_260
                · rcases Nat.lt_or_ge M 262 with q262 | q262
                  · have e : M = 261 := by omega
                    subst e
                    exact zcm_261
                  · have e : M = 262 := by omega
                    subst e
                    exact zcm_262
            · rcases Nat.lt_or_ge M 265 with q265 | q265
              · rcases Nat.lt_or_ge M 264 with q264 | q264
                · have e : M = 263 := by omega
                  subst e
                  exact zcm_263
                · have e : M = 264 := by omega
                  subst e
                  exact zcm_264
              · rcases Nat.lt_or_ge M 266 with q266 | q266
                · have e : M = 265 := by omega
                  subst e
                  exact zcm_265
                · rcases Nat.lt_or_ge M 267 with q267 | q267
                  · have e : M = 266 := by omega
                    subst e
                    exact zcm_266
                  · have e : M = 267 := by omega
                    subst e
                    exact zcm_267
        · rcases Nat.lt_or_ge M 278 with q278 | q278
          · rcases Nat.lt_or_ge M 273 with q273 | q273
            · rcases Nat.lt_or_ge M 270 with q270 | q270
              · rcases Nat.lt_or_ge M 269 with q269 | q269
                · have e : M = 268 := by omega
                  subst e
                  exact zcm_268
                · have e : M = 269 := by omega
                  subst e
                  exact zcm_269
              · rcases Nat.lt_or_ge M 271 with q271 | q271
                · have e : M = 270 := by omega
                  subst e
                  exact zcm_270
                · rcases Nat.lt_or_ge M 272 with q272 | q272
                  · have e : M = 271 := by omega
                    subst e
                    exact zcm_271
                  · have e : M = 272 := by omega
                    subst e
                    exact zcm_272
            · rcases Nat.lt_or_ge M 275 with q275 | q275
              · rcases Nat.lt_or_ge M 274 with q274 | q274
                · have e : M = 273 := by omega
                  subst e
                  exact zcm_273
                · have e : M = 274 := by omega
                  subst e
                  exact zcm_274
              · rcases Nat.lt_or_ge M 276 with q276 | q276
                · have e : M = 275 := by omega
                  subst e
                  exact zcm_275
                · rcases Nat.lt_or_ge M 277 with q277 | q277
                  · have e : M = 276 := by omega
                    subst e
                    exact zcm_276
                  · have e : M = 277 := by omega
                    subst e
                    exact zcm_277
          · rcases Nat.lt_or_ge M 283 with q283 | q283
            · rcases Nat.lt_or_ge M 280 with q280 | q280
              · rcases Nat.lt_or_ge M 279 with q279 | q279
                · have e : M = 278 := by omega
                  subst e
                  exact zcm_278
                · have e : M = 279 := by omega
                  subst e
                  exact zcm_279
              · rcases Nat.lt_or_ge M 281 with q281 | q281
                · have e : M = 280 := by omega
                  subst e
                  exact zcm_280
                · rcases Nat.lt_or_ge M 282 with q282 | q282
                  · have e : M = 281 := by omega
                    subst e
                    exact zcm_281
                  · have e : M = 282 := by omega
                    subst e
                    exact zcm_282
            · rcases Nat.lt_or_ge M 286 with q286 | q286
              · rcases Nat.lt_or_ge M 284 with q284 | q284
                · have e : M = 283 := by omega
                  subst e
                  exact zcm_283
                · rcases Nat.lt_or_ge M 285 with q285 | q285
                  · have e : M = 284 := by omega
                    subst e
                    exact zcm_284
                  · have e : M = 285 := by omega
                    subst e
                    exact zcm_285
              · rcases Nat.lt_or_ge M 287 with q287 | q287
                · have e : M = 286 := by omega
                  subst e
                  exact zcm_286
                · rcases Nat.lt_or_ge M 288 with q288 | q288
                  · have e : M = 287 := by omega
                    subst e
                    exact zcm_287
                  · have e : M = 288 := by omega
                    subst e
                    exact zcm_288
      · rcases Nat.lt_or_ge M 310 with q310 | q310
        · rcases Nat.lt_or_ge M 299 with q299 | q299
          · rcases Nat.lt_or_ge M 294 with q294 | q294
            · rcases Nat.lt_or_ge M 291 with q291 | q291
              · rcases Nat.lt_or_ge M 290 with q290 | q290
                · have e : M = 289 := by omega
                  subst e
                  exact zcm_289
                · have e : M = 290 := by omega
                  subst e
                  exact zcm_290
              · rcases Nat.lt_or_ge M 292 with q292 | q292
                · have e : M = 291 := by omega
                  subst e
                  exact zcm_291
                · rcases Nat.lt_or_ge M 293 with q293 | q293
                  · have e : M = 292 := by omega
                    subst e
                    exact zcm_292
                  · have e : M = 293 := by omega
                    subst e
                    exact zcm_293
            · rcases Nat.lt_or_ge M 296 with q296 | q296
              · rcases Nat.lt_or_ge M 295 with q295 | q295
                · have e : M = 294 := by omega
                  subst e
                  exact zcm_294
                · have e : M = 295 := by omega
                  subst e
                  exact zcm_295
              · rcases Nat.lt_or_ge M 297 with q297 | q297
                · have e : M = 296 := by omega
                  subst e
                  exact zcm_296
                · rcases Nat.lt_or_ge M 298 with q298 | q298
                  · have e : M = 297 := by omega
                    subst e
                    exact zcm_297
                  · have e : M = 298 := by omega
                    subst e
                    exact zcm_298
          · rcases Nat.lt_or_ge M 304 with q304 | q304
            · rcases Nat.lt_or_ge M 301 with q301 | q301
              · rcases Nat.lt_or_ge M 300 with q300 | q300
                · have e : M = 299 := by omega
                  subst e
                  exact zcm_299
                · have e : M = 300 := by omega
                  subst e
                  exact zcm_300
              · rcases Nat.lt_or_ge M 302 with q302 | q302
                · have e : M = 301 := by omega
                  subst e
                  exact zcm_301
                · rcases Nat.lt_or_ge M 303 with q303 | q303
                  · have e : M = 302 := by omega
                    subst e
                    exact zcm_302
                  · have e : M = 303 := by omega
                    subst e
                    exact zcm_303
            · rcases Nat.lt_or_ge M 307 with q307 | q307
              · rcases Nat.lt_or_ge M 305 with q305 | q305
                · have e : M = 304 := by omega
                  subst e
                  exact zcm_304
                · rcases Nat.lt_or_ge M 306 with q306 | q306
                  · have e : M = 305 := by omega
                    subst e
                    exact zcm_305
                  · have e : M = 306 := by omega
                    subst e
                    exact zcm_306
              · rcases Nat.lt_or_ge M 308 with q308 | q308
                · have e : M = 307 := by omega
                  subst e
                  exact zcm_307
                · rcases Nat.lt_or_ge M 309 with q309 | q309
                  · have e : M = 308 := by omega
                    subst e
                    exact zcm_308
                  · have e : M = 309 := by omega
                    subst e
                    exact zcm_309
        · rcases Nat.lt_or_ge M 320 with q320 | q320
          · rcases Nat.lt_or_ge M 315 with q315 | q315
            · rcases Nat.lt_or_ge M 312 with q312 | q312
              · rcases Nat.lt_or_ge M 311 with q311 | q311
                · have e : M = 310 := by omega
                  subst e
                  exact zcm_310
                · have e : M = 311 := by omega
                  subst e
                  exact zcm_311
              · rcases Nat.lt_or_ge M 313 with q313 | q313
                · have e : M = 312 := by omega
                  subst e
                  exact zcm_312
                · rcases Nat.lt_or_ge M 314 with q314 | q314
                  · have e : M = 313 := by omega
                    subst e
                    exact zcm_313
                  · have e : M = 314 := by omega
                    subst e
                    exact zcm_314
            · rcases Nat.lt_or_ge M 317 with q317 | q317
              · rcases Nat.lt_or_ge M 316 with q316 | q316
                · have e : M = 315 := by omega
                  subst e
                  exact zcm_315
                · have e : M = 316 := by omega
                  subst e
                  exact zcm_316
              · rcases Nat.lt_or_ge M 318 with q318 | q318
                · have e : M = 317 := by omega
                  subst e
                  exact zcm_317
                · rcases Nat.lt_or_ge M 319 with q319 | q319
                  · have e : M = 318 := by omega
                    subst e
                    exact zcm_318
                  · have e : M = 319 := by omega
                    subst e
                    exact zcm_319
          · rcases Nat.lt_or_ge M 325 with q325 | q325
            · rcases Nat.lt_or_ge M 322 with q322 | q322
              · rcases Nat.lt_or_ge M 321 with q321 | q321
                · have e : M = 320 := by omega
                  subst e
                  exact zcm_320
                · have e : M = 321 := by omega
                  subst e
                  exact zcm_321
              · rcases Nat.lt_or_ge M 323 with q323 | q323
                · have e : M = 322 := by omega
                  subst e
                  exact zcm_322
                · rcases Nat.lt_or_ge M 324 with q324 | q324
                  · have e : M = 323 := by omega
                    subst e
                    exact zcm_323
                  · have e : M = 324 := by omega
                    subst e
                    exact zcm_324
            · rcases Nat.lt_or_ge M 328 with q328 | q328
              · rcases Nat.lt_or_ge M 326 with q326 | q326
                · have e : M = 325 := by omega
                  subst e
                  exact zcm_325
                · rcases Nat.lt_or_ge M 327 with q327 | q327
                  · have e : M = 326 := by omega
                    subst e
                    exact zcm_326
                  · have e : M = 327 := by omega
                    subst e
                    exact zcm_327
              · rcases Nat.lt_or_ge M 329 with q329 | q329
                · have e : M = 328 := by omega
                  subst e
                  exact zcm_328
                · rcases Nat.lt_or_ge M 330 with q330 | q330
                  · have e : M = 329 := by omega
                    subst e
                    exact zcm_329
                  · have e : M = 330 := by omega
                    subst e
                    exact zcm_330
