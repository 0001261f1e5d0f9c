theorem pm_bifS {θ : pm_TH} {l : Launch} {env : pm_E} {y k : Nat} {a b : Nat → pm_S} (ha : y < k → ∀ pc, pm_Sd θ l env y pc (a pc)) (hb : k ≤ y → ∀ pc, pm_Sd θ l env y pc (b pc)) : ∀ pc, pm_Sd θ l env y pc ((bif Nat.ble k y then b else a) pc) := by
  cases h : Nat.ble k y with
  | true => exact hb (Nat.le_of_ble_eq_true h)
  | false => exact ha (Nat.lt_of_not_le (fun q => by rw [Nat.ble_eq_true_of_le q] at h; cases h))
set_option maxRecDepth 100000 in
theorem pm_T_sd {θ : pm_TH} {l : Launch} {env : pm_E} (hE : pm_EW θ env) (y : Nat) : ∀ pc, pm_Sd θ l env y pc (pm_T y pc) := by
  unfold pm_T
  refine pm_bifS (k := 145) (fun hy => ?_) (fun _ _ => k_bad)
  refine pm_bifS (k := 72) (fun q72 => ?_) (fun q72 => ?_)
  · skip
    refine pm_bifS (k := 36) (fun q36 => ?_) (fun q36 => ?_)
    · skip
      refine pm_bifS (k := 18) (fun q18 => ?_) (fun q18 => ?_)
      · skip
        refine pm_bifS (k := 9) (fun q9 => ?_) (fun q9 => ?_)
        · skip
          refine pm_bifS (k := 4) (fun q4 => ?_) (fun q4 => ?_)
          · skip
            refine pm_bifS (k := 2) (fun q2 => ?_) (fun q2 => ?_)
            · skip
              refine pm_bifS (k := 1) (fun q1 => ?_) (fun q1 => ?_)
              · skip
                obtain rfl : y = 0 := by omega
                exact ts_A_keep hE
              · skip
                obtain rfl : y = 1 := by omega
                exact ts_A_giveBack hE
            · skip
              refine pm_bifS (k := 3) (fun q3 => ?_) (fun q3 => ?_)
              · skip
                obtain rfl : y = 2 := by omega
                exact ts_A_forget hE
              · skip
                obtain rfl : y = 3 := by omega
                exact ts_B_addPoint hE
          · skip
            refine pm_bifS (k := 6) (fun q6 => ?_) (fun q6 => ?_)
            · skip
              refine pm_bifS (k := 5) (fun q5 => ?_) (fun q5 => ?_)
              · skip
                obtain rfl : y = 4 := by omega
                exact ts_B_addLine hE
              · skip
                obtain rfl : y = 5 := by omega
                exact ts_B_joinParts hE
            · skip
              refine pm_bifS (k := 7) (fun q7 => ?_) (fun q7 => ?_)
              · skip
                obtain rfl : y = 6 := by omega
                exact ts_B_clearTurns hE
              · skip
                refine pm_bifS (k := 8) (fun q8 => ?_) (fun q8 => ?_)
                · skip
                  obtain rfl : y = 7 := by omega
                  exact ts_B_shiftOnly hE
                · skip
                  obtain rfl : y = 8 := by omega
                  exact ts_B_shiftToStill hE
        · skip
          refine pm_bifS (k := 13) (fun q13 => ?_) (fun q13 => ?_)
          · skip
            refine pm_bifS (k := 11) (fun q11 => ?_) (fun q11 => ?_)
            · skip
              refine pm_bifS (k := 10) (fun q10 => ?_) (fun q10 => ?_)
              · skip
                obtain rfl : y = 9 := by omega
                exact ts_B_reachAlong hE
              · skip
                obtain rfl : y = 10 := by omega
                exact ts_B_turnPoints hE
            · skip
              refine pm_bifS (k := 12) (fun q12 => ?_) (fun q12 => ?_)
              · skip
                obtain rfl : y = 11 := by omega
                exact ts_G_draftRing hE
              · skip
                obtain rfl : y = 12 := by omega
                exact ts_G_draftFlips hE
          · skip
            refine pm_bifS (k := 15) (fun q15 => ?_) (fun q15 => ?_)
            · skip
              refine pm_bifS (k := 14) (fun q14 => ?_) (fun q14 => ?_)
              · skip
                obtain rfl : y = 13 := by omega
                exact ts_G_draftCrossed hE
              · skip
                obtain rfl : y = 14 := by omega
                exact ts_G_draftFault hE
            · skip
              refine pm_bifS (k := 16) (fun q16 => ?_) (fun q16 => ?_)
              · skip
                obtain rfl : y = 15 := by omega
                exact ts_G_drafted hE
              · skip
                refine pm_bifS (k := 17) (fun q17 => ?_) (fun q17 => ?_)
                · skip
                  obtain rfl : y = 16 := by omega
                  exact ts_G_draftHasBack hE
                · skip
                  obtain rfl : y = 17 := by omega
                  exact ts_G_draftJoinFault hE
      · skip
        refine pm_bifS (k := 27) (fun q27 => ?_) (fun q27 => ?_)
        · skip
          refine pm_bifS (k := 22) (fun q22 => ?_) (fun q22 => ?_)
          · skip
            refine pm_bifS (k := 20) (fun q20 => ?_) (fun q20 => ?_)
            · skip
              refine pm_bifS (k := 19) (fun q19 => ?_) (fun q19 => ?_)
              · skip
                obtain rfl : y = 18 := by omega
                exact ts_G_adopt hE
              · skip
                obtain rfl : y = 19 := by omega
                exact ts_G_product hE
            · skip
              refine pm_bifS (k := 21) (fun q21 => ?_) (fun q21 => ?_)
              · skip
                obtain rfl : y = 20 := by omega
                exact ts_G_findBack hE
              · skip
                obtain rfl : y = 21 := by omega
                exact ts_G_findClass hE
          · skip
            refine pm_bifS (k := 24) (fun q24 => ?_) (fun q24 => ?_)
            · skip
              refine pm_bifS (k := 23) (fun q23 => ?_) (fun q23 => ?_)
              · skip
                obtain rfl : y = 22 := by omega
                exact ts_G_orderOf hE
              · skip
                obtain rfl : y = 23 := by omega
                exact ts_G_classSize hE
            · skip
              refine pm_bifS (k := 25) (fun q25 => ?_) (fun q25 => ?_)
              · skip
                obtain rfl : y = 24 := by omega
                exact ts_G_classesMany hE
              · skip
                refine pm_bifS (k := 26) (fun q26 => ?_) (fun q26 => ?_)
                · skip
                  obtain rfl : y = 25 := by omega
                  exact ts_G_alikeWith hE
                · skip
                  obtain rfl : y = 26 := by omega
                  exact ts_G_alikeWithAll hE
        · skip
          refine pm_bifS (k := 31) (fun q31 => ?_) (fun q31 => ?_)
          · skip
            refine pm_bifS (k := 29) (fun q29 => ?_) (fun q29 => ?_)
            · skip
              refine pm_bifS (k := 28) (fun q28 => ?_) (fun q28 => ?_)
              · skip
                obtain rfl : y = 27 := by omega
                exact ts_G_alikePairs hE
              · skip
                obtain rfl : y = 28 := by omega
                exact ts_G_giveWorth hE
            · skip
              refine pm_bifS (k := 30) (fun q30 => ?_) (fun q30 => ?_)
              · skip
                obtain rfl : y = 29 := by omega
                exact ts_S_renew hE
              · skip
                obtain rfl : y = 30 := by omega
                exact ts_S_hasCell hE
          · skip
            refine pm_bifS (k := 33) (fun q33 => ?_) (fun q33 => ?_)
            · skip
              refine pm_bifS (k := 32) (fun q32 => ?_) (fun q32 => ?_)
              · skip
                obtain rfl : y = 31 := by omega
                exact ts_S_faultAs hE
              · skip
                obtain rfl : y = 32 := by omega
                exact ts_S_put hE
            · skip
              refine pm_bifS (k := 34) (fun q34 => ?_) (fun q34 => ?_)
              · skip
                obtain rfl : y = 33 := by omega
                exact ts_U_clear hE
              · skip
                refine pm_bifS (k := 35) (fun q35 => ?_) (fun q35 => ?_)
                · skip
                  obtain rfl : y = 34 := by omega
                  exact ts_U_lookForWorth hE
                · skip
                  obtain rfl : y = 35 := by omega
                  exact ts_U_lookForClass hE
    · skip
      refine pm_bifS (k := 54) (fun q54 => ?_) (fun q54 => ?_)
      · skip
        refine pm_bifS (k := 45) (fun q45 => ?_) (fun q45 => ?_)
        · skip
          refine pm_bifS (k := 40) (fun q40 => ?_) (fun q40 => ?_)
          · skip
            refine pm_bifS (k := 38) (fun q38 => ?_) (fun q38 => ?_)
            · skip
              refine pm_bifS (k := 37) (fun q37 => ?_) (fun q37 => ?_)
              · skip
                obtain rfl : y = 36 := by omega
                exact ts_U_lookForStill hE
              · skip
                obtain rfl : y = 37 := by omega
                exact ts_U_markLines hE
            · skip
              refine pm_bifS (k := 39) (fun q39 => ?_) (fun q39 => ?_)
              · skip
                obtain rfl : y = 38 := by omega
                exact ts_U_sumFrom hE
              · skip
                obtain rfl : y = 39 := by omega
                exact ts_U_factorBehind hE
          · skip
            refine pm_bifS (k := 42) (fun q42 => ?_) (fun q42 => ?_)
            · skip
              refine pm_bifS (k := 41) (fun q41 => ?_) (fun q41 => ?_)
              · skip
                obtain rfl : y = 40 := by omega
                exact ts_W_begin hE
              · skip
                obtain rfl : y = 41 := by omega
                exact ts_W_go hE
            · skip
              refine pm_bifS (k := 43) (fun q43 => ?_) (fun q43 => ?_)
              · skip
                obtain rfl : y = 42 := by omega
                exact ts_W_isClosed hE
              · skip
                refine pm_bifS (k := 44) (fun q44 => ?_) (fun q44 => ?_)
                · skip
                  obtain rfl : y = 43 := by omega
                  exact ts_W_weighs hE
                · skip
                  obtain rfl : y = 44 := by omega
                  exact ts_W_turnWith hE
        · skip
          refine pm_bifS (k := 49) (fun q49 => ?_) (fun q49 => ?_)
          · skip
            refine pm_bifS (k := 47) (fun q47 => ?_) (fun q47 => ?_)
            · skip
              refine pm_bifS (k := 46) (fun q46 => ?_) (fun q46 => ?_)
              · skip
                obtain rfl : y = 45 := by omega
                exact ts_W_markLines hE
              · skip
                obtain rfl : y = 46 := by omega
                exact ts_T_group hE
            · skip
              refine pm_bifS (k := 48) (fun q48 => ?_) (fun q48 => ?_)
              · skip
                obtain rfl : y = 47 := by omega
                exact ts_T_read hE
              · skip
                obtain rfl : y = 48 := by omega
                exact ts_T_times hE
          · skip
            refine pm_bifS (k := 51) (fun q51 => ?_) (fun q51 => ?_)
            · skip
              refine pm_bifS (k := 50) (fun q50 => ?_) (fun q50 => ?_)
              · skip
                obtain rfl : y = 49 := by omega
                exact ts_T_turn hE
              · skip
                obtain rfl : y = 50 := by omega
                exact ts_T_about hE
            · skip
              refine pm_bifS (k := 52) (fun q52 => ?_) (fun q52 => ?_)
              · skip
                obtain rfl : y = 51 := by omega
                exact ts_T_worth hE
              · skip
                refine pm_bifS (k := 53) (fun q53 => ?_) (fun q53 => ?_)
                · skip
                  obtain rfl : y = 52 := by omega
                  exact ts_T_point hE
                · skip
                  obtain rfl : y = 53 := by omega
                  exact ts_T_line hE
      · skip
        refine pm_bifS (k := 63) (fun q63 => ?_) (fun q63 => ?_)
        · skip
          refine pm_bifS (k := 58) (fun q58 => ?_) (fun q58 => ?_)
          · skip
            refine pm_bifS (k := 56) (fun q56 => ?_) (fun q56 => ?_)
            · skip
              refine pm_bifS (k := 55) (fun q55 => ?_) (fun q55 => ?_)
              · skip
                obtain rfl : y = 54 := by omega
                exact ts_T_walk hE
              · skip
                obtain rfl : y = 55 := by omega
                exact ts_T_step hE
            · skip
              refine pm_bifS (k := 57) (fun q57 => ?_) (fun q57 => ?_)
              · skip
                obtain rfl : y = 56 := by omega
                exact ts_T_counts hE
              · skip
                obtain rfl : y = 57 := by omega
                exact ts_T_told hE
          · skip
            refine pm_bifS (k := 60) (fun q60 => ?_) (fun q60 => ?_)
            · skip
              refine pm_bifS (k := 59) (fun q59 => ?_) (fun q59 => ?_)
              · skip
                obtain rfl : y = 58 := by omega
                exact ts_T_drop hE
              · skip
                obtain rfl : y = 59 := by omega
                exact ts_T_set hE
            · skip
              refine pm_bifS (k := 61) (fun q61 => ?_) (fun q61 => ?_)
              · skip
                obtain rfl : y = 60 := by omega
                exact ts_T_at hE
              · skip
                refine pm_bifS (k := 62) (fun q62 => ?_) (fun q62 => ?_)
                · skip
                  obtain rfl : y = 61 := by omega
                  exact ts_T_weight hE
                · skip
                  obtain rfl : y = 62 := by omega
                  exact ts_T_twist hE
        · skip
          refine pm_bifS (k := 67) (fun q67 => ?_) (fun q67 => ?_)
          · skip
            refine pm_bifS (k := 65) (fun q65 => ?_) (fun q65 => ?_)
            · skip
              refine pm_bifS (k := 64) (fun q64 => ?_) (fun q64 => ?_)
              · skip
                obtain rfl : y = 63 := by omega
                exact ts_T_still hE
              · skip
                obtain rfl : y = 64 := by omega
                exact ts_T_undo hE
            · skip
              refine pm_bifS (k := 66) (fun q66 => ?_) (fun q66 => ?_)
              · skip
                obtain rfl : y = 65 := by omega
                exact ts_T_tree hE
              · skip
                obtain rfl : y = 66 := by omega
                exact ts_T_sum hE
          · skip
            refine pm_bifS (k := 69) (fun q69 => ?_) (fun q69 => ?_)
            · skip
              refine pm_bifS (k := 68) (fun q68 => ?_) (fun q68 => ?_)
              · skip
                obtain rfl : y = 67 := by omega
                exact ts_T_sumBy hE
              · skip
                obtain rfl : y = 68 := by omega
                exact ts_T_mean hE
            · skip
              refine pm_bifS (k := 70) (fun q70 => ?_) (fun q70 => ?_)
              · skip
                obtain rfl : y = 69 := by omega
                exact ts_T_flat hE
              · skip
                refine pm_bifS (k := 71) (fun q71 => ?_) (fun q71 => ?_)
                · skip
                  obtain rfl : y = 70 := by omega
                  exact ts_T_sheet hE
                · skip
                  obtain rfl : y = 71 := by omega
                  exact ts_T_lay hE
  · skip
    refine pm_bifS (k := 108) (fun q108 => ?_) (fun q108 => ?_)
    · skip
      refine pm_bifS (k := 90) (fun q90 => ?_) (fun q90 => ?_)
      · skip
        refine pm_bifS (k := 81) (fun q81 => ?_) (fun q81 => ?_)
        · skip
          refine pm_bifS (k := 76) (fun q76 => ?_) (fun q76 => ?_)
          · skip
            refine pm_bifS (k := 74) (fun q74 => ?_) (fun q74 => ?_)
            · skip
              refine pm_bifS (k := 73) (fun q73 => ?_) (fun q73 => ?_)
              · skip
                obtain rfl : y = 72 := by omega
                exact ts_T_fill hE
              · skip
                obtain rfl : y = 73 := by omega
                exact ts_T_many hE
            · skip
              refine pm_bifS (k := 75) (fun q75 => ?_) (fun q75 => ?_)
              · skip
                obtain rfl : y = 74 := by omega
                exact ts_T_isTurn hE
              · skip
                obtain rfl : y = 75 := by omega
                exact ts_T_isPoint hE
          · skip
            refine pm_bifS (k := 78) (fun q78 => ?_) (fun q78 => ?_)
            · skip
              refine pm_bifS (k := 77) (fun q77 => ?_) (fun q77 => ?_)
              · skip
                obtain rfl : y = 76 := by omega
                exact ts_T_isLine hE
              · skip
                obtain rfl : y = 77 := by omega
                exact ts_T_isWalk hE
            · skip
              refine pm_bifS (k := 79) (fun q79 => ?_) (fun q79 => ?_)
              · skip
                obtain rfl : y = 78 := by omega
                exact ts_T_isClosedWalk hE
              · skip
                refine pm_bifS (k := 80) (fun q80 => ?_) (fun q80 => ?_)
                · skip
                  obtain rfl : y = 79 := by omega
                  exact ts_T_isSheet hE
                · skip
                  obtain rfl : y = 80 := by omega
                  exact ts_T_isLane hE
        · skip
          refine pm_bifS (k := 85) (fun q85 => ?_) (fun q85 => ?_)
          · skip
            refine pm_bifS (k := 83) (fun q83 => ?_) (fun q83 => ?_)
            · skip
              refine pm_bifS (k := 82) (fun q82 => ?_) (fun q82 => ?_)
              · skip
                obtain rfl : y = 81 := by omega
                exact ts_T_walksThatWeigh hE
              · skip
                obtain rfl : y = 82 := by omega
                exact ts_T_takeDraft hE
            · skip
              refine pm_bifS (k := 84) (fun q84 => ?_) (fun q84 => ?_)
              · skip
                obtain rfl : y = 83 := by omega
                exact ts_T_draftFrom hE
              · skip
                obtain rfl : y = 84 := by omega
                exact ts_T_isSpent hE
          · skip
            refine pm_bifS (k := 87) (fun q87 => ?_) (fun q87 => ?_)
            · skip
              refine pm_bifS (k := 86) (fun q86 => ?_) (fun q86 => ?_)
              · skip
                obtain rfl : y = 85 := by omega
                exact ts_T_sumOfWeights hE
              · skip
                obtain rfl : y = 86 := by omega
                exact ts_T_sumHeld hE
            · skip
              refine pm_bifS (k := 88) (fun q88 => ?_) (fun q88 => ?_)
              · skip
                obtain rfl : y = 87 := by omega
                exact ts_T_lookForWeights hE
              · skip
                refine pm_bifS (k := 89) (fun q89 => ?_) (fun q89 => ?_)
                · skip
                  obtain rfl : y = 88 := by omega
                  exact ts_T_sumLooked hE
                · skip
                  obtain rfl : y = 89 := by omega
                  exact ts_T_commonDivisor hE
      · skip
        refine pm_bifS (k := 99) (fun q99 => ?_) (fun q99 => ?_)
        · skip
          refine pm_bifS (k := 94) (fun q94 => ?_) (fun q94 => ?_)
          · skip
            refine pm_bifS (k := 92) (fun q92 => ?_) (fun q92 => ?_)
            · skip
              refine pm_bifS (k := 91) (fun q91 => ?_) (fun q91 => ?_)
              · skip
                obtain rfl : y = 90 := by omega
                exact ts_T_linesFault hE
              · skip
                obtain rfl : y = 91 := by omega
                exact ts_T_fillLines hE
            · skip
              refine pm_bifS (k := 93) (fun q93 => ?_) (fun q93 => ?_)
              · skip
                obtain rfl : y = 92 := by omega
                exact ts_M_in hE
              · skip
                obtain rfl : y = 93 := by omega
                exact ts_M_isTurn hE
          · skip
            refine pm_bifS (k := 96) (fun q96 => ?_) (fun q96 => ?_)
            · skip
              refine pm_bifS (k := 95) (fun q95 => ?_) (fun q95 => ?_)
              · skip
                obtain rfl : y = 94 := by omega
                exact ts_M_product hE
              · skip
                obtain rfl : y = 95 := by omega
                exact ts_M_backOf hE
            · skip
              refine pm_bifS (k := 97) (fun q97 => ?_) (fun q97 => ?_)
              · skip
                obtain rfl : y = 96 := by omega
                exact ts_M_begin hE
              · skip
                refine pm_bifS (k := 98) (fun q98 => ?_) (fun q98 => ?_)
                · skip
                  obtain rfl : y = 97 := by omega
                  exact ts_M_crossed hE
                · skip
                  obtain rfl : y = 98 := by omega
                  exact ts_M_group hE
        · skip
          refine pm_bifS (k := 103) (fun q103 => ?_) (fun q103 => ?_)
          · skip
            refine pm_bifS (k := 101) (fun q101 => ?_) (fun q101 => ?_)
            · skip
              refine pm_bifS (k := 100) (fun q100 => ?_) (fun q100 => ?_)
              · skip
                obtain rfl : y = 99 := by omega
                exact ts_M_sheet hE
              · skip
                obtain rfl : y = 100 := by omega
                exact ts_M_lay hE
            · skip
              refine pm_bifS (k := 102) (fun q102 => ?_) (fun q102 => ?_)
              · skip
                obtain rfl : y = 101 := by omega
                exact ts_M_read hE
              · skip
                obtain rfl : y = 102 := by omega
                exact ts_M_times hE
          · skip
            refine pm_bifS (k := 105) (fun q105 => ?_) (fun q105 => ?_)
            · skip
              refine pm_bifS (k := 104) (fun q104 => ?_) (fun q104 => ?_)
              · skip
                obtain rfl : y = 103 := by omega
                exact ts_M_classOf hE
              · skip
                obtain rfl : y = 104 := by omega
                exact ts_M_alikeWith hE
            · skip
              refine pm_bifS (k := 106) (fun q106 => ?_) (fun q106 => ?_)
              · skip
                obtain rfl : y = 105 := by omega
                exact ts_M_turn hE
              · skip
                refine pm_bifS (k := 107) (fun q107 => ?_) (fun q107 => ?_)
                · skip
                  obtain rfl : y = 106 := by omega
                  exact ts_M_about hE
                · skip
                  obtain rfl : y = 107 := by omega
                  exact ts_M_worth hE
    · skip
      refine pm_bifS (k := 126) (fun q126 => ?_) (fun q126 => ?_)
      · skip
        refine pm_bifS (k := 117) (fun q117 => ?_) (fun q117 => ?_)
        · skip
          refine pm_bifS (k := 112) (fun q112 => ?_) (fun q112 => ?_)
          · skip
            refine pm_bifS (k := 110) (fun q110 => ?_) (fun q110 => ?_)
            · skip
              refine pm_bifS (k := 109) (fun q109 => ?_) (fun q109 => ?_)
              · skip
                obtain rfl : y = 108 := by omega
                exact ts_M_isLine hE
              · skip
                obtain rfl : y = 109 := by omega
                exact ts_M_isWalk hE
            · skip
              refine pm_bifS (k := 111) (fun q111 => ?_) (fun q111 => ?_)
              · skip
                obtain rfl : y = 110 := by omega
                exact ts_M_isPoint hE
              · skip
                obtain rfl : y = 111 := by omega
                exact ts_M_point hE
          · skip
            refine pm_bifS (k := 114) (fun q114 => ?_) (fun q114 => ?_)
            · skip
              refine pm_bifS (k := 113) (fun q113 => ?_) (fun q113 => ?_)
              · skip
                obtain rfl : y = 112 := by omega
                exact ts_M_line hE
              · skip
                obtain rfl : y = 113 := by omega
                exact ts_M_walk hE
            · skip
              refine pm_bifS (k := 115) (fun q115 => ?_) (fun q115 => ?_)
              · skip
                obtain rfl : y = 114 := by omega
                exact ts_M_endOf hE
              · skip
                refine pm_bifS (k := 116) (fun q116 => ?_) (fun q116 => ?_)
                · skip
                  obtain rfl : y = 115 := by omega
                  exact ts_M_step hE
                · skip
                  obtain rfl : y = 116 := by omega
                  exact ts_M_counts hE
        · skip
          refine pm_bifS (k := 121) (fun q121 => ?_) (fun q121 => ?_)
          · skip
            refine pm_bifS (k := 119) (fun q119 => ?_) (fun q119 => ?_)
            · skip
              refine pm_bifS (k := 118) (fun q118 => ?_) (fun q118 => ?_)
              · skip
                obtain rfl : y = 117 := by omega
                exact ts_M_isClosed hE
              · skip
                obtain rfl : y = 118 := by omega
                exact ts_M_takeLines hE
            · skip
              refine pm_bifS (k := 120) (fun q120 => ?_) (fun q120 => ?_)
              · skip
                obtain rfl : y = 119 := by omega
                exact ts_M_turnOf hE
              · skip
                obtain rfl : y = 120 := by omega
                exact ts_M_layBacks hE
          · skip
            refine pm_bifS (k := 123) (fun q123 => ?_) (fun q123 => ?_)
            · skip
              refine pm_bifS (k := 122) (fun q122 => ?_) (fun q122 => ?_)
              · skip
                obtain rfl : y = 121 := by omega
                exact ts_M_told hE
              · skip
                obtain rfl : y = 122 := by omega
                exact ts_M_drop hE
            · skip
              refine pm_bifS (k := 124) (fun q124 => ?_) (fun q124 => ?_)
              · skip
                obtain rfl : y = 123 := by omega
                exact ts_M_record hE
              · skip
                refine pm_bifS (k := 125) (fun q125 => ?_) (fun q125 => ?_)
                · skip
                  obtain rfl : y = 124 := by omega
                  exact ts_M_undo hE
                · skip
                  obtain rfl : y = 125 := by omega
                  exact ts_M_set hE
      · skip
        refine pm_bifS (k := 135) (fun q135 => ?_) (fun q135 => ?_)
        · skip
          refine pm_bifS (k := 130) (fun q130 => ?_) (fun q130 => ?_)
          · skip
            refine pm_bifS (k := 128) (fun q128 => ?_) (fun q128 => ?_)
            · skip
              refine pm_bifS (k := 127) (fun q127 => ?_) (fun q127 => ?_)
              · skip
                obtain rfl : y = 126 := by omega
                exact ts_M_at hE
              · skip
                obtain rfl : y = 127 := by omega
                exact ts_M_weightOf hE
            · skip
              refine pm_bifS (k := 129) (fun q129 => ?_) (fun q129 => ?_)
              · skip
                obtain rfl : y = 128 := by omega
                exact ts_M_weight hE
              · skip
                obtain rfl : y = 129 := by omega
                exact ts_M_turned hE
          · skip
            refine pm_bifS (k := 132) (fun q132 => ?_) (fun q132 => ?_)
            · skip
              refine pm_bifS (k := 131) (fun q131 => ?_) (fun q131 => ?_)
              · skip
                obtain rfl : y = 130 := by omega
                exact ts_M_twist hE
              · skip
                obtain rfl : y = 131 := by omega
                exact ts_M_layTree hE
            · skip
              refine pm_bifS (k := 133) (fun q133 => ?_) (fun q133 => ?_)
              · skip
                obtain rfl : y = 132 := by omega
                exact ts_M_still hE
              · skip
                refine pm_bifS (k := 134) (fun q134 => ?_) (fun q134 => ?_)
                · skip
                  obtain rfl : y = 133 := by omega
                  exact ts_M_tree hE
                · skip
                  obtain rfl : y = 134 := by omega
                  exact ts_M_power hE
        · skip
          refine pm_bifS (k := 140) (fun q140 => ?_) (fun q140 => ?_)
          · skip
            refine pm_bifS (k := 137) (fun q137 => ?_) (fun q137 => ?_)
            · skip
              refine pm_bifS (k := 136) (fun q136 => ?_) (fun q136 => ?_)
              · skip
                obtain rfl : y = 135 := by omega
                exact ts_M_isFlat hE
              · skip
                obtain rfl : y = 136 := by omega
                exact ts_M_summed hE
            · skip
              refine pm_bifS (k := 138) (fun q138 => ?_) (fun q138 => ?_)
              · skip
                obtain rfl : y = 137 := by omega
                exact ts_M_sum hE
              · skip
                refine pm_bifS (k := 139) (fun q139 => ?_) (fun q139 => ?_)
                · skip
                  obtain rfl : y = 138 := by omega
                  exact ts_M_canSum hE
                · skip
                  obtain rfl : y = 139 := by omega
                  exact ts_M_sumBy hE
          · skip
            refine pm_bifS (k := 142) (fun q142 => ?_) (fun q142 => ?_)
            · skip
              refine pm_bifS (k := 141) (fun q141 => ?_) (fun q141 => ?_)
              · skip
                obtain rfl : y = 140 := by omega
                exact ts_M_mean hE
              · skip
                obtain rfl : y = 141 := by omega
                exact ts_M_flat hE
            · skip
              refine pm_bifS (k := 143) (fun q143 => ?_) (fun q143 => ?_)
              · skip
                obtain rfl : y = 142 := by omega
                exact ts_M_fill hE
              · skip
                refine pm_bifS (k := 144) (fun q144 => ?_) (fun q144 => ?_)
                · skip
                  obtain rfl : y = 143 := by omega
                  exact ts_M_many hE
                · skip
                  obtain rfl : y = 144 := by omega
                  exact ts_L_law hE

/-- THE PURE MACHINE IS SOUND -/
theorem pm_run_gd {θ : pm_TH} {l : Launch} {env : pm_E} (hE : pm_EW θ env) : ∀ n, pm_Gd θ l env (pm_run pm_T env n)
  | 0 => fun _ _ _ _ _ _ _ h => by cases h
  | n + 1 => fun y d pc lo sk I res h => pm_T_sd hE y pc _ (pm_run_gd hE n) d lo sk I res h
theorem pm_X_gd {θ : pm_TH} {l : Launch} {env : pm_E} (hE : pm_EW θ env) : pm_Gd θ l env (pm_X pm_T env) := fun y d pc lo sk I res h => by
  obtain ⟨n, hn⟩ := (pm_X_iff pm_T_ct env y d pc lo sk I res).mp h
  exact pm_run_gd hE n y d pc lo sk I res hn
