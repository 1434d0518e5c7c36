theorem zokT_at {y n pc : Nat} (h : zokT y n = true) (hpc : pc < n) : zokI y pc = true := List.all_eq_true.mp h pc (List.mem_range.mpr hpc)
theorem zokR_at {y a n pc : Nat} (h : zokR y a n = true) (h1 : a ≤ pc) (h2 : pc < a + n) : zokI y pc = true := by
  have := List.all_eq_true.mp h (pc - a) (List.mem_range.mpr (by omega))
  rw [show a + (pc - a) = pc by omega] at this
  exact this
theorem zk_L_law {pc : Nat} (h : pc < 1097) : zokI m_L_law pc = true := by
  rcases Nat.lt_or_ge pc 100 with q | q
  · exact zokR_at zk_L_law_0 (by omega) (by omega)
  rcases Nat.lt_or_ge pc 200 with q | q
  · exact zokR_at zk_L_law_1 (by omega) (by omega)
  rcases Nat.lt_or_ge pc 300 with q | q
  · exact zokR_at zk_L_law_2 (by omega) (by omega)
  rcases Nat.lt_or_ge pc 400 with q | q
  · exact zokR_at zk_L_law_3 (by omega) (by omega)
  rcases Nat.lt_or_ge pc 500 with q | q
  · exact zokR_at zk_L_law_4 (by omega) (by omega)
  rcases Nat.lt_or_ge pc 600 with q | q
  · exact zokR_at zk_L_law_5 (by omega) (by omega)
  rcases Nat.lt_or_ge pc 700 with q | q
  · exact zokR_at zk_L_law_6 (by omega) (by omega)
  rcases Nat.lt_or_ge pc 800 with q | q
  · exact zokR_at zk_L_law_7 (by omega) (by omega)
  rcases Nat.lt_or_ge pc 900 with q | q
  · exact zokR_at zk_L_law_8 (by omega) (by omega)
  rcases Nat.lt_or_ge pc 1000 with q | q
  · exact zokR_at zk_L_law_9 (by omega) (by omega)
  exact zokR_at zk_L_law_10 (by omega) (by omega)
set_option maxHeartbeats 4000000 in
theorem zall_T {y pc : Nat} (hy : y < zN) (hpc : pc < zsz y) : zokI y pc = true := by
  have hy : y < 175 := hy
  rcases Nat.lt_or_ge y 87 with h | h
  · rcases Nat.lt_or_ge y 43 with h | h
    · rcases Nat.lt_or_ge y 21 with h | h
      · rcases Nat.lt_or_ge y 10 with h | h
        · rcases Nat.lt_or_ge y 5 with h | h
          · rcases Nat.lt_or_ge y 2 with h | h
            · rcases Nat.lt_or_ge y 1 with h | h
              · obtain rfl : y = 0 := by omega
                exact zokT_at zk_X0_init hpc
              · obtain rfl : y = 1 := by omega
                exact zokT_at zk_X0_clear hpc
            · rcases Nat.lt_or_ge y 3 with h | h
              · obtain rfl : y = 2 := by omega
                exact zokT_at zk_X0_holds hpc
              · rcases Nat.lt_or_ge y 4 with h | h
                · obtain rfl : y = 3 := by omega
                  exact zokT_at zk_X0_put hpc
                · obtain rfl : y = 4 := by omega
                  exact zokT_at zk_X0_op hpc
          · rcases Nat.lt_or_ge y 7 with h | h
            · rcases Nat.lt_or_ge y 6 with h | h
              · obtain rfl : y = 5 := by omega
                exact zokT_at zk_X0_argument hpc
              · obtain rfl : y = 6 := by omega
                exact zokT_at zk_X0_findFault hpc
            · rcases Nat.lt_or_ge y 8 with h | h
              · obtain rfl : y = 7 := by omega
                exact zokT_at zk_X0_findFaultOfWords hpc
              · rcases Nat.lt_or_ge y 9 with h | h
                · obtain rfl : y = 8 := by omega
                  exact zokT_at zk_X0_faultOfWord hpc
                · obtain rfl : y = 9 := by omega
                  exact zokT_at zk_X0_findFaultOfHeights hpc
        · rcases Nat.lt_or_ge y 15 with h | h
          · rcases Nat.lt_or_ge y 12 with h | h
            · rcases Nat.lt_or_ge y 11 with h | h
              · obtain rfl : y = 10 := by omega
                exact zokT_at zk_X0_leastToLookAt hpc
              · obtain rfl : y = 11 := by omega
                exact zokT_at zk_X0_lookAt hpc
            · rcases Nat.lt_or_ge y 13 with h | h
              · obtain rfl : y = 12 := by omega
                exact zokT_at zk_X0_reach hpc
              · rcases Nat.lt_or_ge y 14 with h | h
                · obtain rfl : y = 13 := by omega
                  exact zokT_at zk_X1_init hpc
                · obtain rfl : y = 14 := by omega
                  exact zokT_at zk_X1_toBeginning hpc
          · rcases Nat.lt_or_ge y 18 with h | h
            · rcases Nat.lt_or_ge y 16 with h | h
              · obtain rfl : y = 15 := by omega
                exact zokT_at zk_X1_putOut hpc
              · rcases Nat.lt_or_ge y 17 with h | h
                · obtain rfl : y = 16 := by omega
                  exact zokT_at zk_X1_wouldBreak hpc
                · obtain rfl : y = 17 := by omega
                  exact zokT_at zk_X1_follow hpc
            · rcases Nat.lt_or_ge y 19 with h | h
              · obtain rfl : y = 18 := by omega
                exact zokT_at zk_X1_step hpc
              · rcases Nat.lt_or_ge y 20 with h | h
                · obtain rfl : y = 19 := by omega
                  exact zokT_at zk_X1_move hpc
                · obtain rfl : y = 20 := by omega
                  exact zokT_at zk_X1_store hpc
      · rcases Nat.lt_or_ge y 32 with h | h
        · rcases Nat.lt_or_ge y 26 with h | h
          · rcases Nat.lt_or_ge y 23 with h | h
            · rcases Nat.lt_or_ge y 22 with h | h
              · obtain rfl : y = 21 := by omega
                exact zokT_at zk_X2_init hpc
              · obtain rfl : y = 22 := by omega
                exact zokT_at zk_X2_begin hpc
            · rcases Nat.lt_or_ge y 24 with h | h
              · obtain rfl : y = 23 := by omega
                exact zokT_at zk_X2_add hpc
              · rcases Nat.lt_or_ge y 25 with h | h
                · obtain rfl : y = 24 := by omega
                  exact zokT_at zk_X2_wasZero hpc
                · obtain rfl : y = 25 := by omega
                  exact zokT_at zk_X2_guardOf hpc
          · rcases Nat.lt_or_ge y 29 with h | h
            · rcases Nat.lt_or_ge y 27 with h | h
              · obtain rfl : y = 26 := by omega
                exact zokT_at zk_X2_addGuard hpc
              · rcases Nat.lt_or_ge y 28 with h | h
                · obtain rfl : y = 27 := by omega
                  exact zokT_at zk_X2_copy hpc
                · obtain rfl : y = 28 := by omega
                  exact zokT_at zk_X3_init hpc
            · rcases Nat.lt_or_ge y 30 with h | h
              · obtain rfl : y = 29 := by omega
                exact zokT_at zk_X3_top hpc
              · rcases Nat.lt_or_ge y 31 with h | h
                · obtain rfl : y = 30 := by omega
                  exact zokT_at zk_X3_pop hpc
                · obtain rfl : y = 31 := by omega
                  exact zokT_at zk_X3_push hpc
        · rcases Nat.lt_or_ge y 37 with h | h
          · rcases Nat.lt_or_ge y 34 with h | h
            · rcases Nat.lt_or_ge y 33 with h | h
              · obtain rfl : y = 32 := by omega
                exact zokT_at zk_X3_swap hpc
              · obtain rfl : y = 33 := by omega
                exact zokT_at zk_X4_init hpc
            · rcases Nat.lt_or_ge y 35 with h | h
              · obtain rfl : y = 34 := by omega
                exact zokT_at zk_X4_isOn hpc
              · rcases Nat.lt_or_ge y 36 with h | h
                · obtain rfl : y = 35 := by omega
                  exact zokT_at zk_X4_isOfBridge hpc
                · obtain rfl : y = 36 := by omega
                  exact zokT_at zk_X4_isBackAt hpc
          · rcases Nat.lt_or_ge y 40 with h | h
            · rcases Nat.lt_or_ge y 38 with h | h
              · obtain rfl : y = 37 := by omega
                exact zokT_at zk_X4_begin hpc
              · rcases Nat.lt_or_ge y 39 with h | h
                · obtain rfl : y = 38 := by omega
                  exact zokT_at zk_X4_drop hpc
                · obtain rfl : y = 39 := by omega
                  exact zokT_at zk_X5_init hpc
            · rcases Nat.lt_or_ge y 41 with h | h
              · obtain rfl : y = 40 := by omega
                exact zokT_at zk_X5_begin hpc
              · rcases Nat.lt_or_ge y 42 with h | h
                · obtain rfl : y = 41 := by omega
                  exact zokT_at zk_X5_bridgeOf hpc
                · obtain rfl : y = 42 := by omega
                  exact zokT_at zk_X5_wantsBridge hpc
    · rcases Nat.lt_or_ge y 65 with h | h
      · rcases Nat.lt_or_ge y 54 with h | h
        · rcases Nat.lt_or_ge y 48 with h | h
          · rcases Nat.lt_or_ge y 45 with h | h
            · rcases Nat.lt_or_ge y 44 with h | h
              · obtain rfl : y = 43 := by omega
                exact zokT_at zk_X5_addBridge hpc
              · obtain rfl : y = 44 := by omega
                exact zokT_at zk_X5_noteCut hpc
            · rcases Nat.lt_or_ge y 46 with h | h
              · obtain rfl : y = 45 := by omega
                exact zokT_at zk_X6_init hpc
              · rcases Nat.lt_or_ge y 47 with h | h
                · obtain rfl : y = 46 := by omega
                  exact zokT_at zk_X6_find hpc
                · obtain rfl : y = 47 := by omega
                  exact zokT_at zk_X6_addressOf hpc
          · rcases Nat.lt_or_ge y 51 with h | h
            · rcases Nat.lt_or_ge y 49 with h | h
              · obtain rfl : y = 48 := by omega
                exact zokT_at zk_X6_add hpc
              · rcases Nat.lt_or_ge y 50 with h | h
                · obtain rfl : y = 49 := by omega
                  exact zokT_at zk_X6_spare hpc
                · obtain rfl : y = 50 := by omega
                  exact zokT_at zk_X6_remove hpc
            · rcases Nat.lt_or_ge y 52 with h | h
              · obtain rfl : y = 51 := by omega
                exact zokT_at zk_X6_clear hpc
              · rcases Nat.lt_or_ge y 53 with h | h
                · obtain rfl : y = 52 := by omega
                  exact zokT_at zk_X7_init hpc
                · obtain rfl : y = 53 := by omega
                  exact zokT_at zk_X7_find hpc
        · rcases Nat.lt_or_ge y 59 with h | h
          · rcases Nat.lt_or_ge y 56 with h | h
            · rcases Nat.lt_or_ge y 55 with h | h
              · obtain rfl : y = 54 := by omega
                exact zokT_at zk_X7_begin hpc
              · obtain rfl : y = 55 := by omega
                exact zokT_at zk_X7_lookAt hpc
            · rcases Nat.lt_or_ge y 57 with h | h
              · obtain rfl : y = 56 := by omega
                exact zokT_at zk_X7_store hpc
              · rcases Nat.lt_or_ge y 58 with h | h
                · obtain rfl : y = 57 := by omega
                  exact zokT_at zk_X7_isConstant hpc
                · obtain rfl : y = 58 := by omega
                  exact zokT_at zk_X7_constant hpc
          · rcases Nat.lt_or_ge y 62 with h | h
            · rcases Nat.lt_or_ge y 60 with h | h
              · obtain rfl : y = 59 := by omega
                exact zokT_at zk_X7_numberOf hpc
              · rcases Nat.lt_or_ge y 61 with h | h
                · obtain rfl : y = 60 := by omega
                  exact zokT_at zk_X7_made hpc
                · obtain rfl : y = 61 := by omega
                  exact zokT_at zk_X7_make hpc
            · rcases Nat.lt_or_ge y 63 with h | h
              · obtain rfl : y = 62 := by omega
                exact zokT_at zk_X7_guardOn hpc
              · rcases Nat.lt_or_ge y 64 with h | h
                · obtain rfl : y = 63 := by omega
                  exact zokT_at zk_X7_work hpc
                · obtain rfl : y = 64 := by omega
                  exact zokT_at zk_X7_makeNew hpc
      · rcases Nat.lt_or_ge y 76 with h | h
        · rcases Nat.lt_or_ge y 70 with h | h
          · rcases Nat.lt_or_ge y 67 with h | h
            · rcases Nat.lt_or_ge y 66 with h | h
              · obtain rfl : y = 65 := by omega
                exact zokT_at zk_X7_peeked hpc
              · obtain rfl : y = 66 := by omega
                exact zokT_at zk_X7_notePoke hpc
            · rcases Nat.lt_or_ge y 68 with h | h
              · obtain rfl : y = 67 := by omega
                exact zokT_at zk_X8_init hpc
              · rcases Nat.lt_or_ge y 69 with h | h
                · obtain rfl : y = 68 := by omega
                  exact zokT_at zk_X8_poke hpc
                · obtain rfl : y = 69 := by omega
                  exact zokT_at zk_X8_verify hpc
          · rcases Nat.lt_or_ge y 73 with h | h
            · rcases Nat.lt_or_ge y 71 with h | h
              · obtain rfl : y = 70 := by omega
                exact zokT_at zk_X8_place hpc
              · rcases Nat.lt_or_ge y 72 with h | h
                · obtain rfl : y = 71 := by omega
                  exact zokT_at zk_X8_setLocal hpc
                · obtain rfl : y = 72 := by omega
                  exact zokT_at zk_X8_start hpc
            · rcases Nat.lt_or_ge y 74 with h | h
              · obtain rfl : y = 73 := by omega
                exact zokT_at zk_X8_run hpc
              · rcases Nat.lt_or_ge y 75 with h | h
                · obtain rfl : y = 74 := by omega
                  exact zokT_at zk_X8_state hpc
                · obtain rfl : y = 75 := by omega
                  exact zokT_at zk_X8_address hpc
        · rcases Nat.lt_or_ge y 81 with h | h
          · rcases Nat.lt_or_ge y 78 with h | h
            · rcases Nat.lt_or_ge y 77 with h | h
              · obtain rfl : y = 76 := by omega
                exact zokT_at zk_X8_local hpc
              · obtain rfl : y = 77 := by omega
                exact zokT_at zk_X8_memory hpc
            · rcases Nat.lt_or_ge y 79 with h | h
              · obtain rfl : y = 78 := by omega
                exact zokT_at zk_X8_height hpc
              · rcases Nat.lt_or_ge y 80 with h | h
                · obtain rfl : y = 79 := by omega
                  exact zokT_at zk_X8_stack hpc
                · obtain rfl : y = 80 := by omega
                  exact zokT_at zk_X8_emitted hpc
          · rcases Nat.lt_or_ge y 84 with h | h
            · rcases Nat.lt_or_ge y 82 with h | h
              · obtain rfl : y = 81 := by omega
                exact zokT_at zk_X8_output hpc
              · rcases Nat.lt_or_ge y 83 with h | h
                · obtain rfl : y = 82 := by omega
                  exact zokT_at zk_X8_steps hpc
                · obtain rfl : y = 83 := by omega
                  exact zokT_at zk_X8_heat hpc
            · rcases Nat.lt_or_ge y 85 with h | h
              · obtain rfl : y = 84 := by omega
                exact zokT_at zk_X8_traces hpc
              · rcases Nat.lt_or_ge y 86 with h | h
                · obtain rfl : y = 85 := by omega
                  exact zokT_at zk_X8_traceAt hpc
                · obtain rfl : y = 86 := by omega
                  exact zokT_at zk_X8_trace hpc
  · rcases Nat.lt_or_ge y 131 with h | h
    · rcases Nat.lt_or_ge y 109 with h | h
      · rcases Nat.lt_or_ge y 98 with h | h
        · rcases Nat.lt_or_ge y 92 with h | h
          · rcases Nat.lt_or_ge y 89 with h | h
            · rcases Nat.lt_or_ge y 88 with h | h
              · obtain rfl : y = 87 := by omega
                exact zokT_at zk_X8_guard hpc
              · obtain rfl : y = 88 := by omega
                exact zokT_at zk_X8_recording hpc
            · rcases Nat.lt_or_ge y 90 with h | h
              · obtain rfl : y = 89 := by omega
                exact zokT_at zk_X8_invalidate hpc
              · rcases Nat.lt_or_ge y 91 with h | h
                · obtain rfl : y = 90 := by omega
                  exact zokT_at zk_X8_reset hpc
                · obtain rfl : y = 91 := by omega
                  exact zokT_at zk_X8_passComesRound hpc
          · rcases Nat.lt_or_ge y 95 with h | h
            · rcases Nat.lt_or_ge y 93 with h | h
              · obtain rfl : y = 92 := by omega
                exact zokT_at zk_X8_bridgeComesRound hpc
              · rcases Nat.lt_or_ge y 94 with h | h
                · obtain rfl : y = 93 := by omega
                  exact zokT_at zk_X8_stepPlainly hpc
                · obtain rfl : y = 94 := by omega
                  exact zokT_at zk_X8_warm hpc
            · rcases Nat.lt_or_ge y 96 with h | h
              · obtain rfl : y = 95 := by omega
                exact zokT_at zk_X8_beginRecording hpc
              · rcases Nat.lt_or_ge y 97 with h | h
                · obtain rfl : y = 96 := by omega
                  exact zokT_at zk_X8_endRecording hpc
                · obtain rfl : y = 97 := by omega
                  exact zokT_at zk_X8_cutIsDue hpc
        · rcases Nat.lt_or_ge y 103 with h | h
          · rcases Nat.lt_or_ge y 100 with h | h
            · rcases Nat.lt_or_ge y 99 with h | h
              · obtain rfl : y = 98 := by omega
                exact zokT_at zk_X8_cutOff hpc
              · obtain rfl : y = 99 := by omega
                exact zokT_at zk_X8_isJump hpc
            · rcases Nat.lt_or_ge y 101 with h | h
              · obtain rfl : y = 100 := by omega
                exact zokT_at zk_X8_result hpc
              · rcases Nat.lt_or_ge y 102 with h | h
                · obtain rfl : y = 101 := by omega
                  exact zokT_at zk_X9_init hpc
                · obtain rfl : y = 102 := by omega
                  exact zokT_at zk_X9_thrown hpc
          · rcases Nat.lt_or_ge y 106 with h | h
            · rcases Nat.lt_or_ge y 104 with h | h
              · obtain rfl : y = 103 := by omega
                exact zokT_at zk_X9_in hpc
              · rcases Nat.lt_or_ge y 105 with h | h
                · obtain rfl : y = 104 := by omega
                  exact zokT_at zk_X9_reset hpc
                · obtain rfl : y = 105 := by omega
                  exact zokT_at zk_X9_op hpc
            · rcases Nat.lt_or_ge y 107 with h | h
              · obtain rfl : y = 106 := by omega
                exact zokT_at zk_X9_argument hpc
              · rcases Nat.lt_or_ge y 108 with h | h
                · obtain rfl : y = 107 := by omega
                  exact zokT_at zk_X9_poke hpc
                · obtain rfl : y = 108 := by omega
                  exact zokT_at zk_X9_jumps hpc
      · rcases Nat.lt_or_ge y 120 with h | h
        · rcases Nat.lt_or_ge y 114 with h | h
          · rcases Nat.lt_or_ge y 111 with h | h
            · rcases Nat.lt_or_ge y 110 with h | h
              · obtain rfl : y = 109 := by omega
                exact zokT_at zk_X9_takes hpc
              · obtain rfl : y = 110 := by omega
                exact zokT_at zk_X9_puts hpc
            · rcases Nat.lt_or_ge y 112 with h | h
              · obtain rfl : y = 111 := by omega
                exact zokT_at zk_X9_at hpc
              · rcases Nat.lt_or_ge y 113 with h | h
                · obtain rfl : y = 112 := by omega
                  exact zokT_at zk_X9_judge hpc
                · obtain rfl : y = 113 := by omega
                  exact zokT_at zk_X9_findHeights hpc
          · rcases Nat.lt_or_ge y 117 with h | h
            · rcases Nat.lt_or_ge y 115 with h | h
              · obtain rfl : y = 114 := by omega
                exact zokT_at zk_X9_verify hpc
              · rcases Nat.lt_or_ge y 116 with h | h
                · obtain rfl : y = 115 := by omega
                  exact zokT_at zk_X9_place hpc
                · obtain rfl : y = 116 := by omega
                  exact zokT_at zk_X9_setLocal hpc
            · rcases Nat.lt_or_ge y 118 with h | h
              · obtain rfl : y = 117 := by omega
                exact zokT_at zk_X9_start hpc
              · rcases Nat.lt_or_ge y 119 with h | h
                · obtain rfl : y = 118 := by omega
                  exact zokT_at zk_X9_reckon hpc
                · obtain rfl : y = 119 := by omega
                  exact zokT_at zk_X9_breaks hpc
        · rcases Nat.lt_or_ge y 125 with h | h
          · rcases Nat.lt_or_ge y 122 with h | h
            · rcases Nat.lt_or_ge y 121 with h | h
              · obtain rfl : y = 120 := by omega
                exact zokT_at zk_X9_goesTo hpc
              · obtain rfl : y = 121 := by omega
                exact zokT_at zk_X9_choice hpc
            · rcases Nat.lt_or_ge y 123 with h | h
              · obtain rfl : y = 122 := by omega
                exact zokT_at zk_X9_act hpc
              · rcases Nat.lt_or_ge y 124 with h | h
                · obtain rfl : y = 123 := by omega
                  exact zokT_at zk_X9_move hpc
                · obtain rfl : y = 124 := by omega
                  exact zokT_at zk_X9_traceOf hpc
          · rcases Nat.lt_or_ge y 128 with h | h
            · rcases Nat.lt_or_ge y 126 with h | h
              · obtain rfl : y = 125 := by omega
                exact zokT_at zk_X9_traceMany hpc
              · rcases Nat.lt_or_ge y 127 with h | h
                · obtain rfl : y = 126 := by omega
                  exact zokT_at zk_X9_begin hpc
                · obtain rfl : y = 127 := by omega
                  exact zokT_at zk_X9_cutOff hpc
            · rcases Nat.lt_or_ge y 129 with h | h
              · obtain rfl : y = 128 := by omega
                exact zokT_at zk_X9_plainStep hpc
              · rcases Nat.lt_or_ge y 130 with h | h
                · obtain rfl : y = 129 := by omega
                  exact zokT_at zk_X9_finish hpc
                · obtain rfl : y = 130 := by omega
                  exact zokT_at zk_X9_value hpc
    · rcases Nat.lt_or_ge y 153 with h | h
      · rcases Nat.lt_or_ge y 142 with h | h
        · rcases Nat.lt_or_ge y 136 with h | h
          · rcases Nat.lt_or_ge y 133 with h | h
            · rcases Nat.lt_or_ge y 132 with h | h
              · obtain rfl : y = 131 := by omega
                exact zokT_at zk_X9_constantOf hpc
              · obtain rfl : y = 132 := by omega
                exact zokT_at zk_X9_guard hpc
            · rcases Nat.lt_or_ge y 134 with h | h
              · obtain rfl : y = 133 := by omega
                exact zokT_at zk_X9_find hpc
              · rcases Nat.lt_or_ge y 135 with h | h
                · obtain rfl : y = 134 := by omega
                  exact zokT_at zk_X9_peek hpc
                · obtain rfl : y = 135 := by omega
                  exact zokT_at zk_X9_poked hpc
          · rcases Nat.lt_or_ge y 139 with h | h
            · rcases Nat.lt_or_ge y 137 with h | h
              · obtain rfl : y = 136 := by omega
                exact zokT_at zk_X9_findValues hpc
              · rcases Nat.lt_or_ge y 138 with h | h
                · obtain rfl : y = 137 := by omega
                  exact zokT_at zk_X9_findValue hpc
                · obtain rfl : y = 138 := by omega
                  exact zokT_at zk_X9_follow hpc
            · rcases Nat.lt_or_ge y 140 with h | h
              · obtain rfl : y = 139 := by omega
                exact zokT_at zk_X9_pass hpc
              · rcases Nat.lt_or_ge y 141 with h | h
                · obtain rfl : y = 140 := by omega
                  exact zokT_at zk_X9_run hpc
                · obtain rfl : y = 141 := by omega
                  exact zokT_at zk_X9_state hpc
        · rcases Nat.lt_or_ge y 147 with h | h
          · rcases Nat.lt_or_ge y 144 with h | h
            · rcases Nat.lt_or_ge y 143 with h | h
              · obtain rfl : y = 142 := by omega
                exact zokT_at zk_X9_address hpc
              · obtain rfl : y = 143 := by omega
                exact zokT_at zk_X9_local hpc
            · rcases Nat.lt_or_ge y 145 with h | h
              · obtain rfl : y = 144 := by omega
                exact zokT_at zk_X9_memory hpc
              · rcases Nat.lt_or_ge y 146 with h | h
                · obtain rfl : y = 145 := by omega
                  exact zokT_at zk_X9_height hpc
                · obtain rfl : y = 146 := by omega
                  exact zokT_at zk_X9_stack hpc
          · rcases Nat.lt_or_ge y 150 with h | h
            · rcases Nat.lt_or_ge y 148 with h | h
              · obtain rfl : y = 147 := by omega
                exact zokT_at zk_X9_emitted hpc
              · rcases Nat.lt_or_ge y 149 with h | h
                · obtain rfl : y = 148 := by omega
                  exact zokT_at zk_X9_output hpc
                · obtain rfl : y = 149 := by omega
                  exact zokT_at zk_X9_steps hpc
            · rcases Nat.lt_or_ge y 151 with h | h
              · obtain rfl : y = 150 := by omega
                exact zokT_at zk_X9_heat hpc
              · rcases Nat.lt_or_ge y 152 with h | h
                · obtain rfl : y = 151 := by omega
                  exact zokT_at zk_X9_traces hpc
                · obtain rfl : y = 152 := by omega
                  exact zokT_at zk_X9_traceAt hpc
      · rcases Nat.lt_or_ge y 164 with h | h
        · rcases Nat.lt_or_ge y 158 with h | h
          · rcases Nat.lt_or_ge y 155 with h | h
            · rcases Nat.lt_or_ge y 154 with h | h
              · obtain rfl : y = 153 := by omega
                exact zokT_at zk_X9_trace hpc
              · obtain rfl : y = 154 := by omega
                exact zokT_at zk_X9_guard_ hpc
            · rcases Nat.lt_or_ge y 156 with h | h
              · obtain rfl : y = 155 := by omega
                exact zokT_at zk_X9_recording hpc
              · rcases Nat.lt_or_ge y 157 with h | h
                · obtain rfl : y = 156 := by omega
                  exact zokT_at zk_X9_invalidate hpc
                · obtain rfl : y = 157 := by omega
                  exact zokT_at zk_J9_min_7cf53 hpc
          · rcases Nat.lt_or_ge y 161 with h | h
            · rcases Nat.lt_or_ge y 159 with h | h
              · obtain rfl : y = 158 := by omega
                exact zokT_at zk_J7_fill_53178 hpc
              · rcases Nat.lt_or_ge y 160 with h | h
                · obtain rfl : y = 159 := by omega
                  exact zokT_at zk_L_cell hpc
                · obtain rfl : y = 160 := by omega
                  exact zokT_at zk_L_poke hpc
            · rcases Nat.lt_or_ge y 162 with h | h
              · obtain rfl : y = 161 := by omega
                exact zokT_at zk_L_setLocal hpc
              · rcases Nat.lt_or_ge y 163 with h | h
                · obtain rfl : y = 162 := by omega
                  exact zokT_at zk_L_start hpc
                · obtain rfl : y = 163 := by omega
                  exact zokT_at zk_L_run hpc
        · rcases Nat.lt_or_ge y 169 with h | h
          · rcases Nat.lt_or_ge y 166 with h | h
            · rcases Nat.lt_or_ge y 165 with h | h
              · obtain rfl : y = 164 := by omega
                exact zokT_at zk_L_local hpc
              · obtain rfl : y = 165 := by omega
                exact zokT_at zk_L_memory hpc
            · rcases Nat.lt_or_ge y 167 with h | h
              · obtain rfl : y = 166 := by omega
                exact zokT_at zk_L_stack hpc
              · rcases Nat.lt_or_ge y 168 with h | h
                · obtain rfl : y = 167 := by omega
                  exact zokT_at zk_L_output hpc
                · obtain rfl : y = 168 := by omega
                  exact zokT_at zk_L_steps hpc
          · rcases Nat.lt_or_ge y 172 with h | h
            · rcases Nat.lt_or_ge y 170 with h | h
              · obtain rfl : y = 169 := by omega
                exact zokT_at zk_L_heat hpc
              · rcases Nat.lt_or_ge y 171 with h | h
                · obtain rfl : y = 170 := by omega
                  exact zokT_at zk_L_traceAt hpc
                · obtain rfl : y = 171 := by omega
                  exact zokT_at zk_L_trace hpc
            · rcases Nat.lt_or_ge y 173 with h | h
              · obtain rfl : y = 172 := by omega
                exact zokT_at zk_L_guard hpc
              · rcases Nat.lt_or_ge y 174 with h | h
                · obtain rfl : y = 173 := by omega
                  exact zokT_at zk_L_invalidate hpc
                · obtain rfl : y = 174 := by omega
                  exact zk_L_law hpc
theorem zall_I {y : Nat} (hy : y < zN) (pc : Nat) : zokI y pc = true := by
  by_cases h : pc < zsz y
  · exact zall_T hy h
  · have hb : Nat.blt pc (zsz y) = false := by
      cases hq : Nat.blt pc (zsz y)
      · rfl
      · exact absurd (Nat.le_of_ble_eq_true hq) h
    have : ztab y pc = none := by unfold ztab; rw [hb]; rfl
    unfold zokI
    rw [this]
def zMok (y : Nat) : Prop := zcw y ∈ zgw ∧ (zkd y = 0 → Cond.instanceMethod (znm y) ∈ zgw ∧ Cond.selects (znm y).cls (znm y) (znm y) ∈ zgw) ∧ (zkd y = 1 → Cond.static (znm y) ∈ zgw) ∧ (zkd y = 2 → Cond.instanceMethod (znm y) ∈ zgw) ∧ Cond.initialized (znm y).cls ∈ zgw ∧ zml y ≤ 20 ∧ plainName (znm y).cls = true ∧ (znm y).cls ≠ "java/lang/invoke/MethodHandle" ∧ (znm y).cls ≠ "java/lang/invoke/VarHandle" ∧ (zkd y = 0 → zci y < 10 ∧ (zcl (zci y)).1 = (znm y).cls)
theorem zMok_of {y p0 p1 p2 p3 : Nat} (h : zokM y p0 p1 p2 p3 = true) : zMok y := by
  unfold zokM at h
  simp only [Bool.and_eq_true] at h
  obtain ⟨⟨⟨⟨⟨⟨⟨h0, h1⟩, h2⟩, h3⟩, h4⟩, h5⟩, h6⟩, h7⟩ := h
  refine ⟨zhas_in h0, fun k => ?_, fun k => ?_, fun k => ?_, zhas_in h2, Nat.le_of_ble_eq_true h3, h4, of_decide_eq_true h5, of_decide_eq_true h6, fun k => ?_⟩
  · rw [k] at h1; have h1 : (zhas p1 (.instanceMethod (znm y)) && zhas p2 (.selects (znm y).cls (znm y) (znm y))) = true := h1; rw [Bool.and_eq_true] at h1; exact ⟨zhas_in h1.1, zhas_in h1.2⟩
  · rw [k] at h1; exact zhas_in h1
  · rw [k] at h1; exact zhas_in h1
  · rw [k] at h7; have h7 : (Nat.blt (zci y) 10 && decide ((zcl (zci y)).1 = (znm y).cls)) = true := h7; rw [Bool.and_eq_true] at h7; exact ⟨zblt h7.1, of_decide_eq_true h7.2⟩
set_option maxHeartbeats 4000000 in
theorem zall_M {y : Nat} (hy : y < zN) (hk : zkd y ≠ 9) : zMok y := by
  have hy : y < 175 := hy
  rcases Nat.lt_or_ge y 87 with h | h
  · rcases Nat.lt_or_ge y 43 with h | h
    · rcases Nat.lt_or_ge y 21 with h | h
      · rcases Nat.lt_or_ge y 10 with h | h
        · rcases Nat.lt_or_ge y 5 with h | h
          · rcases Nat.lt_or_ge y 2 with h | h
            · rcases Nat.lt_or_ge y 1 with h | h
              · obtain rfl : y = 0 := by omega
                exact zMok_of zm_X0_init
              · obtain rfl : y = 1 := by omega
                exact zMok_of zm_X0_clear
            · rcases Nat.lt_or_ge y 3 with h | h
              · obtain rfl : y = 2 := by omega
                exact zMok_of zm_X0_holds
              · rcases Nat.lt_or_ge y 4 with h | h
                · obtain rfl : y = 3 := by omega
                  exact zMok_of zm_X0_put
                · obtain rfl : y = 4 := by omega
                  exact zMok_of zm_X0_op
          · rcases Nat.lt_or_ge y 7 with h | h
            · rcases Nat.lt_or_ge y 6 with h | h
              · obtain rfl : y = 5 := by omega
                exact zMok_of zm_X0_argument
              · obtain rfl : y = 6 := by omega
                exact zMok_of zm_X0_findFault
            · rcases Nat.lt_or_ge y 8 with h | h
              · obtain rfl : y = 7 := by omega
                exact zMok_of zm_X0_findFaultOfWords
              · rcases Nat.lt_or_ge y 9 with h | h
                · obtain rfl : y = 8 := by omega
                  exact zMok_of zm_X0_faultOfWord
                · obtain rfl : y = 9 := by omega
                  exact zMok_of zm_X0_findFaultOfHeights
        · rcases Nat.lt_or_ge y 15 with h | h
          · rcases Nat.lt_or_ge y 12 with h | h
            · rcases Nat.lt_or_ge y 11 with h | h
              · obtain rfl : y = 10 := by omega
                exact zMok_of zm_X0_leastToLookAt
              · obtain rfl : y = 11 := by omega
                exact zMok_of zm_X0_lookAt
            · rcases Nat.lt_or_ge y 13 with h | h
              · obtain rfl : y = 12 := by omega
                exact zMok_of zm_X0_reach
              · rcases Nat.lt_or_ge y 14 with h | h
                · obtain rfl : y = 13 := by omega
                  exact zMok_of zm_X1_init
                · obtain rfl : y = 14 := by omega
                  exact zMok_of zm_X1_toBeginning
          · rcases Nat.lt_or_ge y 18 with h | h
            · rcases Nat.lt_or_ge y 16 with h | h
              · obtain rfl : y = 15 := by omega
                exact zMok_of zm_X1_putOut
              · rcases Nat.lt_or_ge y 17 with h | h
                · obtain rfl : y = 16 := by omega
                  exact zMok_of zm_X1_wouldBreak
                · obtain rfl : y = 17 := by omega
                  exact zMok_of zm_X1_follow
            · rcases Nat.lt_or_ge y 19 with h | h
              · obtain rfl : y = 18 := by omega
                exact zMok_of zm_X1_step
              · rcases Nat.lt_or_ge y 20 with h | h
                · obtain rfl : y = 19 := by omega
                  exact zMok_of zm_X1_move
                · obtain rfl : y = 20 := by omega
                  exact zMok_of zm_X1_store
      · rcases Nat.lt_or_ge y 32 with h | h
        · rcases Nat.lt_or_ge y 26 with h | h
          · rcases Nat.lt_or_ge y 23 with h | h
            · rcases Nat.lt_or_ge y 22 with h | h
              · obtain rfl : y = 21 := by omega
                exact zMok_of zm_X2_init
              · obtain rfl : y = 22 := by omega
                exact zMok_of zm_X2_begin
            · rcases Nat.lt_or_ge y 24 with h | h
              · obtain rfl : y = 23 := by omega
                exact zMok_of zm_X2_add
              · rcases Nat.lt_or_ge y 25 with h | h
                · obtain rfl : y = 24 := by omega
                  exact zMok_of zm_X2_wasZero
                · obtain rfl : y = 25 := by omega
                  exact zMok_of zm_X2_guardOf
          · rcases Nat.lt_or_ge y 29 with h | h
            · rcases Nat.lt_or_ge y 27 with h | h
              · obtain rfl : y = 26 := by omega
                exact zMok_of zm_X2_addGuard
              · rcases Nat.lt_or_ge y 28 with h | h
                · obtain rfl : y = 27 := by omega
                  exact zMok_of zm_X2_copy
                · obtain rfl : y = 28 := by omega
                  exact zMok_of zm_X3_init
            · rcases Nat.lt_or_ge y 30 with h | h
              · obtain rfl : y = 29 := by omega
                exact zMok_of zm_X3_top
              · rcases Nat.lt_or_ge y 31 with h | h
                · obtain rfl : y = 30 := by omega
                  exact zMok_of zm_X3_pop
                · obtain rfl : y = 31 := by omega
                  exact zMok_of zm_X3_push
        · rcases Nat.lt_or_ge y 37 with h | h
          · rcases Nat.lt_or_ge y 34 with h | h
            · rcases Nat.lt_or_ge y 33 with h | h
              · obtain rfl : y = 32 := by omega
                exact zMok_of zm_X3_swap
              · obtain rfl : y = 33 := by omega
                exact zMok_of zm_X4_init
            · rcases Nat.lt_or_ge y 35 with h | h
              · obtain rfl : y = 34 := by omega
                exact zMok_of zm_X4_isOn
              · rcases Nat.lt_or_ge y 36 with h | h
                · obtain rfl : y = 35 := by omega
                  exact zMok_of zm_X4_isOfBridge
                · obtain rfl : y = 36 := by omega
                  exact zMok_of zm_X4_isBackAt
          · rcases Nat.lt_or_ge y 40 with h | h
            · rcases Nat.lt_or_ge y 38 with h | h
              · obtain rfl : y = 37 := by omega
                exact zMok_of zm_X4_begin
              · rcases Nat.lt_or_ge y 39 with h | h
                · obtain rfl : y = 38 := by omega
                  exact zMok_of zm_X4_drop
                · obtain rfl : y = 39 := by omega
                  exact zMok_of zm_X5_init
            · rcases Nat.lt_or_ge y 41 with h | h
              · obtain rfl : y = 40 := by omega
                exact zMok_of zm_X5_begin
              · rcases Nat.lt_or_ge y 42 with h | h
                · obtain rfl : y = 41 := by omega
                  exact zMok_of zm_X5_bridgeOf
                · obtain rfl : y = 42 := by omega
                  exact zMok_of zm_X5_wantsBridge
    · rcases Nat.lt_or_ge y 65 with h | h
      · rcases Nat.lt_or_ge y 54 with h | h
        · rcases Nat.lt_or_ge y 48 with h | h
          · rcases Nat.lt_or_ge y 45 with h | h
            · rcases Nat.lt_or_ge y 44 with h | h
              · obtain rfl : y = 43 := by omega
                exact zMok_of zm_X5_addBridge
              · obtain rfl : y = 44 := by omega
                exact zMok_of zm_X5_noteCut
            · rcases Nat.lt_or_ge y 46 with h | h
              · obtain rfl : y = 45 := by omega
                exact zMok_of zm_X6_init
              · rcases Nat.lt_or_ge y 47 with h | h
                · obtain rfl : y = 46 := by omega
                  exact zMok_of zm_X6_find
                · obtain rfl : y = 47 := by omega
                  exact zMok_of zm_X6_addressOf
          · rcases Nat.lt_or_ge y 51 with h | h
            · rcases Nat.lt_or_ge y 49 with h | h
              · obtain rfl : y = 48 := by omega
                exact zMok_of zm_X6_add
              · rcases Nat.lt_or_ge y 50 with h | h
                · obtain rfl : y = 49 := by omega
                  exact zMok_of zm_X6_spare
                · obtain rfl : y = 50 := by omega
                  exact zMok_of zm_X6_remove
            · rcases Nat.lt_or_ge y 52 with h | h
              · obtain rfl : y = 51 := by omega
                exact zMok_of zm_X6_clear
              · rcases Nat.lt_or_ge y 53 with h | h
                · obtain rfl : y = 52 := by omega
                  exact zMok_of zm_X7_init
                · obtain rfl : y = 53 := by omega
                  exact zMok_of zm_X7_find
        · rcases Nat.lt_or_ge y 59 with h | h
          · rcases Nat.lt_or_ge y 56 with h | h
            · rcases Nat.lt_or_ge y 55 with h | h
              · obtain rfl : y = 54 := by omega
                exact zMok_of zm_X7_begin
              · obtain rfl : y = 55 := by omega
                exact zMok_of zm_X7_lookAt
            · rcases Nat.lt_or_ge y 57 with h | h
              · obtain rfl : y = 56 := by omega
                exact zMok_of zm_X7_store
              · rcases Nat.lt_or_ge y 58 with h | h
                · obtain rfl : y = 57 := by omega
                  exact zMok_of zm_X7_isConstant
                · obtain rfl : y = 58 := by omega
                  exact zMok_of zm_X7_constant
          · rcases Nat.lt_or_ge y 62 with h | h
            · rcases Nat.lt_or_ge y 60 with h | h
              · obtain rfl : y = 59 := by omega
                exact zMok_of zm_X7_numberOf
              · rcases Nat.lt_or_ge y 61 with h | h
                · obtain rfl : y = 60 := by omega
                  exact zMok_of zm_X7_made
                · obtain rfl : y = 61 := by omega
                  exact zMok_of zm_X7_make
            · rcases Nat.lt_or_ge y 63 with h | h
              · obtain rfl : y = 62 := by omega
                exact zMok_of zm_X7_guardOn
              · rcases Nat.lt_or_ge y 64 with h | h
                · obtain rfl : y = 63 := by omega
                  exact zMok_of zm_X7_work
                · obtain rfl : y = 64 := by omega
                  exact zMok_of zm_X7_makeNew
      · rcases Nat.lt_or_ge y 76 with h | h
        · rcases Nat.lt_or_ge y 70 with h | h
          · rcases Nat.lt_or_ge y 67 with h | h
            · rcases Nat.lt_or_ge y 66 with h | h
              · obtain rfl : y = 65 := by omega
                exact zMok_of zm_X7_peeked
              · obtain rfl : y = 66 := by omega
                exact zMok_of zm_X7_notePoke
            · rcases Nat.lt_or_ge y 68 with h | h
              · obtain rfl : y = 67 := by omega
                exact zMok_of zm_X8_init
              · rcases Nat.lt_or_ge y 69 with h | h
                · obtain rfl : y = 68 := by omega
                  exact zMok_of zm_X8_poke
                · obtain rfl : y = 69 := by omega
                  exact zMok_of zm_X8_verify
          · rcases Nat.lt_or_ge y 73 with h | h
            · rcases Nat.lt_or_ge y 71 with h | h
              · obtain rfl : y = 70 := by omega
                exact zMok_of zm_X8_place
              · rcases Nat.lt_or_ge y 72 with h | h
                · obtain rfl : y = 71 := by omega
                  exact zMok_of zm_X8_setLocal
                · obtain rfl : y = 72 := by omega
                  exact zMok_of zm_X8_start
            · rcases Nat.lt_or_ge y 74 with h | h
              · obtain rfl : y = 73 := by omega
                exact zMok_of zm_X8_run
              · rcases Nat.lt_or_ge y 75 with h | h
                · obtain rfl : y = 74 := by omega
                  exact zMok_of zm_X8_state
                · obtain rfl : y = 75 := by omega
                  exact zMok_of zm_X8_address
        · rcases Nat.lt_or_ge y 81 with h | h
          · rcases Nat.lt_or_ge y 78 with h | h
            · rcases Nat.lt_or_ge y 77 with h | h
              · obtain rfl : y = 76 := by omega
                exact zMok_of zm_X8_local
              · obtain rfl : y = 77 := by omega
                exact zMok_of zm_X8_memory
            · rcases Nat.lt_or_ge y 79 with h | h
              · obtain rfl : y = 78 := by omega
                exact zMok_of zm_X8_height
              · rcases Nat.lt_or_ge y 80 with h | h
                · obtain rfl : y = 79 := by omega
                  exact zMok_of zm_X8_stack
                · obtain rfl : y = 80 := by omega
                  exact zMok_of zm_X8_emitted
          · rcases Nat.lt_or_ge y 84 with h | h
            · rcases Nat.lt_or_ge y 82 with h | h
              · obtain rfl : y = 81 := by omega
                exact zMok_of zm_X8_output
              · rcases Nat.lt_or_ge y 83 with h | h
                · obtain rfl : y = 82 := by omega
                  exact zMok_of zm_X8_steps
                · obtain rfl : y = 83 := by omega
                  exact zMok_of zm_X8_heat
            · rcases Nat.lt_or_ge y 85 with h | h
              · obtain rfl : y = 84 := by omega
                exact zMok_of zm_X8_traces
              · rcases Nat.lt_or_ge y 86 with h | h
                · obtain rfl : y = 85 := by omega
                  exact zMok_of zm_X8_traceAt
                · obtain rfl : y = 86 := by omega
                  exact zMok_of zm_X8_trace
  · rcases Nat.lt_or_ge y 131 with h | h
    · rcases Nat.lt_or_ge y 109 with h | h
      · rcases Nat.lt_or_ge y 98 with h | h
        · rcases Nat.lt_or_ge y 92 with h | h
          · rcases Nat.lt_or_ge y 89 with h | h
            · rcases Nat.lt_or_ge y 88 with h | h
              · obtain rfl : y = 87 := by omega
                exact zMok_of zm_X8_guard
              · obtain rfl : y = 88 := by omega
                exact zMok_of zm_X8_recording
            · rcases Nat.lt_or_ge y 90 with h | h
              · obtain rfl : y = 89 := by omega
                exact zMok_of zm_X8_invalidate
              · rcases Nat.lt_or_ge y 91 with h | h
                · obtain rfl : y = 90 := by omega
                  exact zMok_of zm_X8_reset
                · obtain rfl : y = 91 := by omega
                  exact zMok_of zm_X8_passComesRound
          · rcases Nat.lt_or_ge y 95 with h | h
            · rcases Nat.lt_or_ge y 93 with h | h
              · obtain rfl : y = 92 := by omega
                exact zMok_of zm_X8_bridgeComesRound
              · rcases Nat.lt_or_ge y 94 with h | h
                · obtain rfl : y = 93 := by omega
                  exact zMok_of zm_X8_stepPlainly
                · obtain rfl : y = 94 := by omega
                  exact zMok_of zm_X8_warm
            · rcases Nat.lt_or_ge y 96 with h | h
              · obtain rfl : y = 95 := by omega
                exact zMok_of zm_X8_beginRecording
              · rcases Nat.lt_or_ge y 97 with h | h
                · obtain rfl : y = 96 := by omega
                  exact zMok_of zm_X8_endRecording
                · obtain rfl : y = 97 := by omega
                  exact zMok_of zm_X8_cutIsDue
        · rcases Nat.lt_or_ge y 103 with h | h
          · rcases Nat.lt_or_ge y 100 with h | h
            · rcases Nat.lt_or_ge y 99 with h | h
              · obtain rfl : y = 98 := by omega
                exact zMok_of zm_X8_cutOff
              · obtain rfl : y = 99 := by omega
                exact zMok_of zm_X8_isJump
            · rcases Nat.lt_or_ge y 101 with h | h
              · obtain rfl : y = 100 := by omega
                exact zMok_of zm_X8_result
              · rcases Nat.lt_or_ge y 102 with h | h
                · obtain rfl : y = 101 := by omega
                  exact zMok_of zm_X9_init
                · obtain rfl : y = 102 := by omega
                  exact zMok_of zm_X9_thrown
          · rcases Nat.lt_or_ge y 106 with h | h
            · rcases Nat.lt_or_ge y 104 with h | h
              · obtain rfl : y = 103 := by omega
                exact zMok_of zm_X9_in
              · rcases Nat.lt_or_ge y 105 with h | h
                · obtain rfl : y = 104 := by omega
                  exact zMok_of zm_X9_reset
                · obtain rfl : y = 105 := by omega
                  exact zMok_of zm_X9_op
            · rcases Nat.lt_or_ge y 107 with h | h
              · obtain rfl : y = 106 := by omega
                exact zMok_of zm_X9_argument
              · rcases Nat.lt_or_ge y 108 with h | h
                · obtain rfl : y = 107 := by omega
                  exact zMok_of zm_X9_poke
                · obtain rfl : y = 108 := by omega
                  exact zMok_of zm_X9_jumps
      · rcases Nat.lt_or_ge y 120 with h | h
        · rcases Nat.lt_or_ge y 114 with h | h
          · rcases Nat.lt_or_ge y 111 with h | h
            · rcases Nat.lt_or_ge y 110 with h | h
              · obtain rfl : y = 109 := by omega
                exact zMok_of zm_X9_takes
              · obtain rfl : y = 110 := by omega
                exact zMok_of zm_X9_puts
            · rcases Nat.lt_or_ge y 112 with h | h
              · obtain rfl : y = 111 := by omega
                exact zMok_of zm_X9_at
              · rcases Nat.lt_or_ge y 113 with h | h
                · obtain rfl : y = 112 := by omega
                  exact zMok_of zm_X9_judge
                · obtain rfl : y = 113 := by omega
                  exact zMok_of zm_X9_findHeights
          · rcases Nat.lt_or_ge y 117 with h | h
            · rcases Nat.lt_or_ge y 115 with h | h
              · obtain rfl : y = 114 := by omega
                exact zMok_of zm_X9_verify
              · rcases Nat.lt_or_ge y 116 with h | h
                · obtain rfl : y = 115 := by omega
                  exact zMok_of zm_X9_place
                · obtain rfl : y = 116 := by omega
                  exact zMok_of zm_X9_setLocal
            · rcases Nat.lt_or_ge y 118 with h | h
              · obtain rfl : y = 117 := by omega
                exact zMok_of zm_X9_start
              · rcases Nat.lt_or_ge y 119 with h | h
                · obtain rfl : y = 118 := by omega
                  exact zMok_of zm_X9_reckon
                · obtain rfl : y = 119 := by omega
                  exact zMok_of zm_X9_breaks
        · rcases Nat.lt_or_ge y 125 with h | h
          · rcases Nat.lt_or_ge y 122 with h | h
            · rcases Nat.lt_or_ge y 121 with h | h
              · obtain rfl : y = 120 := by omega
                exact zMok_of zm_X9_goesTo
              · obtain rfl : y = 121 := by omega
                exact zMok_of zm_X9_choice
            · rcases Nat.lt_or_ge y 123 with h | h
              · obtain rfl : y = 122 := by omega
                exact zMok_of zm_X9_act
              · rcases Nat.lt_or_ge y 124 with h | h
                · obtain rfl : y = 123 := by omega
                  exact zMok_of zm_X9_move
                · obtain rfl : y = 124 := by omega
                  exact zMok_of zm_X9_traceOf
          · rcases Nat.lt_or_ge y 128 with h | h
            · rcases Nat.lt_or_ge y 126 with h | h
              · obtain rfl : y = 125 := by omega
                exact zMok_of zm_X9_traceMany
              · rcases Nat.lt_or_ge y 127 with h | h
                · obtain rfl : y = 126 := by omega
                  exact zMok_of zm_X9_begin
                · obtain rfl : y = 127 := by omega
                  exact zMok_of zm_X9_cutOff
            · rcases Nat.lt_or_ge y 129 with h | h
              · obtain rfl : y = 128 := by omega
                exact zMok_of zm_X9_plainStep
              · rcases Nat.lt_or_ge y 130 with h | h
                · obtain rfl : y = 129 := by omega
                  exact zMok_of zm_X9_finish
                · obtain rfl : y = 130 := by omega
                  exact zMok_of zm_X9_value
    · rcases Nat.lt_or_ge y 153 with h | h
      · rcases Nat.lt_or_ge y 142 with h | h
        · rcases Nat.lt_or_ge y 136 with h | h
          · rcases Nat.lt_or_ge y 133 with h | h
            · rcases Nat.lt_or_ge y 132 with h | h
              · obtain rfl : y = 131 := by omega
                exact zMok_of zm_X9_constantOf
              · obtain rfl : y = 132 := by omega
                exact zMok_of zm_X9_guard
            · rcases Nat.lt_or_ge y 134 with h | h
              · obtain rfl : y = 133 := by omega
                exact zMok_of zm_X9_find
              · rcases Nat.lt_or_ge y 135 with h | h
                · obtain rfl : y = 134 := by omega
                  exact zMok_of zm_X9_peek
                · obtain rfl : y = 135 := by omega
                  exact zMok_of zm_X9_poked
          · rcases Nat.lt_or_ge y 139 with h | h
            · rcases Nat.lt_or_ge y 137 with h | h
              · obtain rfl : y = 136 := by omega
                exact zMok_of zm_X9_findValues
              · rcases Nat.lt_or_ge y 138 with h | h
                · obtain rfl : y = 137 := by omega
                  exact zMok_of zm_X9_findValue
                · obtain rfl : y = 138 := by omega
                  exact zMok_of zm_X9_follow
            · rcases Nat.lt_or_ge y 140 with h | h
              · obtain rfl : y = 139 := by omega
                exact zMok_of zm_X9_pass
              · rcases Nat.lt_or_ge y 141 with h | h
                · obtain rfl : y = 140 := by omega
                  exact zMok_of zm_X9_run
                · obtain rfl : y = 141 := by omega
                  exact zMok_of zm_X9_state
        · rcases Nat.lt_or_ge y 147 with h | h
          · rcases Nat.lt_or_ge y 144 with h | h
            · rcases Nat.lt_or_ge y 143 with h | h
              · obtain rfl : y = 142 := by omega
                exact zMok_of zm_X9_address
              · obtain rfl : y = 143 := by omega
                exact zMok_of zm_X9_local
            · rcases Nat.lt_or_ge y 145 with h | h
              · obtain rfl : y = 144 := by omega
                exact zMok_of zm_X9_memory
              · rcases Nat.lt_or_ge y 146 with h | h
                · obtain rfl : y = 145 := by omega
                  exact zMok_of zm_X9_height
                · obtain rfl : y = 146 := by omega
                  exact zMok_of zm_X9_stack
          · rcases Nat.lt_or_ge y 150 with h | h
            · rcases Nat.lt_or_ge y 148 with h | h
              · obtain rfl : y = 147 := by omega
                exact zMok_of zm_X9_emitted
              · rcases Nat.lt_or_ge y 149 with h | h
                · obtain rfl : y = 148 := by omega
                  exact zMok_of zm_X9_output
                · obtain rfl : y = 149 := by omega
                  exact zMok_of zm_X9_steps
            · rcases Nat.lt_or_ge y 151 with h | h
              · obtain rfl : y = 150 := by omega
                exact zMok_of zm_X9_heat
              · rcases Nat.lt_or_ge y 152 with h | h
                · obtain rfl : y = 151 := by omega
                  exact zMok_of zm_X9_traces
                · obtain rfl : y = 152 := by omega
                  exact zMok_of zm_X9_traceAt
      · rcases Nat.lt_or_ge y 164 with h | h
        · rcases Nat.lt_or_ge y 158 with h | h
          · rcases Nat.lt_or_ge y 155 with h | h
            · rcases Nat.lt_or_ge y 154 with h | h
              · obtain rfl : y = 153 := by omega
                exact zMok_of zm_X9_trace
              · obtain rfl : y = 154 := by omega
                exact zMok_of zm_X9_guard_
            · rcases Nat.lt_or_ge y 156 with h | h
              · obtain rfl : y = 155 := by omega
                exact zMok_of zm_X9_recording
              · rcases Nat.lt_or_ge y 157 with h | h
                · obtain rfl : y = 156 := by omega
                  exact zMok_of zm_X9_invalidate
                · obtain rfl : y = 157 := by omega
                  exact absurd rfl hk
          · rcases Nat.lt_or_ge y 161 with h | h
            · rcases Nat.lt_or_ge y 159 with h | h
              · obtain rfl : y = 158 := by omega
                exact zMok_of zm_J7_fill_53178
              · rcases Nat.lt_or_ge y 160 with h | h
                · obtain rfl : y = 159 := by omega
                  exact zMok_of zm_L_cell
                · obtain rfl : y = 160 := by omega
                  exact zMok_of zm_L_poke
            · rcases Nat.lt_or_ge y 162 with h | h
              · obtain rfl : y = 161 := by omega
                exact zMok_of zm_L_setLocal
              · rcases Nat.lt_or_ge y 163 with h | h
                · obtain rfl : y = 162 := by omega
                  exact zMok_of zm_L_start
                · obtain rfl : y = 163 := by omega
                  exact zMok_of zm_L_run
        · rcases Nat.lt_or_ge y 169 with h | h
          · rcases Nat.lt_or_ge y 166 with h | h
            · rcases Nat.lt_or_ge y 165 with h | h
              · obtain rfl : y = 164 := by omega
                exact zMok_of zm_L_local
              · obtain rfl : y = 165 := by omega
                exact zMok_of zm_L_memory
            · rcases Nat.lt_or_ge y 167 with h | h
              · obtain rfl : y = 166 := by omega
                exact zMok_of zm_L_stack
              · rcases Nat.lt_or_ge y 168 with h | h
                · obtain rfl : y = 167 := by omega
                  exact zMok_of zm_L_output
                · obtain rfl : y = 168 := by omega
                  exact zMok_of zm_L_steps
          · rcases Nat.lt_or_ge y 172 with h | h
            · rcases Nat.lt_or_ge y 170 with h | h
              · obtain rfl : y = 169 := by omega
                exact zMok_of zm_L_heat
              · rcases Nat.lt_or_ge y 171 with h | h
                · obtain rfl : y = 170 := by omega
                  exact zMok_of zm_L_traceAt
                · obtain rfl : y = 171 := by omega
                  exact zMok_of zm_L_trace
            · rcases Nat.lt_or_ge y 173 with h | h
              · obtain rfl : y = 172 := by omega
                exact zMok_of zm_L_guard
              · rcases Nat.lt_or_ge y 174 with h | h
                · obtain rfl : y = 173 := by omega
                  exact zMok_of zm_L_invalidate
                · obtain rfl : y = 174 := by omega
                  exact absurd rfl hk
