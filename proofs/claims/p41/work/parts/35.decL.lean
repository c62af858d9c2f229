theorem dL_cell_0 : decode cL_cell 0 = .ok (.iload_n 1, 1) := by decide +kernel
theorem dL_cell_1 : decode cL_cell 1 = .ok (.aload_n 0, 1) := by decide +kernel
theorem dL_cell_2 : decode cL_cell 2 = .ok (.arraylength, 1) := by decide +kernel
theorem dL_cell_3 : decode cL_cell 3 = .ok (.if_icmp .ge 9, 3) := by decide +kernel
theorem dL_cell_6 : decode cL_cell 6 = .ok (.aload_n 0, 1) := by decide +kernel
theorem dL_cell_7 : decode cL_cell 7 = .ok (.iload_n 1, 1) := by decide +kernel
theorem dL_cell_8 : decode cL_cell 8 = .ok (.iaload, 1) := by decide +kernel
theorem dL_cell_9 : decode cL_cell 9 = .ok (.goto 7, 3) := by decide +kernel
theorem dL_cell_12 : decode cL_cell 12 = .ok (.ldc 7, 2) := by decide +kernel
theorem dL_cell_14 : decode cL_cell 14 = .ok (.iload_n 1, 1) := by decide +kernel
theorem dL_cell_15 : decode cL_cell 15 = .ok (.imul, 1) := by decide +kernel
theorem dL_cell_16 : decode cL_cell 16 = .ok (.ireturn, 1) := by decide +kernel
theorem dL_drams_0 : decode cL_drams 0 = .ok (.aload_n 0, 1) := by decide +kernel
theorem dL_drams_1 : decode cL_drams 1 = .ok (.iload_n 1, 1) := by decide +kernel
theorem dL_drams_2 : decode cL_drams 2 = .ok (.iload_n 2, 1) := by decide +kernel
theorem dL_drams_3 : decode cL_drams 3 = .ok (.invokevirtual 8, 3) := by decide +kernel
theorem dL_drams_6 : decode cL_drams 6 = .ok (.ireturn, 1) := by decide +kernel
theorem dL_drams_7 : decode cL_drams 7 = .ok (.astore_n 3, 1) := by decide +kernel
theorem dL_drams_8 : decode cL_drams 8 = .ok (.iconst (-1), 1) := by decide +kernel
theorem dL_drams_9 : decode cL_drams 9 = .ok (.ireturn, 1) := by decide +kernel
theorem dL_drams_10 : decode cL_drams 10 = .ok (.astore_n 3, 1) := by decide +kernel
theorem dL_drams_11 : decode cL_drams 11 = .ok (.bipush (-2), 2) := by decide +kernel
theorem dL_drams_13 : decode cL_drams 13 = .ok (.ireturn, 1) := by decide +kernel
theorem dL_broth_0 : decode cL_broth 0 = .ok (.aload_n 0, 1) := by decide +kernel
theorem dL_broth_1 : decode cL_broth 1 = .ok (.invokevirtual 18, 3) := by decide +kernel
theorem dL_broth_4 : decode cL_broth 4 = .ok (.ireturn, 1) := by decide +kernel
theorem dL_broth_5 : decode cL_broth 5 = .ok (.astore_n 1, 1) := by decide +kernel
theorem dL_broth_6 : decode cL_broth 6 = .ok (.bipush (-2), 2) := by decide +kernel
theorem dL_broth_8 : decode cL_broth 8 = .ok (.ireturn, 1) := by decide +kernel
theorem dL_pour_0 : decode cL_pour 0 = .ok (.aload_n 0, 1) := by decide +kernel
theorem dL_pour_1 : decode cL_pour 1 = .ok (.iload_n 1, 1) := by decide +kernel
theorem dL_pour_2 : decode cL_pour 2 = .ok (.iload_n 2, 1) := by decide +kernel
theorem dL_pour_3 : decode cL_pour 3 = .ok (.invokevirtual 22, 3) := by decide +kernel
theorem dL_pour_6 : decode cL_pour 6 = .ok (.ireturn, 1) := by decide +kernel
theorem dL_pour_7 : decode cL_pour 7 = .ok (.astore_n 3, 1) := by decide +kernel
theorem dL_pour_8 : decode cL_pour 8 = .ok (.sipush (-1001), 3) := by decide +kernel
theorem dL_pour_11 : decode cL_pour 11 = .ok (.ireturn, 1) := by decide +kernel
theorem dL_pour_12 : decode cL_pour 12 = .ok (.astore_n 3, 1) := by decide +kernel
theorem dL_pour_13 : decode cL_pour 13 = .ok (.sipush (-1002), 3) := by decide +kernel
theorem dL_pour_16 : decode cL_pour 16 = .ok (.ireturn, 1) := by decide +kernel
theorem dL_ladle_0 : decode cL_ladle 0 = .ok (.aload_n 0, 1) := by decide +kernel
theorem dL_ladle_1 : decode cL_ladle 1 = .ok (.iload_n 1, 1) := by decide +kernel
theorem dL_ladle_2 : decode cL_ladle 2 = .ok (.iload_n 2, 1) := by decide +kernel
theorem dL_ladle_3 : decode cL_ladle 3 = .ok (.invokevirtual 27, 3) := by decide +kernel
theorem dL_ladle_6 : decode cL_ladle 6 = .ok (.ifCond .ne 7, 3) := by decide +kernel
theorem dL_ladle_9 : decode cL_ladle 9 = .ok (.iconst 0, 1) := by decide +kernel
theorem dL_ladle_10 : decode cL_ladle 10 = .ok (.goto 4, 3) := by decide +kernel
theorem dL_ladle_13 : decode cL_ladle 13 = .ok (.iconst 1, 1) := by decide +kernel
theorem dL_ladle_14 : decode cL_ladle 14 = .ok (.ireturn, 1) := by decide +kernel
theorem dL_ladle_15 : decode cL_ladle 15 = .ok (.astore_n 3, 1) := by decide +kernel
theorem dL_ladle_16 : decode cL_ladle 16 = .ok (.sipush (-1001), 3) := by decide +kernel
theorem dL_ladle_19 : decode cL_ladle 19 = .ok (.ireturn, 1) := by decide +kernel
theorem dL_ladle_20 : decode cL_ladle 20 = .ok (.astore_n 3, 1) := by decide +kernel
theorem dL_ladle_21 : decode cL_ladle 21 = .ok (.sipush (-1003), 3) := by decide +kernel
theorem dL_ladle_24 : decode cL_ladle 24 = .ok (.ireturn, 1) := by decide +kernel
theorem dL_ladle_25 : decode cL_ladle 25 = .ok (.astore_n 3, 1) := by decide +kernel
theorem dL_ladle_26 : decode cL_ladle 26 = .ok (.sipush (-1002), 3) := by decide +kernel
theorem dL_ladle_29 : decode cL_ladle 29 = .ok (.ireturn, 1) := by decide +kernel
theorem dL_bounds_0 : decode cL_bounds 0 = .ok (.aload_n 0, 1) := by decide +kernel
theorem dL_bounds_1 : decode cL_bounds 1 = .ok (.iload_n 1, 1) := by decide +kernel
theorem dL_bounds_2 : decode cL_bounds 2 = .ok (.iload_n 2, 1) := by decide +kernel
theorem dL_bounds_3 : decode cL_bounds 3 = .ok (.iload_n 3, 1) := by decide +kernel
theorem dL_bounds_4 : decode cL_bounds 4 = .ok (.invokevirtual 30, 3) := by decide +kernel
theorem dL_bounds_7 : decode cL_bounds 7 = .ok (.ireturn, 1) := by decide +kernel
theorem dL_bounds_8 : decode cL_bounds 8 = .ok (.astore 4, 2) := by decide +kernel
theorem dL_bounds_10 : decode cL_bounds 10 = .ok (.sipush (-1001), 3) := by decide +kernel
theorem dL_bounds_13 : decode cL_bounds 13 = .ok (.ireturn, 1) := by decide +kernel
theorem dL_bounds_14 : decode cL_bounds 14 = .ok (.astore 4, 2) := by decide +kernel
theorem dL_bounds_16 : decode cL_bounds 16 = .ok (.sipush (-1003), 3) := by decide +kernel
theorem dL_bounds_19 : decode cL_bounds 19 = .ok (.ireturn, 1) := by decide +kernel
theorem dL_bounds_20 : decode cL_bounds 20 = .ok (.astore 4, 2) := by decide +kernel
theorem dL_bounds_22 : decode cL_bounds 22 = .ok (.sipush (-1002), 3) := by decide +kernel
theorem dL_bounds_25 : decode cL_bounds 25 = .ok (.ireturn, 1) := by decide +kernel
theorem dL_writes_0 : decode cL_writes 0 = .ok (.aload_n 0, 1) := by decide +kernel
theorem dL_writes_1 : decode cL_writes 1 = .ok (.invokevirtual 34, 3) := by decide +kernel
theorem dL_writes_4 : decode cL_writes 4 = .ok (.ireturn, 1) := by decide +kernel
theorem dL_writes_5 : decode cL_writes 5 = .ok (.astore_n 1, 1) := by decide +kernel
theorem dL_writes_6 : decode cL_writes 6 = .ok (.iconst (-1), 1) := by decide +kernel
theorem dL_writes_7 : decode cL_writes 7 = .ok (.ireturn, 1) := by decide +kernel
theorem dL_writes_8 : decode cL_writes 8 = .ok (.astore_n 1, 1) := by decide +kernel
theorem dL_writes_9 : decode cL_writes 9 = .ok (.bipush (-2), 2) := by decide +kernel
theorem dL_writes_11 : decode cL_writes 11 = .ok (.ireturn, 1) := by decide +kernel
theorem dL_erase_0 : decode cL_erase 0 = .ok (.aload_n 0, 1) := by decide +kernel
theorem dL_erase_1 : decode cL_erase 1 = .ok (.iload_n 1, 1) := by decide +kernel
theorem dL_erase_2 : decode cL_erase 2 = .ok (.invokevirtual 37, 3) := by decide +kernel
theorem dL_erase_5 : decode cL_erase 5 = .ok (.ireturn, 1) := by decide +kernel
theorem dL_erase_6 : decode cL_erase 6 = .ok (.astore_n 2, 1) := by decide +kernel
theorem dL_erase_7 : decode cL_erase 7 = .ok (.iconst (-1), 1) := by decide +kernel
theorem dL_erase_8 : decode cL_erase 8 = .ok (.ireturn, 1) := by decide +kernel
theorem dL_cook_0 : decode cL_cook 0 = .ok (.aload_n 0, 1) := by decide +kernel
theorem dL_cook_1 : decode cL_cook 1 = .ok (.iload_n 1, 1) := by decide +kernel
theorem dL_cook_2 : decode cL_cook 2 = .ok (.invokevirtual 41, 3) := by decide +kernel
theorem dL_cook_5 : decode cL_cook 5 = .ok (.ireturn, 1) := by decide +kernel
theorem dL_cook_6 : decode cL_cook 6 = .ok (.astore_n 2, 1) := by decide +kernel
theorem dL_cook_7 : decode cL_cook 7 = .ok (.iconst (-1), 1) := by decide +kernel
theorem dL_cook_8 : decode cL_cook 8 = .ok (.ireturn, 1) := by decide +kernel
theorem dL_cook_9 : decode cL_cook 9 = .ok (.astore_n 2, 1) := by decide +kernel
theorem dL_cook_10 : decode cL_cook 10 = .ok (.bipush (-2), 2) := by decide +kernel
theorem dL_cook_12 : decode cL_cook 12 = .ok (.ireturn, 1) := by decide +kernel
theorem dL_cookAll_0 : decode cL_cookAll 0 = .ok (.aload_n 0, 1) := by decide +kernel
theorem dL_cookAll_1 : decode cL_cookAll 1 = .ok (.invokevirtual 44, 3) := by decide +kernel
theorem dL_cookAll_4 : decode cL_cookAll 4 = .ok (.ireturn, 1) := by decide +kernel
theorem dL_cookAll_5 : decode cL_cookAll 5 = .ok (.astore_n 1, 1) := by decide +kernel
theorem dL_cookAll_6 : decode cL_cookAll 6 = .ok (.bipush (-2), 2) := by decide +kernel
theorem dL_cookAll_8 : decode cL_cookAll 8 = .ok (.ireturn, 1) := by decide +kernel
theorem dL_of_0 : decode cL_of 0 = .ok (.aload_n 0, 1) := by decide +kernel
theorem dL_of_1 : decode cL_of 1 = .ok (.iload_n 1, 1) := by decide +kernel
theorem dL_of_2 : decode cL_of 2 = .ok (.iload_n 2, 1) := by decide +kernel
theorem dL_of_3 : decode cL_of 3 = .ok (.invokevirtual 47, 3) := by decide +kernel
theorem dL_of_6 : decode cL_of 6 = .ok (.ireturn, 1) := by decide +kernel
theorem dL_of_7 : decode cL_of 7 = .ok (.astore_n 3, 1) := by decide +kernel
theorem dL_of_8 : decode cL_of 8 = .ok (.sipush (-1001), 3) := by decide +kernel
theorem dL_of_11 : decode cL_of 11 = .ok (.ireturn, 1) := by decide +kernel
theorem dL_of_12 : decode cL_of 12 = .ok (.astore_n 3, 1) := by decide +kernel
theorem dL_of_13 : decode cL_of 13 = .ok (.sipush (-1003), 3) := by decide +kernel
theorem dL_of_16 : decode cL_of 16 = .ok (.ireturn, 1) := by decide +kernel
theorem dL_spellOf_0 : decode cL_spellOf 0 = .ok (.aload_n 0, 1) := by decide +kernel
theorem dL_spellOf_1 : decode cL_spellOf 1 = .ok (.iload_n 1, 1) := by decide +kernel
theorem dL_spellOf_2 : decode cL_spellOf 2 = .ok (.iload_n 2, 1) := by decide +kernel
theorem dL_spellOf_3 : decode cL_spellOf 3 = .ok (.invokevirtual 59, 3) := by decide +kernel
theorem dL_spellOf_6 : decode cL_spellOf 6 = .ok (.ireturn, 1) := by decide +kernel
theorem dL_spellOf_7 : decode cL_spellOf 7 = .ok (.astore_n 3, 1) := by decide +kernel
theorem dL_spellOf_8 : decode cL_spellOf 8 = .ok (.bipush (-11), 2) := by decide +kernel
theorem dL_spellOf_10 : decode cL_spellOf 10 = .ok (.ireturn, 1) := by decide +kernel
theorem dL_spellOf_11 : decode cL_spellOf 11 = .ok (.astore_n 3, 1) := by decide +kernel
theorem dL_spellOf_12 : decode cL_spellOf 12 = .ok (.bipush (-12), 2) := by decide +kernel
theorem dL_spellOf_14 : decode cL_spellOf 14 = .ok (.ireturn, 1) := by decide +kernel
theorem dL_token_0 : decode cL_token 0 = .ok (.aload_n 0, 1) := by decide +kernel
theorem dL_token_1 : decode cL_token 1 = .ok (.iload_n 1, 1) := by decide +kernel
theorem dL_token_2 : decode cL_token 2 = .ok (.iload_n 2, 1) := by decide +kernel
theorem dL_token_3 : decode cL_token 3 = .ok (.invokevirtual 62, 3) := by decide +kernel
theorem dL_token_6 : decode cL_token 6 = .ok (.ireturn, 1) := by decide +kernel
theorem dL_token_7 : decode cL_token 7 = .ok (.astore_n 3, 1) := by decide +kernel
theorem dL_token_8 : decode cL_token 8 = .ok (.bipush (-11), 2) := by decide +kernel
theorem dL_token_10 : decode cL_token 10 = .ok (.ireturn, 1) := by decide +kernel
theorem dL_token_11 : decode cL_token 11 = .ok (.astore_n 3, 1) := by decide +kernel
theorem dL_token_12 : decode cL_token 12 = .ok (.bipush (-14), 2) := by decide +kernel
theorem dL_token_14 : decode cL_token 14 = .ok (.ireturn, 1) := by decide +kernel
theorem dL_types_0 : decode cL_types 0 = .ok (.aload_n 0, 1) := by decide +kernel
theorem dL_types_1 : decode cL_types 1 = .ok (.iload_n 1, 1) := by decide +kernel
theorem dL_types_2 : decode cL_types 2 = .ok (.invokevirtual 66, 3) := by decide +kernel
theorem dL_types_5 : decode cL_types 5 = .ok (.ifCond .eq 7, 3) := by decide +kernel
theorem dL_types_8 : decode cL_types 8 = .ok (.iconst 1, 1) := by decide +kernel
theorem dL_types_9 : decode cL_types 9 = .ok (.goto 4, 3) := by decide +kernel
theorem dL_types_12 : decode cL_types 12 = .ok (.iconst 0, 1) := by decide +kernel
theorem dL_types_13 : decode cL_types 13 = .ok (.ireturn, 1) := by decide +kernel
theorem dL_types_14 : decode cL_types 14 = .ok (.astore_n 2, 1) := by decide +kernel
theorem dL_types_15 : decode cL_types 15 = .ok (.bipush (-11), 2) := by decide +kernel
theorem dL_types_17 : decode cL_types 17 = .ok (.ireturn, 1) := by decide +kernel
theorem dL_typesAgain_0 : decode cL_typesAgain 0 = .ok (.aload_n 0, 1) := by decide +kernel
theorem dL_typesAgain_1 : decode cL_typesAgain 1 = .ok (.iload_n 1, 1) := by decide +kernel
theorem dL_typesAgain_2 : decode cL_typesAgain 2 = .ok (.invokevirtual 70, 3) := by decide +kernel
theorem dL_typesAgain_5 : decode cL_typesAgain 5 = .ok (.ifCond .eq 7, 3) := by decide +kernel
theorem dL_typesAgain_8 : decode cL_typesAgain 8 = .ok (.iconst 1, 1) := by decide +kernel
theorem dL_typesAgain_9 : decode cL_typesAgain 9 = .ok (.goto 4, 3) := by decide +kernel
theorem dL_typesAgain_12 : decode cL_typesAgain 12 = .ok (.iconst 0, 1) := by decide +kernel
theorem dL_typesAgain_13 : decode cL_typesAgain 13 = .ok (.ireturn, 1) := by decide +kernel
theorem dL_typesAgain_14 : decode cL_typesAgain 14 = .ok (.astore_n 2, 1) := by decide +kernel
theorem dL_typesAgain_15 : decode cL_typesAgain 15 = .ok (.bipush (-11), 2) := by decide +kernel
theorem dL_typesAgain_17 : decode cL_typesAgain 17 = .ok (.ireturn, 1) := by decide +kernel
theorem dL_fault_0 : decode cL_fault 0 = .ok (.aload_n 0, 1) := by decide +kernel
theorem dL_fault_1 : decode cL_fault 1 = .ok (.iload_n 1, 1) := by decide +kernel
theorem dL_fault_2 : decode cL_fault 2 = .ok (.invokevirtual 73, 3) := by decide +kernel
theorem dL_fault_5 : decode cL_fault 5 = .ok (.ireturn, 1) := by decide +kernel
theorem dL_fault_6 : decode cL_fault 6 = .ok (.astore_n 2, 1) := by decide +kernel
theorem dL_fault_7 : decode cL_fault 7 = .ok (.bipush (-11), 2) := by decide +kernel
theorem dL_fault_9 : decode cL_fault 9 = .ok (.ireturn, 1) := by decide +kernel
theorem dL_fault_10 : decode cL_fault 10 = .ok (.astore_n 2, 1) := by decide +kernel
theorem dL_fault_11 : decode cL_fault 11 = .ok (.bipush (-14), 2) := by decide +kernel
theorem dL_fault_13 : decode cL_fault 13 = .ok (.ireturn, 1) := by decide +kernel
theorem dL_bound_0 : decode cL_bound 0 = .ok (.aload_n 0, 1) := by decide +kernel
theorem dL_bound_1 : decode cL_bound 1 = .ok (.iload_n 1, 1) := by decide +kernel
theorem dL_bound_2 : decode cL_bound 2 = .ok (.iload_n 2, 1) := by decide +kernel
theorem dL_bound_3 : decode cL_bound 3 = .ok (.iload_n 3, 1) := by decide +kernel
theorem dL_bound_4 : decode cL_bound 4 = .ok (.invokevirtual 76, 3) := by decide +kernel
theorem dL_bound_7 : decode cL_bound 7 = .ok (.ireturn, 1) := by decide +kernel
theorem dL_bound_8 : decode cL_bound 8 = .ok (.astore 4, 2) := by decide +kernel
theorem dL_bound_10 : decode cL_bound 10 = .ok (.sipush (-1001), 3) := by decide +kernel
theorem dL_bound_13 : decode cL_bound 13 = .ok (.ireturn, 1) := by decide +kernel
theorem dL_bound_14 : decode cL_bound 14 = .ok (.astore 4, 2) := by decide +kernel
theorem dL_bound_16 : decode cL_bound 16 = .ok (.sipush (-1004), 3) := by decide +kernel
theorem dL_bound_19 : decode cL_bound 19 = .ok (.ireturn, 1) := by decide +kernel
theorem dL_would_0 : decode cL_would 0 = .ok (.aload_n 0, 1) := by decide +kernel
theorem dL_would_1 : decode cL_would 1 = .ok (.iload_n 1, 1) := by decide +kernel
theorem dL_would_2 : decode cL_would 2 = .ok (.iload_n 2, 1) := by decide +kernel
theorem dL_would_3 : decode cL_would 3 = .ok (.invokevirtual 80, 3) := by decide +kernel
theorem dL_would_6 : decode cL_would 6 = .ok (.ireturn, 1) := by decide +kernel
theorem dL_would_7 : decode cL_would 7 = .ok (.astore_n 3, 1) := by decide +kernel
theorem dL_would_8 : decode cL_would 8 = .ok (.ldc 83, 2) := by decide +kernel
theorem dL_would_10 : decode cL_would 10 = .ok (.ireturn, 1) := by decide +kernel
theorem dL_would_11 : decode cL_would 11 = .ok (.astore_n 3, 1) := by decide +kernel
theorem dL_would_12 : decode cL_would 12 = .ok (.ldc 84, 2) := by decide +kernel
theorem dL_would_14 : decode cL_would 14 = .ok (.ireturn, 1) := by decide +kernel
theorem dL_wouldAgain_0 : decode cL_wouldAgain 0 = .ok (.aload_n 0, 1) := by decide +kernel
theorem dL_wouldAgain_1 : decode cL_wouldAgain 1 = .ok (.iload_n 1, 1) := by decide +kernel
theorem dL_wouldAgain_2 : decode cL_wouldAgain 2 = .ok (.iload_n 2, 1) := by decide +kernel
theorem dL_wouldAgain_3 : decode cL_wouldAgain 3 = .ok (.invokevirtual 85, 3) := by decide +kernel
theorem dL_wouldAgain_6 : decode cL_wouldAgain 6 = .ok (.ireturn, 1) := by decide +kernel
theorem dL_wouldAgain_7 : decode cL_wouldAgain 7 = .ok (.astore_n 3, 1) := by decide +kernel
theorem dL_wouldAgain_8 : decode cL_wouldAgain 8 = .ok (.ldc 83, 2) := by decide +kernel
theorem dL_wouldAgain_10 : decode cL_wouldAgain 10 = .ok (.ireturn, 1) := by decide +kernel
theorem dL_wouldAgain_11 : decode cL_wouldAgain 11 = .ok (.astore_n 3, 1) := by decide +kernel
theorem dL_wouldAgain_12 : decode cL_wouldAgain 12 = .ok (.ldc 84, 2) := by decide +kernel
theorem dL_wouldAgain_14 : decode cL_wouldAgain 14 = .ok (.ireturn, 1) := by decide +kernel
theorem dL_boils_0 : decode cL_boils 0 = .ok (.aload_n 0, 1) := by decide +kernel
theorem dL_boils_1 : decode cL_boils 1 = .ok (.iload_n 1, 1) := by decide +kernel
theorem dL_boils_2 : decode cL_boils 2 = .ok (.invokevirtual 88, 3) := by decide +kernel
theorem dL_boils_5 : decode cL_boils 5 = .ok (.ireturn, 1) := by decide +kernel
theorem dL_boils_6 : decode cL_boils 6 = .ok (.astore_n 2, 1) := by decide +kernel
theorem dL_boils_7 : decode cL_boils 7 = .ok (.bipush (-11), 2) := by decide +kernel
theorem dL_boils_9 : decode cL_boils 9 = .ok (.ireturn, 1) := by decide +kernel
theorem dL_boils_10 : decode cL_boils 10 = .ok (.astore_n 2, 1) := by decide +kernel
theorem dL_boils_11 : decode cL_boils 11 = .ok (.bipush (-14), 2) := by decide +kernel
theorem dL_boils_13 : decode cL_boils 13 = .ok (.ireturn, 1) := by decide +kernel
theorem dL_lasts_0 : decode cL_lasts 0 = .ok (.aload_n 0, 1) := by decide +kernel
theorem dL_lasts_1 : decode cL_lasts 1 = .ok (.iload_n 1, 1) := by decide +kernel
theorem dL_lasts_2 : decode cL_lasts 2 = .ok (.invokevirtual 91, 3) := by decide +kernel
theorem dL_lasts_5 : decode cL_lasts 5 = .ok (.ireturn, 1) := by decide +kernel
theorem dL_lasts_6 : decode cL_lasts 6 = .ok (.astore_n 2, 1) := by decide +kernel
theorem dL_lasts_7 : decode cL_lasts 7 = .ok (.bipush (-11), 2) := by decide +kernel
theorem dL_lasts_9 : decode cL_lasts 9 = .ok (.ireturn, 1) := by decide +kernel
theorem dL_ranked_0 : decode cL_ranked 0 = .ok (.aload_n 0, 1) := by decide +kernel
theorem dL_ranked_1 : decode cL_ranked 1 = .ok (.iload_n 1, 1) := by decide +kernel
theorem dL_ranked_2 : decode cL_ranked 2 = .ok (.invokevirtual 94, 3) := by decide +kernel
theorem dL_ranked_5 : decode cL_ranked 5 = .ok (.ireturn, 1) := by decide +kernel
theorem dL_ranked_6 : decode cL_ranked 6 = .ok (.astore_n 2, 1) := by decide +kernel
theorem dL_ranked_7 : decode cL_ranked 7 = .ok (.bipush (-14), 2) := by decide +kernel
theorem dL_ranked_9 : decode cL_ranked 9 = .ok (.ireturn, 1) := by decide +kernel
theorem dL_widest_0 : decode cL_widest 0 = .ok (.aload_n 0, 1) := by decide +kernel
theorem dL_widest_1 : decode cL_widest 1 = .ok (.invokevirtual 97, 3) := by decide +kernel
theorem dL_widest_4 : decode cL_widest 4 = .ok (.ireturn, 1) := by decide +kernel
theorem dL_widest_5 : decode cL_widest 5 = .ok (.astore_n 1, 1) := by decide +kernel
theorem dL_widest_6 : decode cL_widest 6 = .ok (.bipush (-14), 2) := by decide +kernel
theorem dL_widest_8 : decode cL_widest 8 = .ok (.ireturn, 1) := by decide +kernel
theorem dL_tell_0 : decode cL_tell 0 = .ok (.aload_n 0, 1) := by decide +kernel
theorem dL_tell_1 : decode cL_tell 1 = .ok (.iload_n 1, 1) := by decide +kernel
theorem dL_tell_2 : decode cL_tell 2 = .ok (.invokevirtual 100, 3) := by decide +kernel
theorem dL_tell_5 : decode cL_tell 5 = .ok (.ireturn, 1) := by decide +kernel
theorem dL_tell_6 : decode cL_tell 6 = .ok (.astore_n 2, 1) := by decide +kernel
theorem dL_tell_7 : decode cL_tell 7 = .ok (.bipush (-11), 2) := by decide +kernel
theorem dL_tell_9 : decode cL_tell 9 = .ok (.ireturn, 1) := by decide +kernel
theorem dL_tellCauldron_0 : decode cL_tellCauldron 0 = .ok (.aload_n 0, 1) := by decide +kernel
theorem dL_tellCauldron_1 : decode cL_tellCauldron 1 = .ok (.iload_n 1, 1) := by decide +kernel
theorem dL_tellCauldron_2 : decode cL_tellCauldron 2 = .ok (.invokevirtual 103, 3) := by decide +kernel
theorem dL_tellCauldron_5 : decode cL_tellCauldron 5 = .ok (.ireturn, 1) := by decide +kernel
theorem dL_tellCauldron_6 : decode cL_tellCauldron 6 = .ok (.astore_n 2, 1) := by decide +kernel
theorem dL_tellCauldron_7 : decode cL_tellCauldron 7 = .ok (.bipush (-11), 2) := by decide +kernel
theorem dL_tellCauldron_9 : decode cL_tellCauldron 9 = .ok (.ireturn, 1) := by decide +kernel
theorem dL_character_0 : decode cL_character 0 = .ok (.aload_n 0, 1) := by decide +kernel
theorem dL_character_1 : decode cL_character 1 = .ok (.iload_n 1, 1) := by decide +kernel
theorem dL_character_2 : decode cL_character 2 = .ok (.invokevirtual 106, 3) := by decide +kernel
theorem dL_character_5 : decode cL_character 5 = .ok (.ireturn, 1) := by decide +kernel
theorem dL_character_6 : decode cL_character 6 = .ok (.astore_n 2, 1) := by decide +kernel
theorem dL_character_7 : decode cL_character 7 = .ok (.bipush (-14), 2) := by decide +kernel
theorem dL_character_9 : decode cL_character 9 = .ok (.ireturn, 1) := by decide +kernel
theorem dL_append_0 : decode cL_append 0 = .ok (.aload_n 0, 1) := by decide +kernel
theorem dL_append_1 : decode cL_append 1 = .ok (.iload_n 1, 1) := by decide +kernel
theorem dL_append_2 : decode cL_append 2 = .ok (.invokevirtual 110, 3) := by decide +kernel
theorem dL_append_5 : decode cL_append 5 = .ok (.ireturn, 1) := by decide +kernel
theorem dL_append_6 : decode cL_append 6 = .ok (.astore_n 2, 1) := by decide +kernel
theorem dL_append_7 : decode cL_append 7 = .ok (.bipush (-12), 2) := by decide +kernel
theorem dL_append_9 : decode cL_append 9 = .ok (.ireturn, 1) := by decide +kernel
theorem dL_append_10 : decode cL_append 10 = .ok (.astore_n 2, 1) := by decide +kernel
theorem dL_append_11 : decode cL_append 11 = .ok (.bipush (-13), 2) := by decide +kernel
theorem dL_append_13 : decode cL_append 13 = .ok (.ireturn, 1) := by decide +kernel
theorem dL_reason_0 : decode cL_reason 0 = .ok (.aload_n 0, 1) := by decide +kernel
theorem dL_reason_1 : decode cL_reason 1 = .ok (.iload_n 1, 1) := by decide +kernel
theorem dL_reason_2 : decode cL_reason 2 = .ok (.iload_n 2, 1) := by decide +kernel
theorem dL_reason_3 : decode cL_reason 3 = .ok (.invokevirtual 119, 3) := by decide +kernel
theorem dL_reason_6 : decode cL_reason 6 = .ok (.ireturn, 1) := by decide +kernel
theorem dL_reason_7 : decode cL_reason 7 = .ok (.astore_n 3, 1) := by decide +kernel
theorem dL_reason_8 : decode cL_reason 8 = .ok (.ldc 123, 2) := by decide +kernel
theorem dL_reason_10 : decode cL_reason 10 = .ok (.ireturn, 1) := by decide +kernel
theorem dL_undo_0 : decode cL_undo 0 = .ok (.aload_n 0, 1) := by decide +kernel
theorem dL_undo_1 : decode cL_undo 1 = .ok (.invokevirtual 124, 3) := by decide +kernel
theorem dL_undo_4 : decode cL_undo 4 = .ok (.ireturn, 1) := by decide +kernel
theorem dL_undo_5 : decode cL_undo 5 = .ok (.astore_n 1, 1) := by decide +kernel
theorem dL_undo_6 : decode cL_undo 6 = .ok (.bipush (-14), 2) := by decide +kernel
theorem dL_undo_8 : decode cL_undo 8 = .ok (.ireturn, 1) := by decide +kernel
theorem dL_write_0 : decode cL_write 0 = .ok (.iconst 0, 1) := by decide +kernel
theorem dL_write_1 : decode cL_write 1 = .ok (.istore_n 2, 1) := by decide +kernel
theorem dL_write_2 : decode cL_write 2 = .ok (.iload_n 2, 1) := by decide +kernel
theorem dL_write_3 : decode cL_write 3 = .ok (.aload_n 1, 1) := by decide +kernel
theorem dL_write_4 : decode cL_write 4 = .ok (.invokevirtual 127, 3) := by decide +kernel
theorem dL_write_7 : decode cL_write 7 = .ok (.if_icmp .ge 27, 3) := by decide +kernel
theorem dL_write_10 : decode cL_write 10 = .ok (.aload_n 0, 1) := by decide +kernel
theorem dL_write_11 : decode cL_write 11 = .ok (.aload_n 1, 1) := by decide +kernel
theorem dL_write_12 : decode cL_write 12 = .ok (.iload_n 2, 1) := by decide +kernel
theorem dL_write_13 : decode cL_write 13 = .ok (.invokevirtual 132, 3) := by decide +kernel
theorem dL_write_16 : decode cL_write 16 = .ok (.invokestatic 135, 3) := by decide +kernel
theorem dL_write_19 : decode cL_write 19 = .ok (.iload_n 2, 1) := by decide +kernel
theorem dL_write_20 : decode cL_write 20 = .ok (.iconst 1, 1) := by decide +kernel
theorem dL_write_21 : decode cL_write 21 = .ok (.iadd, 1) := by decide +kernel
theorem dL_write_22 : decode cL_write 22 = .ok (.if_icmp .eq 6, 3) := by decide +kernel
theorem dL_write_25 : decode cL_write 25 = .ok (.bipush (-9), 2) := by decide +kernel
theorem dL_write_27 : decode cL_write 27 = .ok (.ireturn, 1) := by decide +kernel
theorem dL_write_28 : decode cL_write 28 = .ok (.iinc 2 1, 3) := by decide +kernel
theorem dL_write_31 : decode cL_write 31 = .ok (.goto (-29), 3) := by decide +kernel
theorem dL_write_34 : decode cL_write 34 = .ok (.aload_n 0, 1) := by decide +kernel
theorem dL_write_35 : decode cL_write 35 = .ok (.invokestatic 140, 3) := by decide +kernel
theorem dL_write_38 : decode cL_write 38 = .ok (.ireturn, 1) := by decide +kernel
theorem dL_store_0 : decode cL_store 0 = .ok (.iload_n 0, 1) := by decide +kernel
theorem dL_store_1 : decode cL_store 1 = .ok (.iconst 3, 1) := by decide +kernel
theorem dL_store_2 : decode cL_store 2 = .ok (.irem, 1) := by decide +kernel
theorem dL_store_3 : decode cL_store 3 = .ok (.ifCond .ne 30, 3) := by decide +kernel
theorem dL_store_6 : decode cL_store 6 = .ok (.new 144, 3) := by decide +kernel
theorem dL_store_9 : decode cL_store 9 = .ok (.dup, 1) := by decide +kernel
theorem dL_store_10 : decode cL_store 10 = .ok (.invokespecial 146, 3) := by decide +kernel
theorem dL_store_13 : decode cL_store 13 = .ok (.ldc 147, 2) := by decide +kernel
theorem dL_store_15 : decode cL_store 15 = .ok (.invokevirtual 149, 3) := by decide +kernel
theorem dL_store_18 : decode cL_store 18 = .ok (.iload_n 0, 1) := by decide +kernel
theorem dL_store_19 : decode cL_store 19 = .ok (.iconst 2, 1) := by decide +kernel
theorem dL_store_20 : decode cL_store 20 = .ok (.iushr, 1) := by decide +kernel
theorem dL_store_21 : decode cL_store 21 = .ok (.bipush 12, 2) := by decide +kernel
theorem dL_store_23 : decode cL_store 23 = .ok (.irem, 1) := by decide +kernel
theorem dL_store_24 : decode cL_store 24 = .ok (.invokevirtual 152, 3) := by decide +kernel
theorem dL_store_27 : decode cL_store 27 = .ok (.invokevirtual 155, 3) := by decide +kernel
theorem dL_store_30 : decode cL_store 30 = .ok (.goto 30, 3) := by decide +kernel
theorem dL_store_33 : decode cL_store 33 = .ok (.new 144, 3) := by decide +kernel
theorem dL_store_36 : decode cL_store 36 = .ok (.dup, 1) := by decide +kernel
theorem dL_store_37 : decode cL_store 37 = .ok (.invokespecial 146, 3) := by decide +kernel
theorem dL_store_40 : decode cL_store 40 = .ok (.ldc 147, 2) := by decide +kernel
theorem dL_store_42 : decode cL_store 42 = .ok (.invokevirtual 149, 3) := by decide +kernel
theorem dL_store_45 : decode cL_store 45 = .ok (.bipush 97, 2) := by decide +kernel
theorem dL_store_47 : decode cL_store 47 = .ok (.iload_n 0, 1) := by decide +kernel
theorem dL_store_48 : decode cL_store 48 = .ok (.iconst 2, 1) := by decide +kernel
theorem dL_store_49 : decode cL_store 49 = .ok (.iushr, 1) := by decide +kernel
theorem dL_store_50 : decode cL_store 50 = .ok (.iload_n 1, 1) := by decide +kernel
theorem dL_store_51 : decode cL_store 51 = .ok (.irem, 1) := by decide +kernel
theorem dL_store_52 : decode cL_store 52 = .ok (.iadd, 1) := by decide +kernel
theorem dL_store_53 : decode cL_store 53 = .ok (.i2c, 1) := by decide +kernel
theorem dL_store_54 : decode cL_store 54 = .ok (.invokevirtual 159, 3) := by decide +kernel
theorem dL_store_57 : decode cL_store 57 = .ok (.invokevirtual 155, 3) := by decide +kernel
theorem dL_store_60 : decode cL_store 60 = .ok (.astore_n 2, 1) := by decide +kernel
theorem dL_store_61 : decode cL_store 61 = .ok (.iload_n 0, 1) := by decide +kernel
theorem dL_store_62 : decode cL_store 62 = .ok (.iconst 3, 1) := by decide +kernel
theorem dL_store_63 : decode cL_store 63 = .ok (.irem, 1) := by decide +kernel
theorem dL_store_64 : decode cL_store 64 = .ok (.ifCond .le 40, 3) := by decide +kernel
theorem dL_store_67 : decode cL_store 67 = .ok (.iload_n 0, 1) := by decide +kernel
theorem dL_store_68 : decode cL_store 68 = .ok (.bipush 6, 2) := by decide +kernel
theorem dL_store_70 : decode cL_store 70 = .ok (.iushr, 1) := by decide +kernel
theorem dL_store_71 : decode cL_store 71 = .ok (.iconst 4, 1) := by decide +kernel
theorem dL_store_72 : decode cL_store 72 = .ok (.irem, 1) := by decide +kernel
theorem dL_store_73 : decode cL_store 73 = .ok (.ifCond .ne 31, 3) := by decide +kernel
theorem dL_store_76 : decode cL_store 76 = .ok (.new 144, 3) := by decide +kernel
theorem dL_store_79 : decode cL_store 79 = .ok (.dup, 1) := by decide +kernel
theorem dL_store_80 : decode cL_store 80 = .ok (.invokespecial 146, 3) := by decide +kernel
theorem dL_store_83 : decode cL_store 83 = .ok (.ldc 147, 2) := by decide +kernel
theorem dL_store_85 : decode cL_store 85 = .ok (.invokevirtual 149, 3) := by decide +kernel
theorem dL_store_88 : decode cL_store 88 = .ok (.iload_n 0, 1) := by decide +kernel
theorem dL_store_89 : decode cL_store 89 = .ok (.bipush 8, 2) := by decide +kernel
theorem dL_store_91 : decode cL_store 91 = .ok (.iushr, 1) := by decide +kernel
theorem dL_store_92 : decode cL_store 92 = .ok (.bipush 9, 2) := by decide +kernel
theorem dL_store_94 : decode cL_store 94 = .ok (.irem, 1) := by decide +kernel
theorem dL_store_95 : decode cL_store 95 = .ok (.invokevirtual 152, 3) := by decide +kernel
theorem dL_store_98 : decode cL_store 98 = .ok (.invokevirtual 155, 3) := by decide +kernel
theorem dL_store_101 : decode cL_store 101 = .ok (.goto 31, 3) := by decide +kernel
theorem dL_store_104 : decode cL_store 104 = .ok (.new 144, 3) := by decide +kernel
theorem dL_store_107 : decode cL_store 107 = .ok (.dup, 1) := by decide +kernel
theorem dL_store_108 : decode cL_store 108 = .ok (.invokespecial 146, 3) := by decide +kernel
theorem dL_store_111 : decode cL_store 111 = .ok (.ldc 147, 2) := by decide +kernel
theorem dL_store_113 : decode cL_store 113 = .ok (.invokevirtual 149, 3) := by decide +kernel
theorem dL_store_116 : decode cL_store 116 = .ok (.bipush 97, 2) := by decide +kernel
theorem dL_store_118 : decode cL_store 118 = .ok (.iload_n 0, 1) := by decide +kernel
theorem dL_store_119 : decode cL_store 119 = .ok (.bipush 8, 2) := by decide +kernel
theorem dL_store_121 : decode cL_store 121 = .ok (.iushr, 1) := by decide +kernel
theorem dL_store_122 : decode cL_store 122 = .ok (.iload_n 1, 1) := by decide +kernel
theorem dL_store_123 : decode cL_store 123 = .ok (.irem, 1) := by decide +kernel
theorem dL_store_124 : decode cL_store 124 = .ok (.iadd, 1) := by decide +kernel
theorem dL_store_125 : decode cL_store 125 = .ok (.i2c, 1) := by decide +kernel
theorem dL_store_126 : decode cL_store 126 = .ok (.invokevirtual 159, 3) := by decide +kernel
theorem dL_store_129 : decode cL_store 129 = .ok (.invokevirtual 155, 3) := by decide +kernel
theorem dL_store_132 : decode cL_store 132 = .ok (.astore_n 3, 1) := by decide +kernel
theorem dL_store_133 : decode cL_store 133 = .ok (.new 144, 3) := by decide +kernel
theorem dL_store_136 : decode cL_store 136 = .ok (.dup, 1) := by decide +kernel
theorem dL_store_137 : decode cL_store 137 = .ok (.invokespecial 146, 3) := by decide +kernel
theorem dL_store_140 : decode cL_store 140 = .ok (.ldc 162, 2) := by decide +kernel
theorem dL_store_142 : decode cL_store 142 = .ok (.invokevirtual 149, 3) := by decide +kernel
theorem dL_store_145 : decode cL_store 145 = .ok (.bipush 97, 2) := by decide +kernel
theorem dL_store_147 : decode cL_store 147 = .ok (.iload_n 0, 1) := by decide +kernel
theorem dL_store_148 : decode cL_store 148 = .ok (.bipush 12, 2) := by decide +kernel
theorem dL_store_150 : decode cL_store 150 = .ok (.iushr, 1) := by decide +kernel
theorem dL_store_151 : decode cL_store 151 = .ok (.iload_n 1, 1) := by decide +kernel
theorem dL_store_152 : decode cL_store 152 = .ok (.irem, 1) := by decide +kernel
theorem dL_store_153 : decode cL_store 153 = .ok (.iadd, 1) := by decide +kernel
theorem dL_store_154 : decode cL_store 154 = .ok (.i2c, 1) := by decide +kernel
theorem dL_store_155 : decode cL_store 155 = .ok (.invokevirtual 159, 3) := by decide +kernel
theorem dL_store_158 : decode cL_store 158 = .ok (.invokevirtual 155, 3) := by decide +kernel
theorem dL_store_161 : decode cL_store 161 = .ok (.astore 4, 2) := by decide +kernel
theorem dL_store_163 : decode cL_store 163 = .ok (.iload_n 0, 1) := by decide +kernel
theorem dL_store_164 : decode cL_store 164 = .ok (.bipush 15, 2) := by decide +kernel
theorem dL_store_166 : decode cL_store 166 = .ok (.iushr, 1) := by decide +kernel
theorem dL_store_167 : decode cL_store 167 = .ok (.bipush 7, 2) := by decide +kernel
theorem dL_store_169 : decode cL_store 169 = .ok (.irem, 1) := by decide +kernel
theorem dL_store_170 : decode cL_store 170 = .ok (.tableswitch 204 0 5 #[38, 67, 96, 125, 150, 175], 38) := by decide +kernel
theorem dL_store_208 : decode cL_store 208 = .ok (.new 144, 3) := by decide +kernel
theorem dL_store_211 : decode cL_store 211 = .ok (.dup, 1) := by decide +kernel
theorem dL_store_212 : decode cL_store 212 = .ok (.invokespecial 146, 3) := by decide +kernel
theorem dL_store_215 : decode cL_store 215 = .ok (.aload_n 2, 1) := by decide +kernel
theorem dL_store_216 : decode cL_store 216 = .ok (.invokevirtual 149, 3) := by decide +kernel
theorem dL_store_219 : decode cL_store 219 = .ok (.aload_n 3, 1) := by decide +kernel
theorem dL_store_220 : decode cL_store 220 = .ok (.invokevirtual 149, 3) := by decide +kernel
theorem dL_store_223 : decode cL_store 223 = .ok (.ldc 164, 2) := by decide +kernel
theorem dL_store_225 : decode cL_store 225 = .ok (.invokevirtual 149, 3) := by decide +kernel
theorem dL_store_228 : decode cL_store 228 = .ok (.aload 4, 2) := by decide +kernel
theorem dL_store_230 : decode cL_store 230 = .ok (.invokevirtual 149, 3) := by decide +kernel
theorem dL_store_233 : decode cL_store 233 = .ok (.invokevirtual 155, 3) := by decide +kernel
theorem dL_store_236 : decode cL_store 236 = .ok (.areturn, 1) := by decide +kernel
theorem dL_store_237 : decode cL_store 237 = .ok (.new 144, 3) := by decide +kernel
theorem dL_store_240 : decode cL_store 240 = .ok (.dup, 1) := by decide +kernel
theorem dL_store_241 : decode cL_store 241 = .ok (.invokespecial 146, 3) := by decide +kernel
theorem dL_store_244 : decode cL_store 244 = .ok (.aload_n 2, 1) := by decide +kernel
theorem dL_store_245 : decode cL_store 245 = .ok (.invokevirtual 149, 3) := by decide +kernel
theorem dL_store_248 : decode cL_store 248 = .ok (.aload_n 3, 1) := by decide +kernel
theorem dL_store_249 : decode cL_store 249 = .ok (.invokevirtual 149, 3) := by decide +kernel
theorem dL_store_252 : decode cL_store 252 = .ok (.ldc 166, 2) := by decide +kernel
theorem dL_store_254 : decode cL_store 254 = .ok (.invokevirtual 149, 3) := by decide +kernel
theorem dL_store_257 : decode cL_store 257 = .ok (.aload 4, 2) := by decide +kernel
theorem dL_store_259 : decode cL_store 259 = .ok (.invokevirtual 149, 3) := by decide +kernel
theorem dL_store_262 : decode cL_store 262 = .ok (.invokevirtual 155, 3) := by decide +kernel
theorem dL_store_265 : decode cL_store 265 = .ok (.areturn, 1) := by decide +kernel
theorem dL_store_266 : decode cL_store 266 = .ok (.new 144, 3) := by decide +kernel
theorem dL_store_269 : decode cL_store 269 = .ok (.dup, 1) := by decide +kernel
theorem dL_store_270 : decode cL_store 270 = .ok (.invokespecial 146, 3) := by decide +kernel
theorem dL_store_273 : decode cL_store 273 = .ok (.aload_n 2, 1) := by decide +kernel
theorem dL_store_274 : decode cL_store 274 = .ok (.invokevirtual 149, 3) := by decide +kernel
theorem dL_store_277 : decode cL_store 277 = .ok (.aload_n 3, 1) := by decide +kernel
theorem dL_store_278 : decode cL_store 278 = .ok (.invokevirtual 149, 3) := by decide +kernel
theorem dL_store_281 : decode cL_store 281 = .ok (.ldc 168, 2) := by decide +kernel
theorem dL_store_283 : decode cL_store 283 = .ok (.invokevirtual 149, 3) := by decide +kernel
theorem dL_store_286 : decode cL_store 286 = .ok (.aload 4, 2) := by decide +kernel
theorem dL_store_288 : decode cL_store 288 = .ok (.invokevirtual 149, 3) := by decide +kernel
theorem dL_store_291 : decode cL_store 291 = .ok (.invokevirtual 155, 3) := by decide +kernel
theorem dL_store_294 : decode cL_store 294 = .ok (.areturn, 1) := by decide +kernel
theorem dL_store_295 : decode cL_store 295 = .ok (.new 144, 3) := by decide +kernel
theorem dL_store_298 : decode cL_store 298 = .ok (.dup, 1) := by decide +kernel
theorem dL_store_299 : decode cL_store 299 = .ok (.invokespecial 146, 3) := by decide +kernel
theorem dL_store_302 : decode cL_store 302 = .ok (.aload_n 2, 1) := by decide +kernel
theorem dL_store_303 : decode cL_store 303 = .ok (.invokevirtual 149, 3) := by decide +kernel
theorem dL_store_306 : decode cL_store 306 = .ok (.ldc 170, 2) := by decide +kernel
theorem dL_store_308 : decode cL_store 308 = .ok (.invokevirtual 149, 3) := by decide +kernel
theorem dL_store_311 : decode cL_store 311 = .ok (.aload 4, 2) := by decide +kernel
theorem dL_store_313 : decode cL_store 313 = .ok (.invokevirtual 149, 3) := by decide +kernel
theorem dL_store_316 : decode cL_store 316 = .ok (.invokevirtual 155, 3) := by decide +kernel
theorem dL_store_319 : decode cL_store 319 = .ok (.areturn, 1) := by decide +kernel
theorem dL_store_320 : decode cL_store 320 = .ok (.new 144, 3) := by decide +kernel
theorem dL_store_323 : decode cL_store 323 = .ok (.dup, 1) := by decide +kernel
theorem dL_store_324 : decode cL_store 324 = .ok (.invokespecial 146, 3) := by decide +kernel
theorem dL_store_327 : decode cL_store 327 = .ok (.aload_n 2, 1) := by decide +kernel
theorem dL_store_328 : decode cL_store 328 = .ok (.invokevirtual 149, 3) := by decide +kernel
theorem dL_store_331 : decode cL_store 331 = .ok (.ldc 172, 2) := by decide +kernel
theorem dL_store_333 : decode cL_store 333 = .ok (.invokevirtual 149, 3) := by decide +kernel
theorem dL_store_336 : decode cL_store 336 = .ok (.aload 4, 2) := by decide +kernel
theorem dL_store_338 : decode cL_store 338 = .ok (.invokevirtual 149, 3) := by decide +kernel
theorem dL_store_341 : decode cL_store 341 = .ok (.invokevirtual 155, 3) := by decide +kernel
theorem dL_store_344 : decode cL_store 344 = .ok (.areturn, 1) := by decide +kernel
theorem dL_store_345 : decode cL_store 345 = .ok (.new 144, 3) := by decide +kernel
theorem dL_store_348 : decode cL_store 348 = .ok (.dup, 1) := by decide +kernel
theorem dL_store_349 : decode cL_store 349 = .ok (.invokespecial 146, 3) := by decide +kernel
theorem dL_store_352 : decode cL_store 352 = .ok (.aload_n 2, 1) := by decide +kernel
theorem dL_store_353 : decode cL_store 353 = .ok (.invokevirtual 149, 3) := by decide +kernel
theorem dL_store_356 : decode cL_store 356 = .ok (.aload_n 3, 1) := by decide +kernel
theorem dL_store_357 : decode cL_store 357 = .ok (.invokevirtual 149, 3) := by decide +kernel
theorem dL_store_360 : decode cL_store 360 = .ok (.ldc 174, 2) := by decide +kernel
theorem dL_store_362 : decode cL_store 362 = .ok (.invokevirtual 149, 3) := by decide +kernel
theorem dL_store_365 : decode cL_store 365 = .ok (.aload 4, 2) := by decide +kernel
theorem dL_store_367 : decode cL_store 367 = .ok (.invokevirtual 149, 3) := by decide +kernel
theorem dL_store_370 : decode cL_store 370 = .ok (.invokevirtual 155, 3) := by decide +kernel
theorem dL_store_373 : decode cL_store 373 = .ok (.areturn, 1) := by decide +kernel
theorem dL_store_374 : decode cL_store 374 = .ok (.new 144, 3) := by decide +kernel
theorem dL_store_377 : decode cL_store 377 = .ok (.dup, 1) := by decide +kernel
theorem dL_store_378 : decode cL_store 378 = .ok (.invokespecial 146, 3) := by decide +kernel
theorem dL_store_381 : decode cL_store 381 = .ok (.aload_n 2, 1) := by decide +kernel
theorem dL_store_382 : decode cL_store 382 = .ok (.invokevirtual 149, 3) := by decide +kernel
theorem dL_store_385 : decode cL_store 385 = .ok (.aload 4, 2) := by decide +kernel
theorem dL_store_387 : decode cL_store 387 = .ok (.invokevirtual 149, 3) := by decide +kernel
theorem dL_store_390 : decode cL_store 390 = .ok (.invokevirtual 155, 3) := by decide +kernel
theorem dL_store_393 : decode cL_store 393 = .ok (.areturn, 1) := by decide +kernel
theorem dL_drawn_0 : decode cL_drawn 0 = .ok (.new 9, 3) := by decide +kernel
theorem dL_drawn_3 : decode cL_drawn 3 = .ok (.dup, 1) := by decide +kernel
theorem dL_drawn_4 : decode cL_drawn 4 = .ok (.invokespecial 176, 3) := by decide +kernel
theorem dL_drawn_7 : decode cL_drawn 7 = .ok (.astore_n 1, 1) := by decide +kernel
theorem dL_drawn_8 : decode cL_drawn 8 = .ok (.aload_n 0, 1) := by decide +kernel
theorem dL_drawn_9 : decode cL_drawn 9 = .ok (.iconst 0, 1) := by decide +kernel
theorem dL_drawn_10 : decode cL_drawn 10 = .ok (.invokestatic 177, 3) := by decide +kernel
theorem dL_drawn_13 : decode cL_drawn 13 = .ok (.iconst 1, 1) := by decide +kernel
theorem dL_drawn_14 : decode cL_drawn 14 = .ok (.iushr, 1) := by decide +kernel
theorem dL_drawn_15 : decode cL_drawn 15 = .ok (.istore_n 2, 1) := by decide +kernel
theorem dL_drawn_16 : decode cL_drawn 16 = .ok (.iconst 2, 1) := by decide +kernel
theorem dL_drawn_17 : decode cL_drawn 17 = .ok (.iload_n 2, 1) := by decide +kernel
theorem dL_drawn_18 : decode cL_drawn 18 = .ok (.iconst 4, 1) := by decide +kernel
theorem dL_drawn_19 : decode cL_drawn 19 = .ok (.irem, 1) := by decide +kernel
theorem dL_drawn_20 : decode cL_drawn 20 = .ok (.iadd, 1) := by decide +kernel
theorem dL_drawn_21 : decode cL_drawn 21 = .ok (.istore_n 3, 1) := by decide +kernel
theorem dL_drawn_22 : decode cL_drawn 22 = .ok (.iconst 0, 1) := by decide +kernel
theorem dL_drawn_23 : decode cL_drawn 23 = .ok (.istore 4, 2) := by decide +kernel
theorem dL_drawn_25 : decode cL_drawn 25 = .ok (.iload 4, 2) := by decide +kernel
theorem dL_drawn_27 : decode cL_drawn 27 = .ok (.iload_n 3, 1) := by decide +kernel
theorem dL_drawn_28 : decode cL_drawn 28 = .ok (.if_icmp .ge 99, 3) := by decide +kernel
theorem dL_drawn_31 : decode cL_drawn 31 = .ok (.aload_n 0, 1) := by decide +kernel
theorem dL_drawn_32 : decode cL_drawn 32 = .ok (.iconst 1, 1) := by decide +kernel
theorem dL_drawn_33 : decode cL_drawn 33 = .ok (.iload 4, 2) := by decide +kernel
theorem dL_drawn_35 : decode cL_drawn 35 = .ok (.iadd, 1) := by decide +kernel
theorem dL_drawn_36 : decode cL_drawn 36 = .ok (.invokestatic 177, 3) := by decide +kernel
theorem dL_drawn_39 : decode cL_drawn 39 = .ok (.iconst 1, 1) := by decide +kernel
theorem dL_drawn_40 : decode cL_drawn 40 = .ok (.iushr, 1) := by decide +kernel
theorem dL_drawn_41 : decode cL_drawn 41 = .ok (.istore 5, 2) := by decide +kernel
theorem dL_drawn_43 : decode cL_drawn 43 = .ok (.iload 5, 2) := by decide +kernel
theorem dL_drawn_45 : decode cL_drawn 45 = .ok (.iconst 5, 1) := by decide +kernel
theorem dL_drawn_46 : decode cL_drawn 46 = .ok (.irem, 1) := by decide +kernel
theorem dL_drawn_47 : decode cL_drawn 47 = .ok (.ifCond .ne 8, 3) := by decide +kernel
theorem dL_drawn_50 : decode cL_drawn 50 = .ok (.bipush (-99), 2) := by decide +kernel
theorem dL_drawn_52 : decode cL_drawn 52 = .ok (.goto 11, 3) := by decide +kernel
theorem dL_drawn_55 : decode cL_drawn 55 = .ok (.iload 5, 2) := by decide +kernel
theorem dL_drawn_57 : decode cL_drawn 57 = .ok (.iconst 3, 1) := by decide +kernel
theorem dL_drawn_58 : decode cL_drawn 58 = .ok (.iushr, 1) := by decide +kernel
theorem dL_drawn_59 : decode cL_drawn 59 = .ok (.ineg, 1) := by decide +kernel
theorem dL_drawn_60 : decode cL_drawn 60 = .ok (.bipush 30, 2) := by decide +kernel
theorem dL_drawn_62 : decode cL_drawn 62 = .ok (.irem, 1) := by decide +kernel
theorem dL_drawn_63 : decode cL_drawn 63 = .ok (.istore 6, 2) := by decide +kernel
theorem dL_drawn_65 : decode cL_drawn 65 = .ok (.iload 5, 2) := by decide +kernel
theorem dL_drawn_67 : decode cL_drawn 67 = .ok (.iconst 5, 1) := by decide +kernel
theorem dL_drawn_68 : decode cL_drawn 68 = .ok (.irem, 1) := by decide +kernel
theorem dL_drawn_69 : decode cL_drawn 69 = .ok (.ifCond .ne 8, 3) := by decide +kernel
theorem dL_drawn_72 : decode cL_drawn 72 = .ok (.bipush 99, 2) := by decide +kernel
theorem dL_drawn_74 : decode cL_drawn 74 = .ok (.goto 11, 3) := by decide +kernel
theorem dL_drawn_77 : decode cL_drawn 77 = .ok (.iload 5, 2) := by decide +kernel
theorem dL_drawn_79 : decode cL_drawn 79 = .ok (.bipush 9, 2) := by decide +kernel
theorem dL_drawn_81 : decode cL_drawn 81 = .ok (.iushr, 1) := by decide +kernel
theorem dL_drawn_82 : decode cL_drawn 82 = .ok (.bipush 30, 2) := by decide +kernel
theorem dL_drawn_84 : decode cL_drawn 84 = .ok (.irem, 1) := by decide +kernel
theorem dL_drawn_85 : decode cL_drawn 85 = .ok (.istore 7, 2) := by decide +kernel
theorem dL_drawn_87 : decode cL_drawn 87 = .ok (.iload 5, 2) := by decide +kernel
theorem dL_drawn_89 : decode cL_drawn 89 = .ok (.iconst 4, 1) := by decide +kernel
theorem dL_drawn_90 : decode cL_drawn 90 = .ok (.irem, 1) := by decide +kernel
theorem dL_drawn_91 : decode cL_drawn 91 = .ok (.iconst 3, 1) := by decide +kernel
theorem dL_drawn_92 : decode cL_drawn 92 = .ok (.if_icmp .ne 10, 3) := by decide +kernel
theorem dL_drawn_95 : decode cL_drawn 95 = .ok (.aload_n 1, 1) := by decide +kernel
theorem dL_drawn_96 : decode cL_drawn 96 = .ok (.invokestatic 181, 3) := by decide +kernel
theorem dL_drawn_99 : decode cL_drawn 99 = .ok (.goto 11, 3) := by decide +kernel
theorem dL_drawn_102 : decode cL_drawn 102 = .ok (.aload_n 1, 1) := by decide +kernel
theorem dL_drawn_103 : decode cL_drawn 103 = .ok (.iload 6, 2) := by decide +kernel
theorem dL_drawn_105 : decode cL_drawn 105 = .ok (.iload 7, 2) := by decide +kernel
theorem dL_drawn_107 : decode cL_drawn 107 = .ok (.invokestatic 183, 3) := by decide +kernel
theorem dL_drawn_110 : decode cL_drawn 110 = .ok (.istore 8, 2) := by decide +kernel
theorem dL_drawn_112 : decode cL_drawn 112 = .ok (.iload 8, 2) := by decide +kernel
theorem dL_drawn_114 : decode cL_drawn 114 = .ok (.iload 4, 2) := by decide +kernel
theorem dL_drawn_116 : decode cL_drawn 116 = .ok (.if_icmp .eq 5, 3) := by decide +kernel
theorem dL_drawn_119 : decode cL_drawn 119 = .ok (.aconst_null, 1) := by decide +kernel
theorem dL_drawn_120 : decode cL_drawn 120 = .ok (.areturn, 1) := by decide +kernel
theorem dL_drawn_121 : decode cL_drawn 121 = .ok (.iinc 4 1, 3) := by decide +kernel
theorem dL_drawn_124 : decode cL_drawn 124 = .ok (.goto (-99), 3) := by decide +kernel
theorem dL_drawn_127 : decode cL_drawn 127 = .ok (.iconst 0, 1) := by decide +kernel
theorem dL_drawn_128 : decode cL_drawn 128 = .ok (.istore 4, 2) := by decide +kernel
theorem dL_drawn_130 : decode cL_drawn 130 = .ok (.iload 4, 2) := by decide +kernel
theorem dL_drawn_132 : decode cL_drawn 132 = .ok (.iload_n 3, 1) := by decide +kernel
theorem dL_drawn_133 : decode cL_drawn 133 = .ok (.if_icmp .ge 109, 3) := by decide +kernel
theorem dL_drawn_136 : decode cL_drawn 136 = .ok (.aload_n 0, 1) := by decide +kernel
theorem dL_drawn_137 : decode cL_drawn 137 = .ok (.bipush 7, 2) := by decide +kernel
theorem dL_drawn_139 : decode cL_drawn 139 = .ok (.iload 4, 2) := by decide +kernel
theorem dL_drawn_141 : decode cL_drawn 141 = .ok (.iadd, 1) := by decide +kernel
theorem dL_drawn_142 : decode cL_drawn 142 = .ok (.invokestatic 177, 3) := by decide +kernel
theorem dL_drawn_145 : decode cL_drawn 145 = .ok (.iconst 1, 1) := by decide +kernel
theorem dL_drawn_146 : decode cL_drawn 146 = .ok (.iushr, 1) := by decide +kernel
theorem dL_drawn_147 : decode cL_drawn 147 = .ok (.istore 5, 2) := by decide +kernel
theorem dL_drawn_149 : decode cL_drawn 149 = .ok (.aload_n 1, 1) := by decide +kernel
theorem dL_drawn_150 : decode cL_drawn 150 = .ok (.iload 4, 2) := by decide +kernel
theorem dL_drawn_152 : decode cL_drawn 152 = .ok (.iconst 0, 1) := by decide +kernel
theorem dL_drawn_153 : decode cL_drawn 153 = .ok (.invokestatic 186, 3) := by decide +kernel
theorem dL_drawn_156 : decode cL_drawn 156 = .ok (.iconst 1, 1) := by decide +kernel
theorem dL_drawn_157 : decode cL_drawn 157 = .ok (.if_icmp .ne 7, 3) := by decide +kernel
theorem dL_drawn_160 : decode cL_drawn 160 = .ok (.iconst 1, 1) := by decide +kernel
theorem dL_drawn_161 : decode cL_drawn 161 = .ok (.goto 4, 3) := by decide +kernel
theorem dL_drawn_164 : decode cL_drawn 164 = .ok (.iconst 0, 1) := by decide +kernel
theorem dL_drawn_165 : decode cL_drawn 165 = .ok (.istore 6, 2) := by decide +kernel
theorem dL_drawn_167 : decode cL_drawn 167 = .ok (.aload_n 1, 1) := by decide +kernel
theorem dL_drawn_168 : decode cL_drawn 168 = .ok (.iload 4, 2) := by decide +kernel
theorem dL_drawn_170 : decode cL_drawn 170 = .ok (.iconst 1, 1) := by decide +kernel
theorem dL_drawn_171 : decode cL_drawn 171 = .ok (.invokestatic 186, 3) := by decide +kernel
theorem dL_drawn_174 : decode cL_drawn 174 = .ok (.istore 7, 2) := by decide +kernel
theorem dL_drawn_176 : decode cL_drawn 176 = .ok (.iload 6, 2) := by decide +kernel
theorem dL_drawn_178 : decode cL_drawn 178 = .ok (.ifCond .eq 22, 3) := by decide +kernel
theorem dL_drawn_181 : decode cL_drawn 181 = .ok (.aload_n 1, 1) := by decide +kernel
theorem dL_drawn_182 : decode cL_drawn 182 = .ok (.iload 4, 2) := by decide +kernel
theorem dL_drawn_184 : decode cL_drawn 184 = .ok (.iload 5, 2) := by decide +kernel
theorem dL_drawn_186 : decode cL_drawn 186 = .ok (.sipush 2000, 3) := by decide +kernel
theorem dL_drawn_189 : decode cL_drawn 189 = .ok (.irem, 1) := by decide +kernel
theorem dL_drawn_190 : decode cL_drawn 190 = .ok (.sipush 1000, 3) := by decide +kernel
theorem dL_drawn_193 : decode cL_drawn 193 = .ok (.isub, 1) := by decide +kernel
theorem dL_drawn_194 : decode cL_drawn 194 = .ok (.invokestatic 189, 3) := by decide +kernel
theorem dL_drawn_197 : decode cL_drawn 197 = .ok (.goto 27, 3) := by decide +kernel
theorem dL_drawn_200 : decode cL_drawn 200 = .ok (.aload_n 1, 1) := by decide +kernel
theorem dL_drawn_201 : decode cL_drawn 201 = .ok (.iload 4, 2) := by decide +kernel
theorem dL_drawn_203 : decode cL_drawn 203 = .ok (.iload 7, 2) := by decide +kernel
theorem dL_drawn_205 : decode cL_drawn 205 = .ok (.iload 5, 2) := by decide +kernel
theorem dL_drawn_207 : decode cL_drawn 207 = .ok (.aload_n 1, 1) := by decide +kernel
theorem dL_drawn_208 : decode cL_drawn 208 = .ok (.iload 4, 2) := by decide +kernel
theorem dL_drawn_210 : decode cL_drawn 210 = .ok (.iconst 2, 1) := by decide +kernel
theorem dL_drawn_211 : decode cL_drawn 211 = .ok (.invokestatic 186, 3) := by decide +kernel
theorem dL_drawn_214 : decode cL_drawn 214 = .ok (.iload 7, 2) := by decide +kernel
theorem dL_drawn_216 : decode cL_drawn 216 = .ok (.isub, 1) := by decide +kernel
theorem dL_drawn_217 : decode cL_drawn 217 = .ok (.iconst 1, 1) := by decide +kernel
theorem dL_drawn_218 : decode cL_drawn 218 = .ok (.iadd, 1) := by decide +kernel
theorem dL_drawn_219 : decode cL_drawn 219 = .ok (.irem, 1) := by decide +kernel
theorem dL_drawn_220 : decode cL_drawn 220 = .ok (.iadd, 1) := by decide +kernel
theorem dL_drawn_221 : decode cL_drawn 221 = .ok (.invokestatic 191, 3) := by decide +kernel
theorem dL_drawn_224 : decode cL_drawn 224 = .ok (.istore 8, 2) := by decide +kernel
theorem dL_drawn_226 : decode cL_drawn 226 = .ok (.iload 8, 2) := by decide +kernel
theorem dL_drawn_228 : decode cL_drawn 228 = .ok (.sipush (-1000), 3) := by decide +kernel
theorem dL_drawn_231 : decode cL_drawn 231 = .ok (.if_icmp .ge 5, 3) := by decide +kernel
theorem dL_drawn_234 : decode cL_drawn 234 = .ok (.aconst_null, 1) := by decide +kernel
theorem dL_drawn_235 : decode cL_drawn 235 = .ok (.areturn, 1) := by decide +kernel
theorem dL_drawn_236 : decode cL_drawn 236 = .ok (.iinc 4 1, 3) := by decide +kernel
theorem dL_drawn_239 : decode cL_drawn 239 = .ok (.goto (-109), 3) := by decide +kernel
theorem dL_drawn_242 : decode cL_drawn 242 = .ok (.iconst 0, 1) := by decide +kernel
theorem dL_drawn_243 : decode cL_drawn 243 = .ok (.istore 4, 2) := by decide +kernel
theorem dL_drawn_245 : decode cL_drawn 245 = .ok (.iload 4, 2) := by decide +kernel
theorem dL_drawn_247 : decode cL_drawn 247 = .ok (.iconst 1, 1) := by decide +kernel
theorem dL_drawn_248 : decode cL_drawn 248 = .ok (.iload_n 2, 1) := by decide +kernel
theorem dL_drawn_249 : decode cL_drawn 249 = .ok (.iconst 4, 1) := by decide +kernel
theorem dL_drawn_250 : decode cL_drawn 250 = .ok (.iushr, 1) := by decide +kernel
theorem dL_drawn_251 : decode cL_drawn 251 = .ok (.iconst 4, 1) := by decide +kernel
theorem dL_drawn_252 : decode cL_drawn 252 = .ok (.irem, 1) := by decide +kernel
theorem dL_drawn_253 : decode cL_drawn 253 = .ok (.iadd, 1) := by decide +kernel
theorem dL_drawn_254 : decode cL_drawn 254 = .ok (.if_icmp .ge 85, 3) := by decide +kernel
theorem dL_drawn_257 : decode cL_drawn 257 = .ok (.aload_n 0, 1) := by decide +kernel
theorem dL_drawn_258 : decode cL_drawn 258 = .ok (.bipush 13, 2) := by decide +kernel
theorem dL_drawn_260 : decode cL_drawn 260 = .ok (.iload 4, 2) := by decide +kernel
theorem dL_drawn_262 : decode cL_drawn 262 = .ok (.iadd, 1) := by decide +kernel
theorem dL_drawn_263 : decode cL_drawn 263 = .ok (.invokestatic 177, 3) := by decide +kernel
theorem dL_drawn_266 : decode cL_drawn 266 = .ok (.iconst 1, 1) := by decide +kernel
theorem dL_drawn_267 : decode cL_drawn 267 = .ok (.iushr, 1) := by decide +kernel
theorem dL_drawn_268 : decode cL_drawn 268 = .ok (.istore 5, 2) := by decide +kernel
theorem dL_drawn_270 : decode cL_drawn 270 = .ok (.iload 5, 2) := by decide +kernel
theorem dL_drawn_272 : decode cL_drawn 272 = .ok (.iload_n 3, 1) := by decide +kernel
theorem dL_drawn_273 : decode cL_drawn 273 = .ok (.invokestatic 193, 3) := by decide +kernel
theorem dL_drawn_276 : decode cL_drawn 276 = .ok (.astore 6, 2) := by decide +kernel
theorem dL_drawn_278 : decode cL_drawn 278 = .ok (.iload 5, 2) := by decide +kernel
theorem dL_drawn_280 : decode cL_drawn 280 = .ok (.iconst 2, 1) := by decide +kernel
theorem dL_drawn_281 : decode cL_drawn 281 = .ok (.irem, 1) := by decide +kernel
theorem dL_drawn_282 : decode cL_drawn 282 = .ok (.ifCond .ne 38, 3) := by decide +kernel
theorem dL_drawn_285 : decode cL_drawn 285 = .ok (.new 144, 3) := by decide +kernel
theorem dL_drawn_288 : decode cL_drawn 288 = .ok (.dup, 1) := by decide +kernel
theorem dL_drawn_289 : decode cL_drawn 289 = .ok (.invokespecial 146, 3) := by decide +kernel
theorem dL_drawn_292 : decode cL_drawn 292 = .ok (.aload 6, 2) := by decide +kernel
theorem dL_drawn_294 : decode cL_drawn 294 = .ok (.invokevirtual 149, 3) := by decide +kernel
theorem dL_drawn_297 : decode cL_drawn 297 = .ok (.aload_n 0, 1) := by decide +kernel
theorem dL_drawn_298 : decode cL_drawn 298 = .ok (.bipush 17, 2) := by decide +kernel
theorem dL_drawn_300 : decode cL_drawn 300 = .ok (.iload 4, 2) := by decide +kernel
theorem dL_drawn_302 : decode cL_drawn 302 = .ok (.iadd, 1) := by decide +kernel
theorem dL_drawn_303 : decode cL_drawn 303 = .ok (.invokestatic 177, 3) := by decide +kernel
theorem dL_drawn_306 : decode cL_drawn 306 = .ok (.iconst 1, 1) := by decide +kernel
theorem dL_drawn_307 : decode cL_drawn 307 = .ok (.iushr, 1) := by decide +kernel
theorem dL_drawn_308 : decode cL_drawn 308 = .ok (.iload_n 3, 1) := by decide +kernel
theorem dL_drawn_309 : decode cL_drawn 309 = .ok (.invokestatic 193, 3) := by decide +kernel
theorem dL_drawn_312 : decode cL_drawn 312 = .ok (.invokevirtual 149, 3) := by decide +kernel
theorem dL_drawn_315 : decode cL_drawn 315 = .ok (.invokevirtual 155, 3) := by decide +kernel
theorem dL_drawn_318 : decode cL_drawn 318 = .ok (.astore 6, 2) := by decide +kernel
theorem dL_drawn_320 : decode cL_drawn 320 = .ok (.aload_n 1, 1) := by decide +kernel
theorem dL_drawn_321 : decode cL_drawn 321 = .ok (.aload 6, 2) := by decide +kernel
theorem dL_drawn_323 : decode cL_drawn 323 = .ok (.invokestatic 197, 3) := by decide +kernel
theorem dL_drawn_326 : decode cL_drawn 326 = .ok (.iload 4, 2) := by decide +kernel
theorem dL_drawn_328 : decode cL_drawn 328 = .ok (.if_icmp .eq 5, 3) := by decide +kernel
theorem dL_drawn_331 : decode cL_drawn 331 = .ok (.aconst_null, 1) := by decide +kernel
theorem dL_drawn_332 : decode cL_drawn 332 = .ok (.areturn, 1) := by decide +kernel
theorem dL_drawn_333 : decode cL_drawn 333 = .ok (.iinc 4 1, 3) := by decide +kernel
theorem dL_drawn_336 : decode cL_drawn 336 = .ok (.goto (-91), 3) := by decide +kernel
theorem dL_drawn_339 : decode cL_drawn 339 = .ok (.aload_n 1, 1) := by decide +kernel
theorem dL_drawn_340 : decode cL_drawn 340 = .ok (.areturn, 1) := by decide +kernel
theorem dL_law_0 : decode cL_law 0 = .ok (.aload_n 0, 1) := by decide +kernel
theorem dL_law_1 : decode cL_law 1 = .ok (.invokestatic 200, 3) := by decide +kernel
theorem dL_law_4 : decode cL_law 4 = .ok (.astore_n 1, 1) := by decide +kernel
theorem dL_law_5 : decode cL_law 5 = .ok (.aload_n 1, 1) := by decide +kernel
theorem dL_law_6 : decode cL_law 6 = .ok (.ifnull 50, 3) := by decide +kernel
theorem dL_law_9 : decode cL_law 9 = .ok (.aload_n 1, 1) := by decide +kernel
theorem dL_law_10 : decode cL_law 10 = .ok (.invokestatic 204, 3) := by decide +kernel
theorem dL_law_13 : decode cL_law 13 = .ok (.ifCond .eq 43, 3) := by decide +kernel
theorem dL_law_16 : decode cL_law 16 = .ok (.aload_n 1, 1) := by decide +kernel
theorem dL_law_17 : decode cL_law 17 = .ok (.invokestatic 208, 3) := by decide +kernel
theorem dL_law_20 : decode cL_law 20 = .ok (.ifCond .eq 36, 3) := by decide +kernel
theorem dL_law_23 : decode cL_law 23 = .ok (.aload_n 1, 1) := by decide +kernel
theorem dL_law_24 : decode cL_law 24 = .ok (.invokestatic 211, 3) := by decide +kernel
theorem dL_law_27 : decode cL_law 27 = .ok (.ifCond .eq 29, 3) := by decide +kernel
theorem dL_law_30 : decode cL_law 30 = .ok (.aload_n 1, 1) := by decide +kernel
theorem dL_law_31 : decode cL_law 31 = .ok (.invokestatic 214, 3) := by decide +kernel
theorem dL_law_34 : decode cL_law 34 = .ok (.ifCond .eq 22, 3) := by decide +kernel
theorem dL_law_37 : decode cL_law 37 = .ok (.aload_n 1, 1) := by decide +kernel
theorem dL_law_38 : decode cL_law 38 = .ok (.invokestatic 217, 3) := by decide +kernel
theorem dL_law_41 : decode cL_law 41 = .ok (.ifCond .eq 15, 3) := by decide +kernel
theorem dL_law_44 : decode cL_law 44 = .ok (.aload_n 0, 1) := by decide +kernel
theorem dL_law_45 : decode cL_law 45 = .ok (.aload_n 1, 1) := by decide +kernel
theorem dL_law_46 : decode cL_law 46 = .ok (.invokestatic 220, 3) := by decide +kernel
theorem dL_law_49 : decode cL_law 49 = .ok (.ifCond .eq 7, 3) := by decide +kernel
theorem dL_law_52 : decode cL_law 52 = .ok (.iconst 1, 1) := by decide +kernel
theorem dL_law_53 : decode cL_law 53 = .ok (.goto 4, 3) := by decide +kernel
theorem dL_law_56 : decode cL_law 56 = .ok (.iconst 0, 1) := by decide +kernel
theorem dL_law_57 : decode cL_law 57 = .ok (.ireturn, 1) := by decide +kernel
theorem dL_text_0 : decode cL_text 0 = .ok (.aload_n 0, 1) := by decide +kernel
theorem dL_text_1 : decode cL_text 1 = .ok (.iload_n 1, 1) := by decide +kernel
theorem dL_text_2 : decode cL_text 2 = .ok (.invokestatic 224, 3) := by decide +kernel
theorem dL_text_5 : decode cL_text 5 = .ok (.newarray .char, 2) := by decide +kernel
theorem dL_text_7 : decode cL_text 7 = .ok (.astore_n 2, 1) := by decide +kernel
theorem dL_text_8 : decode cL_text 8 = .ok (.iconst 0, 1) := by decide +kernel
theorem dL_text_9 : decode cL_text 9 = .ok (.istore_n 3, 1) := by decide +kernel
theorem dL_text_10 : decode cL_text 10 = .ok (.iload_n 3, 1) := by decide +kernel
theorem dL_text_11 : decode cL_text 11 = .ok (.aload_n 2, 1) := by decide +kernel
theorem dL_text_12 : decode cL_text 12 = .ok (.arraylength, 1) := by decide +kernel
theorem dL_text_13 : decode cL_text 13 = .ok (.if_icmp .ge 18, 3) := by decide +kernel
theorem dL_text_16 : decode cL_text 16 = .ok (.aload_n 2, 1) := by decide +kernel
theorem dL_text_17 : decode cL_text 17 = .ok (.iload_n 3, 1) := by decide +kernel
theorem dL_text_18 : decode cL_text 18 = .ok (.aload_n 0, 1) := by decide +kernel
theorem dL_text_19 : decode cL_text 19 = .ok (.iload_n 3, 1) := by decide +kernel
theorem dL_text_20 : decode cL_text 20 = .ok (.invokestatic 227, 3) := by decide +kernel
theorem dL_text_23 : decode cL_text 23 = .ok (.i2c, 1) := by decide +kernel
theorem dL_text_24 : decode cL_text 24 = .ok (.castore, 1) := by decide +kernel
theorem dL_text_25 : decode cL_text 25 = .ok (.iinc 3 1, 3) := by decide +kernel
theorem dL_text_28 : decode cL_text 28 = .ok (.goto (-18), 3) := by decide +kernel
theorem dL_text_31 : decode cL_text 31 = .ok (.aload_n 2, 1) := by decide +kernel
theorem dL_text_32 : decode cL_text 32 = .ok (.areturn, 1) := by decide +kernel
theorem dL_isDigit_0 : decode cL_isDigit 0 = .ok (.iload_n 0, 1) := by decide +kernel
theorem dL_isDigit_1 : decode cL_isDigit 1 = .ok (.bipush 48, 2) := by decide +kernel
theorem dL_isDigit_3 : decode cL_isDigit 3 = .ok (.if_icmp .lt 13, 3) := by decide +kernel
theorem dL_isDigit_6 : decode cL_isDigit 6 = .ok (.iload_n 0, 1) := by decide +kernel
theorem dL_isDigit_7 : decode cL_isDigit 7 = .ok (.bipush 57, 2) := by decide +kernel
theorem dL_isDigit_9 : decode cL_isDigit 9 = .ok (.if_icmp .gt 7, 3) := by decide +kernel
theorem dL_isDigit_12 : decode cL_isDigit 12 = .ok (.iconst 1, 1) := by decide +kernel
theorem dL_isDigit_13 : decode cL_isDigit 13 = .ok (.goto 4, 3) := by decide +kernel
theorem dL_isDigit_16 : decode cL_isDigit 16 = .ok (.iconst 0, 1) := by decide +kernel
theorem dL_isDigit_17 : decode cL_isDigit 17 = .ok (.ireturn, 1) := by decide +kernel
theorem dL_tokens_0 : decode cL_tokens 0 = .ok (.bipush 6, 2) := by decide +kernel
theorem dL_tokens_2 : decode cL_tokens 2 = .ok (.newarray .int, 2) := by decide +kernel
theorem dL_tokens_4 : decode cL_tokens 4 = .ok (.astore_n 1, 1) := by decide +kernel
theorem dL_tokens_5 : decode cL_tokens 5 = .ok (.bipush 6, 2) := by decide +kernel
theorem dL_tokens_7 : decode cL_tokens 7 = .ok (.newarray .int, 2) := by decide +kernel
theorem dL_tokens_9 : decode cL_tokens 9 = .ok (.astore_n 2, 1) := by decide +kernel
theorem dL_tokens_10 : decode cL_tokens 10 = .ok (.iconst 0, 1) := by decide +kernel
theorem dL_tokens_11 : decode cL_tokens 11 = .ok (.istore_n 3, 1) := by decide +kernel
theorem dL_tokens_12 : decode cL_tokens 12 = .ok (.iload_n 3, 1) := by decide +kernel
theorem dL_tokens_13 : decode cL_tokens 13 = .ok (.aload_n 0, 1) := by decide +kernel
theorem dL_tokens_14 : decode cL_tokens 14 = .ok (.iconst 1, 1) := by decide +kernel
theorem dL_tokens_15 : decode cL_tokens 15 = .ok (.invokevirtual 229, 3) := by decide +kernel
theorem dL_tokens_18 : decode cL_tokens 18 = .ok (.if_icmp .ge 420, 3) := by decide +kernel
theorem dL_tokens_21 : decode cL_tokens 21 = .ok (.aload_n 0, 1) := by decide +kernel
theorem dL_tokens_22 : decode cL_tokens 22 = .ok (.iload_n 3, 1) := by decide +kernel
theorem dL_tokens_23 : decode cL_tokens 23 = .ok (.invokestatic 232, 3) := by decide +kernel
theorem dL_tokens_26 : decode cL_tokens 26 = .ok (.astore 4, 2) := by decide +kernel
theorem dL_tokens_28 : decode cL_tokens 28 = .ok (.iconst 0, 1) := by decide +kernel
theorem dL_tokens_29 : decode cL_tokens 29 = .ok (.istore 5, 2) := by decide +kernel
theorem dL_tokens_31 : decode cL_tokens 31 = .ok (.iconst 0, 1) := by decide +kernel
theorem dL_tokens_32 : decode cL_tokens 32 = .ok (.istore 6, 2) := by decide +kernel
theorem dL_tokens_34 : decode cL_tokens 34 = .ok (.iconst 0, 1) := by decide +kernel
theorem dL_tokens_35 : decode cL_tokens 35 = .ok (.istore 7, 2) := by decide +kernel
theorem dL_tokens_37 : decode cL_tokens 37 = .ok (.iconst 0, 1) := by decide +kernel
theorem dL_tokens_38 : decode cL_tokens 38 = .ok (.istore 8, 2) := by decide +kernel
theorem dL_tokens_40 : decode cL_tokens 40 = .ok (.iconst 0, 1) := by decide +kernel
theorem dL_tokens_41 : decode cL_tokens 41 = .ok (.istore 9, 2) := by decide +kernel
theorem dL_tokens_43 : decode cL_tokens 43 = .ok (.iconst 0, 1) := by decide +kernel
theorem dL_tokens_44 : decode cL_tokens 44 = .ok (.istore 10, 2) := by decide +kernel
theorem dL_tokens_46 : decode cL_tokens 46 = .ok (.iconst 0, 1) := by decide +kernel
theorem dL_tokens_47 : decode cL_tokens 47 = .ok (.istore 11, 2) := by decide +kernel
theorem dL_tokens_49 : decode cL_tokens 49 = .ok (.iload 11, 2) := by decide +kernel
theorem dL_tokens_51 : decode cL_tokens 51 = .ok (.aload 4, 2) := by decide +kernel
theorem dL_tokens_53 : decode cL_tokens 53 = .ok (.arraylength, 1) := by decide +kernel
theorem dL_tokens_54 : decode cL_tokens 54 = .ok (.if_icmp .ge 239, 3) := by decide +kernel
theorem dL_tokens_57 : decode cL_tokens 57 = .ok (.aload 4, 2) := by decide +kernel
theorem dL_tokens_59 : decode cL_tokens 59 = .ok (.iload 11, 2) := by decide +kernel
theorem dL_tokens_61 : decode cL_tokens 61 = .ok (.caload, 1) := by decide +kernel
theorem dL_tokens_62 : decode cL_tokens 62 = .ok (.istore 12, 2) := by decide +kernel
theorem dL_tokens_64 : decode cL_tokens 64 = .ok (.aload_n 0, 1) := by decide +kernel
theorem dL_tokens_65 : decode cL_tokens 65 = .ok (.iload_n 3, 1) := by decide +kernel
theorem dL_tokens_66 : decode cL_tokens 66 = .ok (.iload 5, 2) := by decide +kernel
theorem dL_tokens_68 : decode cL_tokens 68 = .ok (.invokestatic 236, 3) := by decide +kernel
theorem dL_tokens_71 : decode cL_tokens 71 = .ok (.iload 12, 2) := by decide +kernel
theorem dL_tokens_73 : decode cL_tokens 73 = .ok (.if_icmp .eq 5, 3) := by decide +kernel
theorem dL_tokens_76 : decode cL_tokens 76 = .ok (.iconst 0, 1) := by decide +kernel
theorem dL_tokens_77 : decode cL_tokens 77 = .ok (.ireturn, 1) := by decide +kernel
theorem dL_tokens_78 : decode cL_tokens 78 = .ok (.iload 12, 2) := by decide +kernel
theorem dL_tokens_80 : decode cL_tokens 80 = .ok (.bipush 97, 2) := by decide +kernel
theorem dL_tokens_82 : decode cL_tokens 82 = .ok (.if_icmp .lt 14, 3) := by decide +kernel
theorem dL_tokens_85 : decode cL_tokens 85 = .ok (.iload 12, 2) := by decide +kernel
theorem dL_tokens_87 : decode cL_tokens 87 = .ok (.bipush 102, 2) := by decide +kernel
theorem dL_tokens_89 : decode cL_tokens 89 = .ok (.if_icmp .gt 7, 3) := by decide +kernel
theorem dL_tokens_92 : decode cL_tokens 92 = .ok (.iconst 1, 1) := by decide +kernel
theorem dL_tokens_93 : decode cL_tokens 93 = .ok (.goto 4, 3) := by decide +kernel
theorem dL_tokens_96 : decode cL_tokens 96 = .ok (.iconst 0, 1) := by decide +kernel
theorem dL_tokens_97 : decode cL_tokens 97 = .ok (.istore 13, 2) := by decide +kernel
theorem dL_tokens_99 : decode cL_tokens 99 = .ok (.iload 13, 2) := by decide +kernel
theorem dL_tokens_101 : decode cL_tokens 101 = .ok (.ifCond .ne 11, 3) := by decide +kernel
theorem dL_tokens_104 : decode cL_tokens 104 = .ok (.iload 12, 2) := by decide +kernel
theorem dL_tokens_106 : decode cL_tokens 106 = .ok (.invokestatic 238, 3) := by decide +kernel
theorem dL_tokens_109 : decode cL_tokens 109 = .ok (.ifCond .eq 7, 3) := by decide +kernel
theorem dL_tokens_112 : decode cL_tokens 112 = .ok (.iconst 1, 1) := by decide +kernel
theorem dL_tokens_113 : decode cL_tokens 113 = .ok (.goto 4, 3) := by decide +kernel
theorem dL_tokens_116 : decode cL_tokens 116 = .ok (.iconst 0, 1) := by decide +kernel
theorem dL_tokens_117 : decode cL_tokens 117 = .ok (.istore 14, 2) := by decide +kernel
theorem dL_tokens_119 : decode cL_tokens 119 = .ok (.iload 9, 2) := by decide +kernel
theorem dL_tokens_121 : decode cL_tokens 121 = .ok (.iload 13, 2) := by decide +kernel
theorem dL_tokens_123 : decode cL_tokens 123 = .ok (.ifCond .eq 13, 3) := by decide +kernel
theorem dL_tokens_126 : decode cL_tokens 126 = .ok (.iconst 1, 1) := by decide +kernel
theorem dL_tokens_127 : decode cL_tokens 127 = .ok (.iload 12, 2) := by decide +kernel
theorem dL_tokens_129 : decode cL_tokens 129 = .ok (.bipush 97, 2) := by decide +kernel
theorem dL_tokens_131 : decode cL_tokens 131 = .ok (.isub, 1) := by decide +kernel
theorem dL_tokens_132 : decode cL_tokens 132 = .ok (.ishl, 1) := by decide +kernel
theorem dL_tokens_133 : decode cL_tokens 133 = .ok (.goto 4, 3) := by decide +kernel
theorem dL_tokens_136 : decode cL_tokens 136 = .ok (.iconst 0, 1) := by decide +kernel
theorem dL_tokens_137 : decode cL_tokens 137 = .ok (.ior, 1) := by decide +kernel
theorem dL_tokens_138 : decode cL_tokens 138 = .ok (.istore 9, 2) := by decide +kernel
theorem dL_tokens_140 : decode cL_tokens 140 = .ok (.iload 10, 2) := by decide +kernel
theorem dL_tokens_142 : decode cL_tokens 142 = .ok (.iload 12, 2) := by decide +kernel
theorem dL_tokens_144 : decode cL_tokens 144 = .ok (.bipush 61, 2) := by decide +kernel
theorem dL_tokens_146 : decode cL_tokens 146 = .ok (.if_icmp .ne 18, 3) := by decide +kernel
theorem dL_tokens_149 : decode cL_tokens 149 = .ok (.iconst 1, 1) := by decide +kernel
theorem dL_tokens_150 : decode cL_tokens 150 = .ok (.aload 4, 2) := by decide +kernel
theorem dL_tokens_152 : decode cL_tokens 152 = .ok (.iload 11, 2) := by decide +kernel
theorem dL_tokens_154 : decode cL_tokens 154 = .ok (.iconst 1, 1) := by decide +kernel
theorem dL_tokens_155 : decode cL_tokens 155 = .ok (.iadd, 1) := by decide +kernel
theorem dL_tokens_156 : decode cL_tokens 156 = .ok (.caload, 1) := by decide +kernel
theorem dL_tokens_157 : decode cL_tokens 157 = .ok (.bipush 97, 2) := by decide +kernel
theorem dL_tokens_159 : decode cL_tokens 159 = .ok (.isub, 1) := by decide +kernel
theorem dL_tokens_160 : decode cL_tokens 160 = .ok (.ishl, 1) := by decide +kernel
theorem dL_tokens_161 : decode cL_tokens 161 = .ok (.goto 4, 3) := by decide +kernel
theorem dL_tokens_164 : decode cL_tokens 164 = .ok (.iconst 0, 1) := by decide +kernel
theorem dL_tokens_165 : decode cL_tokens 165 = .ok (.ior, 1) := by decide +kernel
theorem dL_tokens_166 : decode cL_tokens 166 = .ok (.istore 10, 2) := by decide +kernel
theorem dL_tokens_168 : decode cL_tokens 168 = .ok (.iload 6, 2) := by decide +kernel
theorem dL_tokens_170 : decode cL_tokens 170 = .ok (.iload 12, 2) := by decide +kernel
theorem dL_tokens_172 : decode cL_tokens 172 = .ok (.bipush 61, 2) := by decide +kernel
theorem dL_tokens_174 : decode cL_tokens 174 = .ok (.if_icmp .ne 7, 3) := by decide +kernel
theorem dL_tokens_177 : decode cL_tokens 177 = .ok (.iconst 1, 1) := by decide +kernel
theorem dL_tokens_178 : decode cL_tokens 178 = .ok (.goto 4, 3) := by decide +kernel
theorem dL_tokens_181 : decode cL_tokens 181 = .ok (.iconst 0, 1) := by decide +kernel
theorem dL_tokens_182 : decode cL_tokens 182 = .ok (.iadd, 1) := by decide +kernel
theorem dL_tokens_183 : decode cL_tokens 183 = .ok (.istore 6, 2) := by decide +kernel
theorem dL_tokens_185 : decode cL_tokens 185 = .ok (.iload 7, 2) := by decide +kernel
theorem dL_tokens_187 : decode cL_tokens 187 = .ok (.iload 14, 2) := by decide +kernel
theorem dL_tokens_189 : decode cL_tokens 189 = .ok (.ifCond .eq 7, 3) := by decide +kernel
theorem dL_tokens_192 : decode cL_tokens 192 = .ok (.iconst 1, 1) := by decide +kernel
theorem dL_tokens_193 : decode cL_tokens 193 = .ok (.goto 22, 3) := by decide +kernel
theorem dL_tokens_196 : decode cL_tokens 196 = .ok (.iload 12, 2) := by decide +kernel
theorem dL_tokens_198 : decode cL_tokens 198 = .ok (.bipush 126, 2) := by decide +kernel
theorem dL_tokens_200 : decode cL_tokens 200 = .ok (.if_icmp .eq 10, 3) := by decide +kernel
theorem dL_tokens_203 : decode cL_tokens 203 = .ok (.iload 12, 2) := by decide +kernel
theorem dL_tokens_205 : decode cL_tokens 205 = .ok (.bipush 33, 2) := by decide +kernel
theorem dL_tokens_207 : decode cL_tokens 207 = .ok (.if_icmp .ne 7, 3) := by decide +kernel
theorem dL_tokens_210 : decode cL_tokens 210 = .ok (.iconst 0, 1) := by decide +kernel
theorem dL_tokens_211 : decode cL_tokens 211 = .ok (.goto 4, 3) := by decide +kernel
theorem dL_tokens_214 : decode cL_tokens 214 = .ok (.iconst (-1), 1) := by decide +kernel
theorem dL_tokens_215 : decode cL_tokens 215 = .ok (.iadd, 1) := by decide +kernel
theorem dL_tokens_216 : decode cL_tokens 216 = .ok (.istore 7, 2) := by decide +kernel
theorem dL_tokens_218 : decode cL_tokens 218 = .ok (.iload 8, 2) := by decide +kernel
theorem dL_tokens_220 : decode cL_tokens 220 = .ok (.iload 7, 2) := by decide +kernel
theorem dL_tokens_222 : decode cL_tokens 222 = .ok (.invokestatic 242, 3) := by decide +kernel
theorem dL_tokens_225 : decode cL_tokens 225 = .ok (.istore 8, 2) := by decide +kernel
theorem dL_tokens_227 : decode cL_tokens 227 = .ok (.iload 12, 2) := by decide +kernel
theorem dL_tokens_229 : decode cL_tokens 229 = .ok (.bipush 61, 2) := by decide +kernel
theorem dL_tokens_231 : decode cL_tokens 231 = .ok (.if_icmp .eq 34, 3) := by decide +kernel
theorem dL_tokens_234 : decode cL_tokens 234 = .ok (.iload 12, 2) := by decide +kernel
theorem dL_tokens_236 : decode cL_tokens 236 = .ok (.invokestatic 238, 3) := by decide +kernel
theorem dL_tokens_239 : decode cL_tokens 239 = .ok (.ifCond .eq 30, 3) := by decide +kernel
theorem dL_tokens_242 : decode cL_tokens 242 = .ok (.iload 11, 2) := by decide +kernel
theorem dL_tokens_244 : decode cL_tokens 244 = .ok (.iconst 1, 1) := by decide +kernel
theorem dL_tokens_245 : decode cL_tokens 245 = .ok (.iadd, 1) := by decide +kernel
theorem dL_tokens_246 : decode cL_tokens 246 = .ok (.aload 4, 2) := by decide +kernel
theorem dL_tokens_248 : decode cL_tokens 248 = .ok (.arraylength, 1) := by decide +kernel
theorem dL_tokens_249 : decode cL_tokens 249 = .ok (.if_icmp .ge 20, 3) := by decide +kernel
theorem dL_tokens_252 : decode cL_tokens 252 = .ok (.aload 4, 2) := by decide +kernel
theorem dL_tokens_254 : decode cL_tokens 254 = .ok (.iload 11, 2) := by decide +kernel
theorem dL_tokens_256 : decode cL_tokens 256 = .ok (.iconst 1, 1) := by decide +kernel
theorem dL_tokens_257 : decode cL_tokens 257 = .ok (.iadd, 1) := by decide +kernel
theorem dL_tokens_258 : decode cL_tokens 258 = .ok (.caload, 1) := by decide +kernel
theorem dL_tokens_259 : decode cL_tokens 259 = .ok (.invokestatic 238, 3) := by decide +kernel
theorem dL_tokens_262 : decode cL_tokens 262 = .ok (.ifCond .eq 7, 3) := by decide +kernel
theorem dL_tokens_265 : decode cL_tokens 265 = .ok (.iconst 1, 1) := by decide +kernel
theorem dL_tokens_266 : decode cL_tokens 266 = .ok (.goto 4, 3) := by decide +kernel
theorem dL_tokens_269 : decode cL_tokens 269 = .ok (.iconst 0, 1) := by decide +kernel
theorem dL_tokens_270 : decode cL_tokens 270 = .ok (.istore 15, 2) := by decide +kernel
theorem dL_tokens_272 : decode cL_tokens 272 = .ok (.iload 11, 2) := by decide +kernel
theorem dL_tokens_274 : decode cL_tokens 274 = .ok (.iload 15, 2) := by decide +kernel
theorem dL_tokens_276 : decode cL_tokens 276 = .ok (.ifCond .eq 7, 3) := by decide +kernel
theorem dL_tokens_279 : decode cL_tokens 279 = .ok (.iconst 2, 1) := by decide +kernel
theorem dL_tokens_280 : decode cL_tokens 280 = .ok (.goto 4, 3) := by decide +kernel
theorem dL_tokens_283 : decode cL_tokens 283 = .ok (.iconst 1, 1) := by decide +kernel
theorem dL_tokens_284 : decode cL_tokens 284 = .ok (.iadd, 1) := by decide +kernel
theorem dL_tokens_285 : decode cL_tokens 285 = .ok (.istore 11, 2) := by decide +kernel
theorem dL_tokens_287 : decode cL_tokens 287 = .ok (.iinc 5 1, 3) := by decide +kernel
theorem dL_tokens_290 : decode cL_tokens 290 = .ok (.goto (-241), 3) := by decide +kernel
theorem dL_tokens_293 : decode cL_tokens 293 = .ok (.iconst 0, 1) := by decide +kernel
theorem dL_tokens_294 : decode cL_tokens 294 = .ok (.istore 12, 2) := by decide +kernel
theorem dL_tokens_296 : decode cL_tokens 296 = .ok (.iload 12, 2) := by decide +kernel
theorem dL_tokens_298 : decode cL_tokens 298 = .ok (.bipush 6, 2) := by decide +kernel
theorem dL_tokens_300 : decode cL_tokens 300 = .ok (.if_icmp .ge 37, 3) := by decide +kernel
theorem dL_tokens_303 : decode cL_tokens 303 = .ok (.aload_n 1, 1) := by decide +kernel
theorem dL_tokens_304 : decode cL_tokens 304 = .ok (.iload 12, 2) := by decide +kernel
theorem dL_tokens_306 : decode cL_tokens 306 = .ok (.dup2, 1) := by decide +kernel
theorem dL_tokens_307 : decode cL_tokens 307 = .ok (.iaload, 1) := by decide +kernel
theorem dL_tokens_308 : decode cL_tokens 308 = .ok (.iload 9, 2) := by decide +kernel
theorem dL_tokens_310 : decode cL_tokens 310 = .ok (.iload 12, 2) := by decide +kernel
theorem dL_tokens_312 : decode cL_tokens 312 = .ok (.ishr, 1) := by decide +kernel
theorem dL_tokens_313 : decode cL_tokens 313 = .ok (.iconst 1, 1) := by decide +kernel
theorem dL_tokens_314 : decode cL_tokens 314 = .ok (.iand, 1) := by decide +kernel
theorem dL_tokens_315 : decode cL_tokens 315 = .ok (.iadd, 1) := by decide +kernel
theorem dL_tokens_316 : decode cL_tokens 316 = .ok (.iastore, 1) := by decide +kernel
theorem dL_tokens_317 : decode cL_tokens 317 = .ok (.aload_n 2, 1) := by decide +kernel
theorem dL_tokens_318 : decode cL_tokens 318 = .ok (.iload 12, 2) := by decide +kernel
theorem dL_tokens_320 : decode cL_tokens 320 = .ok (.dup2, 1) := by decide +kernel
theorem dL_tokens_321 : decode cL_tokens 321 = .ok (.iaload, 1) := by decide +kernel
theorem dL_tokens_322 : decode cL_tokens 322 = .ok (.iload 10, 2) := by decide +kernel
theorem dL_tokens_324 : decode cL_tokens 324 = .ok (.iload 12, 2) := by decide +kernel
theorem dL_tokens_326 : decode cL_tokens 326 = .ok (.ishr, 1) := by decide +kernel
theorem dL_tokens_327 : decode cL_tokens 327 = .ok (.iconst 1, 1) := by decide +kernel
theorem dL_tokens_328 : decode cL_tokens 328 = .ok (.iand, 1) := by decide +kernel
theorem dL_tokens_329 : decode cL_tokens 329 = .ok (.iadd, 1) := by decide +kernel
theorem dL_tokens_330 : decode cL_tokens 330 = .ok (.iastore, 1) := by decide +kernel
theorem dL_tokens_331 : decode cL_tokens 331 = .ok (.iinc 12 1, 3) := by decide +kernel
theorem dL_tokens_334 : decode cL_tokens 334 = .ok (.goto (-38), 3) := by decide +kernel
theorem dL_tokens_337 : decode cL_tokens 337 = .ok (.aload_n 0, 1) := by decide +kernel
theorem dL_tokens_338 : decode cL_tokens 338 = .ok (.iload_n 3, 1) := by decide +kernel
theorem dL_tokens_339 : decode cL_tokens 339 = .ok (.iconst 0, 1) := by decide +kernel
theorem dL_tokens_340 : decode cL_tokens 340 = .ok (.invokestatic 247, 3) := by decide +kernel
theorem dL_tokens_343 : decode cL_tokens 343 = .ok (.iload 5, 2) := by decide +kernel
theorem dL_tokens_345 : decode cL_tokens 345 = .ok (.if_icmp .ne 77, 3) := by decide +kernel
theorem dL_tokens_348 : decode cL_tokens 348 = .ok (.aload_n 0, 1) := by decide +kernel
theorem dL_tokens_349 : decode cL_tokens 349 = .ok (.iload_n 3, 1) := by decide +kernel
theorem dL_tokens_350 : decode cL_tokens 350 = .ok (.iconst 1, 1) := by decide +kernel
theorem dL_tokens_351 : decode cL_tokens 351 = .ok (.invokestatic 247, 3) := by decide +kernel
theorem dL_tokens_354 : decode cL_tokens 354 = .ok (.iload 6, 2) := by decide +kernel
theorem dL_tokens_356 : decode cL_tokens 356 = .ok (.if_icmp .ne 66, 3) := by decide +kernel
theorem dL_tokens_359 : decode cL_tokens 359 = .ok (.aload_n 0, 1) := by decide +kernel
theorem dL_tokens_360 : decode cL_tokens 360 = .ok (.iload_n 3, 1) := by decide +kernel
theorem dL_tokens_361 : decode cL_tokens 361 = .ok (.iconst 2, 1) := by decide +kernel
theorem dL_tokens_362 : decode cL_tokens 362 = .ok (.invokestatic 247, 3) := by decide +kernel
theorem dL_tokens_365 : decode cL_tokens 365 = .ok (.iload 8, 2) := by decide +kernel
theorem dL_tokens_367 : decode cL_tokens 367 = .ok (.if_icmp .ne 55, 3) := by decide +kernel
theorem dL_tokens_370 : decode cL_tokens 370 = .ok (.iload 7, 2) := by decide +kernel
theorem dL_tokens_372 : decode cL_tokens 372 = .ok (.ifCond .ne 50, 3) := by decide +kernel
theorem dL_tokens_375 : decode cL_tokens 375 = .ok (.aload_n 0, 1) := by decide +kernel
theorem dL_tokens_376 : decode cL_tokens 376 = .ok (.iload_n 3, 1) := by decide +kernel
theorem dL_tokens_377 : decode cL_tokens 377 = .ok (.iload 5, 2) := by decide +kernel
theorem dL_tokens_379 : decode cL_tokens 379 = .ok (.invokestatic 236, 3) := by decide +kernel
theorem dL_tokens_382 : decode cL_tokens 382 = .ok (.bipush (-14), 2) := by decide +kernel
theorem dL_tokens_384 : decode cL_tokens 384 = .ok (.if_icmp .ne 38, 3) := by decide +kernel
theorem dL_tokens_387 : decode cL_tokens 387 = .ok (.aload_n 0, 1) := by decide +kernel
theorem dL_tokens_388 : decode cL_tokens 388 = .ok (.iload_n 3, 1) := by decide +kernel
theorem dL_tokens_389 : decode cL_tokens 389 = .ok (.iconst (-1), 1) := by decide +kernel
theorem dL_tokens_390 : decode cL_tokens 390 = .ok (.invokestatic 236, 3) := by decide +kernel
theorem dL_tokens_393 : decode cL_tokens 393 = .ok (.bipush (-14), 2) := by decide +kernel
theorem dL_tokens_395 : decode cL_tokens 395 = .ok (.if_icmp .ne 27, 3) := by decide +kernel
theorem dL_tokens_398 : decode cL_tokens 398 = .ok (.aload_n 0, 1) := by decide +kernel
theorem dL_tokens_399 : decode cL_tokens 399 = .ok (.iload_n 3, 1) := by decide +kernel
theorem dL_tokens_400 : decode cL_tokens 400 = .ok (.iconst 4, 1) := by decide +kernel
theorem dL_tokens_401 : decode cL_tokens 401 = .ok (.invokestatic 247, 3) := by decide +kernel
theorem dL_tokens_404 : decode cL_tokens 404 = .ok (.ifCond .ne 18, 3) := by decide +kernel
theorem dL_tokens_407 : decode cL_tokens 407 = .ok (.aload_n 0, 1) := by decide +kernel
theorem dL_tokens_408 : decode cL_tokens 408 = .ok (.iload_n 3, 1) := by decide +kernel
theorem dL_tokens_409 : decode cL_tokens 409 = .ok (.iconst 5, 1) := by decide +kernel
theorem dL_tokens_410 : decode cL_tokens 410 = .ok (.invokestatic 247, 3) := by decide +kernel
theorem dL_tokens_413 : decode cL_tokens 413 = .ok (.bipush (-12), 2) := by decide +kernel
theorem dL_tokens_415 : decode cL_tokens 415 = .ok (.if_icmp .ne 7, 3) := by decide +kernel
theorem dL_tokens_418 : decode cL_tokens 418 = .ok (.iconst 1, 1) := by decide +kernel
theorem dL_tokens_419 : decode cL_tokens 419 = .ok (.goto 4, 3) := by decide +kernel
theorem dL_tokens_422 : decode cL_tokens 422 = .ok (.iconst 0, 1) := by decide +kernel
theorem dL_tokens_423 : decode cL_tokens 423 = .ok (.istore 12, 2) := by decide +kernel
theorem dL_tokens_425 : decode cL_tokens 425 = .ok (.iload 12, 2) := by decide +kernel
theorem dL_tokens_427 : decode cL_tokens 427 = .ok (.ifCond .ne 5, 3) := by decide +kernel
theorem dL_tokens_430 : decode cL_tokens 430 = .ok (.iconst 0, 1) := by decide +kernel
theorem dL_tokens_431 : decode cL_tokens 431 = .ok (.ireturn, 1) := by decide +kernel
theorem dL_tokens_432 : decode cL_tokens 432 = .ok (.iinc 3 1, 3) := by decide +kernel
theorem dL_tokens_435 : decode cL_tokens 435 = .ok (.goto (-423), 3) := by decide +kernel
theorem dL_tokens_438 : decode cL_tokens 438 = .ok (.iconst 0, 1) := by decide +kernel
theorem dL_tokens_439 : decode cL_tokens 439 = .ok (.istore_n 3, 1) := by decide +kernel
theorem dL_tokens_440 : decode cL_tokens 440 = .ok (.iload_n 3, 1) := by decide +kernel
theorem dL_tokens_441 : decode cL_tokens 441 = .ok (.aload_n 0, 1) := by decide +kernel
theorem dL_tokens_442 : decode cL_tokens 442 = .ok (.iconst 0, 1) := by decide +kernel
theorem dL_tokens_443 : decode cL_tokens 443 = .ok (.invokevirtual 229, 3) := by decide +kernel
theorem dL_tokens_446 : decode cL_tokens 446 = .ok (.if_icmp .ge 58, 3) := by decide +kernel
theorem dL_tokens_449 : decode cL_tokens 449 = .ok (.aload_n 0, 1) := by decide +kernel
theorem dL_tokens_450 : decode cL_tokens 450 = .ok (.iload_n 3, 1) := by decide +kernel
theorem dL_tokens_451 : decode cL_tokens 451 = .ok (.iconst 5, 1) := by decide +kernel
theorem dL_tokens_452 : decode cL_tokens 452 = .ok (.invokestatic 186, 3) := by decide +kernel
theorem dL_tokens_455 : decode cL_tokens 455 = .ok (.aload_n 1, 1) := by decide +kernel
theorem dL_tokens_456 : decode cL_tokens 456 = .ok (.iload_n 3, 1) := by decide +kernel
theorem dL_tokens_457 : decode cL_tokens 457 = .ok (.iaload, 1) := by decide +kernel
theorem dL_tokens_458 : decode cL_tokens 458 = .ok (.if_icmp .ne 38, 3) := by decide +kernel
theorem dL_tokens_461 : decode cL_tokens 461 = .ok (.aload_n 0, 1) := by decide +kernel
theorem dL_tokens_462 : decode cL_tokens 462 = .ok (.iload_n 3, 1) := by decide +kernel
theorem dL_tokens_463 : decode cL_tokens 463 = .ok (.bipush 6, 2) := by decide +kernel
theorem dL_tokens_465 : decode cL_tokens 465 = .ok (.invokestatic 186, 3) := by decide +kernel
theorem dL_tokens_468 : decode cL_tokens 468 = .ok (.aload_n 2, 1) := by decide +kernel
theorem dL_tokens_469 : decode cL_tokens 469 = .ok (.iload_n 3, 1) := by decide +kernel
theorem dL_tokens_470 : decode cL_tokens 470 = .ok (.iaload, 1) := by decide +kernel
theorem dL_tokens_471 : decode cL_tokens 471 = .ok (.if_icmp .ne 25, 3) := by decide +kernel
theorem dL_tokens_474 : decode cL_tokens 474 = .ok (.aload_n 0, 1) := by decide +kernel
theorem dL_tokens_475 : decode cL_tokens 475 = .ok (.iload_n 3, 1) := by decide +kernel
theorem dL_tokens_476 : decode cL_tokens 476 = .ok (.iconst 4, 1) := by decide +kernel
theorem dL_tokens_477 : decode cL_tokens 477 = .ok (.invokestatic 186, 3) := by decide +kernel
theorem dL_tokens_480 : decode cL_tokens 480 = .ok (.ifCond .ne 16, 3) := by decide +kernel
theorem dL_tokens_483 : decode cL_tokens 483 = .ok (.aload_n 0, 1) := by decide +kernel
theorem dL_tokens_484 : decode cL_tokens 484 = .ok (.iload_n 3, 1) := by decide +kernel
theorem dL_tokens_485 : decode cL_tokens 485 = .ok (.bipush 7, 2) := by decide +kernel
theorem dL_tokens_487 : decode cL_tokens 487 = .ok (.invokestatic 186, 3) := by decide +kernel
theorem dL_tokens_490 : decode cL_tokens 490 = .ok (.sipush (-1003), 3) := by decide +kernel
theorem dL_tokens_493 : decode cL_tokens 493 = .ok (.if_icmp .eq 5, 3) := by decide +kernel
theorem dL_tokens_496 : decode cL_tokens 496 = .ok (.iconst 0, 1) := by decide +kernel
theorem dL_tokens_497 : decode cL_tokens 497 = .ok (.ireturn, 1) := by decide +kernel
theorem dL_tokens_498 : decode cL_tokens 498 = .ok (.iinc 3 1, 3) := by decide +kernel
theorem dL_tokens_501 : decode cL_tokens 501 = .ok (.goto (-61), 3) := by decide +kernel
theorem dL_tokens_504 : decode cL_tokens 504 = .ok (.aload_n 0, 1) := by decide +kernel
theorem dL_tokens_505 : decode cL_tokens 505 = .ok (.iconst 1, 1) := by decide +kernel
theorem dL_tokens_506 : decode cL_tokens 506 = .ok (.invokevirtual 229, 3) := by decide +kernel
theorem dL_tokens_509 : decode cL_tokens 509 = .ok (.istore_n 3, 1) := by decide +kernel
theorem dL_tokens_510 : decode cL_tokens 510 = .ok (.aload_n 0, 1) := by decide +kernel
theorem dL_tokens_511 : decode cL_tokens 511 = .ok (.aload_n 0, 1) := by decide +kernel
theorem dL_tokens_512 : decode cL_tokens 512 = .ok (.iconst 0, 1) := by decide +kernel
theorem dL_tokens_513 : decode cL_tokens 513 = .ok (.invokevirtual 229, 3) := by decide +kernel
theorem dL_tokens_516 : decode cL_tokens 516 = .ok (.bipush 9, 2) := by decide +kernel
theorem dL_tokens_518 : decode cL_tokens 518 = .ok (.invokestatic 186, 3) := by decide +kernel
theorem dL_tokens_521 : decode cL_tokens 521 = .ok (.sipush (-1001), 3) := by decide +kernel
theorem dL_tokens_524 : decode cL_tokens 524 = .ok (.if_icmp .ne 30, 3) := by decide +kernel
theorem dL_tokens_527 : decode cL_tokens 527 = .ok (.aload_n 0, 1) := by decide +kernel
theorem dL_tokens_528 : decode cL_tokens 528 = .ok (.iload_n 3, 1) := by decide +kernel
theorem dL_tokens_529 : decode cL_tokens 529 = .ok (.bipush 9, 2) := by decide +kernel
theorem dL_tokens_531 : decode cL_tokens 531 = .ok (.invokestatic 247, 3) := by decide +kernel
theorem dL_tokens_534 : decode cL_tokens 534 = .ok (.bipush (-11), 2) := by decide +kernel
theorem dL_tokens_536 : decode cL_tokens 536 = .ok (.if_icmp .ne 18, 3) := by decide +kernel
theorem dL_tokens_539 : decode cL_tokens 539 = .ok (.aload_n 0, 1) := by decide +kernel
theorem dL_tokens_540 : decode cL_tokens 540 = .ok (.iload_n 3, 1) := by decide +kernel
theorem dL_tokens_541 : decode cL_tokens 541 = .ok (.iconst 0, 1) := by decide +kernel
theorem dL_tokens_542 : decode cL_tokens 542 = .ok (.invokestatic 236, 3) := by decide +kernel
theorem dL_tokens_545 : decode cL_tokens 545 = .ok (.bipush (-11), 2) := by decide +kernel
theorem dL_tokens_547 : decode cL_tokens 547 = .ok (.if_icmp .ne 7, 3) := by decide +kernel
theorem dL_tokens_550 : decode cL_tokens 550 = .ok (.iconst 1, 1) := by decide +kernel
theorem dL_tokens_551 : decode cL_tokens 551 = .ok (.goto 4, 3) := by decide +kernel
theorem dL_tokens_554 : decode cL_tokens 554 = .ok (.iconst 0, 1) := by decide +kernel
theorem dL_tokens_555 : decode cL_tokens 555 = .ok (.ireturn, 1) := by decide +kernel
theorem dL_typed_0 : decode cL_typed 0 = .ok (.iconst 0, 1) := by decide +kernel
theorem dL_typed_1 : decode cL_typed 1 = .ok (.istore_n 1, 1) := by decide +kernel
theorem dL_typed_2 : decode cL_typed 2 = .ok (.aload_n 0, 1) := by decide +kernel
theorem dL_typed_3 : decode cL_typed 3 = .ok (.iconst 1, 1) := by decide +kernel
theorem dL_typed_4 : decode cL_typed 4 = .ok (.invokevirtual 229, 3) := by decide +kernel
theorem dL_typed_7 : decode cL_typed 7 = .ok (.istore_n 2, 1) := by decide +kernel
theorem dL_typed_8 : decode cL_typed 8 = .ok (.iconst 0, 1) := by decide +kernel
theorem dL_typed_9 : decode cL_typed 9 = .ok (.istore_n 3, 1) := by decide +kernel
theorem dL_typed_10 : decode cL_typed 10 = .ok (.iload_n 3, 1) := by decide +kernel
theorem dL_typed_11 : decode cL_typed 11 = .ok (.iload_n 2, 1) := by decide +kernel
theorem dL_typed_12 : decode cL_typed 12 = .ok (.if_icmp .ge 268, 3) := by decide +kernel
theorem dL_typed_15 : decode cL_typed 15 = .ok (.aload_n 0, 1) := by decide +kernel
theorem dL_typed_16 : decode cL_typed 16 = .ok (.iload_n 3, 1) := by decide +kernel
theorem dL_typed_17 : decode cL_typed 17 = .ok (.invokestatic 249, 3) := by decide +kernel
theorem dL_typed_20 : decode cL_typed 20 = .ok (.istore 4, 2) := by decide +kernel
theorem dL_typed_22 : decode cL_typed 22 = .ok (.aload_n 0, 1) := by decide +kernel
theorem dL_typed_23 : decode cL_typed 23 = .ok (.iload_n 3, 1) := by decide +kernel
theorem dL_typed_24 : decode cL_typed 24 = .ok (.iconst 1, 1) := by decide +kernel
theorem dL_typed_25 : decode cL_typed 25 = .ok (.invokestatic 247, 3) := by decide +kernel
theorem dL_typed_28 : decode cL_typed 28 = .ok (.istore 5, 2) := by decide +kernel
theorem dL_typed_30 : decode cL_typed 30 = .ok (.aload_n 0, 1) := by decide +kernel
theorem dL_typed_31 : decode cL_typed 31 = .ok (.iload_n 3, 1) := by decide +kernel
theorem dL_typed_32 : decode cL_typed 32 = .ok (.invokestatic 251, 3) := by decide +kernel
theorem dL_typed_35 : decode cL_typed 35 = .ok (.bipush (-14), 2) := by decide +kernel
theorem dL_typed_37 : decode cL_typed 37 = .ok (.if_icmp .ne 7, 3) := by decide +kernel
theorem dL_typed_40 : decode cL_typed 40 = .ok (.iconst 1, 1) := by decide +kernel
theorem dL_typed_41 : decode cL_typed 41 = .ok (.goto 4, 3) := by decide +kernel
theorem dL_typed_44 : decode cL_typed 44 = .ok (.iconst 0, 1) := by decide +kernel
theorem dL_typed_45 : decode cL_typed 45 = .ok (.istore 6, 2) := by decide +kernel
theorem dL_typed_47 : decode cL_typed 47 = .ok (.iload_n 1, 1) := by decide +kernel
theorem dL_typed_48 : decode cL_typed 48 = .ok (.iload 4, 2) := by decide +kernel
theorem dL_typed_50 : decode cL_typed 50 = .ok (.iadd, 1) := by decide +kernel
theorem dL_typed_51 : decode cL_typed 51 = .ok (.istore_n 1, 1) := by decide +kernel
theorem dL_typed_52 : decode cL_typed 52 = .ok (.iload 4, 2) := by decide +kernel
theorem dL_typed_54 : decode cL_typed 54 = .ok (.aload_n 0, 1) := by decide +kernel
theorem dL_typed_55 : decode cL_typed 55 = .ok (.iload_n 3, 1) := by decide +kernel
theorem dL_typed_56 : decode cL_typed 56 = .ok (.invokestatic 253, 3) := by decide +kernel
theorem dL_typed_59 : decode cL_typed 59 = .ok (.if_icmp .ne 48, 3) := by decide +kernel
theorem dL_typed_62 : decode cL_typed 62 = .ok (.iload 4, 2) := by decide +kernel
theorem dL_typed_64 : decode cL_typed 64 = .ok (.aload_n 0, 1) := by decide +kernel
theorem dL_typed_65 : decode cL_typed 65 = .ok (.iload_n 3, 1) := by decide +kernel
theorem dL_typed_66 : decode cL_typed 66 = .ok (.iconst 3, 1) := by decide +kernel
theorem dL_typed_67 : decode cL_typed 67 = .ok (.invokestatic 247, 3) := by decide +kernel
theorem dL_typed_70 : decode cL_typed 70 = .ok (.if_icmp .ne 37, 3) := by decide +kernel
theorem dL_typed_73 : decode cL_typed 73 = .ok (.iload 4, 2) := by decide +kernel
theorem dL_typed_75 : decode cL_typed 75 = .ok (.iload 6, 2) := by decide +kernel
theorem dL_typed_77 : decode cL_typed 77 = .ok (.ifCond .eq 7, 3) := by decide +kernel
theorem dL_typed_80 : decode cL_typed 80 = .ok (.iconst 1, 1) := by decide +kernel
theorem dL_typed_81 : decode cL_typed 81 = .ok (.goto 4, 3) := by decide +kernel
theorem dL_typed_84 : decode cL_typed 84 = .ok (.iconst 0, 1) := by decide +kernel
theorem dL_typed_85 : decode cL_typed 85 = .ok (.if_icmp .ne 22, 3) := by decide +kernel
theorem dL_typed_88 : decode cL_typed 88 = .ok (.iload 6, 2) := by decide +kernel
theorem dL_typed_90 : decode cL_typed 90 = .ok (.ifCond .ne 19, 3) := by decide +kernel
theorem dL_typed_93 : decode cL_typed 93 = .ok (.aload_n 0, 1) := by decide +kernel
theorem dL_typed_94 : decode cL_typed 94 = .ok (.iload_n 3, 1) := by decide +kernel
theorem dL_typed_95 : decode cL_typed 95 = .ok (.invokestatic 251, 3) := by decide +kernel
theorem dL_typed_98 : decode cL_typed 98 = .ok (.aload_n 0, 1) := by decide +kernel
theorem dL_typed_99 : decode cL_typed 99 = .ok (.iload_n 3, 1) := by decide +kernel
theorem dL_typed_100 : decode cL_typed 100 = .ok (.iconst 0, 1) := by decide +kernel
theorem dL_typed_101 : decode cL_typed 101 = .ok (.invokestatic 247, 3) := by decide +kernel
theorem dL_typed_104 : decode cL_typed 104 = .ok (.if_icmp .lt 5, 3) := by decide +kernel
theorem dL_typed_107 : decode cL_typed 107 = .ok (.iconst 0, 1) := by decide +kernel
theorem dL_typed_108 : decode cL_typed 108 = .ok (.ireturn, 1) := by decide +kernel
theorem dL_typed_109 : decode cL_typed 109 = .ok (.iconst 0, 1) := by decide +kernel
theorem dL_typed_110 : decode cL_typed 110 = .ok (.istore 7, 2) := by decide +kernel
theorem dL_typed_112 : decode cL_typed 112 = .ok (.iconst 0, 1) := by decide +kernel
theorem dL_typed_113 : decode cL_typed 113 = .ok (.istore 8, 2) := by decide +kernel
theorem dL_typed_115 : decode cL_typed 115 = .ok (.iload 8, 2) := by decide +kernel
theorem dL_typed_117 : decode cL_typed 117 = .ok (.aload_n 0, 1) := by decide +kernel
theorem dL_typed_118 : decode cL_typed 118 = .ok (.iload_n 3, 1) := by decide +kernel
theorem dL_typed_119 : decode cL_typed 119 = .ok (.iconst 0, 1) := by decide +kernel
theorem dL_typed_120 : decode cL_typed 120 = .ok (.invokestatic 247, 3) := by decide +kernel
theorem dL_typed_123 : decode cL_typed 123 = .ok (.if_icmp .ge 112, 3) := by decide +kernel
theorem dL_typed_126 : decode cL_typed 126 = .ok (.aload_n 0, 1) := by decide +kernel
theorem dL_typed_127 : decode cL_typed 127 = .ok (.iload_n 3, 1) := by decide +kernel
theorem dL_typed_128 : decode cL_typed 128 = .ok (.iload 8, 2) := by decide +kernel
theorem dL_typed_130 : decode cL_typed 130 = .ok (.invokestatic 236, 3) := by decide +kernel
theorem dL_typed_133 : decode cL_typed 133 = .ok (.bipush 61, 2) := by decide +kernel
theorem dL_typed_135 : decode cL_typed 135 = .ok (.if_icmp .ne 94, 3) := by decide +kernel
theorem dL_typed_138 : decode cL_typed 138 = .ok (.aload_n 0, 1) := by decide +kernel
theorem dL_typed_139 : decode cL_typed 139 = .ok (.iload_n 3, 1) := by decide +kernel
theorem dL_typed_140 : decode cL_typed 140 = .ok (.iload 7, 2) := by decide +kernel
theorem dL_typed_142 : decode cL_typed 142 = .ok (.iconst 0, 1) := by decide +kernel
theorem dL_typed_143 : decode cL_typed 143 = .ok (.invokestatic 255, 3) := by decide +kernel
theorem dL_typed_146 : decode cL_typed 146 = .ok (.istore 9, 2) := by decide +kernel
theorem dL_typed_148 : decode cL_typed 148 = .ok (.aload_n 0, 1) := by decide +kernel
theorem dL_typed_149 : decode cL_typed 149 = .ok (.iload_n 3, 1) := by decide +kernel
theorem dL_typed_150 : decode cL_typed 150 = .ok (.iload 7, 2) := by decide +kernel
theorem dL_typed_152 : decode cL_typed 152 = .ok (.iconst 1, 1) := by decide +kernel
theorem dL_typed_153 : decode cL_typed 153 = .ok (.invokestatic 255, 3) := by decide +kernel
theorem dL_typed_156 : decode cL_typed 156 = .ok (.istore 10, 2) := by decide +kernel
theorem dL_typed_158 : decode cL_typed 158 = .ok (.iload 4, 2) := by decide +kernel
theorem dL_typed_160 : decode cL_typed 160 = .ok (.iconst 1, 1) := by decide +kernel
theorem dL_typed_161 : decode cL_typed 161 = .ok (.if_icmp .ne 15, 3) := by decide +kernel
theorem dL_typed_164 : decode cL_typed 164 = .ok (.iload 9, 2) := by decide +kernel
theorem dL_typed_166 : decode cL_typed 166 = .ok (.sipush (-1000), 3) := by decide +kernel
theorem dL_typed_169 : decode cL_typed 169 = .ok (.if_icmp .le 7, 3) := by decide +kernel
theorem dL_typed_172 : decode cL_typed 172 = .ok (.iconst 1, 1) := by decide +kernel
theorem dL_typed_173 : decode cL_typed 173 = .ok (.goto 4, 3) := by decide +kernel
theorem dL_typed_176 : decode cL_typed 176 = .ok (.iconst 0, 1) := by decide +kernel
theorem dL_typed_177 : decode cL_typed 177 = .ok (.istore 11, 2) := by decide +kernel
theorem dL_typed_179 : decode cL_typed 179 = .ok (.iload 11, 2) := by decide +kernel
theorem dL_typed_181 : decode cL_typed 181 = .ok (.ifCond .eq 27, 3) := by decide +kernel
theorem dL_typed_184 : decode cL_typed 184 = .ok (.iload 9, 2) := by decide +kernel
theorem dL_typed_186 : decode cL_typed 186 = .ok (.iload 10, 2) := by decide +kernel
theorem dL_typed_188 : decode cL_typed 188 = .ok (.if_icmp .gt 36, 3) := by decide +kernel
theorem dL_typed_191 : decode cL_typed 191 = .ok (.iload 9, 2) := by decide +kernel
theorem dL_typed_193 : decode cL_typed 193 = .ok (.bipush (-99), 2) := by decide +kernel
theorem dL_typed_195 : decode cL_typed 195 = .ok (.if_icmp .lt 29, 3) := by decide +kernel
theorem dL_typed_198 : decode cL_typed 198 = .ok (.iload 10, 2) := by decide +kernel
theorem dL_typed_200 : decode cL_typed 200 = .ok (.bipush 99, 2) := by decide +kernel
theorem dL_typed_202 : decode cL_typed 202 = .ok (.if_icmp .le 24, 3) := by decide +kernel
theorem dL_typed_205 : decode cL_typed 205 = .ok (.goto 19, 3) := by decide +kernel
theorem dL_typed_208 : decode cL_typed 208 = .ok (.iload 9, 2) := by decide +kernel
theorem dL_typed_210 : decode cL_typed 210 = .ok (.sipush (-1004), 3) := by decide +kernel
theorem dL_typed_213 : decode cL_typed 213 = .ok (.if_icmp .ne 11, 3) := by decide +kernel
theorem dL_typed_216 : decode cL_typed 216 = .ok (.iload 10, 2) := by decide +kernel
theorem dL_typed_218 : decode cL_typed 218 = .ok (.sipush (-1004), 3) := by decide +kernel
theorem dL_typed_221 : decode cL_typed 221 = .ok (.if_icmp .eq 5, 3) := by decide +kernel
theorem dL_typed_224 : decode cL_typed 224 = .ok (.iconst 0, 1) := by decide +kernel
theorem dL_typed_225 : decode cL_typed 225 = .ok (.ireturn, 1) := by decide +kernel
theorem dL_typed_226 : decode cL_typed 226 = .ok (.iinc 7 1, 3) := by decide +kernel
theorem dL_typed_229 : decode cL_typed 229 = .ok (.iinc 8 1, 3) := by decide +kernel
theorem dL_typed_232 : decode cL_typed 232 = .ok (.goto (-117), 3) := by decide +kernel
theorem dL_typed_235 : decode cL_typed 235 = .ok (.iload 7, 2) := by decide +kernel
theorem dL_typed_237 : decode cL_typed 237 = .ok (.iload 5, 2) := by decide +kernel
theorem dL_typed_239 : decode cL_typed 239 = .ok (.if_icmp .ne 33, 3) := by decide +kernel
theorem dL_typed_242 : decode cL_typed 242 = .ok (.aload_n 0, 1) := by decide +kernel
theorem dL_typed_243 : decode cL_typed 243 = .ok (.iload_n 3, 1) := by decide +kernel
theorem dL_typed_244 : decode cL_typed 244 = .ok (.iload 5, 2) := by decide +kernel
theorem dL_typed_246 : decode cL_typed 246 = .ok (.iconst 1, 1) := by decide +kernel
theorem dL_typed_247 : decode cL_typed 247 = .ok (.invokestatic 255, 3) := by decide +kernel
theorem dL_typed_250 : decode cL_typed 250 = .ok (.sipush (-1004), 3) := by decide +kernel
theorem dL_typed_253 : decode cL_typed 253 = .ok (.if_icmp .ne 19, 3) := by decide +kernel
theorem dL_typed_256 : decode cL_typed 256 = .ok (.iload 4, 2) := by decide +kernel
theorem dL_typed_258 : decode cL_typed 258 = .ok (.iconst 1, 1) := by decide +kernel
theorem dL_typed_259 : decode cL_typed 259 = .ok (.if_icmp .ne 15, 3) := by decide +kernel
theorem dL_typed_262 : decode cL_typed 262 = .ok (.aload_n 0, 1) := by decide +kernel
theorem dL_typed_263 : decode cL_typed 263 = .ok (.iload_n 3, 1) := by decide +kernel
theorem dL_typed_264 : decode cL_typed 264 = .ok (.invokestatic 258, 3) := by decide +kernel
theorem dL_typed_267 : decode cL_typed 267 = .ok (.bipush (-14), 2) := by decide +kernel
theorem dL_typed_269 : decode cL_typed 269 = .ok (.if_icmp .eq 5, 3) := by decide +kernel
theorem dL_typed_272 : decode cL_typed 272 = .ok (.iconst 0, 1) := by decide +kernel
theorem dL_typed_273 : decode cL_typed 273 = .ok (.ireturn, 1) := by decide +kernel
theorem dL_typed_274 : decode cL_typed 274 = .ok (.iinc 3 1, 3) := by decide +kernel
theorem dL_typed_277 : decode cL_typed 277 = .ok (.goto (-267), 3) := by decide +kernel
theorem dL_typed_280 : decode cL_typed 280 = .ok (.aload_n 0, 1) := by decide +kernel
theorem dL_typed_281 : decode cL_typed 281 = .ok (.invokevirtual 260, 3) := by decide +kernel
theorem dL_typed_284 : decode cL_typed 284 = .ok (.iload_n 1, 1) := by decide +kernel
theorem dL_typed_285 : decode cL_typed 285 = .ok (.if_icmp .ne 76, 3) := by decide +kernel
theorem dL_typed_288 : decode cL_typed 288 = .ok (.aload_n 0, 1) := by decide +kernel
theorem dL_typed_289 : decode cL_typed 289 = .ok (.iconst 2, 1) := by decide +kernel
theorem dL_typed_290 : decode cL_typed 290 = .ok (.invokevirtual 229, 3) := by decide +kernel
theorem dL_typed_293 : decode cL_typed 293 = .ok (.iload_n 1, 1) := by decide +kernel
theorem dL_typed_294 : decode cL_typed 294 = .ok (.if_icmp .ne 67, 3) := by decide +kernel
theorem dL_typed_297 : decode cL_typed 297 = .ok (.aload_n 0, 1) := by decide +kernel
theorem dL_typed_298 : decode cL_typed 298 = .ok (.iload_n 2, 1) := by decide +kernel
theorem dL_typed_299 : decode cL_typed 299 = .ok (.invokestatic 249, 3) := by decide +kernel
theorem dL_typed_302 : decode cL_typed 302 = .ok (.bipush (-11), 2) := by decide +kernel
theorem dL_typed_304 : decode cL_typed 304 = .ok (.if_icmp .ne 57, 3) := by decide +kernel
theorem dL_typed_307 : decode cL_typed 307 = .ok (.aload_n 0, 1) := by decide +kernel
theorem dL_typed_308 : decode cL_typed 308 = .ok (.iconst (-1), 1) := by decide +kernel
theorem dL_typed_309 : decode cL_typed 309 = .ok (.invokestatic 253, 3) := by decide +kernel
theorem dL_typed_312 : decode cL_typed 312 = .ok (.bipush (-11), 2) := by decide +kernel
theorem dL_typed_314 : decode cL_typed 314 = .ok (.if_icmp .ne 47, 3) := by decide +kernel
theorem dL_typed_317 : decode cL_typed 317 = .ok (.aload_n 0, 1) := by decide +kernel
theorem dL_typed_318 : decode cL_typed 318 = .ok (.iload_n 2, 1) := by decide +kernel
theorem dL_typed_319 : decode cL_typed 319 = .ok (.invokestatic 251, 3) := by decide +kernel
theorem dL_typed_322 : decode cL_typed 322 = .ok (.bipush (-11), 2) := by decide +kernel
theorem dL_typed_324 : decode cL_typed 324 = .ok (.if_icmp .ne 37, 3) := by decide +kernel
theorem dL_typed_327 : decode cL_typed 327 = .ok (.aload_n 0, 1) := by decide +kernel
theorem dL_typed_328 : decode cL_typed 328 = .ok (.iload_n 2, 1) := by decide +kernel
theorem dL_typed_329 : decode cL_typed 329 = .ok (.iconst 0, 1) := by decide +kernel
theorem dL_typed_330 : decode cL_typed 330 = .ok (.iconst 1, 1) := by decide +kernel
theorem dL_typed_331 : decode cL_typed 331 = .ok (.invokestatic 255, 3) := by decide +kernel
theorem dL_typed_334 : decode cL_typed 334 = .ok (.sipush (-1001), 3) := by decide +kernel
theorem dL_typed_337 : decode cL_typed 337 = .ok (.if_icmp .ne 24, 3) := by decide +kernel
theorem dL_typed_340 : decode cL_typed 340 = .ok (.iload_n 2, 1) := by decide +kernel
theorem dL_typed_341 : decode cL_typed 341 = .ok (.ifCond .eq 16, 3) := by decide +kernel
theorem dL_typed_344 : decode cL_typed 344 = .ok (.aload_n 0, 1) := by decide +kernel
theorem dL_typed_345 : decode cL_typed 345 = .ok (.invokevirtual 262, 3) := by decide +kernel
theorem dL_typed_348 : decode cL_typed 348 = .ok (.iload_n 1, 1) := by decide +kernel
theorem dL_typed_349 : decode cL_typed 349 = .ok (.i2f, 1) := by decide +kernel
theorem dL_typed_350 : decode cL_typed 350 = .ok (.iload_n 2, 1) := by decide +kernel
theorem dL_typed_351 : decode cL_typed 351 = .ok (.i2f, 1) := by decide +kernel
theorem dL_typed_352 : decode cL_typed 352 = .ok (.fdiv, 1) := by decide +kernel
theorem dL_typed_353 : decode cL_typed 353 = .ok (.fcmp .l, 1) := by decide +kernel
theorem dL_typed_354 : decode cL_typed 354 = .ok (.ifCond .ne 7, 3) := by decide +kernel
theorem dL_typed_357 : decode cL_typed 357 = .ok (.iconst 1, 1) := by decide +kernel
theorem dL_typed_358 : decode cL_typed 358 = .ok (.goto 4, 3) := by decide +kernel
theorem dL_typed_361 : decode cL_typed 361 = .ok (.iconst 0, 1) := by decide +kernel
theorem dL_typed_362 : decode cL_typed 362 = .ok (.ireturn, 1) := by decide +kernel
theorem dL_bits_0 : decode cL_bits 0 = .ok (.aload_n 0, 1) := by decide +kernel
theorem dL_bits_1 : decode cL_bits 1 = .ok (.iconst 0, 1) := by decide +kernel
theorem dL_bits_2 : decode cL_bits 2 = .ok (.invokevirtual 229, 3) := by decide +kernel
theorem dL_bits_5 : decode cL_bits 5 = .ok (.newarray .int, 2) := by decide +kernel
theorem dL_bits_7 : decode cL_bits 7 = .ok (.astore_n 1, 1) := by decide +kernel
theorem dL_bits_8 : decode cL_bits 8 = .ok (.iconst 0, 1) := by decide +kernel
theorem dL_bits_9 : decode cL_bits 9 = .ok (.istore_n 2, 1) := by decide +kernel
theorem dL_bits_10 : decode cL_bits 10 = .ok (.iload_n 2, 1) := by decide +kernel
theorem dL_bits_11 : decode cL_bits 11 = .ok (.aload_n 1, 1) := by decide +kernel
theorem dL_bits_12 : decode cL_bits 12 = .ok (.arraylength, 1) := by decide +kernel
theorem dL_bits_13 : decode cL_bits 13 = .ok (.if_icmp .ge 17, 3) := by decide +kernel
theorem dL_bits_16 : decode cL_bits 16 = .ok (.aload_n 1, 1) := by decide +kernel
theorem dL_bits_17 : decode cL_bits 17 = .ok (.iload_n 2, 1) := by decide +kernel
theorem dL_bits_18 : decode cL_bits 18 = .ok (.aload_n 0, 1) := by decide +kernel
theorem dL_bits_19 : decode cL_bits 19 = .ok (.iload_n 2, 1) := by decide +kernel
theorem dL_bits_20 : decode cL_bits 20 = .ok (.invokevirtual 266, 3) := by decide +kernel
theorem dL_bits_23 : decode cL_bits 23 = .ok (.iastore, 1) := by decide +kernel
theorem dL_bits_24 : decode cL_bits 24 = .ok (.iinc 2 1, 3) := by decide +kernel
theorem dL_bits_27 : decode cL_bits 27 = .ok (.goto (-17), 3) := by decide +kernel
theorem dL_bits_30 : decode cL_bits 30 = .ok (.aload_n 1, 1) := by decide +kernel
theorem dL_bits_31 : decode cL_bits 31 = .ok (.areturn, 1) := by decide +kernel
theorem dL_unlike_0 : decode cL_unlike 0 = .ok (.iconst 0, 1) := by decide +kernel
theorem dL_unlike_1 : decode cL_unlike 1 = .ok (.istore_n 2, 1) := by decide +kernel
theorem dL_unlike_2 : decode cL_unlike 2 = .ok (.iconst 0, 1) := by decide +kernel
theorem dL_unlike_3 : decode cL_unlike 3 = .ok (.istore_n 3, 1) := by decide +kernel
theorem dL_unlike_4 : decode cL_unlike 4 = .ok (.iload_n 3, 1) := by decide +kernel
theorem dL_unlike_5 : decode cL_unlike 5 = .ok (.aload_n 0, 1) := by decide +kernel
theorem dL_unlike_6 : decode cL_unlike 6 = .ok (.arraylength, 1) := by decide +kernel
theorem dL_unlike_7 : decode cL_unlike 7 = .ok (.if_icmp .ge 26, 3) := by decide +kernel
theorem dL_unlike_10 : decode cL_unlike 10 = .ok (.iload_n 2, 1) := by decide +kernel
theorem dL_unlike_11 : decode cL_unlike 11 = .ok (.aload_n 0, 1) := by decide +kernel
theorem dL_unlike_12 : decode cL_unlike 12 = .ok (.iload_n 3, 1) := by decide +kernel
theorem dL_unlike_13 : decode cL_unlike 13 = .ok (.iaload, 1) := by decide +kernel
theorem dL_unlike_14 : decode cL_unlike 14 = .ok (.aload_n 1, 1) := by decide +kernel
theorem dL_unlike_15 : decode cL_unlike 15 = .ok (.iload_n 3, 1) := by decide +kernel
theorem dL_unlike_16 : decode cL_unlike 16 = .ok (.iaload, 1) := by decide +kernel
theorem dL_unlike_17 : decode cL_unlike 17 = .ok (.if_icmp .ne 7, 3) := by decide +kernel
theorem dL_unlike_20 : decode cL_unlike 20 = .ok (.iconst 0, 1) := by decide +kernel
theorem dL_unlike_21 : decode cL_unlike 21 = .ok (.goto 4, 3) := by decide +kernel
theorem dL_unlike_24 : decode cL_unlike 24 = .ok (.iconst 1, 1) := by decide +kernel
theorem dL_unlike_25 : decode cL_unlike 25 = .ok (.iadd, 1) := by decide +kernel
theorem dL_unlike_26 : decode cL_unlike 26 = .ok (.istore_n 2, 1) := by decide +kernel
theorem dL_unlike_27 : decode cL_unlike 27 = .ok (.iinc 3 1, 3) := by decide +kernel
theorem dL_unlike_30 : decode cL_unlike 30 = .ok (.goto (-26), 3) := by decide +kernel
theorem dL_unlike_33 : decode cL_unlike 33 = .ok (.iload_n 2, 1) := by decide +kernel
theorem dL_unlike_34 : decode cL_unlike 34 = .ok (.ireturn, 1) := by decide +kernel
theorem dL_thought_0 : decode cL_thought 0 = .ok (.aload_n 0, 1) := by decide +kernel
theorem dL_thought_1 : decode cL_thought 1 = .ok (.iconst 0, 1) := by decide +kernel
theorem dL_thought_2 : decode cL_thought 2 = .ok (.invokevirtual 229, 3) := by decide +kernel
theorem dL_thought_5 : decode cL_thought 5 = .ok (.istore_n 1, 1) := by decide +kernel
theorem dL_thought_6 : decode cL_thought 6 = .ok (.iconst 0, 1) := by decide +kernel
theorem dL_thought_7 : decode cL_thought 7 = .ok (.istore_n 2, 1) := by decide +kernel
theorem dL_thought_8 : decode cL_thought 8 = .ok (.iload_n 2, 1) := by decide +kernel
theorem dL_thought_9 : decode cL_thought 9 = .ok (.aload_n 0, 1) := by decide +kernel
theorem dL_thought_10 : decode cL_thought 10 = .ok (.iconst 1, 1) := by decide +kernel
theorem dL_thought_11 : decode cL_thought 11 = .ok (.invokevirtual 229, 3) := by decide +kernel
theorem dL_thought_14 : decode cL_thought 14 = .ok (.if_icmp .ge 370, 3) := by decide +kernel
theorem dL_thought_17 : decode cL_thought 17 = .ok (.aload_n 0, 1) := by decide +kernel
theorem dL_thought_18 : decode cL_thought 18 = .ok (.invokestatic 269, 3) := by decide +kernel
theorem dL_thought_21 : decode cL_thought 21 = .ok (.astore_n 3, 1) := by decide +kernel
theorem dL_thought_22 : decode cL_thought 22 = .ok (.iload_n 1, 1) := by decide +kernel
theorem dL_thought_23 : decode cL_thought 23 = .ok (.newarray .int, 2) := by decide +kernel
theorem dL_thought_25 : decode cL_thought 25 = .ok (.astore 4, 2) := by decide +kernel
theorem dL_thought_27 : decode cL_thought 27 = .ok (.iconst 0, 1) := by decide +kernel
theorem dL_thought_28 : decode cL_thought 28 = .ok (.istore 5, 2) := by decide +kernel
theorem dL_thought_30 : decode cL_thought 30 = .ok (.iload 5, 2) := by decide +kernel
theorem dL_thought_32 : decode cL_thought 32 = .ok (.iload_n 1, 1) := by decide +kernel
theorem dL_thought_33 : decode cL_thought 33 = .ok (.if_icmp .ge 38, 3) := by decide +kernel
theorem dL_thought_36 : decode cL_thought 36 = .ok (.aload 4, 2) := by decide +kernel
theorem dL_thought_38 : decode cL_thought 38 = .ok (.iload 5, 2) := by decide +kernel
theorem dL_thought_40 : decode cL_thought 40 = .ok (.aload_n 0, 1) := by decide +kernel
theorem dL_thought_41 : decode cL_thought 41 = .ok (.iload_n 2, 1) := by decide +kernel
theorem dL_thought_42 : decode cL_thought 42 = .ok (.iload 5, 2) := by decide +kernel
theorem dL_thought_44 : decode cL_thought 44 = .ok (.invokestatic 272, 3) := by decide +kernel
theorem dL_thought_47 : decode cL_thought 47 = .ok (.iastore, 1) := by decide +kernel
theorem dL_thought_48 : decode cL_thought 48 = .ok (.aload_n 0, 1) := by decide +kernel
theorem dL_thought_49 : decode cL_thought 49 = .ok (.iload_n 2, 1) := by decide +kernel
theorem dL_thought_50 : decode cL_thought 50 = .ok (.iload 5, 2) := by decide +kernel
theorem dL_thought_52 : decode cL_thought 52 = .ok (.invokestatic 274, 3) := by decide +kernel
theorem dL_thought_55 : decode cL_thought 55 = .ok (.aload 4, 2) := by decide +kernel
theorem dL_thought_57 : decode cL_thought 57 = .ok (.iload 5, 2) := by decide +kernel
theorem dL_thought_59 : decode cL_thought 59 = .ok (.iaload, 1) := by decide +kernel
theorem dL_thought_60 : decode cL_thought 60 = .ok (.if_icmp .eq 5, 3) := by decide +kernel
theorem dL_thought_63 : decode cL_thought 63 = .ok (.iconst 0, 1) := by decide +kernel
theorem dL_thought_64 : decode cL_thought 64 = .ok (.ireturn, 1) := by decide +kernel
theorem dL_thought_65 : decode cL_thought 65 = .ok (.iinc 5 1, 3) := by decide +kernel
theorem dL_thought_68 : decode cL_thought 68 = .ok (.goto (-38), 3) := by decide +kernel
theorem dL_thought_71 : decode cL_thought 71 = .ok (.aload_n 0, 1) := by decide +kernel
theorem dL_thought_72 : decode cL_thought 72 = .ok (.iload_n 2, 1) := by decide +kernel
theorem dL_thought_73 : decode cL_thought 73 = .ok (.invokestatic 258, 3) := by decide +kernel
theorem dL_thought_76 : decode cL_thought 76 = .ok (.istore 5, 2) := by decide +kernel
theorem dL_thought_78 : decode cL_thought 78 = .ok (.aload_n 0, 1) := by decide +kernel
theorem dL_thought_79 : decode cL_thought 79 = .ok (.iload_n 2, 1) := by decide +kernel
theorem dL_thought_80 : decode cL_thought 80 = .ok (.invokestatic 276, 3) := by decide +kernel
theorem dL_thought_83 : decode cL_thought 83 = .ok (.istore 6, 2) := by decide +kernel
theorem dL_thought_85 : decode cL_thought 85 = .ok (.aload_n 0, 1) := by decide +kernel
theorem dL_thought_86 : decode cL_thought 86 = .ok (.bipush 6, 2) := by decide +kernel
theorem dL_thought_88 : decode cL_thought 88 = .ok (.invokevirtual 229, 3) := by decide +kernel
theorem dL_thought_91 : decode cL_thought 91 = .ok (.istore 7, 2) := by decide +kernel
theorem dL_thought_93 : decode cL_thought 93 = .ok (.aload_n 0, 1) := by decide +kernel
theorem dL_thought_94 : decode cL_thought 94 = .ok (.iload_n 2, 1) := by decide +kernel
theorem dL_thought_95 : decode cL_thought 95 = .ok (.invokestatic 278, 3) := by decide +kernel
theorem dL_thought_98 : decode cL_thought 98 = .ok (.istore 8, 2) := by decide +kernel
theorem dL_thought_100 : decode cL_thought 100 = .ok (.iload 5, 2) := by decide +kernel
theorem dL_thought_102 : decode cL_thought 102 = .ok (.ifCond .lt 87, 3) := by decide +kernel
theorem dL_thought_105 : decode cL_thought 105 = .ok (.iload 8, 2) := by decide +kernel
theorem dL_thought_107 : decode cL_thought 107 = .ok (.bipush (-2), 2) := by decide +kernel
theorem dL_thought_109 : decode cL_thought 109 = .ok (.if_icmp .ne 67, 3) := by decide +kernel
theorem dL_thought_112 : decode cL_thought 112 = .ok (.aload 4, 2) := by decide +kernel
theorem dL_thought_114 : decode cL_thought 114 = .ok (.iconst 0, 1) := by decide +kernel
theorem dL_thought_115 : decode cL_thought 115 = .ok (.iaload, 1) := by decide +kernel
theorem dL_thought_116 : decode cL_thought 116 = .ok (.ldc 84, 2) := by decide +kernel
theorem dL_thought_118 : decode cL_thought 118 = .ok (.if_icmp .ne 58, 3) := by decide +kernel
theorem dL_thought_121 : decode cL_thought 121 = .ok (.iload 6, 2) := by decide +kernel
theorem dL_thought_123 : decode cL_thought 123 = .ok (.ifCond .ne 53, 3) := by decide +kernel
theorem dL_thought_126 : decode cL_thought 126 = .ok (.aload_n 3, 1) := by decide +kernel
theorem dL_thought_127 : decode cL_thought 127 = .ok (.aload_n 0, 1) := by decide +kernel
theorem dL_thought_128 : decode cL_thought 128 = .ok (.invokestatic 269, 3) := by decide +kernel
theorem dL_thought_131 : decode cL_thought 131 = .ok (.invokestatic 280, 3) := by decide +kernel
theorem dL_thought_134 : decode cL_thought 134 = .ok (.ifCond .ne 42, 3) := by decide +kernel
theorem dL_thought_137 : decode cL_thought 137 = .ok (.aload_n 0, 1) := by decide +kernel
theorem dL_thought_138 : decode cL_thought 138 = .ok (.bipush 6, 2) := by decide +kernel
theorem dL_thought_140 : decode cL_thought 140 = .ok (.invokevirtual 229, 3) := by decide +kernel
theorem dL_thought_143 : decode cL_thought 143 = .ok (.iload 7, 2) := by decide +kernel
theorem dL_thought_145 : decode cL_thought 145 = .ok (.iconst 1, 1) := by decide +kernel
theorem dL_thought_146 : decode cL_thought 146 = .ok (.iadd, 1) := by decide +kernel
theorem dL_thought_147 : decode cL_thought 147 = .ok (.if_icmp .ne 29, 3) := by decide +kernel
theorem dL_thought_150 : decode cL_thought 150 = .ok (.aload_n 0, 1) := by decide +kernel
theorem dL_thought_151 : decode cL_thought 151 = .ok (.iconst 0, 1) := by decide +kernel
theorem dL_thought_152 : decode cL_thought 152 = .ok (.iconst 0, 1) := by decide +kernel
theorem dL_thought_153 : decode cL_thought 153 = .ok (.invokestatic 284, 3) := by decide +kernel
theorem dL_thought_156 : decode cL_thought 156 = .ok (.bipush 6, 2) := by decide +kernel
theorem dL_thought_158 : decode cL_thought 158 = .ok (.if_icmp .ne 18, 3) := by decide +kernel
theorem dL_thought_161 : decode cL_thought 161 = .ok (.aload_n 0, 1) := by decide +kernel
theorem dL_thought_162 : decode cL_thought 162 = .ok (.iconst 0, 1) := by decide +kernel
theorem dL_thought_163 : decode cL_thought 163 = .ok (.iconst 1, 1) := by decide +kernel
theorem dL_thought_164 : decode cL_thought 164 = .ok (.invokestatic 284, 3) := by decide +kernel
theorem dL_thought_167 : decode cL_thought 167 = .ok (.iload 5, 2) := by decide +kernel
theorem dL_thought_169 : decode cL_thought 169 = .ok (.if_icmp .ne 7, 3) := by decide +kernel
theorem dL_thought_172 : decode cL_thought 172 = .ok (.iconst 1, 1) := by decide +kernel
theorem dL_thought_173 : decode cL_thought 173 = .ok (.goto 4, 3) := by decide +kernel
theorem dL_thought_176 : decode cL_thought 176 = .ok (.iconst 0, 1) := by decide +kernel
theorem dL_thought_177 : decode cL_thought 177 = .ok (.istore 9, 2) := by decide +kernel
theorem dL_thought_179 : decode cL_thought 179 = .ok (.iload 9, 2) := by decide +kernel
theorem dL_thought_181 : decode cL_thought 181 = .ok (.ifCond .ne 5, 3) := by decide +kernel
theorem dL_thought_184 : decode cL_thought 184 = .ok (.iconst 0, 1) := by decide +kernel
theorem dL_thought_185 : decode cL_thought 185 = .ok (.ireturn, 1) := by decide +kernel
theorem dL_thought_186 : decode cL_thought 186 = .ok (.goto 192, 3) := by decide +kernel
theorem dL_thought_189 : decode cL_thought 189 = .ok (.iload 8, 2) := by decide +kernel
theorem dL_thought_191 : decode cL_thought 191 = .ok (.aload_n 3, 1) := by decide +kernel
theorem dL_thought_192 : decode cL_thought 192 = .ok (.aload_n 0, 1) := by decide +kernel
theorem dL_thought_193 : decode cL_thought 193 = .ok (.invokestatic 269, 3) := by decide +kernel
theorem dL_thought_196 : decode cL_thought 196 = .ok (.invokestatic 280, 3) := by decide +kernel
theorem dL_thought_199 : decode cL_thought 199 = .ok (.if_icmp .ne 40, 3) := by decide +kernel
theorem dL_thought_202 : decode cL_thought 202 = .ok (.iload 8, 2) := by decide +kernel
theorem dL_thought_204 : decode cL_thought 204 = .ok (.ifCond .ne 7, 3) := by decide +kernel
theorem dL_thought_207 : decode cL_thought 207 = .ok (.iconst 1, 1) := by decide +kernel
theorem dL_thought_208 : decode cL_thought 208 = .ok (.goto 4, 3) := by decide +kernel
theorem dL_thought_211 : decode cL_thought 211 = .ok (.iconst 0, 1) := by decide +kernel
theorem dL_thought_212 : decode cL_thought 212 = .ok (.iload 6, 2) := by decide +kernel
theorem dL_thought_214 : decode cL_thought 214 = .ok (.ifCond .ne 7, 3) := by decide +kernel
theorem dL_thought_217 : decode cL_thought 217 = .ok (.iconst 1, 1) := by decide +kernel
theorem dL_thought_218 : decode cL_thought 218 = .ok (.goto 4, 3) := by decide +kernel
theorem dL_thought_221 : decode cL_thought 221 = .ok (.iconst 0, 1) := by decide +kernel
theorem dL_thought_222 : decode cL_thought 222 = .ok (.if_icmp .ne 17, 3) := by decide +kernel
theorem dL_thought_225 : decode cL_thought 225 = .ok (.aload_n 0, 1) := by decide +kernel
theorem dL_thought_226 : decode cL_thought 226 = .ok (.iload_n 2, 1) := by decide +kernel
theorem dL_thought_227 : decode cL_thought 227 = .ok (.iconst 4, 1) := by decide +kernel
theorem dL_thought_228 : decode cL_thought 228 = .ok (.invokestatic 247, 3) := by decide +kernel
theorem dL_thought_231 : decode cL_thought 231 = .ok (.iconst 1, 1) := by decide +kernel
theorem dL_thought_232 : decode cL_thought 232 = .ok (.if_icmp .ne 7, 3) := by decide +kernel
theorem dL_thought_235 : decode cL_thought 235 = .ok (.iconst 1, 1) := by decide +kernel
theorem dL_thought_236 : decode cL_thought 236 = .ok (.goto 4, 3) := by decide +kernel
theorem dL_thought_239 : decode cL_thought 239 = .ok (.iconst 0, 1) := by decide +kernel
theorem dL_thought_240 : decode cL_thought 240 = .ok (.istore 9, 2) := by decide +kernel
theorem dL_thought_242 : decode cL_thought 242 = .ok (.iconst 0, 1) := by decide +kernel
theorem dL_thought_243 : decode cL_thought 243 = .ok (.istore 10, 2) := by decide +kernel
theorem dL_thought_245 : decode cL_thought 245 = .ok (.iload 10, 2) := by decide +kernel
theorem dL_thought_247 : decode cL_thought 247 = .ok (.iload_n 1, 1) := by decide +kernel
theorem dL_thought_248 : decode cL_thought 248 = .ok (.if_icmp .ge 36, 3) := by decide +kernel
theorem dL_thought_251 : decode cL_thought 251 = .ok (.iload 9, 2) := by decide +kernel
theorem dL_thought_253 : decode cL_thought 253 = .ok (.ifCond .eq 22, 3) := by decide +kernel
theorem dL_thought_256 : decode cL_thought 256 = .ok (.aload_n 0, 1) := by decide +kernel
theorem dL_thought_257 : decode cL_thought 257 = .ok (.iload 10, 2) := by decide +kernel
theorem dL_thought_259 : decode cL_thought 259 = .ok (.iconst 3, 1) := by decide +kernel
theorem dL_thought_260 : decode cL_thought 260 = .ok (.invokestatic 186, 3) := by decide +kernel
theorem dL_thought_263 : decode cL_thought 263 = .ok (.aload 4, 2) := by decide +kernel
theorem dL_thought_265 : decode cL_thought 265 = .ok (.iload 10, 2) := by decide +kernel
theorem dL_thought_267 : decode cL_thought 267 = .ok (.iaload, 1) := by decide +kernel
theorem dL_thought_268 : decode cL_thought 268 = .ok (.if_icmp .ne 7, 3) := by decide +kernel
theorem dL_thought_271 : decode cL_thought 271 = .ok (.iconst 1, 1) := by decide +kernel
theorem dL_thought_272 : decode cL_thought 272 = .ok (.goto 4, 3) := by decide +kernel
theorem dL_thought_275 : decode cL_thought 275 = .ok (.iconst 0, 1) := by decide +kernel
theorem dL_thought_276 : decode cL_thought 276 = .ok (.istore 9, 2) := by decide +kernel
theorem dL_thought_278 : decode cL_thought 278 = .ok (.iinc 10 1, 3) := by decide +kernel
theorem dL_thought_281 : decode cL_thought 281 = .ok (.goto (-36), 3) := by decide +kernel
theorem dL_thought_284 : decode cL_thought 284 = .ok (.aload_n 0, 1) := by decide +kernel
theorem dL_thought_285 : decode cL_thought 285 = .ok (.iload_n 2, 1) := by decide +kernel
theorem dL_thought_286 : decode cL_thought 286 = .ok (.invokestatic 276, 3) := by decide +kernel
theorem dL_thought_289 : decode cL_thought 289 = .ok (.istore 10, 2) := by decide +kernel
theorem dL_thought_291 : decode cL_thought 291 = .ok (.iload 9, 2) := by decide +kernel
theorem dL_thought_293 : decode cL_thought 293 = .ok (.ifCond .eq 46, 3) := by decide +kernel
theorem dL_thought_296 : decode cL_thought 296 = .ok (.iload 6, 2) := by decide +kernel
theorem dL_thought_298 : decode cL_thought 298 = .ok (.ifCond .ne 11, 3) := by decide +kernel
theorem dL_thought_301 : decode cL_thought 301 = .ok (.iload 10, 2) := by decide +kernel
theorem dL_thought_303 : decode cL_thought 303 = .ok (.ifCond .ne 36, 3) := by decide +kernel
theorem dL_thought_306 : decode cL_thought 306 = .ok (.goto 29, 3) := by decide +kernel
theorem dL_thought_309 : decode cL_thought 309 = .ok (.iload 6, 2) := by decide +kernel
theorem dL_thought_311 : decode cL_thought 311 = .ok (.bipush 50, 2) := by decide +kernel
theorem dL_thought_313 : decode cL_thought 313 = .ok (.if_icmp .ne 13, 3) := by decide +kernel
theorem dL_thought_316 : decode cL_thought 316 = .ok (.iload 10, 2) := by decide +kernel
theorem dL_thought_318 : decode cL_thought 318 = .ok (.bipush 49, 2) := by decide +kernel
theorem dL_thought_320 : decode cL_thought 320 = .ok (.if_icmp .lt 19, 3) := by decide +kernel
theorem dL_thought_323 : decode cL_thought 323 = .ok (.goto 12, 3) := by decide +kernel
theorem dL_thought_326 : decode cL_thought 326 = .ok (.iload 10, 2) := by decide +kernel
theorem dL_thought_328 : decode cL_thought 328 = .ok (.iload 6, 2) := by decide +kernel
theorem dL_thought_330 : decode cL_thought 330 = .ok (.iconst 1, 1) := by decide +kernel
theorem dL_thought_331 : decode cL_thought 331 = .ok (.isub, 1) := by decide +kernel
theorem dL_thought_332 : decode cL_thought 332 = .ok (.if_icmp .ne 7, 3) := by decide +kernel
theorem dL_thought_335 : decode cL_thought 335 = .ok (.iconst 1, 1) := by decide +kernel
theorem dL_thought_336 : decode cL_thought 336 = .ok (.goto 4, 3) := by decide +kernel
theorem dL_thought_339 : decode cL_thought 339 = .ok (.iconst 0, 1) := by decide +kernel
theorem dL_thought_340 : decode cL_thought 340 = .ok (.istore 9, 2) := by decide +kernel
theorem dL_thought_342 : decode cL_thought 342 = .ok (.iload 9, 2) := by decide +kernel
theorem dL_thought_344 : decode cL_thought 344 = .ok (.ifCond .eq 32, 3) := by decide +kernel
theorem dL_thought_347 : decode cL_thought 347 = .ok (.aload_n 0, 1) := by decide +kernel
theorem dL_thought_348 : decode cL_thought 348 = .ok (.invokestatic 287, 3) := by decide +kernel
theorem dL_thought_351 : decode cL_thought 351 = .ok (.ifCond .lt 25, 3) := by decide +kernel
theorem dL_thought_354 : decode cL_thought 354 = .ok (.aload_n 3, 1) := by decide +kernel
theorem dL_thought_355 : decode cL_thought 355 = .ok (.aload_n 0, 1) := by decide +kernel
theorem dL_thought_356 : decode cL_thought 356 = .ok (.invokestatic 269, 3) := by decide +kernel
theorem dL_thought_359 : decode cL_thought 359 = .ok (.invokestatic 280, 3) := by decide +kernel
theorem dL_thought_362 : decode cL_thought 362 = .ok (.ifCond .gt 14, 3) := by decide +kernel
theorem dL_thought_365 : decode cL_thought 365 = .ok (.aload_n 0, 1) := by decide +kernel
theorem dL_thought_366 : decode cL_thought 366 = .ok (.bipush 6, 2) := by decide +kernel
theorem dL_thought_368 : decode cL_thought 368 = .ok (.invokevirtual 229, 3) := by decide +kernel
theorem dL_thought_371 : decode cL_thought 371 = .ok (.iload 7, 2) := by decide +kernel
theorem dL_thought_373 : decode cL_thought 373 = .ok (.if_icmp .eq 5, 3) := by decide +kernel
theorem dL_thought_376 : decode cL_thought 376 = .ok (.iconst 0, 1) := by decide +kernel
theorem dL_thought_377 : decode cL_thought 377 = .ok (.ireturn, 1) := by decide +kernel
theorem dL_thought_378 : decode cL_thought 378 = .ok (.iinc 2 1, 3) := by decide +kernel
theorem dL_thought_381 : decode cL_thought 381 = .ok (.goto (-373), 3) := by decide +kernel
theorem dL_thought_384 : decode cL_thought 384 = .ok (.aload_n 0, 1) := by decide +kernel
theorem dL_thought_385 : decode cL_thought 385 = .ok (.aload_n 0, 1) := by decide +kernel
theorem dL_thought_386 : decode cL_thought 386 = .ok (.iconst 1, 1) := by decide +kernel
theorem dL_thought_387 : decode cL_thought 387 = .ok (.invokevirtual 229, 3) := by decide +kernel
theorem dL_thought_390 : decode cL_thought 390 = .ok (.iconst 0, 1) := by decide +kernel
theorem dL_thought_391 : decode cL_thought 391 = .ok (.invokestatic 272, 3) := by decide +kernel
theorem dL_thought_394 : decode cL_thought 394 = .ok (.ldc 83, 2) := by decide +kernel
theorem dL_thought_396 : decode cL_thought 396 = .ok (.if_icmp .ne 49, 3) := by decide +kernel
theorem dL_thought_399 : decode cL_thought 399 = .ok (.aload_n 0, 1) := by decide +kernel
theorem dL_thought_400 : decode cL_thought 400 = .ok (.iconst 0, 1) := by decide +kernel
theorem dL_thought_401 : decode cL_thought 401 = .ok (.iload_n 1, 1) := by decide +kernel
theorem dL_thought_402 : decode cL_thought 402 = .ok (.invokestatic 274, 3) := by decide +kernel
theorem dL_thought_405 : decode cL_thought 405 = .ok (.ldc 83, 2) := by decide +kernel
theorem dL_thought_407 : decode cL_thought 407 = .ok (.if_icmp .ne 38, 3) := by decide +kernel
theorem dL_thought_410 : decode cL_thought 410 = .ok (.aload_n 0, 1) := by decide +kernel
theorem dL_thought_411 : decode cL_thought 411 = .ok (.iconst (-1), 1) := by decide +kernel
theorem dL_thought_412 : decode cL_thought 412 = .ok (.invokestatic 258, 3) := by decide +kernel
theorem dL_thought_415 : decode cL_thought 415 = .ok (.bipush (-11), 2) := by decide +kernel
theorem dL_thought_417 : decode cL_thought 417 = .ok (.if_icmp .ne 28, 3) := by decide +kernel
theorem dL_thought_420 : decode cL_thought 420 = .ok (.aload_n 0, 1) := by decide +kernel
theorem dL_thought_421 : decode cL_thought 421 = .ok (.aload_n 0, 1) := by decide +kernel
theorem dL_thought_422 : decode cL_thought 422 = .ok (.iconst 1, 1) := by decide +kernel
theorem dL_thought_423 : decode cL_thought 423 = .ok (.invokevirtual 229, 3) := by decide +kernel
theorem dL_thought_426 : decode cL_thought 426 = .ok (.invokestatic 276, 3) := by decide +kernel
theorem dL_thought_429 : decode cL_thought 429 = .ok (.bipush (-11), 2) := by decide +kernel
theorem dL_thought_431 : decode cL_thought 431 = .ok (.if_icmp .ne 14, 3) := by decide +kernel
theorem dL_thought_434 : decode cL_thought 434 = .ok (.aload_n 0, 1) := by decide +kernel
theorem dL_thought_435 : decode cL_thought 435 = .ok (.invokevirtual 289, 3) := by decide +kernel
theorem dL_thought_438 : decode cL_thought 438 = .ok (.ifCond .eq 7, 3) := by decide +kernel
theorem dL_thought_441 : decode cL_thought 441 = .ok (.iconst 1, 1) := by decide +kernel
theorem dL_thought_442 : decode cL_thought 442 = .ok (.goto 4, 3) := by decide +kernel
theorem dL_thought_445 : decode cL_thought 445 = .ok (.iconst 0, 1) := by decide +kernel
theorem dL_thought_446 : decode cL_thought 446 = .ok (.ireturn, 1) := by decide +kernel
theorem dL_ranks_0 : decode cL_ranks 0 = .ok (.aload_n 0, 1) := by decide +kernel
theorem dL_ranks_1 : decode cL_ranks 1 = .ok (.iconst 1, 1) := by decide +kernel
theorem dL_ranks_2 : decode cL_ranks 2 = .ok (.invokevirtual 229, 3) := by decide +kernel
theorem dL_ranks_5 : decode cL_ranks 5 = .ok (.istore_n 1, 1) := by decide +kernel
theorem dL_ranks_6 : decode cL_ranks 6 = .ok (.iconst (-1), 1) := by decide +kernel
theorem dL_ranks_7 : decode cL_ranks 7 = .ok (.istore_n 2, 1) := by decide +kernel
theorem dL_ranks_8 : decode cL_ranks 8 = .ok (.iconst 0, 1) := by decide +kernel
theorem dL_ranks_9 : decode cL_ranks 9 = .ok (.istore_n 3, 1) := by decide +kernel
theorem dL_ranks_10 : decode cL_ranks 10 = .ok (.iload_n 3, 1) := by decide +kernel
theorem dL_ranks_11 : decode cL_ranks 11 = .ok (.iload_n 1, 1) := by decide +kernel
theorem dL_ranks_12 : decode cL_ranks 12 = .ok (.if_icmp .ge 96, 3) := by decide +kernel
theorem dL_ranks_15 : decode cL_ranks 15 = .ok (.aload_n 0, 1) := by decide +kernel
theorem dL_ranks_16 : decode cL_ranks 16 = .ok (.iload_n 3, 1) := by decide +kernel
theorem dL_ranks_17 : decode cL_ranks 17 = .ok (.invokestatic 293, 3) := by decide +kernel
theorem dL_ranks_20 : decode cL_ranks 20 = .ok (.istore 4, 2) := by decide +kernel
theorem dL_ranks_22 : decode cL_ranks 22 = .ok (.iload 4, 2) := by decide +kernel
theorem dL_ranks_24 : decode cL_ranks 24 = .ok (.ifCond .ge 7, 3) := by decide +kernel
theorem dL_ranks_27 : decode cL_ranks 27 = .ok (.iconst (-1), 1) := by decide +kernel
theorem dL_ranks_28 : decode cL_ranks 28 = .ok (.goto 25, 3) := by decide +kernel
theorem dL_ranks_31 : decode cL_ranks 31 = .ok (.iload_n 2, 1) := by decide +kernel
theorem dL_ranks_32 : decode cL_ranks 32 = .ok (.ifCond .ge 7, 3) := by decide +kernel
theorem dL_ranks_35 : decode cL_ranks 35 = .ok (.iconst 1, 1) := by decide +kernel
theorem dL_ranks_36 : decode cL_ranks 36 = .ok (.goto 17, 3) := by decide +kernel
theorem dL_ranks_39 : decode cL_ranks 39 = .ok (.aload_n 0, 1) := by decide +kernel
theorem dL_ranks_40 : decode cL_ranks 40 = .ok (.iload 4, 2) := by decide +kernel
theorem dL_ranks_42 : decode cL_ranks 42 = .ok (.iconst 0, 1) := by decide +kernel
theorem dL_ranks_43 : decode cL_ranks 43 = .ok (.invokestatic 247, 3) := by decide +kernel
theorem dL_ranks_46 : decode cL_ranks 46 = .ok (.aload_n 0, 1) := by decide +kernel
theorem dL_ranks_47 : decode cL_ranks 47 = .ok (.iload_n 2, 1) := by decide +kernel
theorem dL_ranks_48 : decode cL_ranks 48 = .ok (.iconst 0, 1) := by decide +kernel
theorem dL_ranks_49 : decode cL_ranks 49 = .ok (.invokestatic 247, 3) := by decide +kernel
theorem dL_ranks_52 : decode cL_ranks 52 = .ok (.isub, 1) := by decide +kernel
theorem dL_ranks_53 : decode cL_ranks 53 = .ok (.istore 5, 2) := by decide +kernel
theorem dL_ranks_55 : decode cL_ranks 55 = .ok (.iload 5, 2) := by decide +kernel
theorem dL_ranks_57 : decode cL_ranks 57 = .ok (.ifCond .eq 8, 3) := by decide +kernel
theorem dL_ranks_60 : decode cL_ranks 60 = .ok (.iload 5, 2) := by decide +kernel
theorem dL_ranks_62 : decode cL_ranks 62 = .ok (.goto 17, 3) := by decide +kernel
theorem dL_ranks_65 : decode cL_ranks 65 = .ok (.aload_n 0, 1) := by decide +kernel
theorem dL_ranks_66 : decode cL_ranks 66 = .ok (.iload_n 2, 1) := by decide +kernel
theorem dL_ranks_67 : decode cL_ranks 67 = .ok (.iconst 1, 1) := by decide +kernel
theorem dL_ranks_68 : decode cL_ranks 68 = .ok (.invokestatic 247, 3) := by decide +kernel
theorem dL_ranks_71 : decode cL_ranks 71 = .ok (.aload_n 0, 1) := by decide +kernel
theorem dL_ranks_72 : decode cL_ranks 72 = .ok (.iload 4, 2) := by decide +kernel
theorem dL_ranks_74 : decode cL_ranks 74 = .ok (.iconst 1, 1) := by decide +kernel
theorem dL_ranks_75 : decode cL_ranks 75 = .ok (.invokestatic 247, 3) := by decide +kernel
theorem dL_ranks_78 : decode cL_ranks 78 = .ok (.isub, 1) := by decide +kernel
theorem dL_ranks_79 : decode cL_ranks 79 = .ok (.istore 5, 2) := by decide +kernel
theorem dL_ranks_81 : decode cL_ranks 81 = .ok (.iload 5, 2) := by decide +kernel
theorem dL_ranks_83 : decode cL_ranks 83 = .ok (.ifCond .lt 14, 3) := by decide +kernel
theorem dL_ranks_86 : decode cL_ranks 86 = .ok (.iload 5, 2) := by decide +kernel
theorem dL_ranks_88 : decode cL_ranks 88 = .ok (.ifCond .ne 11, 3) := by decide +kernel
theorem dL_ranks_91 : decode cL_ranks 91 = .ok (.iload 4, 2) := by decide +kernel
theorem dL_ranks_93 : decode cL_ranks 93 = .ok (.iload_n 2, 1) := by decide +kernel
theorem dL_ranks_94 : decode cL_ranks 94 = .ok (.if_icmp .ge 5, 3) := by decide +kernel
theorem dL_ranks_97 : decode cL_ranks 97 = .ok (.iconst 0, 1) := by decide +kernel
theorem dL_ranks_98 : decode cL_ranks 98 = .ok (.ireturn, 1) := by decide +kernel
theorem dL_ranks_99 : decode cL_ranks 99 = .ok (.iload 4, 2) := by decide +kernel
theorem dL_ranks_101 : decode cL_ranks 101 = .ok (.istore_n 2, 1) := by decide +kernel
theorem dL_ranks_102 : decode cL_ranks 102 = .ok (.iinc 3 1, 3) := by decide +kernel
theorem dL_ranks_105 : decode cL_ranks 105 = .ok (.goto (-95), 3) := by decide +kernel
theorem dL_ranks_108 : decode cL_ranks 108 = .ok (.bipush (-14), 2) := by decide +kernel
theorem dL_ranks_110 : decode cL_ranks 110 = .ok (.istore_n 3, 1) := by decide +kernel
theorem dL_ranks_111 : decode cL_ranks 111 = .ok (.iconst 0, 1) := by decide +kernel
theorem dL_ranks_112 : decode cL_ranks 112 = .ok (.istore 4, 2) := by decide +kernel
theorem dL_ranks_114 : decode cL_ranks 114 = .ok (.iconst 0, 1) := by decide +kernel
theorem dL_ranks_115 : decode cL_ranks 115 = .ok (.istore 5, 2) := by decide +kernel
theorem dL_ranks_117 : decode cL_ranks 117 = .ok (.dconst 0, 1) := by decide +kernel
theorem dL_ranks_118 : decode cL_ranks 118 = .ok (.dstore 6, 2) := by decide +kernel
theorem dL_ranks_120 : decode cL_ranks 120 = .ok (.iconst 0, 1) := by decide +kernel
theorem dL_ranks_121 : decode cL_ranks 121 = .ok (.istore 8, 2) := by decide +kernel
theorem dL_ranks_123 : decode cL_ranks 123 = .ok (.iload 8, 2) := by decide +kernel
theorem dL_ranks_125 : decode cL_ranks 125 = .ok (.aload_n 0, 1) := by decide +kernel
theorem dL_ranks_126 : decode cL_ranks 126 = .ok (.iconst 0, 1) := by decide +kernel
theorem dL_ranks_127 : decode cL_ranks 127 = .ok (.invokevirtual 229, 3) := by decide +kernel
theorem dL_ranks_130 : decode cL_ranks 130 = .ok (.if_icmp .ge 141, 3) := by decide +kernel
theorem dL_ranks_133 : decode cL_ranks 133 = .ok (.aload_n 0, 1) := by decide +kernel
theorem dL_ranks_134 : decode cL_ranks 134 = .ok (.iload 8, 2) := by decide +kernel
theorem dL_ranks_136 : decode cL_ranks 136 = .ok (.iconst 0, 1) := by decide +kernel
theorem dL_ranks_137 : decode cL_ranks 137 = .ok (.invokestatic 186, 3) := by decide +kernel
theorem dL_ranks_140 : decode cL_ranks 140 = .ok (.iconst 1, 1) := by decide +kernel
theorem dL_ranks_141 : decode cL_ranks 141 = .ok (.if_icmp .ne 7, 3) := by decide +kernel
theorem dL_ranks_144 : decode cL_ranks 144 = .ok (.iconst 1, 1) := by decide +kernel
theorem dL_ranks_145 : decode cL_ranks 145 = .ok (.goto 4, 3) := by decide +kernel
theorem dL_ranks_148 : decode cL_ranks 148 = .ok (.iconst 0, 1) := by decide +kernel
theorem dL_ranks_149 : decode cL_ranks 149 = .ok (.istore 9, 2) := by decide +kernel
theorem dL_ranks_151 : decode cL_ranks 151 = .ok (.aload_n 0, 1) := by decide +kernel
theorem dL_ranks_152 : decode cL_ranks 152 = .ok (.iload 8, 2) := by decide +kernel
theorem dL_ranks_154 : decode cL_ranks 154 = .ok (.iconst 2, 1) := by decide +kernel
theorem dL_ranks_155 : decode cL_ranks 155 = .ok (.invokestatic 186, 3) := by decide +kernel
theorem dL_ranks_158 : decode cL_ranks 158 = .ok (.aload_n 0, 1) := by decide +kernel
theorem dL_ranks_159 : decode cL_ranks 159 = .ok (.iload 8, 2) := by decide +kernel
theorem dL_ranks_161 : decode cL_ranks 161 = .ok (.iconst 1, 1) := by decide +kernel
theorem dL_ranks_162 : decode cL_ranks 162 = .ok (.invokestatic 186, 3) := by decide +kernel
theorem dL_ranks_165 : decode cL_ranks 165 = .ok (.isub, 1) := by decide +kernel
theorem dL_ranks_166 : decode cL_ranks 166 = .ok (.istore 10, 2) := by decide +kernel
theorem dL_ranks_168 : decode cL_ranks 168 = .ok (.iload_n 3, 1) := by decide +kernel
theorem dL_ranks_169 : decode cL_ranks 169 = .ok (.ifCond .lt 21, 3) := by decide +kernel
theorem dL_ranks_172 : decode cL_ranks 172 = .ok (.iload 10, 2) := by decide +kernel
theorem dL_ranks_174 : decode cL_ranks 174 = .ok (.aload_n 0, 1) := by decide +kernel
theorem dL_ranks_175 : decode cL_ranks 175 = .ok (.iload_n 3, 1) := by decide +kernel
theorem dL_ranks_176 : decode cL_ranks 176 = .ok (.iconst 2, 1) := by decide +kernel
theorem dL_ranks_177 : decode cL_ranks 177 = .ok (.invokestatic 186, 3) := by decide +kernel
theorem dL_ranks_180 : decode cL_ranks 180 = .ok (.aload_n 0, 1) := by decide +kernel
theorem dL_ranks_181 : decode cL_ranks 181 = .ok (.iload_n 3, 1) := by decide +kernel
theorem dL_ranks_182 : decode cL_ranks 182 = .ok (.iconst 1, 1) := by decide +kernel
theorem dL_ranks_183 : decode cL_ranks 183 = .ok (.invokestatic 186, 3) := by decide +kernel
theorem dL_ranks_186 : decode cL_ranks 186 = .ok (.isub, 1) := by decide +kernel
theorem dL_ranks_187 : decode cL_ranks 187 = .ok (.if_icmp .le 7, 3) := by decide +kernel
theorem dL_ranks_190 : decode cL_ranks 190 = .ok (.iconst 1, 1) := by decide +kernel
theorem dL_ranks_191 : decode cL_ranks 191 = .ok (.goto 4, 3) := by decide +kernel
theorem dL_ranks_194 : decode cL_ranks 194 = .ok (.iconst 0, 1) := by decide +kernel
theorem dL_ranks_195 : decode cL_ranks 195 = .ok (.istore 11, 2) := by decide +kernel
theorem dL_ranks_197 : decode cL_ranks 197 = .ok (.iload 9, 2) := by decide +kernel
theorem dL_ranks_199 : decode cL_ranks 199 = .ok (.ifCond .ne 13, 3) := by decide +kernel
theorem dL_ranks_202 : decode cL_ranks 202 = .ok (.iload 11, 2) := by decide +kernel
theorem dL_ranks_204 : decode cL_ranks 204 = .ok (.ifCond .eq 8, 3) := by decide +kernel
theorem dL_ranks_207 : decode cL_ranks 207 = .ok (.iload 8, 2) := by decide +kernel
theorem dL_ranks_209 : decode cL_ranks 209 = .ok (.goto 4, 3) := by decide +kernel
theorem dL_ranks_212 : decode cL_ranks 212 = .ok (.iload_n 3, 1) := by decide +kernel
theorem dL_ranks_213 : decode cL_ranks 213 = .ok (.istore_n 3, 1) := by decide +kernel
theorem dL_ranks_214 : decode cL_ranks 214 = .ok (.iload 4, 2) := by decide +kernel
theorem dL_ranks_216 : decode cL_ranks 216 = .ok (.iload 9, 2) := by decide +kernel
theorem dL_ranks_218 : decode cL_ranks 218 = .ok (.ifCond .eq 7, 3) := by decide +kernel
theorem dL_ranks_221 : decode cL_ranks 221 = .ok (.iconst 1, 1) := by decide +kernel
theorem dL_ranks_222 : decode cL_ranks 222 = .ok (.goto 4, 3) := by decide +kernel
theorem dL_ranks_225 : decode cL_ranks 225 = .ok (.iconst 0, 1) := by decide +kernel
theorem dL_ranks_226 : decode cL_ranks 226 = .ok (.iadd, 1) := by decide +kernel
theorem dL_ranks_227 : decode cL_ranks 227 = .ok (.istore 4, 2) := by decide +kernel
theorem dL_ranks_229 : decode cL_ranks 229 = .ok (.iload 5, 2) := by decide +kernel
theorem dL_ranks_231 : decode cL_ranks 231 = .ok (.iload 9, 2) := by decide +kernel
theorem dL_ranks_233 : decode cL_ranks 233 = .ok (.ifCond .eq 7, 3) := by decide +kernel
theorem dL_ranks_236 : decode cL_ranks 236 = .ok (.iconst 0, 1) := by decide +kernel
theorem dL_ranks_237 : decode cL_ranks 237 = .ok (.goto 10, 3) := by decide +kernel
theorem dL_ranks_240 : decode cL_ranks 240 = .ok (.aload_n 0, 1) := by decide +kernel
theorem dL_ranks_241 : decode cL_ranks 241 = .ok (.iload 8, 2) := by decide +kernel
theorem dL_ranks_243 : decode cL_ranks 243 = .ok (.iconst 3, 1) := by decide +kernel
theorem dL_ranks_244 : decode cL_ranks 244 = .ok (.invokestatic 186, 3) := by decide +kernel
theorem dL_ranks_247 : decode cL_ranks 247 = .ok (.iadd, 1) := by decide +kernel
theorem dL_ranks_248 : decode cL_ranks 248 = .ok (.istore 5, 2) := by decide +kernel
theorem dL_ranks_250 : decode cL_ranks 250 = .ok (.dload 6, 2) := by decide +kernel
theorem dL_ranks_252 : decode cL_ranks 252 = .ok (.aload_n 0, 1) := by decide +kernel
theorem dL_ranks_253 : decode cL_ranks 253 = .ok (.iload 8, 2) := by decide +kernel
theorem dL_ranks_255 : decode cL_ranks 255 = .ok (.invokevirtual 266, 3) := by decide +kernel
theorem dL_ranks_258 : decode cL_ranks 258 = .ok (.invokestatic 295, 3) := by decide +kernel
theorem dL_ranks_261 : decode cL_ranks 261 = .ok (.f2d, 1) := by decide +kernel
theorem dL_ranks_262 : decode cL_ranks 262 = .ok (.dadd, 1) := by decide +kernel
theorem dL_ranks_263 : decode cL_ranks 263 = .ok (.dstore 6, 2) := by decide +kernel
theorem dL_ranks_265 : decode cL_ranks 265 = .ok (.iinc 8 1, 3) := by decide +kernel
theorem dL_ranks_268 : decode cL_ranks 268 = .ok (.goto (-145), 3) := by decide +kernel
theorem dL_ranks_271 : decode cL_ranks 271 = .ok (.aload_n 0, 1) := by decide +kernel
theorem dL_ranks_272 : decode cL_ranks 272 = .ok (.iload_n 1, 1) := by decide +kernel
theorem dL_ranks_273 : decode cL_ranks 273 = .ok (.invokestatic 293, 3) := by decide +kernel
theorem dL_ranks_276 : decode cL_ranks 276 = .ok (.bipush (-14), 2) := by decide +kernel
theorem dL_ranks_278 : decode cL_ranks 278 = .ok (.if_icmp .ne 56, 3) := by decide +kernel
theorem dL_ranks_281 : decode cL_ranks 281 = .ok (.aload_n 0, 1) := by decide +kernel
theorem dL_ranks_282 : decode cL_ranks 282 = .ok (.invokestatic 300, 3) := by decide +kernel
theorem dL_ranks_285 : decode cL_ranks 285 = .ok (.iload_n 3, 1) := by decide +kernel
theorem dL_ranks_286 : decode cL_ranks 286 = .ok (.if_icmp .ne 48, 3) := by decide +kernel
theorem dL_ranks_289 : decode cL_ranks 289 = .ok (.aload_n 0, 1) := by decide +kernel
theorem dL_ranks_290 : decode cL_ranks 290 = .ok (.iconst 3, 1) := by decide +kernel
theorem dL_ranks_291 : decode cL_ranks 291 = .ok (.invokevirtual 229, 3) := by decide +kernel
theorem dL_ranks_294 : decode cL_ranks 294 = .ok (.iload 4, 2) := by decide +kernel
theorem dL_ranks_296 : decode cL_ranks 296 = .ok (.if_icmp .ne 38, 3) := by decide +kernel
theorem dL_ranks_299 : decode cL_ranks 299 = .ok (.aload_n 0, 1) := by decide +kernel
theorem dL_ranks_300 : decode cL_ranks 300 = .ok (.bipush 7, 2) := by decide +kernel
theorem dL_ranks_302 : decode cL_ranks 302 = .ok (.invokevirtual 229, 3) := by decide +kernel
theorem dL_ranks_305 : decode cL_ranks 305 = .ok (.iload 5, 2) := by decide +kernel
theorem dL_ranks_307 : decode cL_ranks 307 = .ok (.if_icmp .ne 27, 3) := by decide +kernel
theorem dL_ranks_310 : decode cL_ranks 310 = .ok (.aload_n 0, 1) := by decide +kernel
theorem dL_ranks_311 : decode cL_ranks 311 = .ok (.invokevirtual 302, 3) := by decide +kernel
theorem dL_ranks_314 : decode cL_ranks 314 = .ok (.dload 6, 2) := by decide +kernel
theorem dL_ranks_316 : decode cL_ranks 316 = .ok (.aload_n 0, 1) := by decide +kernel
theorem dL_ranks_317 : decode cL_ranks 317 = .ok (.iconst 0, 1) := by decide +kernel
theorem dL_ranks_318 : decode cL_ranks 318 = .ok (.invokevirtual 229, 3) := by decide +kernel
theorem dL_ranks_321 : decode cL_ranks 321 = .ok (.i2d, 1) := by decide +kernel
theorem dL_ranks_322 : decode cL_ranks 322 = .ok (.ddiv, 1) := by decide +kernel
theorem dL_ranks_323 : decode cL_ranks 323 = .ok (.invokestatic 306, 3) := by decide +kernel
theorem dL_ranks_326 : decode cL_ranks 326 = .ok (.lcmp, 1) := by decide +kernel
theorem dL_ranks_327 : decode cL_ranks 327 = .ok (.ifCond .ne 7, 3) := by decide +kernel
theorem dL_ranks_330 : decode cL_ranks 330 = .ok (.iconst 1, 1) := by decide +kernel
theorem dL_ranks_331 : decode cL_ranks 331 = .ok (.goto 4, 3) := by decide +kernel
theorem dL_ranks_334 : decode cL_ranks 334 = .ok (.iconst 0, 1) := by decide +kernel
theorem dL_ranks_335 : decode cL_ranks 335 = .ok (.ireturn, 1) := by decide +kernel
theorem dL_spells_0 : decode cL_spells 0 = .ok (.iload_n 1, 1) := by decide +kernel
theorem dL_spells_1 : decode cL_spells 1 = .ok (.aload_n 2, 1) := by decide +kernel
theorem dL_spells_2 : decode cL_spells 2 = .ok (.invokevirtual 127, 3) := by decide +kernel
theorem dL_spells_5 : decode cL_spells 5 = .ok (.if_icmp .ne 7, 3) := by decide +kernel
theorem dL_spells_8 : decode cL_spells 8 = .ok (.iconst 1, 1) := by decide +kernel
theorem dL_spells_9 : decode cL_spells 9 = .ok (.goto 4, 3) := by decide +kernel
theorem dL_spells_12 : decode cL_spells 12 = .ok (.iconst 0, 1) := by decide +kernel
theorem dL_spells_13 : decode cL_spells 13 = .ok (.istore_n 3, 1) := by decide +kernel
theorem dL_spells_14 : decode cL_spells 14 = .ok (.iconst 0, 1) := by decide +kernel
theorem dL_spells_15 : decode cL_spells 15 = .ok (.istore 4, 2) := by decide +kernel
theorem dL_spells_17 : decode cL_spells 17 = .ok (.iload 4, 2) := by decide +kernel
theorem dL_spells_19 : decode cL_spells 19 = .ok (.aload_n 2, 1) := by decide +kernel
theorem dL_spells_20 : decode cL_spells 20 = .ok (.invokevirtual 127, 3) := by decide +kernel
theorem dL_spells_23 : decode cL_spells 23 = .ok (.if_icmp .ge 34, 3) := by decide +kernel
theorem dL_spells_26 : decode cL_spells 26 = .ok (.iload_n 3, 1) := by decide +kernel
theorem dL_spells_27 : decode cL_spells 27 = .ok (.ifCond .eq 30, 3) := by decide +kernel
theorem dL_spells_30 : decode cL_spells 30 = .ok (.aload_n 0, 1) := by decide +kernel
theorem dL_spells_31 : decode cL_spells 31 = .ok (.iload 4, 2) := by decide +kernel
theorem dL_spells_33 : decode cL_spells 33 = .ok (.invokestatic 227, 3) := by decide +kernel
theorem dL_spells_36 : decode cL_spells 36 = .ok (.aload_n 2, 1) := by decide +kernel
theorem dL_spells_37 : decode cL_spells 37 = .ok (.iload 4, 2) := by decide +kernel
theorem dL_spells_39 : decode cL_spells 39 = .ok (.invokevirtual 132, 3) := by decide +kernel
theorem dL_spells_42 : decode cL_spells 42 = .ok (.if_icmp .ne 7, 3) := by decide +kernel
theorem dL_spells_45 : decode cL_spells 45 = .ok (.iconst 1, 1) := by decide +kernel
theorem dL_spells_46 : decode cL_spells 46 = .ok (.goto 4, 3) := by decide +kernel
theorem dL_spells_49 : decode cL_spells 49 = .ok (.iconst 0, 1) := by decide +kernel
theorem dL_spells_50 : decode cL_spells 50 = .ok (.istore_n 3, 1) := by decide +kernel
theorem dL_spells_51 : decode cL_spells 51 = .ok (.iinc 4 1, 3) := by decide +kernel
theorem dL_spells_54 : decode cL_spells 54 = .ok (.goto (-37), 3) := by decide +kernel
theorem dL_spells_57 : decode cL_spells 57 = .ok (.iload_n 3, 1) := by decide +kernel
theorem dL_spells_58 : decode cL_spells 58 = .ok (.ifCond .eq 17, 3) := by decide +kernel
theorem dL_spells_61 : decode cL_spells 61 = .ok (.aload_n 0, 1) := by decide +kernel
theorem dL_spells_62 : decode cL_spells 62 = .ok (.iload_n 1, 1) := by decide +kernel
theorem dL_spells_63 : decode cL_spells 63 = .ok (.invokestatic 227, 3) := by decide +kernel
theorem dL_spells_66 : decode cL_spells 66 = .ok (.bipush (-14), 2) := by decide +kernel
theorem dL_spells_68 : decode cL_spells 68 = .ok (.if_icmp .ne 7, 3) := by decide +kernel
theorem dL_spells_71 : decode cL_spells 71 = .ok (.iconst 1, 1) := by decide +kernel
theorem dL_spells_72 : decode cL_spells 72 = .ok (.goto 4, 3) := by decide +kernel
theorem dL_spells_75 : decode cL_spells 75 = .ok (.iconst 0, 1) := by decide +kernel
theorem dL_spells_76 : decode cL_spells 76 = .ok (.ireturn, 1) := by decide +kernel
theorem dL_lines_0 : decode cL_lines 0 = .ok (.iconst 0, 1) := by decide +kernel
theorem dL_lines_1 : decode cL_lines 1 = .ok (.istore_n 1, 1) := by decide +kernel
theorem dL_lines_2 : decode cL_lines 2 = .ok (.iload_n 1, 1) := by decide +kernel
theorem dL_lines_3 : decode cL_lines 3 = .ok (.aload_n 0, 1) := by decide +kernel
theorem dL_lines_4 : decode cL_lines 4 = .ok (.iconst 0, 1) := by decide +kernel
theorem dL_lines_5 : decode cL_lines 5 = .ok (.invokevirtual 229, 3) := by decide +kernel
theorem dL_lines_8 : decode cL_lines 8 = .ok (.if_icmp .ge 122, 3) := by decide +kernel
theorem dL_lines_11 : decode cL_lines 11 = .ok (.new 144, 3) := by decide +kernel
theorem dL_lines_14 : decode cL_lines 14 = .ok (.dup, 1) := by decide +kernel
theorem dL_lines_15 : decode cL_lines 15 = .ok (.invokespecial 146, 3) := by decide +kernel
theorem dL_lines_18 : decode cL_lines 18 = .ok (.bipush 97, 2) := by decide +kernel
theorem dL_lines_20 : decode cL_lines 20 = .ok (.iload_n 1, 1) := by decide +kernel
theorem dL_lines_21 : decode cL_lines 21 = .ok (.iadd, 1) := by decide +kernel
theorem dL_lines_22 : decode cL_lines 22 = .ok (.i2c, 1) := by decide +kernel
theorem dL_lines_23 : decode cL_lines 23 = .ok (.invokevirtual 159, 3) := by decide +kernel
theorem dL_lines_26 : decode cL_lines 26 = .ok (.ldc_w 312, 3) := by decide +kernel
theorem dL_lines_29 : decode cL_lines 29 = .ok (.invokevirtual 149, 3) := by decide +kernel
theorem dL_lines_32 : decode cL_lines 32 = .ok (.aload_n 0, 1) := by decide +kernel
theorem dL_lines_33 : decode cL_lines 33 = .ok (.iload_n 1, 1) := by decide +kernel
theorem dL_lines_34 : decode cL_lines 34 = .ok (.iconst 3, 1) := by decide +kernel
theorem dL_lines_35 : decode cL_lines 35 = .ok (.invokestatic 186, 3) := by decide +kernel
theorem dL_lines_38 : decode cL_lines 38 = .ok (.invokevirtual 152, 3) := by decide +kernel
theorem dL_lines_41 : decode cL_lines 41 = .ok (.aload_n 0, 1) := by decide +kernel
theorem dL_lines_42 : decode cL_lines 42 = .ok (.iload_n 1, 1) := by decide +kernel
theorem dL_lines_43 : decode cL_lines 43 = .ok (.iconst 0, 1) := by decide +kernel
theorem dL_lines_44 : decode cL_lines 44 = .ok (.invokestatic 186, 3) := by decide +kernel
theorem dL_lines_47 : decode cL_lines 47 = .ok (.iconst 1, 1) := by decide +kernel
theorem dL_lines_48 : decode cL_lines 48 = .ok (.if_icmp .ne 8, 3) := by decide +kernel
theorem dL_lines_51 : decode cL_lines 51 = .ok (.ldc 170, 2) := by decide +kernel
theorem dL_lines_53 : decode cL_lines 53 = .ok (.goto 49, 3) := by decide +kernel
theorem dL_lines_56 : decode cL_lines 56 = .ok (.new 144, 3) := by decide +kernel
theorem dL_lines_59 : decode cL_lines 59 = .ok (.dup, 1) := by decide +kernel
theorem dL_lines_60 : decode cL_lines 60 = .ok (.invokespecial 146, 3) := by decide +kernel
theorem dL_lines_63 : decode cL_lines 63 = .ok (.ldc_w 314, 3) := by decide +kernel
theorem dL_lines_66 : decode cL_lines 66 = .ok (.invokevirtual 149, 3) := by decide +kernel
theorem dL_lines_69 : decode cL_lines 69 = .ok (.aload_n 0, 1) := by decide +kernel
theorem dL_lines_70 : decode cL_lines 70 = .ok (.iload_n 1, 1) := by decide +kernel
theorem dL_lines_71 : decode cL_lines 71 = .ok (.iconst 1, 1) := by decide +kernel
theorem dL_lines_72 : decode cL_lines 72 = .ok (.invokestatic 186, 3) := by decide +kernel
theorem dL_lines_75 : decode cL_lines 75 = .ok (.invokevirtual 152, 3) := by decide +kernel
theorem dL_lines_78 : decode cL_lines 78 = .ok (.ldc_w 316, 3) := by decide +kernel
theorem dL_lines_81 : decode cL_lines 81 = .ok (.invokevirtual 149, 3) := by decide +kernel
theorem dL_lines_84 : decode cL_lines 84 = .ok (.aload_n 0, 1) := by decide +kernel
theorem dL_lines_85 : decode cL_lines 85 = .ok (.iload_n 1, 1) := by decide +kernel
theorem dL_lines_86 : decode cL_lines 86 = .ok (.iconst 2, 1) := by decide +kernel
theorem dL_lines_87 : decode cL_lines 87 = .ok (.invokestatic 186, 3) := by decide +kernel
theorem dL_lines_90 : decode cL_lines 90 = .ok (.invokevirtual 152, 3) := by decide +kernel
theorem dL_lines_93 : decode cL_lines 93 = .ok (.ldc_w 318, 3) := by decide +kernel
theorem dL_lines_96 : decode cL_lines 96 = .ok (.invokevirtual 149, 3) := by decide +kernel
theorem dL_lines_99 : decode cL_lines 99 = .ok (.invokevirtual 155, 3) := by decide +kernel
theorem dL_lines_102 : decode cL_lines 102 = .ok (.invokevirtual 149, 3) := by decide +kernel
theorem dL_lines_105 : decode cL_lines 105 = .ok (.invokevirtual 155, 3) := by decide +kernel
theorem dL_lines_108 : decode cL_lines 108 = .ok (.astore_n 2, 1) := by decide +kernel
theorem dL_lines_109 : decode cL_lines 109 = .ok (.aload_n 0, 1) := by decide +kernel
theorem dL_lines_110 : decode cL_lines 110 = .ok (.aload_n 0, 1) := by decide +kernel
theorem dL_lines_111 : decode cL_lines 111 = .ok (.iload_n 1, 1) := by decide +kernel
theorem dL_lines_112 : decode cL_lines 112 = .ok (.invokestatic 320, 3) := by decide +kernel
theorem dL_lines_115 : decode cL_lines 115 = .ok (.aload_n 2, 1) := by decide +kernel
theorem dL_lines_116 : decode cL_lines 116 = .ok (.invokestatic 322, 3) := by decide +kernel
theorem dL_lines_119 : decode cL_lines 119 = .ok (.ifCond .ne 5, 3) := by decide +kernel
theorem dL_lines_122 : decode cL_lines 122 = .ok (.iconst 0, 1) := by decide +kernel
theorem dL_lines_123 : decode cL_lines 123 = .ok (.ireturn, 1) := by decide +kernel
theorem dL_lines_124 : decode cL_lines 124 = .ok (.iinc 1 1, 3) := by decide +kernel
theorem dL_lines_127 : decode cL_lines 127 = .ok (.goto (-125), 3) := by decide +kernel
theorem dL_lines_130 : decode cL_lines 130 = .ok (.aload_n 0, 1) := by decide +kernel
theorem dL_lines_131 : decode cL_lines 131 = .ok (.aload_n 0, 1) := by decide +kernel
theorem dL_lines_132 : decode cL_lines 132 = .ok (.iconst 0, 1) := by decide +kernel
theorem dL_lines_133 : decode cL_lines 133 = .ok (.invokevirtual 229, 3) := by decide +kernel
theorem dL_lines_136 : decode cL_lines 136 = .ok (.invokestatic 320, 3) := by decide +kernel
theorem dL_lines_139 : decode cL_lines 139 = .ok (.bipush (-11), 2) := by decide +kernel
theorem dL_lines_141 : decode cL_lines 141 = .ok (.if_icmp .ne 21, 3) := by decide +kernel
theorem dL_lines_144 : decode cL_lines 144 = .ok (.aload_n 0, 1) := by decide +kernel
theorem dL_lines_145 : decode cL_lines 145 = .ok (.aload_n 0, 1) := by decide +kernel
theorem dL_lines_146 : decode cL_lines 146 = .ok (.iconst 1, 1) := by decide +kernel
theorem dL_lines_147 : decode cL_lines 147 = .ok (.invokevirtual 229, 3) := by decide +kernel
theorem dL_lines_150 : decode cL_lines 150 = .ok (.invokestatic 224, 3) := by decide +kernel
theorem dL_lines_153 : decode cL_lines 153 = .ok (.bipush (-11), 2) := by decide +kernel
theorem dL_lines_155 : decode cL_lines 155 = .ok (.if_icmp .ne 7, 3) := by decide +kernel
theorem dL_lines_158 : decode cL_lines 158 = .ok (.iconst 1, 1) := by decide +kernel
theorem dL_lines_159 : decode cL_lines 159 = .ok (.goto 4, 3) := by decide +kernel
theorem dL_lines_162 : decode cL_lines 162 = .ok (.iconst 0, 1) := by decide +kernel
theorem dL_lines_163 : decode cL_lines 163 = .ok (.ireturn, 1) := by decide +kernel
theorem dL_sum_0 : decode cL_sum 0 = .ok (.ldc2_w 326, 3) := by decide +kernel
theorem dL_sum_3 : decode cL_sum 3 = .ok (.lstore_n 1, 1) := by decide +kernel
theorem dL_sum_4 : decode cL_sum 4 = .ok (.iconst 0, 1) := by decide +kernel
theorem dL_sum_5 : decode cL_sum 5 = .ok (.istore_n 3, 1) := by decide +kernel
theorem dL_sum_6 : decode cL_sum 6 = .ok (.iload_n 3, 1) := by decide +kernel
theorem dL_sum_7 : decode cL_sum 7 = .ok (.bipush 6, 2) := by decide +kernel
theorem dL_sum_9 : decode cL_sum 9 = .ok (.if_icmp .ge 22, 3) := by decide +kernel
theorem dL_sum_12 : decode cL_sum 12 = .ok (.ldc2_w 328, 3) := by decide +kernel
theorem dL_sum_15 : decode cL_sum 15 = .ok (.lload_n 1, 1) := by decide +kernel
theorem dL_sum_16 : decode cL_sum 16 = .ok (.lmul, 1) := by decide +kernel
theorem dL_sum_17 : decode cL_sum 17 = .ok (.aload_n 0, 1) := by decide +kernel
theorem dL_sum_18 : decode cL_sum 18 = .ok (.iload_n 3, 1) := by decide +kernel
theorem dL_sum_19 : decode cL_sum 19 = .ok (.invokevirtual 229, 3) := by decide +kernel
theorem dL_sum_22 : decode cL_sum 22 = .ok (.i2l, 1) := by decide +kernel
theorem dL_sum_23 : decode cL_sum 23 = .ok (.ladd, 1) := by decide +kernel
theorem dL_sum_24 : decode cL_sum 24 = .ok (.lstore_n 1, 1) := by decide +kernel
theorem dL_sum_25 : decode cL_sum 25 = .ok (.iinc 3 1, 3) := by decide +kernel
theorem dL_sum_28 : decode cL_sum 28 = .ok (.goto (-22), 3) := by decide +kernel
theorem dL_sum_31 : decode cL_sum 31 = .ok (.iconst 0, 1) := by decide +kernel
theorem dL_sum_32 : decode cL_sum 32 = .ok (.istore_n 3, 1) := by decide +kernel
theorem dL_sum_33 : decode cL_sum 33 = .ok (.iload_n 3, 1) := by decide +kernel
theorem dL_sum_34 : decode cL_sum 34 = .ok (.bipush 7, 2) := by decide +kernel
theorem dL_sum_36 : decode cL_sum 36 = .ok (.aload_n 0, 1) := by decide +kernel
theorem dL_sum_37 : decode cL_sum 37 = .ok (.iconst 0, 1) := by decide +kernel
theorem dL_sum_38 : decode cL_sum 38 = .ok (.invokevirtual 229, 3) := by decide +kernel
theorem dL_sum_41 : decode cL_sum 41 = .ok (.imul, 1) := by decide +kernel
theorem dL_sum_42 : decode cL_sum 42 = .ok (.if_icmp .ge 39, 3) := by decide +kernel
theorem dL_sum_45 : decode cL_sum 45 = .ok (.ldc2_w 330, 3) := by decide +kernel
theorem dL_sum_48 : decode cL_sum 48 = .ok (.lload_n 1, 1) := by decide +kernel
theorem dL_sum_49 : decode cL_sum 49 = .ok (.lmul, 1) := by decide +kernel
theorem dL_sum_50 : decode cL_sum 50 = .ok (.aload_n 0, 1) := by decide +kernel
theorem dL_sum_51 : decode cL_sum 51 = .ok (.iload_n 3, 1) := by decide +kernel
theorem dL_sum_52 : decode cL_sum 52 = .ok (.bipush 7, 2) := by decide +kernel
theorem dL_sum_54 : decode cL_sum 54 = .ok (.idiv, 1) := by decide +kernel
theorem dL_sum_55 : decode cL_sum 55 = .ok (.iload_n 3, 1) := by decide +kernel
theorem dL_sum_56 : decode cL_sum 56 = .ok (.bipush 7, 2) := by decide +kernel
theorem dL_sum_58 : decode cL_sum 58 = .ok (.irem, 1) := by decide +kernel
theorem dL_sum_59 : decode cL_sum 59 = .ok (.invokestatic 186, 3) := by decide +kernel
theorem dL_sum_62 : decode cL_sum 62 = .ok (.i2l, 1) := by decide +kernel
theorem dL_sum_63 : decode cL_sum 63 = .ok (.ladd, 1) := by decide +kernel
theorem dL_sum_64 : decode cL_sum 64 = .ok (.aload_n 0, 1) := by decide +kernel
theorem dL_sum_65 : decode cL_sum 65 = .ok (.iload_n 3, 1) := by decide +kernel
theorem dL_sum_66 : decode cL_sum 66 = .ok (.bipush 7, 2) := by decide +kernel
theorem dL_sum_68 : decode cL_sum 68 = .ok (.idiv, 1) := by decide +kernel
theorem dL_sum_69 : decode cL_sum 69 = .ok (.invokevirtual 266, 3) := by decide +kernel
theorem dL_sum_72 : decode cL_sum 72 = .ok (.i2l, 1) := by decide +kernel
theorem dL_sum_73 : decode cL_sum 73 = .ok (.ladd, 1) := by decide +kernel
theorem dL_sum_74 : decode cL_sum 74 = .ok (.lstore_n 1, 1) := by decide +kernel
theorem dL_sum_75 : decode cL_sum 75 = .ok (.iinc 3 1, 3) := by decide +kernel
theorem dL_sum_78 : decode cL_sum 78 = .ok (.goto (-45), 3) := by decide +kernel
theorem dL_sum_81 : decode cL_sum 81 = .ok (.iconst 0, 1) := by decide +kernel
theorem dL_sum_82 : decode cL_sum 82 = .ok (.istore_n 3, 1) := by decide +kernel
theorem dL_sum_83 : decode cL_sum 83 = .ok (.iload_n 3, 1) := by decide +kernel
theorem dL_sum_84 : decode cL_sum 84 = .ok (.aload_n 0, 1) := by decide +kernel
theorem dL_sum_85 : decode cL_sum 85 = .ok (.iconst 1, 1) := by decide +kernel
theorem dL_sum_86 : decode cL_sum 86 = .ok (.invokevirtual 229, 3) := by decide +kernel
theorem dL_sum_89 : decode cL_sum 89 = .ok (.if_icmp .ge 68, 3) := by decide +kernel
theorem dL_sum_92 : decode cL_sum 92 = .ok (.aload_n 0, 1) := by decide +kernel
theorem dL_sum_93 : decode cL_sum 93 = .ok (.iload_n 3, 1) := by decide +kernel
theorem dL_sum_94 : decode cL_sum 94 = .ok (.invokestatic 232, 3) := by decide +kernel
theorem dL_sum_97 : decode cL_sum 97 = .ok (.astore 4, 2) := by decide +kernel
theorem dL_sum_99 : decode cL_sum 99 = .ok (.aload 4, 2) := by decide +kernel
theorem dL_sum_101 : decode cL_sum 101 = .ok (.arraylength, 1) := by decide +kernel
theorem dL_sum_102 : decode cL_sum 102 = .ok (.istore 5, 2) := by decide +kernel
theorem dL_sum_104 : decode cL_sum 104 = .ok (.iconst 0, 1) := by decide +kernel
theorem dL_sum_105 : decode cL_sum 105 = .ok (.istore 6, 2) := by decide +kernel
theorem dL_sum_107 : decode cL_sum 107 = .ok (.iload 6, 2) := by decide +kernel
theorem dL_sum_109 : decode cL_sum 109 = .ok (.iload 5, 2) := by decide +kernel
theorem dL_sum_111 : decode cL_sum 111 = .ok (.if_icmp .ge 26, 3) := by decide +kernel
theorem dL_sum_114 : decode cL_sum 114 = .ok (.aload 4, 2) := by decide +kernel
theorem dL_sum_116 : decode cL_sum 116 = .ok (.iload 6, 2) := by decide +kernel
theorem dL_sum_118 : decode cL_sum 118 = .ok (.caload, 1) := by decide +kernel
theorem dL_sum_119 : decode cL_sum 119 = .ok (.istore 7, 2) := by decide +kernel
theorem dL_sum_121 : decode cL_sum 121 = .ok (.ldc2_w 332, 3) := by decide +kernel
theorem dL_sum_124 : decode cL_sum 124 = .ok (.lload_n 1, 1) := by decide +kernel
theorem dL_sum_125 : decode cL_sum 125 = .ok (.lmul, 1) := by decide +kernel
theorem dL_sum_126 : decode cL_sum 126 = .ok (.iload 7, 2) := by decide +kernel
theorem dL_sum_128 : decode cL_sum 128 = .ok (.i2l, 1) := by decide +kernel
theorem dL_sum_129 : decode cL_sum 129 = .ok (.ladd, 1) := by decide +kernel
theorem dL_sum_130 : decode cL_sum 130 = .ok (.lstore_n 1, 1) := by decide +kernel
theorem dL_sum_131 : decode cL_sum 131 = .ok (.iinc 6 1, 3) := by decide +kernel
theorem dL_sum_134 : decode cL_sum 134 = .ok (.goto (-27), 3) := by decide +kernel
theorem dL_sum_137 : decode cL_sum 137 = .ok (.ldc2_w 334, 3) := by decide +kernel
theorem dL_sum_140 : decode cL_sum 140 = .ok (.lload_n 1, 1) := by decide +kernel
theorem dL_sum_141 : decode cL_sum 141 = .ok (.lmul, 1) := by decide +kernel
theorem dL_sum_142 : decode cL_sum 142 = .ok (.aload_n 0, 1) := by decide +kernel
theorem dL_sum_143 : decode cL_sum 143 = .ok (.iload_n 3, 1) := by decide +kernel
theorem dL_sum_144 : decode cL_sum 144 = .ok (.iconst 4, 1) := by decide +kernel
theorem dL_sum_145 : decode cL_sum 145 = .ok (.invokestatic 247, 3) := by decide +kernel
theorem dL_sum_148 : decode cL_sum 148 = .ok (.i2l, 1) := by decide +kernel
theorem dL_sum_149 : decode cL_sum 149 = .ok (.ladd, 1) := by decide +kernel
theorem dL_sum_150 : decode cL_sum 150 = .ok (.lstore_n 1, 1) := by decide +kernel
theorem dL_sum_151 : decode cL_sum 151 = .ok (.iinc 3 1, 3) := by decide +kernel
theorem dL_sum_154 : decode cL_sum 154 = .ok (.goto (-71), 3) := by decide +kernel
theorem dL_sum_157 : decode cL_sum 157 = .ok (.lload_n 1, 1) := by decide +kernel
theorem dL_sum_158 : decode cL_sum 158 = .ok (.lreturn, 1) := by decide +kernel
theorem dL_undone_0 : decode cL_undone 0 = .ok (.bipush 7, 2) := by decide +kernel
theorem dL_undone_2 : decode cL_undone 2 = .ok (.newarray .long, 2) := by decide +kernel
theorem dL_undone_4 : decode cL_undone 4 = .ok (.astore_n 2, 1) := by decide +kernel
theorem dL_undone_5 : decode cL_undone 5 = .ok (.iconst 0, 1) := by decide +kernel
theorem dL_undone_6 : decode cL_undone 6 = .ok (.istore_n 3, 1) := by decide +kernel
theorem dL_undone_7 : decode cL_undone 7 = .ok (.iconst 0, 1) := by decide +kernel
theorem dL_undone_8 : decode cL_undone 8 = .ok (.istore 4, 2) := by decide +kernel
theorem dL_undone_10 : decode cL_undone 10 = .ok (.iload 4, 2) := by decide +kernel
theorem dL_undone_12 : decode cL_undone 12 = .ok (.bipush 6, 2) := by decide +kernel
theorem dL_undone_14 : decode cL_undone 14 = .ok (.if_icmp .ge 334, 3) := by decide +kernel
theorem dL_undone_17 : decode cL_undone 17 = .ok (.aload_n 0, 1) := by decide +kernel
theorem dL_undone_18 : decode cL_undone 18 = .ok (.bipush 21, 2) := by decide +kernel
theorem dL_undone_20 : decode cL_undone 20 = .ok (.iload 4, 2) := by decide +kernel
theorem dL_undone_22 : decode cL_undone 22 = .ok (.iadd, 1) := by decide +kernel
theorem dL_undone_23 : decode cL_undone 23 = .ok (.invokestatic 177, 3) := by decide +kernel
theorem dL_undone_26 : decode cL_undone 26 = .ok (.iconst 1, 1) := by decide +kernel
theorem dL_undone_27 : decode cL_undone 27 = .ok (.iushr, 1) := by decide +kernel
theorem dL_undone_28 : decode cL_undone 28 = .ok (.istore 5, 2) := by decide +kernel
theorem dL_undone_30 : decode cL_undone 30 = .ok (.iload 5, 2) := by decide +kernel
theorem dL_undone_32 : decode cL_undone 32 = .ok (.iconst 4, 1) := by decide +kernel
theorem dL_undone_33 : decode cL_undone 33 = .ok (.iushr, 1) := by decide +kernel
theorem dL_undone_34 : decode cL_undone 34 = .ok (.istore 6, 2) := by decide +kernel
theorem dL_undone_36 : decode cL_undone 36 = .ok (.aload_n 1, 1) := by decide +kernel
theorem dL_undone_37 : decode cL_undone 37 = .ok (.iconst 0, 1) := by decide +kernel
theorem dL_undone_38 : decode cL_undone 38 = .ok (.invokevirtual 229, 3) := by decide +kernel
theorem dL_undone_41 : decode cL_undone 41 = .ok (.istore 7, 2) := by decide +kernel
theorem dL_undone_43 : decode cL_undone 43 = .ok (.aload_n 2, 1) := by decide +kernel
theorem dL_undone_44 : decode cL_undone 44 = .ok (.iload_n 3, 1) := by decide +kernel
theorem dL_undone_45 : decode cL_undone 45 = .ok (.aload_n 1, 1) := by decide +kernel
theorem dL_undone_46 : decode cL_undone 46 = .ok (.invokestatic 336, 3) := by decide +kernel
theorem dL_undone_49 : decode cL_undone 49 = .ok (.lastore, 1) := by decide +kernel
theorem dL_undone_50 : decode cL_undone 50 = .ok (.iload 5, 2) := by decide +kernel
theorem dL_undone_52 : decode cL_undone 52 = .ok (.bipush 9, 2) := by decide +kernel
theorem dL_undone_54 : decode cL_undone 54 = .ok (.irem, 1) := by decide +kernel
theorem dL_undone_55 : decode cL_undone 55 = .ok (.tableswitch 204 0 7 #[45, 69, 78, 102, 128, 158, 178, 191], 45) := by decide +kernel
theorem dL_undone_100 : decode cL_undone 100 = .ok (.aload_n 1, 1) := by decide +kernel
theorem dL_undone_101 : decode cL_undone 101 = .ok (.iload 6, 2) := by decide +kernel
theorem dL_undone_103 : decode cL_undone 103 = .ok (.bipush 30, 2) := by decide +kernel
theorem dL_undone_105 : decode cL_undone 105 = .ok (.irem, 1) := by decide +kernel
theorem dL_undone_106 : decode cL_undone 106 = .ok (.bipush 20, 2) := by decide +kernel
theorem dL_undone_108 : decode cL_undone 108 = .ok (.isub, 1) := by decide +kernel
theorem dL_undone_109 : decode cL_undone 109 = .ok (.iload 6, 2) := by decide +kernel
theorem dL_undone_111 : decode cL_undone 111 = .ok (.iconst 5, 1) := by decide +kernel
theorem dL_undone_112 : decode cL_undone 112 = .ok (.iushr, 1) := by decide +kernel
theorem dL_undone_113 : decode cL_undone 113 = .ok (.bipush 30, 2) := by decide +kernel
theorem dL_undone_115 : decode cL_undone 115 = .ok (.irem, 1) := by decide +kernel
theorem dL_undone_116 : decode cL_undone 116 = .ok (.invokestatic 183, 3) := by decide +kernel
theorem dL_undone_119 : decode cL_undone 119 = .ok (.istore 8, 2) := by decide +kernel
theorem dL_undone_121 : decode cL_undone 121 = .ok (.goto 144, 3) := by decide +kernel
theorem dL_undone_124 : decode cL_undone 124 = .ok (.aload_n 1, 1) := by decide +kernel
theorem dL_undone_125 : decode cL_undone 125 = .ok (.invokestatic 181, 3) := by decide +kernel
theorem dL_undone_128 : decode cL_undone 128 = .ok (.istore 8, 2) := by decide +kernel
theorem dL_undone_130 : decode cL_undone 130 = .ok (.goto 135, 3) := by decide +kernel
theorem dL_undone_133 : decode cL_undone 133 = .ok (.aload_n 1, 1) := by decide +kernel
theorem dL_undone_134 : decode cL_undone 134 = .ok (.iload 6, 2) := by decide +kernel
theorem dL_undone_136 : decode cL_undone 136 = .ok (.bipush 6, 2) := by decide +kernel
theorem dL_undone_138 : decode cL_undone 138 = .ok (.irem, 1) := by decide +kernel
theorem dL_undone_139 : decode cL_undone 139 = .ok (.iload 6, 2) := by decide +kernel
theorem dL_undone_141 : decode cL_undone 141 = .ok (.iconst 3, 1) := by decide +kernel
theorem dL_undone_142 : decode cL_undone 142 = .ok (.iushr, 1) := by decide +kernel
theorem dL_undone_143 : decode cL_undone 143 = .ok (.bipush 60, 2) := by decide +kernel
theorem dL_undone_145 : decode cL_undone 145 = .ok (.irem, 1) := by decide +kernel
theorem dL_undone_146 : decode cL_undone 146 = .ok (.bipush 30, 2) := by decide +kernel
theorem dL_undone_148 : decode cL_undone 148 = .ok (.isub, 1) := by decide +kernel
theorem dL_undone_149 : decode cL_undone 149 = .ok (.invokestatic 191, 3) := by decide +kernel
theorem dL_undone_152 : decode cL_undone 152 = .ok (.istore 8, 2) := by decide +kernel
theorem dL_undone_154 : decode cL_undone 154 = .ok (.goto 111, 3) := by decide +kernel
theorem dL_undone_157 : decode cL_undone 157 = .ok (.aload_n 1, 1) := by decide +kernel
theorem dL_undone_158 : decode cL_undone 158 = .ok (.iload 6, 2) := by decide +kernel
theorem dL_undone_160 : decode cL_undone 160 = .ok (.bipush 6, 2) := by decide +kernel
theorem dL_undone_162 : decode cL_undone 162 = .ok (.irem, 1) := by decide +kernel
theorem dL_undone_163 : decode cL_undone 163 = .ok (.iload 6, 2) := by decide +kernel
theorem dL_undone_165 : decode cL_undone 165 = .ok (.iconst 3, 1) := by decide +kernel
theorem dL_undone_166 : decode cL_undone 166 = .ok (.iushr, 1) := by decide +kernel
theorem dL_undone_167 : decode cL_undone 167 = .ok (.sipush 22000, 3) := by decide +kernel
theorem dL_undone_170 : decode cL_undone 170 = .ok (.irem, 1) := by decide +kernel
theorem dL_undone_171 : decode cL_undone 171 = .ok (.sipush 11000, 3) := by decide +kernel
theorem dL_undone_174 : decode cL_undone 174 = .ok (.isub, 1) := by decide +kernel
theorem dL_undone_175 : decode cL_undone 175 = .ok (.invokestatic 189, 3) := by decide +kernel
theorem dL_undone_178 : decode cL_undone 178 = .ok (.istore 8, 2) := by decide +kernel
theorem dL_undone_180 : decode cL_undone 180 = .ok (.goto 85, 3) := by decide +kernel
theorem dL_undone_183 : decode cL_undone 183 = .ok (.aload_n 1, 1) := by decide +kernel
theorem dL_undone_184 : decode cL_undone 184 = .ok (.iload 6, 2) := by decide +kernel
theorem dL_undone_186 : decode cL_undone 186 = .ok (.bipush 6, 2) := by decide +kernel
theorem dL_undone_188 : decode cL_undone 188 = .ok (.irem, 1) := by decide +kernel
theorem dL_undone_189 : decode cL_undone 189 = .ok (.iload 6, 2) := by decide +kernel
theorem dL_undone_191 : decode cL_undone 191 = .ok (.iconst 3, 1) := by decide +kernel
theorem dL_undone_192 : decode cL_undone 192 = .ok (.iushr, 1) := by decide +kernel
theorem dL_undone_193 : decode cL_undone 193 = .ok (.ineg, 1) := by decide +kernel
theorem dL_undone_194 : decode cL_undone 194 = .ok (.bipush 40, 2) := by decide +kernel
theorem dL_undone_196 : decode cL_undone 196 = .ok (.irem, 1) := by decide +kernel
theorem dL_undone_197 : decode cL_undone 197 = .ok (.iload 6, 2) := by decide +kernel
theorem dL_undone_199 : decode cL_undone 199 = .ok (.bipush 9, 2) := by decide +kernel
theorem dL_undone_201 : decode cL_undone 201 = .ok (.iushr, 1) := by decide +kernel
theorem dL_undone_202 : decode cL_undone 202 = .ok (.bipush 40, 2) := by decide +kernel
theorem dL_undone_204 : decode cL_undone 204 = .ok (.irem, 1) := by decide +kernel
theorem dL_undone_205 : decode cL_undone 205 = .ok (.invokestatic 340, 3) := by decide +kernel
theorem dL_undone_208 : decode cL_undone 208 = .ok (.istore 8, 2) := by decide +kernel
theorem dL_undone_210 : decode cL_undone 210 = .ok (.goto 55, 3) := by decide +kernel
theorem dL_undone_213 : decode cL_undone 213 = .ok (.aload_n 1, 1) := by decide +kernel
theorem dL_undone_214 : decode cL_undone 214 = .ok (.iload 6, 2) := by decide +kernel
theorem dL_undone_216 : decode cL_undone 216 = .ok (.iconst 1, 1) := by decide +kernel
theorem dL_undone_217 : decode cL_undone 217 = .ok (.iload 7, 2) := by decide +kernel
theorem dL_undone_219 : decode cL_undone 219 = .ok (.invokestatic 242, 3) := by decide +kernel
theorem dL_undone_222 : decode cL_undone 222 = .ok (.invokestatic 193, 3) := by decide +kernel
theorem dL_undone_225 : decode cL_undone 225 = .ok (.invokestatic 197, 3) := by decide +kernel
theorem dL_undone_228 : decode cL_undone 228 = .ok (.istore 8, 2) := by decide +kernel
theorem dL_undone_230 : decode cL_undone 230 = .ok (.goto 35, 3) := by decide +kernel
theorem dL_undone_233 : decode cL_undone 233 = .ok (.aload_n 1, 1) := by decide +kernel
theorem dL_undone_234 : decode cL_undone 234 = .ok (.iload 6, 2) := by decide +kernel
theorem dL_undone_236 : decode cL_undone 236 = .ok (.iconst 4, 1) := by decide +kernel
theorem dL_undone_237 : decode cL_undone 237 = .ok (.irem, 1) := by decide +kernel
theorem dL_undone_238 : decode cL_undone 238 = .ok (.invokestatic 343, 3) := by decide +kernel
theorem dL_undone_241 : decode cL_undone 241 = .ok (.istore 8, 2) := by decide +kernel
theorem dL_undone_243 : decode cL_undone 243 = .ok (.goto 22, 3) := by decide +kernel
theorem dL_undone_246 : decode cL_undone 246 = .ok (.aload_n 1, 1) := by decide +kernel
theorem dL_undone_247 : decode cL_undone 247 = .ok (.iload 6, 2) := by decide +kernel
theorem dL_undone_249 : decode cL_undone 249 = .ok (.iconst 4, 1) := by decide +kernel
theorem dL_undone_250 : decode cL_undone 250 = .ok (.irem, 1) := by decide +kernel
theorem dL_undone_251 : decode cL_undone 251 = .ok (.invokestatic 278, 3) := by decide +kernel
theorem dL_undone_254 : decode cL_undone 254 = .ok (.istore 8, 2) := by decide +kernel
theorem dL_undone_256 : decode cL_undone 256 = .ok (.goto 9, 3) := by decide +kernel
theorem dL_undone_259 : decode cL_undone 259 = .ok (.aload_n 1, 1) := by decide +kernel
theorem dL_undone_260 : decode cL_undone 260 = .ok (.invokestatic 345, 3) := by decide +kernel
theorem dL_undone_263 : decode cL_undone 263 = .ok (.istore 8, 2) := by decide +kernel
theorem dL_undone_265 : decode cL_undone 265 = .ok (.iload 5, 2) := by decide +kernel
theorem dL_undone_267 : decode cL_undone 267 = .ok (.bipush 9, 2) := by decide +kernel
theorem dL_undone_269 : decode cL_undone 269 = .ok (.irem, 1) := by decide +kernel
theorem dL_undone_270 : decode cL_undone 270 = .ok (.iconst 1, 1) := by decide +kernel
theorem dL_undone_271 : decode cL_undone 271 = .ok (.if_icmp .le 28, 3) := by decide +kernel
theorem dL_undone_274 : decode cL_undone 274 = .ok (.iload 5, 2) := by decide +kernel
theorem dL_undone_276 : decode cL_undone 276 = .ok (.bipush 9, 2) := by decide +kernel
theorem dL_undone_278 : decode cL_undone 278 = .ok (.irem, 1) := by decide +kernel
theorem dL_undone_279 : decode cL_undone 279 = .ok (.iconst 5, 1) := by decide +kernel
theorem dL_undone_280 : decode cL_undone 280 = .ok (.if_icmp .ge 19, 3) := by decide +kernel
theorem dL_undone_283 : decode cL_undone 283 = .ok (.iload 8, 2) := by decide +kernel
theorem dL_undone_285 : decode cL_undone 285 = .ok (.sipush (-1000), 3) := by decide +kernel
theorem dL_undone_288 : decode cL_undone 288 = .ok (.if_icmp .le 7, 3) := by decide +kernel
theorem dL_undone_291 : decode cL_undone 291 = .ok (.iconst 1, 1) := by decide +kernel
theorem dL_undone_292 : decode cL_undone 292 = .ok (.goto 17, 3) := by decide +kernel
theorem dL_undone_295 : decode cL_undone 295 = .ok (.iconst 0, 1) := by decide +kernel
theorem dL_undone_296 : decode cL_undone 296 = .ok (.goto 13, 3) := by decide +kernel
theorem dL_undone_299 : decode cL_undone 299 = .ok (.iload 8, 2) := by decide +kernel
theorem dL_undone_301 : decode cL_undone 301 = .ok (.ifCond .lt 7, 3) := by decide +kernel
theorem dL_undone_304 : decode cL_undone 304 = .ok (.iconst 1, 1) := by decide +kernel
theorem dL_undone_305 : decode cL_undone 305 = .ok (.goto 4, 3) := by decide +kernel
theorem dL_undone_308 : decode cL_undone 308 = .ok (.iconst 0, 1) := by decide +kernel
theorem dL_undone_309 : decode cL_undone 309 = .ok (.istore 9, 2) := by decide +kernel
theorem dL_undone_311 : decode cL_undone 311 = .ok (.iload 9, 2) := by decide +kernel
theorem dL_undone_313 : decode cL_undone 313 = .ok (.ifCond .ne 16, 3) := by decide +kernel
theorem dL_undone_316 : decode cL_undone 316 = .ok (.aload_n 1, 1) := by decide +kernel
theorem dL_undone_317 : decode cL_undone 317 = .ok (.invokestatic 336, 3) := by decide +kernel
theorem dL_undone_320 : decode cL_undone 320 = .ok (.aload_n 2, 1) := by decide +kernel
theorem dL_undone_321 : decode cL_undone 321 = .ok (.iload_n 3, 1) := by decide +kernel
theorem dL_undone_322 : decode cL_undone 322 = .ok (.laload, 1) := by decide +kernel
theorem dL_undone_323 : decode cL_undone 323 = .ok (.lcmp, 1) := by decide +kernel
theorem dL_undone_324 : decode cL_undone 324 = .ok (.ifCond .eq 5, 3) := by decide +kernel
theorem dL_undone_327 : decode cL_undone 327 = .ok (.iconst 0, 1) := by decide +kernel
theorem dL_undone_328 : decode cL_undone 328 = .ok (.ireturn, 1) := by decide +kernel
theorem dL_undone_329 : decode cL_undone 329 = .ok (.iload_n 3, 1) := by decide +kernel
theorem dL_undone_330 : decode cL_undone 330 = .ok (.iload 9, 2) := by decide +kernel
theorem dL_undone_332 : decode cL_undone 332 = .ok (.ifCond .eq 7, 3) := by decide +kernel
theorem dL_undone_335 : decode cL_undone 335 = .ok (.iconst 1, 1) := by decide +kernel
theorem dL_undone_336 : decode cL_undone 336 = .ok (.goto 4, 3) := by decide +kernel
theorem dL_undone_339 : decode cL_undone 339 = .ok (.iconst 0, 1) := by decide +kernel
theorem dL_undone_340 : decode cL_undone 340 = .ok (.iadd, 1) := by decide +kernel
theorem dL_undone_341 : decode cL_undone 341 = .ok (.istore_n 3, 1) := by decide +kernel
theorem dL_undone_342 : decode cL_undone 342 = .ok (.iinc 4 1, 3) := by decide +kernel
theorem dL_undone_345 : decode cL_undone 345 = .ok (.goto (-335), 3) := by decide +kernel
theorem dL_undone_348 : decode cL_undone 348 = .ok (.iload_n 3, 1) := by decide +kernel
theorem dL_undone_349 : decode cL_undone 349 = .ok (.iconst 1, 1) := by decide +kernel
theorem dL_undone_350 : decode cL_undone 350 = .ok (.isub, 1) := by decide +kernel
theorem dL_undone_351 : decode cL_undone 351 = .ok (.istore 4, 2) := by decide +kernel
theorem dL_undone_353 : decode cL_undone 353 = .ok (.iload 4, 2) := by decide +kernel
theorem dL_undone_355 : decode cL_undone 355 = .ok (.ifCond .lt 30, 3) := by decide +kernel
theorem dL_undone_358 : decode cL_undone 358 = .ok (.aload_n 1, 1) := by decide +kernel
theorem dL_undone_359 : decode cL_undone 359 = .ok (.invokestatic 287, 3) := by decide +kernel
theorem dL_undone_362 : decode cL_undone 362 = .ok (.ifCond .lt 15, 3) := by decide +kernel
theorem dL_undone_365 : decode cL_undone 365 = .ok (.aload_n 1, 1) := by decide +kernel
theorem dL_undone_366 : decode cL_undone 366 = .ok (.invokestatic 336, 3) := by decide +kernel
theorem dL_undone_369 : decode cL_undone 369 = .ok (.aload_n 2, 1) := by decide +kernel
theorem dL_undone_370 : decode cL_undone 370 = .ok (.iload 4, 2) := by decide +kernel
theorem dL_undone_372 : decode cL_undone 372 = .ok (.laload, 1) := by decide +kernel
theorem dL_undone_373 : decode cL_undone 373 = .ok (.lcmp, 1) := by decide +kernel
theorem dL_undone_374 : decode cL_undone 374 = .ok (.ifCond .eq 5, 3) := by decide +kernel
theorem dL_undone_377 : decode cL_undone 377 = .ok (.iconst 0, 1) := by decide +kernel
theorem dL_undone_378 : decode cL_undone 378 = .ok (.ireturn, 1) := by decide +kernel
theorem dL_undone_379 : decode cL_undone 379 = .ok (.iinc 4 (-1), 3) := by decide +kernel
theorem dL_undone_382 : decode cL_undone 382 = .ok (.goto (-29), 3) := by decide +kernel
theorem dL_undone_385 : decode cL_undone 385 = .ok (.iconst 1, 1) := by decide +kernel
theorem dL_undone_386 : decode cL_undone 386 = .ok (.ireturn, 1) := by decide +kernel
