theorem d_M_isWire_0 : decode c_M_isWire 0 = .ok (.iload_n 2, 1) := by decide +kernel
theorem d_M_isWire_1 : decode c_M_isWire 1 = .ok (.i2l, 1) := by decide +kernel
theorem d_M_isWire_2 : decode c_M_isWire 2 = .ok (.lconst 0, 1) := by decide +kernel
theorem d_M_isWire_3 : decode c_M_isWire 3 = .ok (.aload_n 0, 1) := by decide +kernel
theorem d_M_isWire_4 : decode c_M_isWire 4 = .ok (.getfield 13, 3) := by decide +kernel
theorem d_M_isWire_7 : decode c_M_isWire 7 = .ok (.iload_n 1, 1) := by decide +kernel
theorem d_M_isWire_8 : decode c_M_isWire 8 = .ok (.iaload, 1) := by decide +kernel
theorem d_M_isWire_9 : decode c_M_isWire 9 = .ok (.iconst 1, 1) := by decide +kernel
theorem d_M_isWire_10 : decode c_M_isWire 10 = .ok (.isub, 1) := by decide +kernel
theorem d_M_isWire_11 : decode c_M_isWire 11 = .ok (.i2l, 1) := by decide +kernel
theorem d_M_isWire_12 : decode c_M_isWire 12 = .ok (.invokestatic 82, 3) := by decide +kernel
theorem d_M_isWire_15 : decode c_M_isWire 15 = .ok (.ireturn, 1) := by decide +kernel
theorem d_M_adds_0 : decode c_M_adds 0 = .ok (.aload_n 0, 1) := by decide +kernel
theorem d_M_adds_1 : decode c_M_adds 1 = .ok (.iconst 0, 1) := by decide +kernel
theorem d_M_adds_2 : decode c_M_adds 2 = .ok (.putfield 69, 3) := by decide +kernel
theorem d_M_adds_5 : decode c_M_adds 5 = .ok (.iload_n 1, 1) := by decide +kernel
theorem d_M_adds_6 : decode c_M_adds 6 = .ok (.invokestatic 151, 3) := by decide +kernel
theorem d_M_adds_9 : decode c_M_adds 9 = .ok (.ifCond .eq 37, 3) := by decide +kernel
theorem d_M_adds_12 : decode c_M_adds 12 = .ok (.aload_n 0, 1) := by decide +kernel
theorem d_M_adds_13 : decode c_M_adds 13 = .ok (.iload_n 1, 1) := by decide +kernel
theorem d_M_adds_14 : decode c_M_adds 14 = .ok (.iload_n 2, 1) := by decide +kernel
theorem d_M_adds_15 : decode c_M_adds 15 = .ok (.invokevirtual 196, 3) := by decide +kernel
theorem d_M_adds_18 : decode c_M_adds 18 = .ok (.ifCond .eq 28, 3) := by decide +kernel
theorem d_M_adds_21 : decode c_M_adds 21 = .ok (.aload_n 0, 1) := by decide +kernel
theorem d_M_adds_22 : decode c_M_adds 22 = .ok (.iload_n 1, 1) := by decide +kernel
theorem d_M_adds_23 : decode c_M_adds 23 = .ok (.iload_n 3, 1) := by decide +kernel
theorem d_M_adds_24 : decode c_M_adds 24 = .ok (.invokevirtual 196, 3) := by decide +kernel
theorem d_M_adds_27 : decode c_M_adds 27 = .ok (.ifCond .eq 19, 3) := by decide +kernel
theorem d_M_adds_30 : decode c_M_adds 30 = .ok (.iload_n 2, 1) := by decide +kernel
theorem d_M_adds_31 : decode c_M_adds 31 = .ok (.iload_n 3, 1) := by decide +kernel
theorem d_M_adds_32 : decode c_M_adds 32 = .ok (.if_icmp .ge 14, 3) := by decide +kernel
theorem d_M_adds_35 : decode c_M_adds 35 = .ok (.aload_n 0, 1) := by decide +kernel
theorem d_M_adds_36 : decode c_M_adds 36 = .ok (.getfield 17, 3) := by decide +kernel
theorem d_M_adds_39 : decode c_M_adds 39 = .ok (.iload_n 1, 1) := by decide +kernel
theorem d_M_adds_40 : decode c_M_adds 40 = .ok (.iaload, 1) := by decide +kernel
theorem d_M_adds_41 : decode c_M_adds 41 = .ok (.bipush 60, 2) := by decide +kernel
theorem d_M_adds_43 : decode c_M_adds 43 = .ok (.if_icmp .ne 5, 3) := by decide +kernel
theorem d_M_adds_46 : decode c_M_adds 46 = .ok (.iconst (-1), 1) := by decide +kernel
theorem d_M_adds_47 : decode c_M_adds 47 = .ok (.ireturn, 1) := by decide +kernel
theorem d_M_adds_48 : decode c_M_adds 48 = .ok (.aload_n 0, 1) := by decide +kernel
theorem d_M_adds_49 : decode c_M_adds 49 = .ok (.iload_n 1, 1) := by decide +kernel
theorem d_M_adds_50 : decode c_M_adds 50 = .ok (.iload_n 2, 1) := by decide +kernel
theorem d_M_adds_51 : decode c_M_adds 51 = .ok (.iload_n 3, 1) := by decide +kernel
theorem d_M_adds_52 : decode c_M_adds 52 = .ok (.invokevirtual 141, 3) := by decide +kernel
theorem d_M_adds_55 : decode c_M_adds 55 = .ok (.aload_n 0, 1) := by decide +kernel
theorem d_M_adds_56 : decode c_M_adds 56 = .ok (.getfield 17, 3) := by decide +kernel
theorem d_M_adds_59 : decode c_M_adds 59 = .ok (.iload_n 1, 1) := by decide +kernel
theorem d_M_adds_60 : decode c_M_adds 60 = .ok (.iaload, 1) := by decide +kernel
theorem d_M_adds_61 : decode c_M_adds 61 = .ok (.ireturn, 1) := by decide +kernel
theorem d_M_isComparer_0 : decode c_M_isComparer 0 = .ok (.iload_n 2, 1) := by decide +kernel
theorem d_M_isComparer_1 : decode c_M_isComparer 1 = .ok (.i2l, 1) := by decide +kernel
theorem d_M_isComparer_2 : decode c_M_isComparer 2 = .ok (.lconst 0, 1) := by decide +kernel
theorem d_M_isComparer_3 : decode c_M_isComparer 3 = .ok (.aload_n 0, 1) := by decide +kernel
theorem d_M_isComparer_4 : decode c_M_isComparer 4 = .ok (.getfield 17, 3) := by decide +kernel
theorem d_M_isComparer_7 : decode c_M_isComparer 7 = .ok (.iload_n 1, 1) := by decide +kernel
theorem d_M_isComparer_8 : decode c_M_isComparer 8 = .ok (.iaload, 1) := by decide +kernel
theorem d_M_isComparer_9 : decode c_M_isComparer 9 = .ok (.iconst 1, 1) := by decide +kernel
theorem d_M_isComparer_10 : decode c_M_isComparer 10 = .ok (.isub, 1) := by decide +kernel
theorem d_M_isComparer_11 : decode c_M_isComparer 11 = .ok (.i2l, 1) := by decide +kernel
theorem d_M_isComparer_12 : decode c_M_isComparer 12 = .ok (.invokestatic 82, 3) := by decide +kernel
theorem d_M_isComparer_15 : decode c_M_isComparer 15 = .ok (.ireturn, 1) := by decide +kernel
theorem d_M_goes_0 : decode c_M_goes 0 = .ok (.iload_n 2, 1) := by decide +kernel
theorem d_M_goes_1 : decode c_M_goes 1 = .ok (.iconst 1, 1) := by decide +kernel
theorem d_M_goes_2 : decode c_M_goes 2 = .ok (.iadd, 1) := by decide +kernel
theorem d_M_goes_3 : decode c_M_goes 3 = .ok (.istore_n 3, 1) := by decide +kernel
theorem d_M_goes_4 : decode c_M_goes 4 = .ok (.iload_n 3, 1) := by decide +kernel
theorem d_M_goes_5 : decode c_M_goes 5 = .ok (.aload_n 0, 1) := by decide +kernel
theorem d_M_goes_6 : decode c_M_goes 6 = .ok (.getfield 17, 3) := by decide +kernel
theorem d_M_goes_9 : decode c_M_goes 9 = .ok (.iload_n 1, 1) := by decide +kernel
theorem d_M_goes_10 : decode c_M_goes 10 = .ok (.iaload, 1) := by decide +kernel
theorem d_M_goes_11 : decode c_M_goes 11 = .ok (.if_icmp .ge 29, 3) := by decide +kernel
theorem d_M_goes_14 : decode c_M_goes 14 = .ok (.aload_n 0, 1) := by decide +kernel
theorem d_M_goes_15 : decode c_M_goes 15 = .ok (.iload_n 1, 1) := by decide +kernel
theorem d_M_goes_16 : decode c_M_goes 16 = .ok (.iload_n 3, 1) := by decide +kernel
theorem d_M_goes_17 : decode c_M_goes 17 = .ok (.iconst 1, 1) := by decide +kernel
theorem d_M_goes_18 : decode c_M_goes 18 = .ok (.isub, 1) := by decide +kernel
theorem d_M_goes_19 : decode c_M_goes 19 = .ok (.aload_n 0, 1) := by decide +kernel
theorem d_M_goes_20 : decode c_M_goes 20 = .ok (.iload_n 1, 1) := by decide +kernel
theorem d_M_goes_21 : decode c_M_goes 21 = .ok (.iload_n 3, 1) := by decide +kernel
theorem d_M_goes_22 : decode c_M_goes 22 = .ok (.invokevirtual 199, 3) := by decide +kernel
theorem d_M_goes_25 : decode c_M_goes 25 = .ok (.aload_n 0, 1) := by decide +kernel
theorem d_M_goes_26 : decode c_M_goes 26 = .ok (.iload_n 1, 1) := by decide +kernel
theorem d_M_goes_27 : decode c_M_goes 27 = .ok (.iload_n 3, 1) := by decide +kernel
theorem d_M_goes_28 : decode c_M_goes 28 = .ok (.invokevirtual 202, 3) := by decide +kernel
theorem d_M_goes_31 : decode c_M_goes 31 = .ok (.invokevirtual 90, 3) := by decide +kernel
theorem d_M_goes_34 : decode c_M_goes 34 = .ok (.iinc 3 1, 3) := by decide +kernel
theorem d_M_goes_37 : decode c_M_goes 37 = .ok (.goto (-33), 3) := by decide +kernel
theorem d_M_goes_40 : decode c_M_goes 40 = .ok (.aload_n 0, 1) := by decide +kernel
theorem d_M_goes_41 : decode c_M_goes 41 = .ok (.getfield 17, 3) := by decide +kernel
theorem d_M_goes_44 : decode c_M_goes 44 = .ok (.iload_n 1, 1) := by decide +kernel
theorem d_M_goes_45 : decode c_M_goes 45 = .ok (.dup2, 1) := by decide +kernel
theorem d_M_goes_46 : decode c_M_goes 46 = .ok (.iaload, 1) := by decide +kernel
theorem d_M_goes_47 : decode c_M_goes 47 = .ok (.iconst 1, 1) := by decide +kernel
theorem d_M_goes_48 : decode c_M_goes 48 = .ok (.isub, 1) := by decide +kernel
theorem d_M_goes_49 : decode c_M_goes 49 = .ok (.iastore, 1) := by decide +kernel
theorem d_M_goes_50 : decode c_M_goes 50 = .ok (.return_, 1) := by decide +kernel
theorem d_M_drops_0 : decode c_M_drops 0 = .ok (.aload_n 0, 1) := by decide +kernel
theorem d_M_drops_1 : decode c_M_drops 1 = .ok (.iconst 0, 1) := by decide +kernel
theorem d_M_drops_2 : decode c_M_drops 2 = .ok (.putfield 69, 3) := by decide +kernel
theorem d_M_drops_5 : decode c_M_drops 5 = .ok (.iload_n 1, 1) := by decide +kernel
theorem d_M_drops_6 : decode c_M_drops 6 = .ok (.invokestatic 151, 3) := by decide +kernel
theorem d_M_drops_9 : decode c_M_drops 9 = .ok (.ifCond .eq 12, 3) := by decide +kernel
theorem d_M_drops_12 : decode c_M_drops 12 = .ok (.aload_n 0, 1) := by decide +kernel
theorem d_M_drops_13 : decode c_M_drops 13 = .ok (.iload_n 1, 1) := by decide +kernel
theorem d_M_drops_14 : decode c_M_drops 14 = .ok (.iload_n 2, 1) := by decide +kernel
theorem d_M_drops_15 : decode c_M_drops 15 = .ok (.invokevirtual 205, 3) := by decide +kernel
theorem d_M_drops_18 : decode c_M_drops 18 = .ok (.ifCond .ne 5, 3) := by decide +kernel
theorem d_M_drops_21 : decode c_M_drops 21 = .ok (.iconst (-1), 1) := by decide +kernel
theorem d_M_drops_22 : decode c_M_drops 22 = .ok (.ireturn, 1) := by decide +kernel
theorem d_M_drops_23 : decode c_M_drops 23 = .ok (.aload_n 0, 1) := by decide +kernel
theorem d_M_drops_24 : decode c_M_drops 24 = .ok (.iload_n 1, 1) := by decide +kernel
theorem d_M_drops_25 : decode c_M_drops 25 = .ok (.iload_n 2, 1) := by decide +kernel
theorem d_M_drops_26 : decode c_M_drops 26 = .ok (.invokevirtual 208, 3) := by decide +kernel
theorem d_M_drops_29 : decode c_M_drops 29 = .ok (.aload_n 0, 1) := by decide +kernel
theorem d_M_drops_30 : decode c_M_drops 30 = .ok (.getfield 17, 3) := by decide +kernel
theorem d_M_drops_33 : decode c_M_drops 33 = .ok (.iload_n 1, 1) := by decide +kernel
theorem d_M_drops_34 : decode c_M_drops 34 = .ok (.iaload, 1) := by decide +kernel
theorem d_M_drops_35 : decode c_M_drops 35 = .ok (.ireturn, 1) := by decide +kernel
theorem d_M_touch_0 : decode c_M_touch 0 = .ok (.aload_n 0, 1) := by decide +kernel
theorem d_M_touch_1 : decode c_M_touch 1 = .ok (.iload_n 1, 1) := by decide +kernel
theorem d_M_touch_2 : decode c_M_touch 2 = .ok (.iload_n 2, 1) := by decide +kernel
theorem d_M_touch_3 : decode c_M_touch 3 = .ok (.invokevirtual 199, 3) := by decide +kernel
theorem d_M_touch_6 : decode c_M_touch 6 = .ok (.aload_n 0, 1) := by decide +kernel
theorem d_M_touch_7 : decode c_M_touch 7 = .ok (.iload_n 1, 1) := by decide +kernel
theorem d_M_touch_8 : decode c_M_touch 8 = .ok (.iload_n 3, 1) := by decide +kernel
theorem d_M_touch_9 : decode c_M_touch 9 = .ok (.invokevirtual 199, 3) := by decide +kernel
theorem d_M_touch_12 : decode c_M_touch 12 = .ok (.if_icmp .eq 48, 3) := by decide +kernel
theorem d_M_touch_15 : decode c_M_touch 15 = .ok (.aload_n 0, 1) := by decide +kernel
theorem d_M_touch_16 : decode c_M_touch 16 = .ok (.iload_n 1, 1) := by decide +kernel
theorem d_M_touch_17 : decode c_M_touch 17 = .ok (.iload_n 2, 1) := by decide +kernel
theorem d_M_touch_18 : decode c_M_touch 18 = .ok (.invokevirtual 199, 3) := by decide +kernel
theorem d_M_touch_21 : decode c_M_touch 21 = .ok (.aload_n 0, 1) := by decide +kernel
theorem d_M_touch_22 : decode c_M_touch 22 = .ok (.iload_n 1, 1) := by decide +kernel
theorem d_M_touch_23 : decode c_M_touch 23 = .ok (.iload_n 3, 1) := by decide +kernel
theorem d_M_touch_24 : decode c_M_touch 24 = .ok (.invokevirtual 202, 3) := by decide +kernel
theorem d_M_touch_27 : decode c_M_touch 27 = .ok (.if_icmp .eq 33, 3) := by decide +kernel
theorem d_M_touch_30 : decode c_M_touch 30 = .ok (.aload_n 0, 1) := by decide +kernel
theorem d_M_touch_31 : decode c_M_touch 31 = .ok (.iload_n 1, 1) := by decide +kernel
theorem d_M_touch_32 : decode c_M_touch 32 = .ok (.iload_n 2, 1) := by decide +kernel
theorem d_M_touch_33 : decode c_M_touch 33 = .ok (.invokevirtual 202, 3) := by decide +kernel
theorem d_M_touch_36 : decode c_M_touch 36 = .ok (.aload_n 0, 1) := by decide +kernel
theorem d_M_touch_37 : decode c_M_touch 37 = .ok (.iload_n 1, 1) := by decide +kernel
theorem d_M_touch_38 : decode c_M_touch 38 = .ok (.iload_n 3, 1) := by decide +kernel
theorem d_M_touch_39 : decode c_M_touch 39 = .ok (.invokevirtual 199, 3) := by decide +kernel
theorem d_M_touch_42 : decode c_M_touch 42 = .ok (.if_icmp .eq 18, 3) := by decide +kernel
theorem d_M_touch_45 : decode c_M_touch 45 = .ok (.aload_n 0, 1) := by decide +kernel
theorem d_M_touch_46 : decode c_M_touch 46 = .ok (.iload_n 1, 1) := by decide +kernel
theorem d_M_touch_47 : decode c_M_touch 47 = .ok (.iload_n 2, 1) := by decide +kernel
theorem d_M_touch_48 : decode c_M_touch 48 = .ok (.invokevirtual 202, 3) := by decide +kernel
theorem d_M_touch_51 : decode c_M_touch 51 = .ok (.aload_n 0, 1) := by decide +kernel
theorem d_M_touch_52 : decode c_M_touch 52 = .ok (.iload_n 1, 1) := by decide +kernel
theorem d_M_touch_53 : decode c_M_touch 53 = .ok (.iload_n 3, 1) := by decide +kernel
theorem d_M_touch_54 : decode c_M_touch 54 = .ok (.invokevirtual 202, 3) := by decide +kernel
theorem d_M_touch_57 : decode c_M_touch 57 = .ok (.if_icmp .ne 7, 3) := by decide +kernel
theorem d_M_touch_60 : decode c_M_touch 60 = .ok (.iconst 1, 1) := by decide +kernel
theorem d_M_touch_61 : decode c_M_touch 61 = .ok (.goto 4, 3) := by decide +kernel
theorem d_M_touch_64 : decode c_M_touch 64 = .ok (.iconst 0, 1) := by decide +kernel
theorem d_M_touch_65 : decode c_M_touch 65 = .ok (.ireturn, 1) := by decide +kernel
theorem d_M_changes_0 : decode c_M_changes 0 = .ok (.aload_n 0, 1) := by decide +kernel
theorem d_M_changes_1 : decode c_M_changes 1 = .ok (.iload_n 1, 1) := by decide +kernel
theorem d_M_changes_2 : decode c_M_changes 2 = .ok (.iload_n 2, 1) := by decide +kernel
theorem d_M_changes_3 : decode c_M_changes 3 = .ok (.invokevirtual 199, 3) := by decide +kernel
theorem d_M_changes_6 : decode c_M_changes 6 = .ok (.istore 4, 2) := by decide +kernel
theorem d_M_changes_8 : decode c_M_changes 8 = .ok (.aload_n 0, 1) := by decide +kernel
theorem d_M_changes_9 : decode c_M_changes 9 = .ok (.iload_n 1, 1) := by decide +kernel
theorem d_M_changes_10 : decode c_M_changes 10 = .ok (.iload_n 2, 1) := by decide +kernel
theorem d_M_changes_11 : decode c_M_changes 11 = .ok (.invokevirtual 202, 3) := by decide +kernel
theorem d_M_changes_14 : decode c_M_changes 14 = .ok (.istore 5, 2) := by decide +kernel
theorem d_M_changes_16 : decode c_M_changes 16 = .ok (.aload_n 0, 1) := by decide +kernel
theorem d_M_changes_17 : decode c_M_changes 17 = .ok (.iload_n 1, 1) := by decide +kernel
theorem d_M_changes_18 : decode c_M_changes 18 = .ok (.iload_n 2, 1) := by decide +kernel
theorem d_M_changes_19 : decode c_M_changes 19 = .ok (.aload_n 0, 1) := by decide +kernel
theorem d_M_changes_20 : decode c_M_changes 20 = .ok (.iload_n 1, 1) := by decide +kernel
theorem d_M_changes_21 : decode c_M_changes 21 = .ok (.iload_n 3, 1) := by decide +kernel
theorem d_M_changes_22 : decode c_M_changes 22 = .ok (.invokevirtual 199, 3) := by decide +kernel
theorem d_M_changes_25 : decode c_M_changes 25 = .ok (.aload_n 0, 1) := by decide +kernel
theorem d_M_changes_26 : decode c_M_changes 26 = .ok (.iload_n 1, 1) := by decide +kernel
theorem d_M_changes_27 : decode c_M_changes 27 = .ok (.iload_n 3, 1) := by decide +kernel
theorem d_M_changes_28 : decode c_M_changes 28 = .ok (.invokevirtual 202, 3) := by decide +kernel
theorem d_M_changes_31 : decode c_M_changes 31 = .ok (.invokevirtual 90, 3) := by decide +kernel
theorem d_M_changes_34 : decode c_M_changes 34 = .ok (.aload_n 0, 1) := by decide +kernel
theorem d_M_changes_35 : decode c_M_changes 35 = .ok (.iload_n 1, 1) := by decide +kernel
theorem d_M_changes_36 : decode c_M_changes 36 = .ok (.iload_n 3, 1) := by decide +kernel
theorem d_M_changes_37 : decode c_M_changes 37 = .ok (.iload 4, 2) := by decide +kernel
theorem d_M_changes_39 : decode c_M_changes 39 = .ok (.iload 5, 2) := by decide +kernel
theorem d_M_changes_41 : decode c_M_changes 41 = .ok (.invokevirtual 90, 3) := by decide +kernel
theorem d_M_changes_44 : decode c_M_changes 44 = .ok (.return_, 1) := by decide +kernel
theorem d_M_swaps_0 : decode c_M_swaps 0 = .ok (.aload_n 0, 1) := by decide +kernel
theorem d_M_swaps_1 : decode c_M_swaps 1 = .ok (.iconst 0, 1) := by decide +kernel
theorem d_M_swaps_2 : decode c_M_swaps 2 = .ok (.putfield 69, 3) := by decide +kernel
theorem d_M_swaps_5 : decode c_M_swaps 5 = .ok (.iload_n 1, 1) := by decide +kernel
theorem d_M_swaps_6 : decode c_M_swaps 6 = .ok (.invokestatic 151, 3) := by decide +kernel
theorem d_M_swaps_9 : decode c_M_swaps 9 = .ok (.ifCond .eq 23, 3) := by decide +kernel
theorem d_M_swaps_12 : decode c_M_swaps 12 = .ok (.aload_n 0, 1) := by decide +kernel
theorem d_M_swaps_13 : decode c_M_swaps 13 = .ok (.iload_n 1, 1) := by decide +kernel
theorem d_M_swaps_14 : decode c_M_swaps 14 = .ok (.iload_n 2, 1) := by decide +kernel
theorem d_M_swaps_15 : decode c_M_swaps 15 = .ok (.invokevirtual 205, 3) := by decide +kernel
theorem d_M_swaps_18 : decode c_M_swaps 18 = .ok (.ifCond .eq 14, 3) := by decide +kernel
theorem d_M_swaps_21 : decode c_M_swaps 21 = .ok (.aload_n 0, 1) := by decide +kernel
theorem d_M_swaps_22 : decode c_M_swaps 22 = .ok (.iload_n 1, 1) := by decide +kernel
theorem d_M_swaps_23 : decode c_M_swaps 23 = .ok (.iload_n 2, 1) := by decide +kernel
theorem d_M_swaps_24 : decode c_M_swaps 24 = .ok (.iconst 1, 1) := by decide +kernel
theorem d_M_swaps_25 : decode c_M_swaps 25 = .ok (.iadd, 1) := by decide +kernel
theorem d_M_swaps_26 : decode c_M_swaps 26 = .ok (.invokevirtual 205, 3) := by decide +kernel
theorem d_M_swaps_29 : decode c_M_swaps 29 = .ok (.ifCond .ne 5, 3) := by decide +kernel
theorem d_M_swaps_32 : decode c_M_swaps 32 = .ok (.iconst (-1), 1) := by decide +kernel
theorem d_M_swaps_33 : decode c_M_swaps 33 = .ok (.ireturn, 1) := by decide +kernel
theorem d_M_swaps_34 : decode c_M_swaps 34 = .ok (.aload_n 0, 1) := by decide +kernel
theorem d_M_swaps_35 : decode c_M_swaps 35 = .ok (.iload_n 1, 1) := by decide +kernel
theorem d_M_swaps_36 : decode c_M_swaps 36 = .ok (.iload_n 2, 1) := by decide +kernel
theorem d_M_swaps_37 : decode c_M_swaps 37 = .ok (.iload_n 2, 1) := by decide +kernel
theorem d_M_swaps_38 : decode c_M_swaps 38 = .ok (.iconst 1, 1) := by decide +kernel
theorem d_M_swaps_39 : decode c_M_swaps 39 = .ok (.iadd, 1) := by decide +kernel
theorem d_M_swaps_40 : decode c_M_swaps 40 = .ok (.invokevirtual 211, 3) := by decide +kernel
theorem d_M_swaps_43 : decode c_M_swaps 43 = .ok (.ifCond .ne 7, 3) := by decide +kernel
theorem d_M_swaps_46 : decode c_M_swaps 46 = .ok (.iconst 1, 1) := by decide +kernel
theorem d_M_swaps_47 : decode c_M_swaps 47 = .ok (.goto 4, 3) := by decide +kernel
theorem d_M_swaps_50 : decode c_M_swaps 50 = .ok (.iconst 0, 1) := by decide +kernel
theorem d_M_swaps_51 : decode c_M_swaps 51 = .ok (.invokestatic 188, 3) := by decide +kernel
theorem d_M_swaps_54 : decode c_M_swaps 54 = .ok (.istore_n 3, 1) := by decide +kernel
theorem d_M_swaps_55 : decode c_M_swaps 55 = .ok (.aload_n 0, 1) := by decide +kernel
theorem d_M_swaps_56 : decode c_M_swaps 56 = .ok (.iload_n 1, 1) := by decide +kernel
theorem d_M_swaps_57 : decode c_M_swaps 57 = .ok (.iload_n 2, 1) := by decide +kernel
theorem d_M_swaps_58 : decode c_M_swaps 58 = .ok (.iload_n 2, 1) := by decide +kernel
theorem d_M_swaps_59 : decode c_M_swaps 59 = .ok (.iconst 1, 1) := by decide +kernel
theorem d_M_swaps_60 : decode c_M_swaps 60 = .ok (.iadd, 1) := by decide +kernel
theorem d_M_swaps_61 : decode c_M_swaps 61 = .ok (.invokevirtual 215, 3) := by decide +kernel
theorem d_M_swaps_64 : decode c_M_swaps 64 = .ok (.iload_n 3, 1) := by decide +kernel
theorem d_M_swaps_65 : decode c_M_swaps 65 = .ok (.ireturn, 1) := by decide +kernel
theorem d_M_copies_0 : decode c_M_copies 0 = .ok (.aload_n 0, 1) := by decide +kernel
theorem d_M_copies_1 : decode c_M_copies 1 = .ok (.iconst 0, 1) := by decide +kernel
theorem d_M_copies_2 : decode c_M_copies 2 = .ok (.putfield 69, 3) := by decide +kernel
theorem d_M_copies_5 : decode c_M_copies 5 = .ok (.iload_n 1, 1) := by decide +kernel
theorem d_M_copies_6 : decode c_M_copies 6 = .ok (.invokestatic 151, 3) := by decide +kernel
theorem d_M_copies_9 : decode c_M_copies 9 = .ok (.ifCond .eq 10, 3) := by decide +kernel
theorem d_M_copies_12 : decode c_M_copies 12 = .ok (.iload_n 2, 1) := by decide +kernel
theorem d_M_copies_13 : decode c_M_copies 13 = .ok (.invokestatic 151, 3) := by decide +kernel
theorem d_M_copies_16 : decode c_M_copies 16 = .ok (.ifCond .ne 5, 3) := by decide +kernel
theorem d_M_copies_19 : decode c_M_copies 19 = .ok (.iconst (-1), 1) := by decide +kernel
theorem d_M_copies_20 : decode c_M_copies 20 = .ok (.ireturn, 1) := by decide +kernel
theorem d_M_copies_21 : decode c_M_copies 21 = .ok (.aload_n 0, 1) := by decide +kernel
theorem d_M_copies_22 : decode c_M_copies 22 = .ok (.getfield 13, 3) := by decide +kernel
theorem d_M_copies_25 : decode c_M_copies 25 = .ok (.iload_n 2, 1) := by decide +kernel
theorem d_M_copies_26 : decode c_M_copies 26 = .ok (.aload_n 0, 1) := by decide +kernel
theorem d_M_copies_27 : decode c_M_copies 27 = .ok (.getfield 13, 3) := by decide +kernel
theorem d_M_copies_30 : decode c_M_copies 30 = .ok (.iload_n 1, 1) := by decide +kernel
theorem d_M_copies_31 : decode c_M_copies 31 = .ok (.iaload, 1) := by decide +kernel
theorem d_M_copies_32 : decode c_M_copies 32 = .ok (.iastore, 1) := by decide +kernel
theorem d_M_copies_33 : decode c_M_copies 33 = .ok (.aload_n 0, 1) := by decide +kernel
theorem d_M_copies_34 : decode c_M_copies 34 = .ok (.getfield 17, 3) := by decide +kernel
theorem d_M_copies_37 : decode c_M_copies 37 = .ok (.iload_n 2, 1) := by decide +kernel
theorem d_M_copies_38 : decode c_M_copies 38 = .ok (.aload_n 0, 1) := by decide +kernel
theorem d_M_copies_39 : decode c_M_copies 39 = .ok (.getfield 17, 3) := by decide +kernel
theorem d_M_copies_42 : decode c_M_copies 42 = .ok (.iload_n 1, 1) := by decide +kernel
theorem d_M_copies_43 : decode c_M_copies 43 = .ok (.iaload, 1) := by decide +kernel
theorem d_M_copies_44 : decode c_M_copies 44 = .ok (.iastore, 1) := by decide +kernel
theorem d_M_copies_45 : decode c_M_copies 45 = .ok (.iconst 0, 1) := by decide +kernel
theorem d_M_copies_46 : decode c_M_copies 46 = .ok (.istore_n 3, 1) := by decide +kernel
theorem d_M_copies_47 : decode c_M_copies 47 = .ok (.iload_n 3, 1) := by decide +kernel
theorem d_M_copies_48 : decode c_M_copies 48 = .ok (.aload_n 0, 1) := by decide +kernel
theorem d_M_copies_49 : decode c_M_copies 49 = .ok (.getfield 17, 3) := by decide +kernel
theorem d_M_copies_52 : decode c_M_copies 52 = .ok (.iload_n 1, 1) := by decide +kernel
theorem d_M_copies_53 : decode c_M_copies 53 = .ok (.iaload, 1) := by decide +kernel
theorem d_M_copies_54 : decode c_M_copies 54 = .ok (.if_icmp .ge 27, 3) := by decide +kernel
theorem d_M_copies_57 : decode c_M_copies 57 = .ok (.aload_n 0, 1) := by decide +kernel
theorem d_M_copies_58 : decode c_M_copies 58 = .ok (.iload_n 2, 1) := by decide +kernel
theorem d_M_copies_59 : decode c_M_copies 59 = .ok (.iload_n 3, 1) := by decide +kernel
theorem d_M_copies_60 : decode c_M_copies 60 = .ok (.aload_n 0, 1) := by decide +kernel
theorem d_M_copies_61 : decode c_M_copies 61 = .ok (.iload_n 1, 1) := by decide +kernel
theorem d_M_copies_62 : decode c_M_copies 62 = .ok (.iload_n 3, 1) := by decide +kernel
theorem d_M_copies_63 : decode c_M_copies 63 = .ok (.invokevirtual 199, 3) := by decide +kernel
theorem d_M_copies_66 : decode c_M_copies 66 = .ok (.aload_n 0, 1) := by decide +kernel
theorem d_M_copies_67 : decode c_M_copies 67 = .ok (.iload_n 1, 1) := by decide +kernel
theorem d_M_copies_68 : decode c_M_copies 68 = .ok (.iload_n 3, 1) := by decide +kernel
theorem d_M_copies_69 : decode c_M_copies 69 = .ok (.invokevirtual 202, 3) := by decide +kernel
theorem d_M_copies_72 : decode c_M_copies 72 = .ok (.invokevirtual 90, 3) := by decide +kernel
theorem d_M_copies_75 : decode c_M_copies 75 = .ok (.iinc 3 1, 3) := by decide +kernel
theorem d_M_copies_78 : decode c_M_copies 78 = .ok (.goto (-31), 3) := by decide +kernel
theorem d_M_copies_81 : decode c_M_copies 81 = .ok (.aload_n 0, 1) := by decide +kernel
theorem d_M_copies_82 : decode c_M_copies 82 = .ok (.getfield 17, 3) := by decide +kernel
theorem d_M_copies_85 : decode c_M_copies 85 = .ok (.iload_n 2, 1) := by decide +kernel
theorem d_M_copies_86 : decode c_M_copies 86 = .ok (.iaload, 1) := by decide +kernel
theorem d_M_copies_87 : decode c_M_copies 87 = .ok (.ireturn, 1) := by decide +kernel
theorem d_M_joins_0 : decode c_M_joins 0 = .ok (.aload_n 0, 1) := by decide +kernel
theorem d_M_joins_1 : decode c_M_joins 1 = .ok (.iconst 0, 1) := by decide +kernel
theorem d_M_joins_2 : decode c_M_joins 2 = .ok (.putfield 69, 3) := by decide +kernel
theorem d_M_joins_5 : decode c_M_joins 5 = .ok (.iload_n 1, 1) := by decide +kernel
theorem d_M_joins_6 : decode c_M_joins 6 = .ok (.invokestatic 151, 3) := by decide +kernel
theorem d_M_joins_9 : decode c_M_joins 9 = .ok (.ifCond .eq 10, 3) := by decide +kernel
theorem d_M_joins_12 : decode c_M_joins 12 = .ok (.iload_n 2, 1) := by decide +kernel
theorem d_M_joins_13 : decode c_M_joins 13 = .ok (.invokestatic 151, 3) := by decide +kernel
theorem d_M_joins_16 : decode c_M_joins 16 = .ok (.ifCond .ne 5, 3) := by decide +kernel
theorem d_M_joins_19 : decode c_M_joins 19 = .ok (.iconst (-1), 1) := by decide +kernel
theorem d_M_joins_20 : decode c_M_joins 20 = .ok (.ireturn, 1) := by decide +kernel
theorem d_M_joins_21 : decode c_M_joins 21 = .ok (.aload_n 0, 1) := by decide +kernel
theorem d_M_joins_22 : decode c_M_joins 22 = .ok (.getfield 13, 3) := by decide +kernel
theorem d_M_joins_25 : decode c_M_joins 25 = .ok (.iload_n 1, 1) := by decide +kernel
theorem d_M_joins_26 : decode c_M_joins 26 = .ok (.iaload, 1) := by decide +kernel
theorem d_M_joins_27 : decode c_M_joins 27 = .ok (.aload_n 0, 1) := by decide +kernel
theorem d_M_joins_28 : decode c_M_joins 28 = .ok (.getfield 13, 3) := by decide +kernel
theorem d_M_joins_31 : decode c_M_joins 31 = .ok (.iload_n 2, 1) := by decide +kernel
theorem d_M_joins_32 : decode c_M_joins 32 = .ok (.iaload, 1) := by decide +kernel
theorem d_M_joins_33 : decode c_M_joins 33 = .ok (.if_icmp .eq 6, 3) := by decide +kernel
theorem d_M_joins_36 : decode c_M_joins 36 = .ok (.bipush (-2), 2) := by decide +kernel
theorem d_M_joins_38 : decode c_M_joins 38 = .ok (.ireturn, 1) := by decide +kernel
theorem d_M_joins_39 : decode c_M_joins 39 = .ok (.aload_n 0, 1) := by decide +kernel
theorem d_M_joins_40 : decode c_M_joins 40 = .ok (.getfield 17, 3) := by decide +kernel
theorem d_M_joins_43 : decode c_M_joins 43 = .ok (.iload_n 2, 1) := by decide +kernel
theorem d_M_joins_44 : decode c_M_joins 44 = .ok (.iaload, 1) := by decide +kernel
theorem d_M_joins_45 : decode c_M_joins 45 = .ok (.istore_n 3, 1) := by decide +kernel
theorem d_M_joins_46 : decode c_M_joins 46 = .ok (.aload_n 0, 1) := by decide +kernel
theorem d_M_joins_47 : decode c_M_joins 47 = .ok (.getfield 17, 3) := by decide +kernel
theorem d_M_joins_50 : decode c_M_joins 50 = .ok (.iload_n 1, 1) := by decide +kernel
theorem d_M_joins_51 : decode c_M_joins 51 = .ok (.iaload, 1) := by decide +kernel
theorem d_M_joins_52 : decode c_M_joins 52 = .ok (.iload_n 3, 1) := by decide +kernel
theorem d_M_joins_53 : decode c_M_joins 53 = .ok (.iadd, 1) := by decide +kernel
theorem d_M_joins_54 : decode c_M_joins 54 = .ok (.bipush 60, 2) := by decide +kernel
theorem d_M_joins_56 : decode c_M_joins 56 = .ok (.if_icmp .le 6, 3) := by decide +kernel
theorem d_M_joins_59 : decode c_M_joins 59 = .ok (.bipush (-3), 2) := by decide +kernel
theorem d_M_joins_61 : decode c_M_joins 61 = .ok (.ireturn, 1) := by decide +kernel
theorem d_M_joins_62 : decode c_M_joins 62 = .ok (.iconst 0, 1) := by decide +kernel
theorem d_M_joins_63 : decode c_M_joins 63 = .ok (.istore 4, 2) := by decide +kernel
theorem d_M_joins_65 : decode c_M_joins 65 = .ok (.iload 4, 2) := by decide +kernel
theorem d_M_joins_67 : decode c_M_joins 67 = .ok (.iload_n 3, 1) := by decide +kernel
theorem d_M_joins_68 : decode c_M_joins 68 = .ok (.if_icmp .ge 28, 3) := by decide +kernel
theorem d_M_joins_71 : decode c_M_joins 71 = .ok (.aload_n 0, 1) := by decide +kernel
theorem d_M_joins_72 : decode c_M_joins 72 = .ok (.iload_n 1, 1) := by decide +kernel
theorem d_M_joins_73 : decode c_M_joins 73 = .ok (.aload_n 0, 1) := by decide +kernel
theorem d_M_joins_74 : decode c_M_joins 74 = .ok (.iload_n 2, 1) := by decide +kernel
theorem d_M_joins_75 : decode c_M_joins 75 = .ok (.iload 4, 2) := by decide +kernel
theorem d_M_joins_77 : decode c_M_joins 77 = .ok (.invokevirtual 199, 3) := by decide +kernel
theorem d_M_joins_80 : decode c_M_joins 80 = .ok (.aload_n 0, 1) := by decide +kernel
theorem d_M_joins_81 : decode c_M_joins 81 = .ok (.iload_n 2, 1) := by decide +kernel
theorem d_M_joins_82 : decode c_M_joins 82 = .ok (.iload 4, 2) := by decide +kernel
theorem d_M_joins_84 : decode c_M_joins 84 = .ok (.invokevirtual 202, 3) := by decide +kernel
theorem d_M_joins_87 : decode c_M_joins 87 = .ok (.invokevirtual 141, 3) := by decide +kernel
theorem d_M_joins_90 : decode c_M_joins 90 = .ok (.iinc 4 1, 3) := by decide +kernel
theorem d_M_joins_93 : decode c_M_joins 93 = .ok (.goto (-28), 3) := by decide +kernel
theorem d_M_joins_96 : decode c_M_joins 96 = .ok (.aload_n 0, 1) := by decide +kernel
theorem d_M_joins_97 : decode c_M_joins 97 = .ok (.getfield 17, 3) := by decide +kernel
theorem d_M_joins_100 : decode c_M_joins 100 = .ok (.iload_n 1, 1) := by decide +kernel
theorem d_M_joins_101 : decode c_M_joins 101 = .ok (.iaload, 1) := by decide +kernel
theorem d_M_joins_102 : decode c_M_joins 102 = .ok (.ireturn, 1) := by decide +kernel
theorem d_M_flips_0 : decode c_M_flips 0 = .ok (.aload_n 0, 1) := by decide +kernel
theorem d_M_flips_1 : decode c_M_flips 1 = .ok (.iconst 0, 1) := by decide +kernel
theorem d_M_flips_2 : decode c_M_flips 2 = .ok (.putfield 69, 3) := by decide +kernel
theorem d_M_flips_5 : decode c_M_flips 5 = .ok (.iload_n 1, 1) := by decide +kernel
theorem d_M_flips_6 : decode c_M_flips 6 = .ok (.invokestatic 151, 3) := by decide +kernel
theorem d_M_flips_9 : decode c_M_flips 9 = .ok (.ifCond .ne 5, 3) := by decide +kernel
theorem d_M_flips_12 : decode c_M_flips 12 = .ok (.iconst (-1), 1) := by decide +kernel
theorem d_M_flips_13 : decode c_M_flips 13 = .ok (.ireturn, 1) := by decide +kernel
theorem d_M_flips_14 : decode c_M_flips 14 = .ok (.iconst 0, 1) := by decide +kernel
theorem d_M_flips_15 : decode c_M_flips 15 = .ok (.istore_n 2, 1) := by decide +kernel
theorem d_M_flips_16 : decode c_M_flips 16 = .ok (.iload_n 2, 1) := by decide +kernel
theorem d_M_flips_17 : decode c_M_flips 17 = .ok (.aload_n 0, 1) := by decide +kernel
theorem d_M_flips_18 : decode c_M_flips 18 = .ok (.getfield 17, 3) := by decide +kernel
theorem d_M_flips_21 : decode c_M_flips 21 = .ok (.iload_n 1, 1) := by decide +kernel
theorem d_M_flips_22 : decode c_M_flips 22 = .ok (.iaload, 1) := by decide +kernel
theorem d_M_flips_23 : decode c_M_flips 23 = .ok (.iconst 2, 1) := by decide +kernel
theorem d_M_flips_24 : decode c_M_flips 24 = .ok (.idiv, 1) := by decide +kernel
theorem d_M_flips_25 : decode c_M_flips 25 = .ok (.if_icmp .ge 25, 3) := by decide +kernel
theorem d_M_flips_28 : decode c_M_flips 28 = .ok (.aload_n 0, 1) := by decide +kernel
theorem d_M_flips_29 : decode c_M_flips 29 = .ok (.iload_n 1, 1) := by decide +kernel
theorem d_M_flips_30 : decode c_M_flips 30 = .ok (.iload_n 2, 1) := by decide +kernel
theorem d_M_flips_31 : decode c_M_flips 31 = .ok (.aload_n 0, 1) := by decide +kernel
theorem d_M_flips_32 : decode c_M_flips 32 = .ok (.getfield 17, 3) := by decide +kernel
theorem d_M_flips_35 : decode c_M_flips 35 = .ok (.iload_n 1, 1) := by decide +kernel
theorem d_M_flips_36 : decode c_M_flips 36 = .ok (.iaload, 1) := by decide +kernel
theorem d_M_flips_37 : decode c_M_flips 37 = .ok (.iconst 1, 1) := by decide +kernel
theorem d_M_flips_38 : decode c_M_flips 38 = .ok (.isub, 1) := by decide +kernel
theorem d_M_flips_39 : decode c_M_flips 39 = .ok (.iload_n 2, 1) := by decide +kernel
theorem d_M_flips_40 : decode c_M_flips 40 = .ok (.isub, 1) := by decide +kernel
theorem d_M_flips_41 : decode c_M_flips 41 = .ok (.invokevirtual 215, 3) := by decide +kernel
theorem d_M_flips_44 : decode c_M_flips 44 = .ok (.iinc 2 1, 3) := by decide +kernel
theorem d_M_flips_47 : decode c_M_flips 47 = .ok (.goto (-31), 3) := by decide +kernel
theorem d_M_flips_50 : decode c_M_flips 50 = .ok (.aload_n 0, 1) := by decide +kernel
theorem d_M_flips_51 : decode c_M_flips 51 = .ok (.getfield 17, 3) := by decide +kernel
theorem d_M_flips_54 : decode c_M_flips 54 = .ok (.iload_n 1, 1) := by decide +kernel
theorem d_M_flips_55 : decode c_M_flips 55 = .ok (.iaload, 1) := by decide +kernel
theorem d_M_flips_56 : decode c_M_flips 56 = .ok (.ireturn, 1) := by decide +kernel
theorem d_M_mirrors_0 : decode c_M_mirrors 0 = .ok (.aload_n 0, 1) := by decide +kernel
theorem d_M_mirrors_1 : decode c_M_mirrors 1 = .ok (.iconst 0, 1) := by decide +kernel
theorem d_M_mirrors_2 : decode c_M_mirrors 2 = .ok (.putfield 69, 3) := by decide +kernel
theorem d_M_mirrors_5 : decode c_M_mirrors 5 = .ok (.iload_n 1, 1) := by decide +kernel
theorem d_M_mirrors_6 : decode c_M_mirrors 6 = .ok (.invokestatic 151, 3) := by decide +kernel
theorem d_M_mirrors_9 : decode c_M_mirrors 9 = .ok (.ifCond .ne 5, 3) := by decide +kernel
theorem d_M_mirrors_12 : decode c_M_mirrors 12 = .ok (.iconst (-1), 1) := by decide +kernel
theorem d_M_mirrors_13 : decode c_M_mirrors 13 = .ok (.ireturn, 1) := by decide +kernel
theorem d_M_mirrors_14 : decode c_M_mirrors 14 = .ok (.iconst 0, 1) := by decide +kernel
theorem d_M_mirrors_15 : decode c_M_mirrors 15 = .ok (.istore_n 2, 1) := by decide +kernel
theorem d_M_mirrors_16 : decode c_M_mirrors 16 = .ok (.iload_n 2, 1) := by decide +kernel
theorem d_M_mirrors_17 : decode c_M_mirrors 17 = .ok (.aload_n 0, 1) := by decide +kernel
theorem d_M_mirrors_18 : decode c_M_mirrors 18 = .ok (.getfield 17, 3) := by decide +kernel
theorem d_M_mirrors_21 : decode c_M_mirrors 21 = .ok (.iload_n 1, 1) := by decide +kernel
theorem d_M_mirrors_22 : decode c_M_mirrors 22 = .ok (.iaload, 1) := by decide +kernel
theorem d_M_mirrors_23 : decode c_M_mirrors 23 = .ok (.if_icmp .ge 45, 3) := by decide +kernel
theorem d_M_mirrors_26 : decode c_M_mirrors 26 = .ok (.aload_n 0, 1) := by decide +kernel
theorem d_M_mirrors_27 : decode c_M_mirrors 27 = .ok (.iload_n 1, 1) := by decide +kernel
theorem d_M_mirrors_28 : decode c_M_mirrors 28 = .ok (.iload_n 2, 1) := by decide +kernel
theorem d_M_mirrors_29 : decode c_M_mirrors 29 = .ok (.aload_n 0, 1) := by decide +kernel
theorem d_M_mirrors_30 : decode c_M_mirrors 30 = .ok (.getfield 13, 3) := by decide +kernel
theorem d_M_mirrors_33 : decode c_M_mirrors 33 = .ok (.iload_n 1, 1) := by decide +kernel
theorem d_M_mirrors_34 : decode c_M_mirrors 34 = .ok (.iaload, 1) := by decide +kernel
theorem d_M_mirrors_35 : decode c_M_mirrors 35 = .ok (.iconst 1, 1) := by decide +kernel
theorem d_M_mirrors_36 : decode c_M_mirrors 36 = .ok (.isub, 1) := by decide +kernel
theorem d_M_mirrors_37 : decode c_M_mirrors 37 = .ok (.aload_n 0, 1) := by decide +kernel
theorem d_M_mirrors_38 : decode c_M_mirrors 38 = .ok (.iload_n 1, 1) := by decide +kernel
theorem d_M_mirrors_39 : decode c_M_mirrors 39 = .ok (.iload_n 2, 1) := by decide +kernel
theorem d_M_mirrors_40 : decode c_M_mirrors 40 = .ok (.invokevirtual 202, 3) := by decide +kernel
theorem d_M_mirrors_43 : decode c_M_mirrors 43 = .ok (.isub, 1) := by decide +kernel
theorem d_M_mirrors_44 : decode c_M_mirrors 44 = .ok (.aload_n 0, 1) := by decide +kernel
theorem d_M_mirrors_45 : decode c_M_mirrors 45 = .ok (.getfield 13, 3) := by decide +kernel
theorem d_M_mirrors_48 : decode c_M_mirrors 48 = .ok (.iload_n 1, 1) := by decide +kernel
theorem d_M_mirrors_49 : decode c_M_mirrors 49 = .ok (.iaload, 1) := by decide +kernel
theorem d_M_mirrors_50 : decode c_M_mirrors 50 = .ok (.iconst 1, 1) := by decide +kernel
theorem d_M_mirrors_51 : decode c_M_mirrors 51 = .ok (.isub, 1) := by decide +kernel
theorem d_M_mirrors_52 : decode c_M_mirrors 52 = .ok (.aload_n 0, 1) := by decide +kernel
theorem d_M_mirrors_53 : decode c_M_mirrors 53 = .ok (.iload_n 1, 1) := by decide +kernel
theorem d_M_mirrors_54 : decode c_M_mirrors 54 = .ok (.iload_n 2, 1) := by decide +kernel
theorem d_M_mirrors_55 : decode c_M_mirrors 55 = .ok (.invokevirtual 199, 3) := by decide +kernel
theorem d_M_mirrors_58 : decode c_M_mirrors 58 = .ok (.isub, 1) := by decide +kernel
theorem d_M_mirrors_59 : decode c_M_mirrors 59 = .ok (.invokevirtual 90, 3) := by decide +kernel
theorem d_M_mirrors_62 : decode c_M_mirrors 62 = .ok (.iinc 2 1, 3) := by decide +kernel
theorem d_M_mirrors_65 : decode c_M_mirrors 65 = .ok (.goto (-49), 3) := by decide +kernel
theorem d_M_mirrors_68 : decode c_M_mirrors 68 = .ok (.aload_n 0, 1) := by decide +kernel
theorem d_M_mirrors_69 : decode c_M_mirrors 69 = .ok (.getfield 17, 3) := by decide +kernel
theorem d_M_mirrors_72 : decode c_M_mirrors 72 = .ok (.iload_n 1, 1) := by decide +kernel
theorem d_M_mirrors_73 : decode c_M_mirrors 73 = .ok (.iaload, 1) := by decide +kernel
theorem d_M_mirrors_74 : decode c_M_mirrors 74 = .ok (.ireturn, 1) := by decide +kernel
theorem d_M_laysLayers_0 : decode c_M_laysLayers 0 = .ok (.iconst 0, 1) := by decide +kernel
theorem d_M_laysLayers_1 : decode c_M_laysLayers 1 = .ok (.istore_n 2, 1) := by decide +kernel
theorem d_M_laysLayers_2 : decode c_M_laysLayers 2 = .ok (.iload_n 2, 1) := by decide +kernel
theorem d_M_laysLayers_3 : decode c_M_laysLayers 3 = .ok (.bipush 8, 2) := by decide +kernel
theorem d_M_laysLayers_5 : decode c_M_laysLayers 5 = .ok (.if_icmp .ge 16, 3) := by decide +kernel
theorem d_M_laysLayers_8 : decode c_M_laysLayers 8 = .ok (.aload_n 0, 1) := by decide +kernel
theorem d_M_laysLayers_9 : decode c_M_laysLayers 9 = .ok (.getfield 41, 3) := by decide +kernel
theorem d_M_laysLayers_12 : decode c_M_laysLayers 12 = .ok (.iload_n 2, 1) := by decide +kernel
theorem d_M_laysLayers_13 : decode c_M_laysLayers 13 = .ok (.iconst 0, 1) := by decide +kernel
theorem d_M_laysLayers_14 : decode c_M_laysLayers 14 = .ok (.iastore, 1) := by decide +kernel
theorem d_M_laysLayers_15 : decode c_M_laysLayers 15 = .ok (.iinc 2 1, 3) := by decide +kernel
theorem d_M_laysLayers_18 : decode c_M_laysLayers 18 = .ok (.goto (-16), 3) := by decide +kernel
theorem d_M_laysLayers_21 : decode c_M_laysLayers 21 = .ok (.iconst 0, 1) := by decide +kernel
theorem d_M_laysLayers_22 : decode c_M_laysLayers 22 = .ok (.istore_n 2, 1) := by decide +kernel
theorem d_M_laysLayers_23 : decode c_M_laysLayers 23 = .ok (.iconst 0, 1) := by decide +kernel
theorem d_M_laysLayers_24 : decode c_M_laysLayers 24 = .ok (.istore_n 3, 1) := by decide +kernel
theorem d_M_laysLayers_25 : decode c_M_laysLayers 25 = .ok (.iload_n 3, 1) := by decide +kernel
theorem d_M_laysLayers_26 : decode c_M_laysLayers 26 = .ok (.aload_n 0, 1) := by decide +kernel
theorem d_M_laysLayers_27 : decode c_M_laysLayers 27 = .ok (.getfield 17, 3) := by decide +kernel
theorem d_M_laysLayers_30 : decode c_M_laysLayers 30 = .ok (.iload_n 1, 1) := by decide +kernel
theorem d_M_laysLayers_31 : decode c_M_laysLayers 31 = .ok (.iaload, 1) := by decide +kernel
theorem d_M_laysLayers_32 : decode c_M_laysLayers 32 = .ok (.if_icmp .ge 87, 3) := by decide +kernel
theorem d_M_laysLayers_35 : decode c_M_laysLayers 35 = .ok (.aload_n 0, 1) := by decide +kernel
theorem d_M_laysLayers_36 : decode c_M_laysLayers 36 = .ok (.iload_n 1, 1) := by decide +kernel
theorem d_M_laysLayers_37 : decode c_M_laysLayers 37 = .ok (.iload_n 3, 1) := by decide +kernel
theorem d_M_laysLayers_38 : decode c_M_laysLayers 38 = .ok (.invokevirtual 199, 3) := by decide +kernel
theorem d_M_laysLayers_41 : decode c_M_laysLayers 41 = .ok (.istore 4, 2) := by decide +kernel
theorem d_M_laysLayers_43 : decode c_M_laysLayers 43 = .ok (.aload_n 0, 1) := by decide +kernel
theorem d_M_laysLayers_44 : decode c_M_laysLayers 44 = .ok (.iload_n 1, 1) := by decide +kernel
theorem d_M_laysLayers_45 : decode c_M_laysLayers 45 = .ok (.iload_n 3, 1) := by decide +kernel
theorem d_M_laysLayers_46 : decode c_M_laysLayers 46 = .ok (.invokevirtual 202, 3) := by decide +kernel
theorem d_M_laysLayers_49 : decode c_M_laysLayers 49 = .ok (.istore 5, 2) := by decide +kernel
theorem d_M_laysLayers_51 : decode c_M_laysLayers 51 = .ok (.aload_n 0, 1) := by decide +kernel
theorem d_M_laysLayers_52 : decode c_M_laysLayers 52 = .ok (.getfield 38, 3) := by decide +kernel
theorem d_M_laysLayers_55 : decode c_M_laysLayers 55 = .ok (.iload_n 3, 1) := by decide +kernel
theorem d_M_laysLayers_56 : decode c_M_laysLayers 56 = .ok (.iconst 1, 1) := by decide +kernel
theorem d_M_laysLayers_57 : decode c_M_laysLayers 57 = .ok (.aload_n 0, 1) := by decide +kernel
theorem d_M_laysLayers_58 : decode c_M_laysLayers 58 = .ok (.getfield 41, 3) := by decide +kernel
theorem d_M_laysLayers_61 : decode c_M_laysLayers 61 = .ok (.iload 4, 2) := by decide +kernel
theorem d_M_laysLayers_63 : decode c_M_laysLayers 63 = .ok (.iaload, 1) := by decide +kernel
theorem d_M_laysLayers_64 : decode c_M_laysLayers 64 = .ok (.aload_n 0, 1) := by decide +kernel
theorem d_M_laysLayers_65 : decode c_M_laysLayers 65 = .ok (.getfield 41, 3) := by decide +kernel
theorem d_M_laysLayers_68 : decode c_M_laysLayers 68 = .ok (.iload 5, 2) := by decide +kernel
theorem d_M_laysLayers_70 : decode c_M_laysLayers 70 = .ok (.iaload, 1) := by decide +kernel
theorem d_M_laysLayers_71 : decode c_M_laysLayers 71 = .ok (.invokestatic 138, 3) := by decide +kernel
theorem d_M_laysLayers_74 : decode c_M_laysLayers 74 = .ok (.iadd, 1) := by decide +kernel
theorem d_M_laysLayers_75 : decode c_M_laysLayers 75 = .ok (.iastore, 1) := by decide +kernel
theorem d_M_laysLayers_76 : decode c_M_laysLayers 76 = .ok (.aload_n 0, 1) := by decide +kernel
theorem d_M_laysLayers_77 : decode c_M_laysLayers 77 = .ok (.getfield 41, 3) := by decide +kernel
theorem d_M_laysLayers_80 : decode c_M_laysLayers 80 = .ok (.iload 4, 2) := by decide +kernel
theorem d_M_laysLayers_82 : decode c_M_laysLayers 82 = .ok (.aload_n 0, 1) := by decide +kernel
theorem d_M_laysLayers_83 : decode c_M_laysLayers 83 = .ok (.getfield 38, 3) := by decide +kernel
theorem d_M_laysLayers_86 : decode c_M_laysLayers 86 = .ok (.iload_n 3, 1) := by decide +kernel
theorem d_M_laysLayers_87 : decode c_M_laysLayers 87 = .ok (.iaload, 1) := by decide +kernel
theorem d_M_laysLayers_88 : decode c_M_laysLayers 88 = .ok (.iastore, 1) := by decide +kernel
theorem d_M_laysLayers_89 : decode c_M_laysLayers 89 = .ok (.aload_n 0, 1) := by decide +kernel
theorem d_M_laysLayers_90 : decode c_M_laysLayers 90 = .ok (.getfield 41, 3) := by decide +kernel
theorem d_M_laysLayers_93 : decode c_M_laysLayers 93 = .ok (.iload 5, 2) := by decide +kernel
theorem d_M_laysLayers_95 : decode c_M_laysLayers 95 = .ok (.aload_n 0, 1) := by decide +kernel
theorem d_M_laysLayers_96 : decode c_M_laysLayers 96 = .ok (.getfield 38, 3) := by decide +kernel
theorem d_M_laysLayers_99 : decode c_M_laysLayers 99 = .ok (.iload_n 3, 1) := by decide +kernel
theorem d_M_laysLayers_100 : decode c_M_laysLayers 100 = .ok (.iaload, 1) := by decide +kernel
theorem d_M_laysLayers_101 : decode c_M_laysLayers 101 = .ok (.iastore, 1) := by decide +kernel
theorem d_M_laysLayers_102 : decode c_M_laysLayers 102 = .ok (.iload_n 2, 1) := by decide +kernel
theorem d_M_laysLayers_103 : decode c_M_laysLayers 103 = .ok (.aload_n 0, 1) := by decide +kernel
theorem d_M_laysLayers_104 : decode c_M_laysLayers 104 = .ok (.getfield 38, 3) := by decide +kernel
theorem d_M_laysLayers_107 : decode c_M_laysLayers 107 = .ok (.iload_n 3, 1) := by decide +kernel
theorem d_M_laysLayers_108 : decode c_M_laysLayers 108 = .ok (.iaload, 1) := by decide +kernel
theorem d_M_laysLayers_109 : decode c_M_laysLayers 109 = .ok (.invokestatic 138, 3) := by decide +kernel
theorem d_M_laysLayers_112 : decode c_M_laysLayers 112 = .ok (.istore_n 2, 1) := by decide +kernel
theorem d_M_laysLayers_113 : decode c_M_laysLayers 113 = .ok (.iinc 3 1, 3) := by decide +kernel
theorem d_M_laysLayers_116 : decode c_M_laysLayers 116 = .ok (.goto (-91), 3) := by decide +kernel
theorem d_M_laysLayers_119 : decode c_M_laysLayers 119 = .ok (.iload_n 2, 1) := by decide +kernel
theorem d_M_laysLayers_120 : decode c_M_laysLayers 120 = .ok (.ireturn, 1) := by decide +kernel
theorem d_M_lays_0 : decode c_M_lays 0 = .ok (.aload_n 0, 1) := by decide +kernel
theorem d_M_lays_1 : decode c_M_lays 1 = .ok (.iconst 0, 1) := by decide +kernel
theorem d_M_lays_2 : decode c_M_lays 2 = .ok (.putfield 69, 3) := by decide +kernel
theorem d_M_lays_5 : decode c_M_lays 5 = .ok (.iload_n 1, 1) := by decide +kernel
theorem d_M_lays_6 : decode c_M_lays 6 = .ok (.invokestatic 151, 3) := by decide +kernel
theorem d_M_lays_9 : decode c_M_lays 9 = .ok (.ifCond .ne 5, 3) := by decide +kernel
theorem d_M_lays_12 : decode c_M_lays 12 = .ok (.iconst (-1), 1) := by decide +kernel
theorem d_M_lays_13 : decode c_M_lays 13 = .ok (.ireturn, 1) := by decide +kernel
theorem d_M_lays_14 : decode c_M_lays 14 = .ok (.aload_n 0, 1) := by decide +kernel
theorem d_M_lays_15 : decode c_M_lays 15 = .ok (.iload_n 1, 1) := by decide +kernel
theorem d_M_lays_16 : decode c_M_lays 16 = .ok (.invokevirtual 218, 3) := by decide +kernel
theorem d_M_lays_19 : decode c_M_lays 19 = .ok (.istore_n 2, 1) := by decide +kernel
theorem d_M_lays_20 : decode c_M_lays 20 = .ok (.iconst 0, 1) := by decide +kernel
theorem d_M_lays_21 : decode c_M_lays 21 = .ok (.istore_n 3, 1) := by decide +kernel
theorem d_M_lays_22 : decode c_M_lays 22 = .ok (.iconst 1, 1) := by decide +kernel
theorem d_M_lays_23 : decode c_M_lays 23 = .ok (.istore 4, 2) := by decide +kernel
theorem d_M_lays_25 : decode c_M_lays 25 = .ok (.iload 4, 2) := by decide +kernel
theorem d_M_lays_27 : decode c_M_lays 27 = .ok (.iload_n 2, 1) := by decide +kernel
theorem d_M_lays_28 : decode c_M_lays 28 = .ok (.if_icmp .gt 100, 3) := by decide +kernel
theorem d_M_lays_31 : decode c_M_lays 31 = .ok (.iconst 0, 1) := by decide +kernel
theorem d_M_lays_32 : decode c_M_lays 32 = .ok (.istore 5, 2) := by decide +kernel
theorem d_M_lays_34 : decode c_M_lays 34 = .ok (.iload 5, 2) := by decide +kernel
theorem d_M_lays_36 : decode c_M_lays 36 = .ok (.aload_n 0, 1) := by decide +kernel
theorem d_M_lays_37 : decode c_M_lays 37 = .ok (.getfield 13, 3) := by decide +kernel
theorem d_M_lays_40 : decode c_M_lays 40 = .ok (.iload_n 1, 1) := by decide +kernel
theorem d_M_lays_41 : decode c_M_lays 41 = .ok (.iaload, 1) := by decide +kernel
theorem d_M_lays_42 : decode c_M_lays 42 = .ok (.if_icmp .ge 80, 3) := by decide +kernel
theorem d_M_lays_45 : decode c_M_lays 45 = .ok (.iconst 0, 1) := by decide +kernel
theorem d_M_lays_46 : decode c_M_lays 46 = .ok (.istore 6, 2) := by decide +kernel
theorem d_M_lays_48 : decode c_M_lays 48 = .ok (.iload 6, 2) := by decide +kernel
theorem d_M_lays_50 : decode c_M_lays 50 = .ok (.aload_n 0, 1) := by decide +kernel
theorem d_M_lays_51 : decode c_M_lays 51 = .ok (.getfield 17, 3) := by decide +kernel
theorem d_M_lays_54 : decode c_M_lays 54 = .ok (.iload_n 1, 1) := by decide +kernel
theorem d_M_lays_55 : decode c_M_lays 55 = .ok (.iaload, 1) := by decide +kernel
theorem d_M_lays_56 : decode c_M_lays 56 = .ok (.if_icmp .ge 60, 3) := by decide +kernel
theorem d_M_lays_59 : decode c_M_lays 59 = .ok (.aload_n 0, 1) := by decide +kernel
theorem d_M_lays_60 : decode c_M_lays 60 = .ok (.getfield 38, 3) := by decide +kernel
theorem d_M_lays_63 : decode c_M_lays 63 = .ok (.iload 6, 2) := by decide +kernel
theorem d_M_lays_65 : decode c_M_lays 65 = .ok (.iaload, 1) := by decide +kernel
theorem d_M_lays_66 : decode c_M_lays 66 = .ok (.iload 4, 2) := by decide +kernel
theorem d_M_lays_68 : decode c_M_lays 68 = .ok (.if_icmp .ne 42, 3) := by decide +kernel
theorem d_M_lays_71 : decode c_M_lays 71 = .ok (.aload_n 0, 1) := by decide +kernel
theorem d_M_lays_72 : decode c_M_lays 72 = .ok (.iload_n 1, 1) := by decide +kernel
theorem d_M_lays_73 : decode c_M_lays 73 = .ok (.iload 6, 2) := by decide +kernel
theorem d_M_lays_75 : decode c_M_lays 75 = .ok (.invokevirtual 199, 3) := by decide +kernel
theorem d_M_lays_78 : decode c_M_lays 78 = .ok (.iload 5, 2) := by decide +kernel
theorem d_M_lays_80 : decode c_M_lays 80 = .ok (.if_icmp .eq 6, 3) := by decide +kernel
theorem d_M_lays_83 : decode c_M_lays 83 = .ok (.goto 27, 3) := by decide +kernel
theorem d_M_lays_86 : decode c_M_lays 86 = .ok (.aload_n 0, 1) := by decide +kernel
theorem d_M_lays_87 : decode c_M_lays 87 = .ok (.getfield 29, 3) := by decide +kernel
theorem d_M_lays_90 : decode c_M_lays 90 = .ok (.iload_n 3, 1) := by decide +kernel
theorem d_M_lays_91 : decode c_M_lays 91 = .ok (.iload 5, 2) := by decide +kernel
theorem d_M_lays_93 : decode c_M_lays 93 = .ok (.iastore, 1) := by decide +kernel
theorem d_M_lays_94 : decode c_M_lays 94 = .ok (.aload_n 0, 1) := by decide +kernel
theorem d_M_lays_95 : decode c_M_lays 95 = .ok (.getfield 32, 3) := by decide +kernel
theorem d_M_lays_98 : decode c_M_lays 98 = .ok (.iload_n 3, 1) := by decide +kernel
theorem d_M_lays_99 : decode c_M_lays 99 = .ok (.aload_n 0, 1) := by decide +kernel
theorem d_M_lays_100 : decode c_M_lays 100 = .ok (.iload_n 1, 1) := by decide +kernel
theorem d_M_lays_101 : decode c_M_lays 101 = .ok (.iload 6, 2) := by decide +kernel
theorem d_M_lays_103 : decode c_M_lays 103 = .ok (.invokevirtual 202, 3) := by decide +kernel
theorem d_M_lays_106 : decode c_M_lays 106 = .ok (.iastore, 1) := by decide +kernel
theorem d_M_lays_107 : decode c_M_lays 107 = .ok (.iinc 3 1, 3) := by decide +kernel
theorem d_M_lays_110 : decode c_M_lays 110 = .ok (.iinc 6 1, 3) := by decide +kernel
theorem d_M_lays_113 : decode c_M_lays 113 = .ok (.goto (-65), 3) := by decide +kernel
theorem d_M_lays_116 : decode c_M_lays 116 = .ok (.iinc 5 1, 3) := by decide +kernel
theorem d_M_lays_119 : decode c_M_lays 119 = .ok (.goto (-85), 3) := by decide +kernel
theorem d_M_lays_122 : decode c_M_lays 122 = .ok (.iinc 4 1, 3) := by decide +kernel
theorem d_M_lays_125 : decode c_M_lays 125 = .ok (.goto (-100), 3) := by decide +kernel
theorem d_M_lays_128 : decode c_M_lays 128 = .ok (.iconst 0, 1) := by decide +kernel
theorem d_M_lays_129 : decode c_M_lays 129 = .ok (.istore 4, 2) := by decide +kernel
theorem d_M_lays_131 : decode c_M_lays 131 = .ok (.iconst 0, 1) := by decide +kernel
theorem d_M_lays_132 : decode c_M_lays 132 = .ok (.istore 5, 2) := by decide +kernel
theorem d_M_lays_134 : decode c_M_lays 134 = .ok (.iload 5, 2) := by decide +kernel
theorem d_M_lays_136 : decode c_M_lays 136 = .ok (.iload_n 3, 1) := by decide +kernel
theorem d_M_lays_137 : decode c_M_lays 137 = .ok (.if_icmp .ge 77, 3) := by decide +kernel
theorem d_M_lays_140 : decode c_M_lays 140 = .ok (.iload 4, 2) := by decide +kernel
theorem d_M_lays_142 : decode c_M_lays 142 = .ok (.aload_n 0, 1) := by decide +kernel
theorem d_M_lays_143 : decode c_M_lays 143 = .ok (.iload_n 1, 1) := by decide +kernel
theorem d_M_lays_144 : decode c_M_lays 144 = .ok (.iload 5, 2) := by decide +kernel
theorem d_M_lays_146 : decode c_M_lays 146 = .ok (.invokevirtual 199, 3) := by decide +kernel
theorem d_M_lays_149 : decode c_M_lays 149 = .ok (.aload_n 0, 1) := by decide +kernel
theorem d_M_lays_150 : decode c_M_lays 150 = .ok (.getfield 29, 3) := by decide +kernel
theorem d_M_lays_153 : decode c_M_lays 153 = .ok (.iload 5, 2) := by decide +kernel
theorem d_M_lays_155 : decode c_M_lays 155 = .ok (.iaload, 1) := by decide +kernel
theorem d_M_lays_156 : decode c_M_lays 156 = .ok (.if_icmp .ne 20, 3) := by decide +kernel
theorem d_M_lays_159 : decode c_M_lays 159 = .ok (.aload_n 0, 1) := by decide +kernel
theorem d_M_lays_160 : decode c_M_lays 160 = .ok (.iload_n 1, 1) := by decide +kernel
theorem d_M_lays_161 : decode c_M_lays 161 = .ok (.iload 5, 2) := by decide +kernel
theorem d_M_lays_163 : decode c_M_lays 163 = .ok (.invokevirtual 202, 3) := by decide +kernel
theorem d_M_lays_166 : decode c_M_lays 166 = .ok (.aload_n 0, 1) := by decide +kernel
theorem d_M_lays_167 : decode c_M_lays 167 = .ok (.getfield 32, 3) := by decide +kernel
theorem d_M_lays_170 : decode c_M_lays 170 = .ok (.iload 5, 2) := by decide +kernel
theorem d_M_lays_172 : decode c_M_lays 172 = .ok (.iaload, 1) := by decide +kernel
theorem d_M_lays_173 : decode c_M_lays 173 = .ok (.if_icmp .eq 7, 3) := by decide +kernel
theorem d_M_lays_176 : decode c_M_lays 176 = .ok (.iconst 1, 1) := by decide +kernel
theorem d_M_lays_177 : decode c_M_lays 177 = .ok (.goto 4, 3) := by decide +kernel
theorem d_M_lays_180 : decode c_M_lays 180 = .ok (.iconst 0, 1) := by decide +kernel
theorem d_M_lays_181 : decode c_M_lays 181 = .ok (.invokestatic 188, 3) := by decide +kernel
theorem d_M_lays_184 : decode c_M_lays 184 = .ok (.iadd, 1) := by decide +kernel
theorem d_M_lays_185 : decode c_M_lays 185 = .ok (.istore 4, 2) := by decide +kernel
theorem d_M_lays_187 : decode c_M_lays 187 = .ok (.aload_n 0, 1) := by decide +kernel
theorem d_M_lays_188 : decode c_M_lays 188 = .ok (.iload_n 1, 1) := by decide +kernel
theorem d_M_lays_189 : decode c_M_lays 189 = .ok (.iload 5, 2) := by decide +kernel
theorem d_M_lays_191 : decode c_M_lays 191 = .ok (.aload_n 0, 1) := by decide +kernel
theorem d_M_lays_192 : decode c_M_lays 192 = .ok (.getfield 29, 3) := by decide +kernel
theorem d_M_lays_195 : decode c_M_lays 195 = .ok (.iload 5, 2) := by decide +kernel
theorem d_M_lays_197 : decode c_M_lays 197 = .ok (.iaload, 1) := by decide +kernel
theorem d_M_lays_198 : decode c_M_lays 198 = .ok (.aload_n 0, 1) := by decide +kernel
theorem d_M_lays_199 : decode c_M_lays 199 = .ok (.getfield 32, 3) := by decide +kernel
theorem d_M_lays_202 : decode c_M_lays 202 = .ok (.iload 5, 2) := by decide +kernel
theorem d_M_lays_204 : decode c_M_lays 204 = .ok (.iaload, 1) := by decide +kernel
theorem d_M_lays_205 : decode c_M_lays 205 = .ok (.invokevirtual 90, 3) := by decide +kernel
theorem d_M_lays_208 : decode c_M_lays 208 = .ok (.iinc 5 1, 3) := by decide +kernel
theorem d_M_lays_211 : decode c_M_lays 211 = .ok (.goto (-77), 3) := by decide +kernel
theorem d_M_lays_214 : decode c_M_lays 214 = .ok (.iload 4, 2) := by decide +kernel
theorem d_M_lays_216 : decode c_M_lays 216 = .ok (.ireturn, 1) := by decide +kernel
theorem d_M_tellsOne_0 : decode c_M_tellsOne 0 = .ok (.aload_n 0, 1) := by decide +kernel
theorem d_M_tellsOne_1 : decode c_M_tellsOne 1 = .ok (.iconst 0, 1) := by decide +kernel
theorem d_M_tellsOne_2 : decode c_M_tellsOne 2 = .ok (.putfield 73, 3) := by decide +kernel
theorem d_M_tellsOne_5 : decode c_M_tellsOne 5 = .ok (.aload_n 0, 1) := by decide +kernel
theorem d_M_tellsOne_6 : decode c_M_tellsOne 6 = .ok (.lload_n 1, 1) := by decide +kernel
theorem d_M_tellsOne_7 : decode c_M_tellsOne 7 = .ok (.invokevirtual 76, 3) := by decide +kernel
theorem d_M_tellsOne_10 : decode c_M_tellsOne 10 = .ok (.return_, 1) := by decide +kernel
theorem d_M_comparer_0 : decode c_M_comparer 0 = .ok (.aload_n 0, 1) := by decide +kernel
theorem d_M_comparer_1 : decode c_M_comparer 1 = .ok (.iconst 0, 1) := by decide +kernel
theorem d_M_comparer_2 : decode c_M_comparer 2 = .ok (.putfield 69, 3) := by decide +kernel
theorem d_M_comparer_5 : decode c_M_comparer 5 = .ok (.iload_n 1, 1) := by decide +kernel
theorem d_M_comparer_6 : decode c_M_comparer 6 = .ok (.invokestatic 151, 3) := by decide +kernel
theorem d_M_comparer_9 : decode c_M_comparer 9 = .ok (.ifCond .eq 12, 3) := by decide +kernel
theorem d_M_comparer_12 : decode c_M_comparer 12 = .ok (.aload_n 0, 1) := by decide +kernel
theorem d_M_comparer_13 : decode c_M_comparer 13 = .ok (.iload_n 1, 1) := by decide +kernel
theorem d_M_comparer_14 : decode c_M_comparer 14 = .ok (.iload_n 2, 1) := by decide +kernel
theorem d_M_comparer_15 : decode c_M_comparer 15 = .ok (.invokevirtual 205, 3) := by decide +kernel
theorem d_M_comparer_18 : decode c_M_comparer 18 = .ok (.ifCond .ne 5, 3) := by decide +kernel
theorem d_M_comparer_21 : decode c_M_comparer 21 = .ok (.iconst (-1), 1) := by decide +kernel
theorem d_M_comparer_22 : decode c_M_comparer 22 = .ok (.ireturn, 1) := by decide +kernel
theorem d_M_comparer_23 : decode c_M_comparer 23 = .ok (.aload_n 0, 1) := by decide +kernel
theorem d_M_comparer_24 : decode c_M_comparer 24 = .ok (.iload_n 1, 1) := by decide +kernel
theorem d_M_comparer_25 : decode c_M_comparer 25 = .ok (.invokevirtual 218, 3) := by decide +kernel
theorem d_M_comparer_28 : decode c_M_comparer 28 = .ok (.pop, 1) := by decide +kernel
theorem d_M_comparer_29 : decode c_M_comparer 29 = .ok (.aload_n 0, 1) := by decide +kernel
theorem d_M_comparer_30 : decode c_M_comparer 30 = .ok (.aload_n 0, 1) := by decide +kernel
theorem d_M_comparer_31 : decode c_M_comparer 31 = .ok (.getfield 38, 3) := by decide +kernel
theorem d_M_comparer_34 : decode c_M_comparer 34 = .ok (.iload_n 2, 1) := by decide +kernel
theorem d_M_comparer_35 : decode c_M_comparer 35 = .ok (.iaload, 1) := by decide +kernel
theorem d_M_comparer_36 : decode c_M_comparer 36 = .ok (.i2l, 1) := by decide +kernel
theorem d_M_comparer_37 : decode c_M_comparer 37 = .ok (.invokevirtual 221, 3) := by decide +kernel
theorem d_M_comparer_40 : decode c_M_comparer 40 = .ok (.bipush 10, 2) := by decide +kernel
theorem d_M_comparer_42 : decode c_M_comparer 42 = .ok (.aload_n 0, 1) := by decide +kernel
theorem d_M_comparer_43 : decode c_M_comparer 43 = .ok (.iload_n 1, 1) := by decide +kernel
theorem d_M_comparer_44 : decode c_M_comparer 44 = .ok (.iload_n 2, 1) := by decide +kernel
theorem d_M_comparer_45 : decode c_M_comparer 45 = .ok (.invokevirtual 199, 3) := by decide +kernel
theorem d_M_comparer_48 : decode c_M_comparer 48 = .ok (.imul, 1) := by decide +kernel
theorem d_M_comparer_49 : decode c_M_comparer 49 = .ok (.aload_n 0, 1) := by decide +kernel
theorem d_M_comparer_50 : decode c_M_comparer 50 = .ok (.iload_n 1, 1) := by decide +kernel
theorem d_M_comparer_51 : decode c_M_comparer 51 = .ok (.iload_n 2, 1) := by decide +kernel
theorem d_M_comparer_52 : decode c_M_comparer 52 = .ok (.invokevirtual 202, 3) := by decide +kernel
theorem d_M_comparer_55 : decode c_M_comparer 55 = .ok (.iadd, 1) := by decide +kernel
theorem d_M_comparer_56 : decode c_M_comparer 56 = .ok (.ireturn, 1) := by decide +kernel
theorem d_M_depth_0 : decode c_M_depth 0 = .ok (.aload_n 0, 1) := by decide +kernel
theorem d_M_depth_1 : decode c_M_depth 1 = .ok (.iconst 0, 1) := by decide +kernel
theorem d_M_depth_2 : decode c_M_depth 2 = .ok (.putfield 69, 3) := by decide +kernel
theorem d_M_depth_5 : decode c_M_depth 5 = .ok (.iload_n 1, 1) := by decide +kernel
theorem d_M_depth_6 : decode c_M_depth 6 = .ok (.invokestatic 151, 3) := by decide +kernel
theorem d_M_depth_9 : decode c_M_depth 9 = .ok (.ifCond .ne 5, 3) := by decide +kernel
theorem d_M_depth_12 : decode c_M_depth 12 = .ok (.iconst (-1), 1) := by decide +kernel
theorem d_M_depth_13 : decode c_M_depth 13 = .ok (.ireturn, 1) := by decide +kernel
theorem d_M_depth_14 : decode c_M_depth 14 = .ok (.aload_n 0, 1) := by decide +kernel
theorem d_M_depth_15 : decode c_M_depth 15 = .ok (.iload_n 1, 1) := by decide +kernel
theorem d_M_depth_16 : decode c_M_depth 16 = .ok (.invokevirtual 218, 3) := by decide +kernel
theorem d_M_depth_19 : decode c_M_depth 19 = .ok (.istore_n 2, 1) := by decide +kernel
theorem d_M_depth_20 : decode c_M_depth 20 = .ok (.aload_n 0, 1) := by decide +kernel
theorem d_M_depth_21 : decode c_M_depth 21 = .ok (.iconst 0, 1) := by decide +kernel
theorem d_M_depth_22 : decode c_M_depth 22 = .ok (.putfield 73, 3) := by decide +kernel
theorem d_M_depth_25 : decode c_M_depth 25 = .ok (.iconst 1, 1) := by decide +kernel
theorem d_M_depth_26 : decode c_M_depth 26 = .ok (.istore_n 3, 1) := by decide +kernel
theorem d_M_depth_27 : decode c_M_depth 27 = .ok (.iload_n 3, 1) := by decide +kernel
theorem d_M_depth_28 : decode c_M_depth 28 = .ok (.iload_n 2, 1) := by decide +kernel
theorem d_M_depth_29 : decode c_M_depth 29 = .ok (.if_icmp .gt 63, 3) := by decide +kernel
theorem d_M_depth_32 : decode c_M_depth 32 = .ok (.iconst 0, 1) := by decide +kernel
theorem d_M_depth_33 : decode c_M_depth 33 = .ok (.istore 4, 2) := by decide +kernel
theorem d_M_depth_35 : decode c_M_depth 35 = .ok (.iconst 0, 1) := by decide +kernel
theorem d_M_depth_36 : decode c_M_depth 36 = .ok (.istore 5, 2) := by decide +kernel
theorem d_M_depth_38 : decode c_M_depth 38 = .ok (.iload 5, 2) := by decide +kernel
theorem d_M_depth_40 : decode c_M_depth 40 = .ok (.aload_n 0, 1) := by decide +kernel
theorem d_M_depth_41 : decode c_M_depth 41 = .ok (.getfield 17, 3) := by decide +kernel
theorem d_M_depth_44 : decode c_M_depth 44 = .ok (.iload_n 1, 1) := by decide +kernel
theorem d_M_depth_45 : decode c_M_depth 45 = .ok (.iaload, 1) := by decide +kernel
theorem d_M_depth_46 : decode c_M_depth 46 = .ok (.if_icmp .ge 33, 3) := by decide +kernel
theorem d_M_depth_49 : decode c_M_depth 49 = .ok (.iload 4, 2) := by decide +kernel
theorem d_M_depth_51 : decode c_M_depth 51 = .ok (.aload_n 0, 1) := by decide +kernel
theorem d_M_depth_52 : decode c_M_depth 52 = .ok (.getfield 38, 3) := by decide +kernel
theorem d_M_depth_55 : decode c_M_depth 55 = .ok (.iload 5, 2) := by decide +kernel
theorem d_M_depth_57 : decode c_M_depth 57 = .ok (.iaload, 1) := by decide +kernel
theorem d_M_depth_58 : decode c_M_depth 58 = .ok (.iload_n 3, 1) := by decide +kernel
theorem d_M_depth_59 : decode c_M_depth 59 = .ok (.if_icmp .ne 7, 3) := by decide +kernel
theorem d_M_depth_62 : decode c_M_depth 62 = .ok (.iconst 1, 1) := by decide +kernel
theorem d_M_depth_63 : decode c_M_depth 63 = .ok (.goto 4, 3) := by decide +kernel
theorem d_M_depth_66 : decode c_M_depth 66 = .ok (.iconst 0, 1) := by decide +kernel
theorem d_M_depth_67 : decode c_M_depth 67 = .ok (.invokestatic 188, 3) := by decide +kernel
theorem d_M_depth_70 : decode c_M_depth 70 = .ok (.iadd, 1) := by decide +kernel
theorem d_M_depth_71 : decode c_M_depth 71 = .ok (.istore 4, 2) := by decide +kernel
theorem d_M_depth_73 : decode c_M_depth 73 = .ok (.iinc 5 1, 3) := by decide +kernel
theorem d_M_depth_76 : decode c_M_depth 76 = .ok (.goto (-38), 3) := by decide +kernel
theorem d_M_depth_79 : decode c_M_depth 79 = .ok (.aload_n 0, 1) := by decide +kernel
theorem d_M_depth_80 : decode c_M_depth 80 = .ok (.iload 4, 2) := by decide +kernel
theorem d_M_depth_82 : decode c_M_depth 82 = .ok (.i2l, 1) := by decide +kernel
theorem d_M_depth_83 : decode c_M_depth 83 = .ok (.invokevirtual 76, 3) := by decide +kernel
theorem d_M_depth_86 : decode c_M_depth 86 = .ok (.iinc 3 1, 3) := by decide +kernel
theorem d_M_depth_89 : decode c_M_depth 89 = .ok (.goto (-62), 3) := by decide +kernel
theorem d_M_depth_92 : decode c_M_depth 92 = .ok (.iload_n 2, 1) := by decide +kernel
theorem d_M_depth_93 : decode c_M_depth 93 = .ok (.ireturn, 1) := by decide +kernel
theorem d_M_cuts_0 : decode c_M_cuts 0 = .ok (.aload_n 0, 1) := by decide +kernel
theorem d_M_cuts_1 : decode c_M_cuts 1 = .ok (.iconst 0, 1) := by decide +kernel
theorem d_M_cuts_2 : decode c_M_cuts 2 = .ok (.putfield 69, 3) := by decide +kernel
theorem d_M_cuts_5 : decode c_M_cuts 5 = .ok (.iload_n 1, 1) := by decide +kernel
theorem d_M_cuts_6 : decode c_M_cuts 6 = .ok (.invokestatic 151, 3) := by decide +kernel
theorem d_M_cuts_9 : decode c_M_cuts 9 = .ok (.ifCond .eq 20, 3) := by decide +kernel
theorem d_M_cuts_12 : decode c_M_cuts 12 = .ok (.iload 4, 2) := by decide +kernel
theorem d_M_cuts_14 : decode c_M_cuts 14 = .ok (.invokestatic 151, 3) := by decide +kernel
theorem d_M_cuts_17 : decode c_M_cuts 17 = .ok (.ifCond .eq 12, 3) := by decide +kernel
theorem d_M_cuts_20 : decode c_M_cuts 20 = .ok (.aload_n 0, 1) := by decide +kernel
theorem d_M_cuts_21 : decode c_M_cuts 21 = .ok (.iload_n 1, 1) := by decide +kernel
theorem d_M_cuts_22 : decode c_M_cuts 22 = .ok (.iload_n 2, 1) := by decide +kernel
theorem d_M_cuts_23 : decode c_M_cuts 23 = .ok (.invokevirtual 196, 3) := by decide +kernel
theorem d_M_cuts_26 : decode c_M_cuts 26 = .ok (.ifCond .ne 5, 3) := by decide +kernel
theorem d_M_cuts_29 : decode c_M_cuts 29 = .ok (.iconst (-1), 1) := by decide +kernel
theorem d_M_cuts_30 : decode c_M_cuts 30 = .ok (.ireturn, 1) := by decide +kernel
theorem d_M_cuts_31 : decode c_M_cuts 31 = .ok (.aload_n 0, 1) := by decide +kernel
theorem d_M_cuts_32 : decode c_M_cuts 32 = .ok (.getfield 13, 3) := by decide +kernel
theorem d_M_cuts_35 : decode c_M_cuts 35 = .ok (.iload_n 1, 1) := by decide +kernel
theorem d_M_cuts_36 : decode c_M_cuts 36 = .ok (.iaload, 1) := by decide +kernel
theorem d_M_cuts_37 : decode c_M_cuts 37 = .ok (.iconst 2, 1) := by decide +kernel
theorem d_M_cuts_38 : decode c_M_cuts 38 = .ok (.if_icmp .ne 6, 3) := by decide +kernel
theorem d_M_cuts_41 : decode c_M_cuts 41 = .ok (.bipush (-2), 2) := by decide +kernel
theorem d_M_cuts_43 : decode c_M_cuts 43 = .ok (.ireturn, 1) := by decide +kernel
theorem d_M_cuts_44 : decode c_M_cuts 44 = .ok (.aload_n 0, 1) := by decide +kernel
theorem d_M_cuts_45 : decode c_M_cuts 45 = .ok (.getfield 13, 3) := by decide +kernel
theorem d_M_cuts_48 : decode c_M_cuts 48 = .ok (.iload_n 1, 1) := by decide +kernel
theorem d_M_cuts_49 : decode c_M_cuts 49 = .ok (.iaload, 1) := by decide +kernel
theorem d_M_cuts_50 : decode c_M_cuts 50 = .ok (.iconst 1, 1) := by decide +kernel
theorem d_M_cuts_51 : decode c_M_cuts 51 = .ok (.isub, 1) := by decide +kernel
theorem d_M_cuts_52 : decode c_M_cuts 52 = .ok (.istore 5, 2) := by decide +kernel
theorem d_M_cuts_54 : decode c_M_cuts 54 = .ok (.iconst 0, 1) := by decide +kernel
theorem d_M_cuts_55 : decode c_M_cuts 55 = .ok (.istore 6, 2) := by decide +kernel
theorem d_M_cuts_57 : decode c_M_cuts 57 = .ok (.iload 6, 2) := by decide +kernel
theorem d_M_cuts_59 : decode c_M_cuts 59 = .ok (.iload 5, 2) := by decide +kernel
theorem d_M_cuts_61 : decode c_M_cuts 61 = .ok (.if_icmp .gt 33, 3) := by decide +kernel
theorem d_M_cuts_64 : decode c_M_cuts 64 = .ok (.aload_n 0, 1) := by decide +kernel
theorem d_M_cuts_65 : decode c_M_cuts 65 = .ok (.getfield 44, 3) := by decide +kernel
theorem d_M_cuts_68 : decode c_M_cuts 68 = .ok (.iload 6, 2) := by decide +kernel
theorem d_M_cuts_70 : decode c_M_cuts 70 = .ok (.iload 6, 2) := by decide +kernel
theorem d_M_cuts_72 : decode c_M_cuts 72 = .ok (.iload 6, 2) := by decide +kernel
theorem d_M_cuts_74 : decode c_M_cuts 74 = .ok (.iload_n 2, 1) := by decide +kernel
theorem d_M_cuts_75 : decode c_M_cuts 75 = .ok (.if_icmp .le 7, 3) := by decide +kernel
theorem d_M_cuts_78 : decode c_M_cuts 78 = .ok (.iconst 1, 1) := by decide +kernel
theorem d_M_cuts_79 : decode c_M_cuts 79 = .ok (.goto 4, 3) := by decide +kernel
theorem d_M_cuts_82 : decode c_M_cuts 82 = .ok (.iconst 0, 1) := by decide +kernel
theorem d_M_cuts_83 : decode c_M_cuts 83 = .ok (.invokestatic 188, 3) := by decide +kernel
theorem d_M_cuts_86 : decode c_M_cuts 86 = .ok (.isub, 1) := by decide +kernel
theorem d_M_cuts_87 : decode c_M_cuts 87 = .ok (.iastore, 1) := by decide +kernel
theorem d_M_cuts_88 : decode c_M_cuts 88 = .ok (.iinc 6 1, 3) := by decide +kernel
theorem d_M_cuts_91 : decode c_M_cuts 91 = .ok (.goto (-34), 3) := by decide +kernel
theorem d_M_cuts_94 : decode c_M_cuts 94 = .ok (.iload_n 2, 1) := by decide +kernel
theorem d_M_cuts_95 : decode c_M_cuts 95 = .ok (.istore 6, 2) := by decide +kernel
theorem d_M_cuts_97 : decode c_M_cuts 97 = .ok (.aload_n 0, 1) := by decide +kernel
theorem d_M_cuts_98 : decode c_M_cuts 98 = .ok (.iconst 0, 1) := by decide +kernel
theorem d_M_cuts_99 : decode c_M_cuts 99 = .ok (.putfield 117, 3) := by decide +kernel
theorem d_M_cuts_102 : decode c_M_cuts 102 = .ok (.iconst 0, 1) := by decide +kernel
theorem d_M_cuts_103 : decode c_M_cuts 103 = .ok (.istore 7, 2) := by decide +kernel
theorem d_M_cuts_105 : decode c_M_cuts 105 = .ok (.iload 7, 2) := by decide +kernel
theorem d_M_cuts_107 : decode c_M_cuts 107 = .ok (.aload_n 0, 1) := by decide +kernel
theorem d_M_cuts_108 : decode c_M_cuts 108 = .ok (.getfield 17, 3) := by decide +kernel
theorem d_M_cuts_111 : decode c_M_cuts 111 = .ok (.iload_n 1, 1) := by decide +kernel
theorem d_M_cuts_112 : decode c_M_cuts 112 = .ok (.iaload, 1) := by decide +kernel
theorem d_M_cuts_113 : decode c_M_cuts 113 = .ok (.if_icmp .ge 130, 3) := by decide +kernel
theorem d_M_cuts_116 : decode c_M_cuts 116 = .ok (.aload_n 0, 1) := by decide +kernel
theorem d_M_cuts_117 : decode c_M_cuts 117 = .ok (.iload_n 1, 1) := by decide +kernel
theorem d_M_cuts_118 : decode c_M_cuts 118 = .ok (.iload 7, 2) := by decide +kernel
theorem d_M_cuts_120 : decode c_M_cuts 120 = .ok (.invokevirtual 199, 3) := by decide +kernel
theorem d_M_cuts_123 : decode c_M_cuts 123 = .ok (.istore 8, 2) := by decide +kernel
theorem d_M_cuts_125 : decode c_M_cuts 125 = .ok (.aload_n 0, 1) := by decide +kernel
theorem d_M_cuts_126 : decode c_M_cuts 126 = .ok (.iload_n 1, 1) := by decide +kernel
theorem d_M_cuts_127 : decode c_M_cuts 127 = .ok (.iload 7, 2) := by decide +kernel
theorem d_M_cuts_129 : decode c_M_cuts 129 = .ok (.invokevirtual 202, 3) := by decide +kernel
theorem d_M_cuts_132 : decode c_M_cuts 132 = .ok (.istore 9, 2) := by decide +kernel
theorem d_M_cuts_134 : decode c_M_cuts 134 = .ok (.iload 6, 2) := by decide +kernel
theorem d_M_cuts_136 : decode c_M_cuts 136 = .ok (.iload 8, 2) := by decide +kernel
theorem d_M_cuts_138 : decode c_M_cuts 138 = .ok (.if_icmp .eq 55, 3) := by decide +kernel
theorem d_M_cuts_141 : decode c_M_cuts 141 = .ok (.iload 6, 2) := by decide +kernel
theorem d_M_cuts_143 : decode c_M_cuts 143 = .ok (.iload 9, 2) := by decide +kernel
theorem d_M_cuts_145 : decode c_M_cuts 145 = .ok (.if_icmp .eq 48, 3) := by decide +kernel
theorem d_M_cuts_148 : decode c_M_cuts 148 = .ok (.aload_n 0, 1) := by decide +kernel
theorem d_M_cuts_149 : decode c_M_cuts 149 = .ok (.getfield 29, 3) := by decide +kernel
theorem d_M_cuts_152 : decode c_M_cuts 152 = .ok (.aload_n 0, 1) := by decide +kernel
theorem d_M_cuts_153 : decode c_M_cuts 153 = .ok (.getfield 117, 3) := by decide +kernel
theorem d_M_cuts_156 : decode c_M_cuts 156 = .ok (.aload_n 0, 1) := by decide +kernel
theorem d_M_cuts_157 : decode c_M_cuts 157 = .ok (.getfield 44, 3) := by decide +kernel
theorem d_M_cuts_160 : decode c_M_cuts 160 = .ok (.iload 8, 2) := by decide +kernel
theorem d_M_cuts_162 : decode c_M_cuts 162 = .ok (.iaload, 1) := by decide +kernel
theorem d_M_cuts_163 : decode c_M_cuts 163 = .ok (.iastore, 1) := by decide +kernel
theorem d_M_cuts_164 : decode c_M_cuts 164 = .ok (.aload_n 0, 1) := by decide +kernel
theorem d_M_cuts_165 : decode c_M_cuts 165 = .ok (.getfield 32, 3) := by decide +kernel
theorem d_M_cuts_168 : decode c_M_cuts 168 = .ok (.aload_n 0, 1) := by decide +kernel
theorem d_M_cuts_169 : decode c_M_cuts 169 = .ok (.getfield 117, 3) := by decide +kernel
theorem d_M_cuts_172 : decode c_M_cuts 172 = .ok (.aload_n 0, 1) := by decide +kernel
theorem d_M_cuts_173 : decode c_M_cuts 173 = .ok (.getfield 44, 3) := by decide +kernel
theorem d_M_cuts_176 : decode c_M_cuts 176 = .ok (.iload 9, 2) := by decide +kernel
theorem d_M_cuts_178 : decode c_M_cuts 178 = .ok (.iaload, 1) := by decide +kernel
theorem d_M_cuts_179 : decode c_M_cuts 179 = .ok (.iastore, 1) := by decide +kernel
theorem d_M_cuts_180 : decode c_M_cuts 180 = .ok (.aload_n 0, 1) := by decide +kernel
theorem d_M_cuts_181 : decode c_M_cuts 181 = .ok (.dup, 1) := by decide +kernel
theorem d_M_cuts_182 : decode c_M_cuts 182 = .ok (.getfield 117, 3) := by decide +kernel
theorem d_M_cuts_185 : decode c_M_cuts 185 = .ok (.iconst 1, 1) := by decide +kernel
theorem d_M_cuts_186 : decode c_M_cuts 186 = .ok (.iadd, 1) := by decide +kernel
theorem d_M_cuts_187 : decode c_M_cuts 187 = .ok (.putfield 117, 3) := by decide +kernel
theorem d_M_cuts_190 : decode c_M_cuts 190 = .ok (.goto 47, 3) := by decide +kernel
theorem d_M_cuts_193 : decode c_M_cuts 193 = .ok (.iload_n 3, 1) := by decide +kernel
theorem d_M_cuts_194 : decode c_M_cuts 194 = .ok (.iload 6, 2) := by decide +kernel
theorem d_M_cuts_196 : decode c_M_cuts 196 = .ok (.iload 8, 2) := by decide +kernel
theorem d_M_cuts_198 : decode c_M_cuts 198 = .ok (.if_icmp .ne 7, 3) := by decide +kernel
theorem d_M_cuts_201 : decode c_M_cuts 201 = .ok (.iconst 1, 1) := by decide +kernel
theorem d_M_cuts_202 : decode c_M_cuts 202 = .ok (.goto 4, 3) := by decide +kernel
theorem d_M_cuts_205 : decode c_M_cuts 205 = .ok (.iconst 0, 1) := by decide +kernel
theorem d_M_cuts_206 : decode c_M_cuts 206 = .ok (.if_icmp .ne 31, 3) := by decide +kernel
theorem d_M_cuts_209 : decode c_M_cuts 209 = .ok (.iload 8, 2) := by decide +kernel
theorem d_M_cuts_211 : decode c_M_cuts 211 = .ok (.iload 9, 2) := by decide +kernel
theorem d_M_cuts_213 : decode c_M_cuts 213 = .ok (.iadd, 1) := by decide +kernel
theorem d_M_cuts_214 : decode c_M_cuts 214 = .ok (.iload 6, 2) := by decide +kernel
theorem d_M_cuts_216 : decode c_M_cuts 216 = .ok (.isub, 1) := by decide +kernel
theorem d_M_cuts_217 : decode c_M_cuts 217 = .ok (.istore 10, 2) := by decide +kernel
theorem d_M_cuts_219 : decode c_M_cuts 219 = .ok (.aload_n 0, 1) := by decide +kernel
theorem d_M_cuts_220 : decode c_M_cuts 220 = .ok (.getfield 44, 3) := by decide +kernel
theorem d_M_cuts_223 : decode c_M_cuts 223 = .ok (.iload 6, 2) := by decide +kernel
theorem d_M_cuts_225 : decode c_M_cuts 225 = .ok (.aload_n 0, 1) := by decide +kernel
theorem d_M_cuts_226 : decode c_M_cuts 226 = .ok (.getfield 44, 3) := by decide +kernel
theorem d_M_cuts_229 : decode c_M_cuts 229 = .ok (.iload 10, 2) := by decide +kernel
theorem d_M_cuts_231 : decode c_M_cuts 231 = .ok (.iaload, 1) := by decide +kernel
theorem d_M_cuts_232 : decode c_M_cuts 232 = .ok (.iastore, 1) := by decide +kernel
theorem d_M_cuts_233 : decode c_M_cuts 233 = .ok (.iload 10, 2) := by decide +kernel
theorem d_M_cuts_235 : decode c_M_cuts 235 = .ok (.istore 6, 2) := by decide +kernel
theorem d_M_cuts_237 : decode c_M_cuts 237 = .ok (.iinc 7 1, 3) := by decide +kernel
theorem d_M_cuts_240 : decode c_M_cuts 240 = .ok (.goto (-135), 3) := by decide +kernel
theorem d_M_cuts_243 : decode c_M_cuts 243 = .ok (.aload_n 0, 1) := by decide +kernel
theorem d_M_cuts_244 : decode c_M_cuts 244 = .ok (.iload 4, 2) := by decide +kernel
theorem d_M_cuts_246 : decode c_M_cuts 246 = .ok (.iload 5, 2) := by decide +kernel
theorem d_M_cuts_248 : decode c_M_cuts 248 = .ok (.invokevirtual 154, 3) := by decide +kernel
theorem d_M_cuts_251 : decode c_M_cuts 251 = .ok (.aload_n 0, 1) := by decide +kernel
theorem d_M_cuts_252 : decode c_M_cuts 252 = .ok (.iload 6, 2) := by decide +kernel
theorem d_M_cuts_254 : decode c_M_cuts 254 = .ok (.i2l, 1) := by decide +kernel
theorem d_M_cuts_255 : decode c_M_cuts 255 = .ok (.invokevirtual 221, 3) := by decide +kernel
theorem d_M_cuts_258 : decode c_M_cuts 258 = .ok (.aload_n 0, 1) := by decide +kernel
theorem d_M_cuts_259 : decode c_M_cuts 259 = .ok (.getfield 17, 3) := by decide +kernel
theorem d_M_cuts_262 : decode c_M_cuts 262 = .ok (.iload 4, 2) := by decide +kernel
theorem d_M_cuts_264 : decode c_M_cuts 264 = .ok (.iaload, 1) := by decide +kernel
theorem d_M_cuts_265 : decode c_M_cuts 265 = .ok (.ireturn, 1) := by decide +kernel
theorem d_M_isPattern_0 : decode c_M_isPattern 0 = .ok (.iload_n 2, 1) := by decide +kernel
theorem d_M_isPattern_1 : decode c_M_isPattern 1 = .ok (.i2l, 1) := by decide +kernel
theorem d_M_isPattern_2 : decode c_M_isPattern 2 = .ok (.lconst 0, 1) := by decide +kernel
theorem d_M_isPattern_3 : decode c_M_isPattern 3 = .ok (.aload_n 0, 1) := by decide +kernel
theorem d_M_isPattern_4 : decode c_M_isPattern 4 = .ok (.iload_n 1, 1) := by decide +kernel
theorem d_M_isPattern_5 : decode c_M_isPattern 5 = .ok (.invokevirtual 86, 3) := by decide +kernel
theorem d_M_isPattern_8 : decode c_M_isPattern 8 = .ok (.iconst 1, 1) := by decide +kernel
theorem d_M_isPattern_9 : decode c_M_isPattern 9 = .ok (.isub, 1) := by decide +kernel
theorem d_M_isPattern_10 : decode c_M_isPattern 10 = .ok (.i2l, 1) := by decide +kernel
theorem d_M_isPattern_11 : decode c_M_isPattern 11 = .ok (.invokestatic 82, 3) := by decide +kernel
theorem d_M_isPattern_14 : decode c_M_isPattern 14 = .ok (.ireturn, 1) := by decide +kernel
theorem d_M_runs_0 : decode c_M_runs 0 = .ok (.aload_n 0, 1) := by decide +kernel
theorem d_M_runs_1 : decode c_M_runs 1 = .ok (.iconst 0, 1) := by decide +kernel
theorem d_M_runs_2 : decode c_M_runs 2 = .ok (.putfield 69, 3) := by decide +kernel
theorem d_M_runs_5 : decode c_M_runs 5 = .ok (.iload_n 1, 1) := by decide +kernel
theorem d_M_runs_6 : decode c_M_runs 6 = .ok (.invokestatic 151, 3) := by decide +kernel
theorem d_M_runs_9 : decode c_M_runs 9 = .ok (.ifCond .eq 12, 3) := by decide +kernel
theorem d_M_runs_12 : decode c_M_runs 12 = .ok (.aload_n 0, 1) := by decide +kernel
theorem d_M_runs_13 : decode c_M_runs 13 = .ok (.iload_n 1, 1) := by decide +kernel
theorem d_M_runs_14 : decode c_M_runs 14 = .ok (.iload_n 2, 1) := by decide +kernel
theorem d_M_runs_15 : decode c_M_runs 15 = .ok (.invokevirtual 242, 3) := by decide +kernel
theorem d_M_runs_18 : decode c_M_runs 18 = .ok (.ifCond .ne 5, 3) := by decide +kernel
theorem d_M_runs_21 : decode c_M_runs 21 = .ok (.iconst (-1), 1) := by decide +kernel
theorem d_M_runs_22 : decode c_M_runs 22 = .ok (.ireturn, 1) := by decide +kernel
theorem d_M_runs_23 : decode c_M_runs 23 = .ok (.aload_n 0, 1) := by decide +kernel
theorem d_M_runs_24 : decode c_M_runs 24 = .ok (.iload_n 1, 1) := by decide +kernel
theorem d_M_runs_25 : decode c_M_runs 25 = .ok (.iload_n 2, 1) := by decide +kernel
theorem d_M_runs_26 : decode c_M_runs 26 = .ok (.iconst (-1), 1) := by decide +kernel
theorem d_M_runs_27 : decode c_M_runs 27 = .ok (.iconst 0, 1) := by decide +kernel
theorem d_M_runs_28 : decode c_M_runs 28 = .ok (.invokevirtual 228, 3) := by decide +kernel
theorem d_M_runs_31 : decode c_M_runs 31 = .ok (.istore_n 3, 1) := by decide +kernel
theorem d_M_runs_32 : decode c_M_runs 32 = .ok (.aload_n 0, 1) := by decide +kernel
theorem d_M_runs_33 : decode c_M_runs 33 = .ok (.aload_n 0, 1) := by decide +kernel
theorem d_M_runs_34 : decode c_M_runs 34 = .ok (.getfield 224, 3) := by decide +kernel
theorem d_M_runs_37 : decode c_M_runs 37 = .ok (.invokevirtual 221, 3) := by decide +kernel
theorem d_M_runs_40 : decode c_M_runs 40 = .ok (.iload_n 3, 1) := by decide +kernel
theorem d_M_runs_41 : decode c_M_runs 41 = .ok (.ireturn, 1) := by decide +kernel
theorem d_M_isDigit_0 : decode c_M_isDigit 0 = .ok (.aload_n 0, 1) := by decide +kernel
theorem d_M_isDigit_1 : decode c_M_isDigit 1 = .ok (.getfield 100, 3) := by decide +kernel
theorem d_M_isDigit_4 : decode c_M_isDigit 4 = .ok (.aload_n 0, 1) := by decide +kernel
theorem d_M_isDigit_5 : decode c_M_isDigit 5 = .ok (.getfield 97, 3) := by decide +kernel
theorem d_M_isDigit_8 : decode c_M_isDigit 8 = .ok (.if_icmp .ge 29, 3) := by decide +kernel
theorem d_M_isDigit_11 : decode c_M_isDigit 11 = .ok (.aload_n 0, 1) := by decide +kernel
theorem d_M_isDigit_12 : decode c_M_isDigit 12 = .ok (.getfield 26, 3) := by decide +kernel
theorem d_M_isDigit_15 : decode c_M_isDigit 15 = .ok (.aload_n 0, 1) := by decide +kernel
theorem d_M_isDigit_16 : decode c_M_isDigit 16 = .ok (.getfield 100, 3) := by decide +kernel
theorem d_M_isDigit_19 : decode c_M_isDigit 19 = .ok (.iaload, 1) := by decide +kernel
theorem d_M_isDigit_20 : decode c_M_isDigit 20 = .ok (.i2l, 1) := by decide +kernel
theorem d_M_isDigit_21 : decode c_M_isDigit 21 = .ok (.ldc2_w 103, 3) := by decide +kernel
theorem d_M_isDigit_24 : decode c_M_isDigit 24 = .ok (.ldc2_w 105, 3) := by decide +kernel
theorem d_M_isDigit_27 : decode c_M_isDigit 27 = .ok (.invokestatic 82, 3) := by decide +kernel
theorem d_M_isDigit_30 : decode c_M_isDigit 30 = .ok (.ifCond .eq 7, 3) := by decide +kernel
theorem d_M_isDigit_33 : decode c_M_isDigit 33 = .ok (.iconst 1, 1) := by decide +kernel
theorem d_M_isDigit_34 : decode c_M_isDigit 34 = .ok (.goto 4, 3) := by decide +kernel
theorem d_M_isDigit_37 : decode c_M_isDigit 37 = .ok (.iconst 0, 1) := by decide +kernel
theorem d_M_isDigit_38 : decode c_M_isDigit 38 = .ok (.ireturn, 1) := by decide +kernel
