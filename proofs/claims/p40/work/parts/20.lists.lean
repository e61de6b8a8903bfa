theorem dJ9_floorDiv_7cf53_0 : decode cJ9_floorDiv_7cf53 0 = .ok (.iload_n 0, 1) := by decide +kernel
theorem dJ9_floorDiv_7cf53_1 : decode cJ9_floorDiv_7cf53 1 = .ok (.iload_n 1, 1) := by decide +kernel
theorem dJ9_floorDiv_7cf53_2 : decode cJ9_floorDiv_7cf53 2 = .ok (.idiv, 1) := by decide +kernel
theorem dJ9_floorDiv_7cf53_3 : decode cJ9_floorDiv_7cf53 3 = .ok (.istore_n 2, 1) := by decide +kernel
theorem dJ9_floorDiv_7cf53_4 : decode cJ9_floorDiv_7cf53 4 = .ok (.iload_n 0, 1) := by decide +kernel
theorem dJ9_floorDiv_7cf53_5 : decode cJ9_floorDiv_7cf53 5 = .ok (.iload_n 1, 1) := by decide +kernel
theorem dJ9_floorDiv_7cf53_6 : decode cJ9_floorDiv_7cf53 6 = .ok (.ixor, 1) := by decide +kernel
theorem dJ9_floorDiv_7cf53_7 : decode cJ9_floorDiv_7cf53 7 = .ok (.ifCond .ge 14, 3) := by decide +kernel
theorem dJ9_floorDiv_7cf53_10 : decode cJ9_floorDiv_7cf53 10 = .ok (.iload_n 2, 1) := by decide +kernel
theorem dJ9_floorDiv_7cf53_11 : decode cJ9_floorDiv_7cf53 11 = .ok (.iload_n 1, 1) := by decide +kernel
theorem dJ9_floorDiv_7cf53_12 : decode cJ9_floorDiv_7cf53 12 = .ok (.imul, 1) := by decide +kernel
theorem dJ9_floorDiv_7cf53_13 : decode cJ9_floorDiv_7cf53 13 = .ok (.iload_n 0, 1) := by decide +kernel
theorem dJ9_floorDiv_7cf53_14 : decode cJ9_floorDiv_7cf53 14 = .ok (.if_icmp .eq 7, 3) := by decide +kernel
theorem dJ9_floorDiv_7cf53_17 : decode cJ9_floorDiv_7cf53 17 = .ok (.iload_n 2, 1) := by decide +kernel
theorem dJ9_floorDiv_7cf53_18 : decode cJ9_floorDiv_7cf53 18 = .ok (.iconst 1, 1) := by decide +kernel
theorem dJ9_floorDiv_7cf53_19 : decode cJ9_floorDiv_7cf53 19 = .ok (.isub, 1) := by decide +kernel
theorem dJ9_floorDiv_7cf53_20 : decode cJ9_floorDiv_7cf53 20 = .ok (.ireturn, 1) := by decide +kernel
theorem dJ9_floorDiv_7cf53_21 : decode cJ9_floorDiv_7cf53 21 = .ok (.iload_n 2, 1) := by decide +kernel
theorem dJ9_floorDiv_7cf53_22 : decode cJ9_floorDiv_7cf53 22 = .ok (.ireturn, 1) := by decide +kernel
theorem dJ9_max_7cf53_0 : decode cJ9_max_7cf53 0 = .ok (.iload_n 0, 1) := by decide +kernel
theorem dJ9_max_7cf53_1 : decode cJ9_max_7cf53 1 = .ok (.iload_n 1, 1) := by decide +kernel
theorem dJ9_max_7cf53_2 : decode cJ9_max_7cf53 2 = .ok (.if_icmp .lt 7, 3) := by decide +kernel
theorem dJ9_max_7cf53_5 : decode cJ9_max_7cf53 5 = .ok (.iload_n 0, 1) := by decide +kernel
theorem dJ9_max_7cf53_6 : decode cJ9_max_7cf53 6 = .ok (.goto 4, 3) := by decide +kernel
theorem dJ9_max_7cf53_9 : decode cJ9_max_7cf53 9 = .ok (.iload_n 1, 1) := by decide +kernel
theorem dJ9_max_7cf53_10 : decode cJ9_max_7cf53 10 = .ok (.ireturn, 1) := by decide +kernel
theorem dJ9_min_7cf53_0 : decode cJ9_min_7cf53 0 = .ok (.iload_n 0, 1) := by decide +kernel
theorem dJ9_min_7cf53_1 : decode cJ9_min_7cf53 1 = .ok (.iload_n 1, 1) := by decide +kernel
theorem dJ9_min_7cf53_2 : decode cJ9_min_7cf53 2 = .ok (.if_icmp .gt 7, 3) := by decide +kernel
theorem dJ9_min_7cf53_5 : decode cJ9_min_7cf53 5 = .ok (.iload_n 0, 1) := by decide +kernel
theorem dJ9_min_7cf53_6 : decode cJ9_min_7cf53 6 = .ok (.goto 4, 3) := by decide +kernel
theorem dJ9_min_7cf53_9 : decode cJ9_min_7cf53 9 = .ok (.iload_n 1, 1) := by decide +kernel
theorem dJ9_min_7cf53_10 : decode cJ9_min_7cf53 10 = .ok (.ireturn, 1) := by decide +kernel
theorem dJxa1e45_init_da8c8_0 : decode cJxa1e45_init_da8c8 0 = .ok (.aload_n 0, 1) := by decide +kernel
theorem dJxa1e45_init_da8c8_1 : decode cJxa1e45_init_da8c8 1 = .ok (.invokespecial 1, 3) := by decide +kernel
theorem dJxa1e45_init_da8c8_4 : decode cJxa1e45_init_da8c8 4 = .ok (.return_, 1) := by decide +kernel
theorem dJxc12de_init_da8c8_0 : decode cJxc12de_init_da8c8 0 = .ok (.aload_n 0, 1) := by decide +kernel
theorem dJxc12de_init_da8c8_1 : decode cJxc12de_init_da8c8 1 = .ok (.invokespecial 1, 3) := by decide +kernel
theorem dJxc12de_init_da8c8_4 : decode cJxc12de_init_da8c8 4 = .ok (.aload_n 0, 1) := by decide +kernel
theorem dJxc12de_init_da8c8_5 : decode cJxc12de_init_da8c8 5 = .ok (.iconst 0, 1) := by decide +kernel
theorem dJxc12de_init_da8c8_6 : decode cJxc12de_init_da8c8 6 = .ok (.putfield 7, 3) := by decide +kernel
theorem dJxc12de_init_da8c8_9 : decode cJxc12de_init_da8c8 9 = .ok (.return_, 1) := by decide +kernel
theorem dJx4a65c_init_da8c8_0 : decode cJx4a65c_init_da8c8 0 = .ok (.aload_n 0, 1) := by decide +kernel
theorem dJx4a65c_init_da8c8_1 : decode cJx4a65c_init_da8c8 1 = .ok (.invokespecial 1, 3) := by decide +kernel
theorem dJx4a65c_init_da8c8_4 : decode cJx4a65c_init_da8c8 4 = .ok (.aload_n 0, 1) := by decide +kernel
theorem dJx4a65c_init_da8c8_5 : decode cJx4a65c_init_da8c8 5 = .ok (.getstatic 39, 3) := by decide +kernel
theorem dJx4a65c_init_da8c8_8 : decode cJx4a65c_init_da8c8 8 = .ok (.putfield 9, 3) := by decide +kernel
theorem dJx4a65c_init_da8c8_11 : decode cJx4a65c_init_da8c8 11 = .ok (.return_, 1) := by decide +kernel
theorem dJx4a65c_grow_92f84_0 : decode cJx4a65c_grow_92f84 0 = .ok (.aload_n 0, 1) := by decide +kernel
theorem dJx4a65c_grow_92f84_1 : decode cJx4a65c_grow_92f84 1 = .ok (.getfield 9, 3) := by decide +kernel
theorem dJx4a65c_grow_92f84_4 : decode cJx4a65c_grow_92f84 4 = .ok (.arraylength, 1) := by decide +kernel
theorem dJx4a65c_grow_92f84_5 : decode cJx4a65c_grow_92f84 5 = .ok (.istore_n 2, 1) := by decide +kernel
theorem dJx4a65c_grow_92f84_6 : decode cJx4a65c_grow_92f84 6 = .ok (.iload_n 2, 1) := by decide +kernel
theorem dJx4a65c_grow_92f84_7 : decode cJx4a65c_grow_92f84 7 = .ok (.ifCond .gt 13, 3) := by decide +kernel
theorem dJx4a65c_grow_92f84_10 : decode cJx4a65c_grow_92f84 10 = .ok (.aload_n 0, 1) := by decide +kernel
theorem dJx4a65c_grow_92f84_11 : decode cJx4a65c_grow_92f84 11 = .ok (.getfield 9, 3) := by decide +kernel
theorem dJx4a65c_grow_92f84_14 : decode cJx4a65c_grow_92f84 14 = .ok (.getstatic 39, 3) := by decide +kernel
theorem dJx4a65c_grow_92f84_17 : decode cJx4a65c_grow_92f84 17 = .ok (.if_acmp .eq 28, 3) := by decide +kernel
theorem dJx4a65c_grow_92f84_20 : decode cJx4a65c_grow_92f84 20 = .ok (.iload_n 2, 1) := by decide +kernel
theorem dJx4a65c_grow_92f84_21 : decode cJx4a65c_grow_92f84 21 = .ok (.iload_n 1, 1) := by decide +kernel
theorem dJx4a65c_grow_92f84_22 : decode cJx4a65c_grow_92f84 22 = .ok (.iload_n 2, 1) := by decide +kernel
theorem dJx4a65c_grow_92f84_23 : decode cJx4a65c_grow_92f84 23 = .ok (.isub, 1) := by decide +kernel
theorem dJx4a65c_grow_92f84_24 : decode cJx4a65c_grow_92f84 24 = .ok (.iload_n 2, 1) := by decide +kernel
theorem dJx4a65c_grow_92f84_25 : decode cJx4a65c_grow_92f84 25 = .ok (.iconst 1, 1) := by decide +kernel
theorem dJx4a65c_grow_92f84_26 : decode cJx4a65c_grow_92f84 26 = .ok (.ishr, 1) := by decide +kernel
theorem dJx4a65c_grow_92f84_27 : decode cJx4a65c_grow_92f84 27 = .ok (.invokestatic 73, 3) := by decide +kernel
theorem dJx4a65c_grow_92f84_30 : decode cJx4a65c_grow_92f84 30 = .ok (.istore_n 3, 1) := by decide +kernel
theorem dJx4a65c_grow_92f84_31 : decode cJx4a65c_grow_92f84 31 = .ok (.aload_n 0, 1) := by decide +kernel
theorem dJx4a65c_grow_92f84_32 : decode cJx4a65c_grow_92f84 32 = .ok (.aload_n 0, 1) := by decide +kernel
theorem dJx4a65c_grow_92f84_33 : decode cJx4a65c_grow_92f84 33 = .ok (.getfield 9, 3) := by decide +kernel
theorem dJx4a65c_grow_92f84_36 : decode cJx4a65c_grow_92f84 36 = .ok (.iload_n 3, 1) := by decide +kernel
theorem dJx4a65c_grow_92f84_37 : decode cJx4a65c_grow_92f84 37 = .ok (.invokestatic 66, 3) := by decide +kernel
theorem dJx4a65c_grow_92f84_40 : decode cJx4a65c_grow_92f84 40 = .ok (.dup_x1, 1) := by decide +kernel
theorem dJx4a65c_grow_92f84_41 : decode cJx4a65c_grow_92f84 41 = .ok (.putfield 9, 3) := by decide +kernel
theorem dJx4a65c_grow_92f84_44 : decode cJx4a65c_grow_92f84 44 = .ok (.areturn, 1) := by decide +kernel
theorem dJx4a65c_grow_92f84_45 : decode cJx4a65c_grow_92f84 45 = .ok (.aload_n 0, 1) := by decide +kernel
theorem dJx4a65c_grow_92f84_46 : decode cJx4a65c_grow_92f84 46 = .ok (.bipush 10, 2) := by decide +kernel
theorem dJx4a65c_grow_92f84_48 : decode cJx4a65c_grow_92f84 48 = .ok (.iload_n 1, 1) := by decide +kernel
theorem dJx4a65c_grow_92f84_49 : decode cJx4a65c_grow_92f84 49 = .ok (.invokestatic 79, 3) := by decide +kernel
theorem dJx4a65c_grow_92f84_52 : decode cJx4a65c_grow_92f84 52 = .ok (.anewarray 7, 3) := by decide +kernel
theorem dJx4a65c_grow_92f84_55 : decode cJx4a65c_grow_92f84 55 = .ok (.dup_x1, 1) := by decide +kernel
theorem dJx4a65c_grow_92f84_56 : decode cJx4a65c_grow_92f84 56 = .ok (.putfield 9, 3) := by decide +kernel
theorem dJx4a65c_grow_92f84_59 : decode cJx4a65c_grow_92f84 59 = .ok (.areturn, 1) := by decide +kernel
theorem dJx4a65c_grow_d5877_0 : decode cJx4a65c_grow_d5877 0 = .ok (.aload_n 0, 1) := by decide +kernel
theorem dJx4a65c_grow_d5877_1 : decode cJx4a65c_grow_d5877 1 = .ok (.aload_n 0, 1) := by decide +kernel
theorem dJx4a65c_grow_d5877_2 : decode cJx4a65c_grow_d5877 2 = .ok (.getfield 48, 3) := by decide +kernel
theorem dJx4a65c_grow_d5877_5 : decode cJx4a65c_grow_d5877 5 = .ok (.iconst 1, 1) := by decide +kernel
theorem dJx4a65c_grow_d5877_6 : decode cJx4a65c_grow_d5877 6 = .ok (.iadd, 1) := by decide +kernel
theorem dJx4a65c_grow_d5877_7 : decode cJx4a65c_grow_d5877 7 = .ok (.invokevirtual 69, 3) := by decide +kernel
theorem dJx4a65c_grow_d5877_10 : decode cJx4a65c_grow_d5877 10 = .ok (.areturn, 1) := by decide +kernel
theorem dJx4a65c_size_8abf5_0 : decode cJx4a65c_size_8abf5 0 = .ok (.aload_n 0, 1) := by decide +kernel
theorem dJx4a65c_size_8abf5_1 : decode cJx4a65c_size_8abf5 1 = .ok (.getfield 48, 3) := by decide +kernel
theorem dJx4a65c_size_8abf5_4 : decode cJx4a65c_size_8abf5 4 = .ok (.ireturn, 1) := by decide +kernel
theorem dJx4a65c_isEmpty_aae02_0 : decode cJx4a65c_isEmpty_aae02 0 = .ok (.aload_n 0, 1) := by decide +kernel
theorem dJx4a65c_isEmpty_aae02_1 : decode cJx4a65c_isEmpty_aae02 1 = .ok (.getfield 48, 3) := by decide +kernel
theorem dJx4a65c_isEmpty_aae02_4 : decode cJx4a65c_isEmpty_aae02 4 = .ok (.ifCond .ne 7, 3) := by decide +kernel
theorem dJx4a65c_isEmpty_aae02_7 : decode cJx4a65c_isEmpty_aae02 7 = .ok (.iconst 1, 1) := by decide +kernel
theorem dJx4a65c_isEmpty_aae02_8 : decode cJx4a65c_isEmpty_aae02 8 = .ok (.goto 4, 3) := by decide +kernel
theorem dJx4a65c_isEmpty_aae02_11 : decode cJx4a65c_isEmpty_aae02 11 = .ok (.iconst 0, 1) := by decide +kernel
theorem dJx4a65c_isEmpty_aae02_12 : decode cJx4a65c_isEmpty_aae02 12 = .ok (.ireturn, 1) := by decide +kernel
theorem dJx4a65c_elementData_915e3_0 : decode cJx4a65c_elementData_915e3 0 = .ok (.aload_n 0, 1) := by decide +kernel
theorem dJx4a65c_elementData_915e3_1 : decode cJx4a65c_elementData_915e3 1 = .ok (.getfield 9, 3) := by decide +kernel
theorem dJx4a65c_elementData_915e3_4 : decode cJx4a65c_elementData_915e3 4 = .ok (.iload_n 1, 1) := by decide +kernel
theorem dJx4a65c_elementData_915e3_5 : decode cJx4a65c_elementData_915e3 5 = .ok (.aaload, 1) := by decide +kernel
theorem dJx4a65c_elementData_915e3_6 : decode cJx4a65c_elementData_915e3 6 = .ok (.areturn, 1) := by decide +kernel
theorem dJx4a65c_get_915e3_0 : decode cJx4a65c_get_915e3 0 = .ok (.iload_n 1, 1) := by decide +kernel
theorem dJx4a65c_get_915e3_1 : decode cJx4a65c_get_915e3 1 = .ok (.aload_n 0, 1) := by decide +kernel
theorem dJx4a65c_get_915e3_2 : decode cJx4a65c_get_915e3 2 = .ok (.getfield 48, 3) := by decide +kernel
theorem dJx4a65c_get_915e3_5 : decode cJx4a65c_get_915e3 5 = .ok (.invokestatic 118, 3) := by decide +kernel
theorem dJx4a65c_get_915e3_8 : decode cJx4a65c_get_915e3 8 = .ok (.pop, 1) := by decide +kernel
theorem dJx4a65c_get_915e3_9 : decode cJx4a65c_get_915e3 9 = .ok (.aload_n 0, 1) := by decide +kernel
theorem dJx4a65c_get_915e3_10 : decode cJx4a65c_get_915e3 10 = .ok (.iload_n 1, 1) := by decide +kernel
theorem dJx4a65c_get_915e3_11 : decode cJx4a65c_get_915e3 11 = .ok (.invokevirtual 123, 3) := by decide +kernel
theorem dJx4a65c_get_915e3_14 : decode cJx4a65c_get_915e3 14 = .ok (.areturn, 1) := by decide +kernel
theorem dJx4a65c_set_bcc79_0 : decode cJx4a65c_set_bcc79 0 = .ok (.iload_n 1, 1) := by decide +kernel
theorem dJx4a65c_set_bcc79_1 : decode cJx4a65c_set_bcc79 1 = .ok (.aload_n 0, 1) := by decide +kernel
theorem dJx4a65c_set_bcc79_2 : decode cJx4a65c_set_bcc79 2 = .ok (.getfield 48, 3) := by decide +kernel
theorem dJx4a65c_set_bcc79_5 : decode cJx4a65c_set_bcc79 5 = .ok (.invokestatic 118, 3) := by decide +kernel
theorem dJx4a65c_set_bcc79_8 : decode cJx4a65c_set_bcc79 8 = .ok (.pop, 1) := by decide +kernel
theorem dJx4a65c_set_bcc79_9 : decode cJx4a65c_set_bcc79 9 = .ok (.aload_n 0, 1) := by decide +kernel
theorem dJx4a65c_set_bcc79_10 : decode cJx4a65c_set_bcc79 10 = .ok (.iload_n 1, 1) := by decide +kernel
theorem dJx4a65c_set_bcc79_11 : decode cJx4a65c_set_bcc79 11 = .ok (.invokevirtual 123, 3) := by decide +kernel
theorem dJx4a65c_set_bcc79_14 : decode cJx4a65c_set_bcc79 14 = .ok (.astore_n 3, 1) := by decide +kernel
theorem dJx4a65c_set_bcc79_15 : decode cJx4a65c_set_bcc79 15 = .ok (.aload_n 0, 1) := by decide +kernel
theorem dJx4a65c_set_bcc79_16 : decode cJx4a65c_set_bcc79 16 = .ok (.getfield 9, 3) := by decide +kernel
theorem dJx4a65c_set_bcc79_19 : decode cJx4a65c_set_bcc79 19 = .ok (.iload_n 1, 1) := by decide +kernel
theorem dJx4a65c_set_bcc79_20 : decode cJx4a65c_set_bcc79 20 = .ok (.aload_n 2, 1) := by decide +kernel
theorem dJx4a65c_set_bcc79_21 : decode cJx4a65c_set_bcc79 21 = .ok (.aastore, 1) := by decide +kernel
theorem dJx4a65c_set_bcc79_22 : decode cJx4a65c_set_bcc79 22 = .ok (.aload_n 3, 1) := by decide +kernel
theorem dJx4a65c_set_bcc79_23 : decode cJx4a65c_set_bcc79 23 = .ok (.areturn, 1) := by decide +kernel
theorem dJx4a65c_add_72be8_0 : decode cJx4a65c_add_72be8 0 = .ok (.iload_n 3, 1) := by decide +kernel
theorem dJx4a65c_add_72be8_1 : decode cJx4a65c_add_72be8 1 = .ok (.aload_n 2, 1) := by decide +kernel
theorem dJx4a65c_add_72be8_2 : decode cJx4a65c_add_72be8 2 = .ok (.arraylength, 1) := by decide +kernel
theorem dJx4a65c_add_72be8_3 : decode cJx4a65c_add_72be8 3 = .ok (.if_icmp .ne 8, 3) := by decide +kernel
theorem dJx4a65c_add_72be8_6 : decode cJx4a65c_add_72be8 6 = .ok (.aload_n 0, 1) := by decide +kernel
theorem dJx4a65c_add_72be8_7 : decode cJx4a65c_add_72be8 7 = .ok (.invokevirtual 129, 3) := by decide +kernel
theorem dJx4a65c_add_72be8_10 : decode cJx4a65c_add_72be8 10 = .ok (.astore_n 2, 1) := by decide +kernel
theorem dJx4a65c_add_72be8_11 : decode cJx4a65c_add_72be8 11 = .ok (.aload_n 2, 1) := by decide +kernel
theorem dJx4a65c_add_72be8_12 : decode cJx4a65c_add_72be8 12 = .ok (.iload_n 3, 1) := by decide +kernel
theorem dJx4a65c_add_72be8_13 : decode cJx4a65c_add_72be8 13 = .ok (.aload_n 1, 1) := by decide +kernel
theorem dJx4a65c_add_72be8_14 : decode cJx4a65c_add_72be8 14 = .ok (.aastore, 1) := by decide +kernel
theorem dJx4a65c_add_72be8_15 : decode cJx4a65c_add_72be8 15 = .ok (.aload_n 0, 1) := by decide +kernel
theorem dJx4a65c_add_72be8_16 : decode cJx4a65c_add_72be8 16 = .ok (.iload_n 3, 1) := by decide +kernel
theorem dJx4a65c_add_72be8_17 : decode cJx4a65c_add_72be8 17 = .ok (.iconst 1, 1) := by decide +kernel
theorem dJx4a65c_add_72be8_18 : decode cJx4a65c_add_72be8 18 = .ok (.iadd, 1) := by decide +kernel
theorem dJx4a65c_add_72be8_19 : decode cJx4a65c_add_72be8 19 = .ok (.putfield 48, 3) := by decide +kernel
theorem dJx4a65c_add_72be8_22 : decode cJx4a65c_add_72be8 22 = .ok (.return_, 1) := by decide +kernel
theorem dJx4a65c_add_9ea2d_0 : decode cJx4a65c_add_9ea2d 0 = .ok (.aload_n 0, 1) := by decide +kernel
theorem dJx4a65c_add_9ea2d_1 : decode cJx4a65c_add_9ea2d 1 = .ok (.dup, 1) := by decide +kernel
theorem dJx4a65c_add_9ea2d_2 : decode cJx4a65c_add_9ea2d 2 = .ok (.getfield 63, 3) := by decide +kernel
theorem dJx4a65c_add_9ea2d_5 : decode cJx4a65c_add_9ea2d 5 = .ok (.iconst 1, 1) := by decide +kernel
theorem dJx4a65c_add_9ea2d_6 : decode cJx4a65c_add_9ea2d 6 = .ok (.iadd, 1) := by decide +kernel
theorem dJx4a65c_add_9ea2d_7 : decode cJx4a65c_add_9ea2d 7 = .ok (.putfield 63, 3) := by decide +kernel
theorem dJx4a65c_add_9ea2d_10 : decode cJx4a65c_add_9ea2d 10 = .ok (.aload_n 0, 1) := by decide +kernel
theorem dJx4a65c_add_9ea2d_11 : decode cJx4a65c_add_9ea2d 11 = .ok (.aload_n 1, 1) := by decide +kernel
theorem dJx4a65c_add_9ea2d_12 : decode cJx4a65c_add_9ea2d 12 = .ok (.aload_n 0, 1) := by decide +kernel
theorem dJx4a65c_add_9ea2d_13 : decode cJx4a65c_add_9ea2d 13 = .ok (.getfield 9, 3) := by decide +kernel
theorem dJx4a65c_add_9ea2d_16 : decode cJx4a65c_add_9ea2d 16 = .ok (.aload_n 0, 1) := by decide +kernel
theorem dJx4a65c_add_9ea2d_17 : decode cJx4a65c_add_9ea2d 17 = .ok (.getfield 48, 3) := by decide +kernel
theorem dJx4a65c_add_9ea2d_20 : decode cJx4a65c_add_9ea2d 20 = .ok (.invokevirtual 131, 3) := by decide +kernel
theorem dJx4a65c_add_9ea2d_23 : decode cJx4a65c_add_9ea2d 23 = .ok (.iconst 1, 1) := by decide +kernel
theorem dJx4a65c_add_9ea2d_24 : decode cJx4a65c_add_9ea2d 24 = .ok (.ireturn, 1) := by decide +kernel
theorem dJ7_fill_53178_0 : decode cJ7_fill_53178 0 = .ok (.iconst 0, 1) := by decide +kernel
theorem dJ7_fill_53178_1 : decode cJ7_fill_53178 1 = .ok (.istore_n 2, 1) := by decide +kernel
theorem dJ7_fill_53178_2 : decode cJ7_fill_53178 2 = .ok (.aload_n 0, 1) := by decide +kernel
theorem dJ7_fill_53178_3 : decode cJ7_fill_53178 3 = .ok (.arraylength, 1) := by decide +kernel
theorem dJ7_fill_53178_4 : decode cJ7_fill_53178 4 = .ok (.istore_n 3, 1) := by decide +kernel
theorem dJ7_fill_53178_5 : decode cJ7_fill_53178 5 = .ok (.iload_n 2, 1) := by decide +kernel
theorem dJ7_fill_53178_6 : decode cJ7_fill_53178 6 = .ok (.iload_n 3, 1) := by decide +kernel
theorem dJ7_fill_53178_7 : decode cJ7_fill_53178 7 = .ok (.if_icmp .ge 13, 3) := by decide +kernel
theorem dJ7_fill_53178_10 : decode cJ7_fill_53178 10 = .ok (.aload_n 0, 1) := by decide +kernel
theorem dJ7_fill_53178_11 : decode cJ7_fill_53178 11 = .ok (.iload_n 2, 1) := by decide +kernel
theorem dJ7_fill_53178_12 : decode cJ7_fill_53178 12 = .ok (.iload_n 1, 1) := by decide +kernel
theorem dJ7_fill_53178_13 : decode cJ7_fill_53178 13 = .ok (.iastore, 1) := by decide +kernel
theorem dJ7_fill_53178_14 : decode cJ7_fill_53178 14 = .ok (.iinc 2 1, 3) := by decide +kernel
theorem dJ7_fill_53178_17 : decode cJ7_fill_53178 17 = .ok (.goto (-12), 3) := by decide +kernel
theorem dJ7_fill_53178_20 : decode cJ7_fill_53178 20 = .ok (.return_, 1) := by decide +kernel
theorem dJ7_copyOf_1904c_0 : decode cJ7_copyOf_1904c 0 = .ok (.aload_n 0, 1) := by decide +kernel
theorem dJ7_copyOf_1904c_1 : decode cJ7_copyOf_1904c 1 = .ok (.iload_n 1, 1) := by decide +kernel
theorem dJ7_copyOf_1904c_2 : decode cJ7_copyOf_1904c 2 = .ok (.aload_n 0, 1) := by decide +kernel
theorem dJ7_copyOf_1904c_3 : decode cJ7_copyOf_1904c 3 = .ok (.invokevirtual 86, 3) := by decide +kernel
theorem dJ7_copyOf_1904c_6 : decode cJ7_copyOf_1904c 6 = .ok (.invokestatic 300, 3) := by decide +kernel
theorem dJ7_copyOf_1904c_9 : decode cJ7_copyOf_1904c 9 = .ok (.areturn, 1) := by decide +kernel
theorem dJ7_copyOf_6403c_0 : decode cJ7_copyOf_6403c 0 = .ok (.aload_n 2, 1) := by decide +kernel
theorem dJ7_copyOf_6403c_1 : decode cJ7_copyOf_6403c 1 = .ok (.ldc 110, 2) := by decide +kernel
theorem dJ7_copyOf_6403c_3 : decode cJ7_copyOf_6403c 3 = .ok (.if_acmp .ne 10, 3) := by decide +kernel
theorem dJ7_copyOf_6403c_6 : decode cJ7_copyOf_6403c 6 = .ok (.iload_n 1, 1) := by decide +kernel
theorem dJ7_copyOf_6403c_7 : decode cJ7_copyOf_6403c 7 = .ok (.anewarray 2, 3) := by decide +kernel
theorem dJ7_copyOf_6403c_10 : decode cJ7_copyOf_6403c 10 = .ok (.goto 14, 3) := by decide +kernel
theorem dJ7_copyOf_6403c_13 : decode cJ7_copyOf_6403c 13 = .ok (.aload_n 2, 1) := by decide +kernel
theorem dJ7_copyOf_6403c_14 : decode cJ7_copyOf_6403c 14 = .ok (.invokevirtual 90, 3) := by decide +kernel
theorem dJ7_copyOf_6403c_17 : decode cJ7_copyOf_6403c 17 = .ok (.iload_n 1, 1) := by decide +kernel
theorem dJ7_copyOf_6403c_18 : decode cJ7_copyOf_6403c 18 = .ok (.invokestatic 95, 3) := by decide +kernel
theorem dJ7_copyOf_6403c_21 : decode cJ7_copyOf_6403c 21 = .ok (.checkcast 110, 3) := by decide +kernel
theorem dJ7_copyOf_6403c_24 : decode cJ7_copyOf_6403c 24 = .ok (.astore_n 3, 1) := by decide +kernel
theorem dJ7_copyOf_6403c_25 : decode cJ7_copyOf_6403c 25 = .ok (.aload_n 0, 1) := by decide +kernel
theorem dJ7_copyOf_6403c_26 : decode cJ7_copyOf_6403c 26 = .ok (.iconst 0, 1) := by decide +kernel
theorem dJ7_copyOf_6403c_27 : decode cJ7_copyOf_6403c 27 = .ok (.aload_n 3, 1) := by decide +kernel
theorem dJ7_copyOf_6403c_28 : decode cJ7_copyOf_6403c 28 = .ok (.iconst 0, 1) := by decide +kernel
theorem dJ7_copyOf_6403c_29 : decode cJ7_copyOf_6403c 29 = .ok (.aload_n 0, 1) := by decide +kernel
theorem dJ7_copyOf_6403c_30 : decode cJ7_copyOf_6403c 30 = .ok (.arraylength, 1) := by decide +kernel
theorem dJ7_copyOf_6403c_31 : decode cJ7_copyOf_6403c 31 = .ok (.iload_n 1, 1) := by decide +kernel
theorem dJ7_copyOf_6403c_32 : decode cJ7_copyOf_6403c 32 = .ok (.invokestatic 304, 3) := by decide +kernel
theorem dJ7_copyOf_6403c_35 : decode cJ7_copyOf_6403c 35 = .ok (.invokestatic 150, 3) := by decide +kernel
theorem dJ7_copyOf_6403c_38 : decode cJ7_copyOf_6403c 38 = .ok (.aload_n 3, 1) := by decide +kernel
theorem dJ7_copyOf_6403c_39 : decode cJ7_copyOf_6403c 39 = .ok (.areturn, 1) := by decide +kernel
theorem dJ15_checkIndex_7cf53_0 : decode cJ15_checkIndex_7cf53 0 = .ok (.iload_n 0, 1) := by decide +kernel
theorem dJ15_checkIndex_7cf53_1 : decode cJ15_checkIndex_7cf53 1 = .ok (.iload_n 1, 1) := by decide +kernel
theorem dJ15_checkIndex_7cf53_2 : decode cJ15_checkIndex_7cf53 2 = .ok (.aconst_null, 1) := by decide +kernel
theorem dJ15_checkIndex_7cf53_3 : decode cJ15_checkIndex_7cf53 3 = .ok (.invokestatic 105, 3) := by decide +kernel
theorem dJ15_checkIndex_7cf53_6 : decode cJ15_checkIndex_7cf53 6 = .ok (.ireturn, 1) := by decide +kernel
theorem dJ8_newLength_cabcc_0 : decode cJ8_newLength_cabcc 0 = .ok (.iload_n 0, 1) := by decide +kernel
theorem dJ8_newLength_cabcc_1 : decode cJ8_newLength_cabcc 1 = .ok (.iload_n 1, 1) := by decide +kernel
theorem dJ8_newLength_cabcc_2 : decode cJ8_newLength_cabcc 2 = .ok (.iload_n 2, 1) := by decide +kernel
theorem dJ8_newLength_cabcc_3 : decode cJ8_newLength_cabcc 3 = .ok (.invokestatic 194, 3) := by decide +kernel
theorem dJ8_newLength_cabcc_6 : decode cJ8_newLength_cabcc 6 = .ok (.iadd, 1) := by decide +kernel
theorem dJ8_newLength_cabcc_7 : decode cJ8_newLength_cabcc 7 = .ok (.istore_n 3, 1) := by decide +kernel
theorem dJ8_newLength_cabcc_8 : decode cJ8_newLength_cabcc 8 = .ok (.iconst 0, 1) := by decide +kernel
theorem dJ8_newLength_cabcc_9 : decode cJ8_newLength_cabcc 9 = .ok (.iload_n 3, 1) := by decide +kernel
theorem dJ8_newLength_cabcc_10 : decode cJ8_newLength_cabcc 10 = .ok (.if_icmp .ge 11, 3) := by decide +kernel
theorem dJ8_newLength_cabcc_13 : decode cJ8_newLength_cabcc 13 = .ok (.iload_n 3, 1) := by decide +kernel
theorem dJ8_newLength_cabcc_14 : decode cJ8_newLength_cabcc 14 = .ok (.ldc 200, 2) := by decide +kernel
theorem dJ8_newLength_cabcc_16 : decode cJ8_newLength_cabcc 16 = .ok (.if_icmp .gt 5, 3) := by decide +kernel
theorem dJ8_newLength_cabcc_19 : decode cJ8_newLength_cabcc 19 = .ok (.iload_n 3, 1) := by decide +kernel
theorem dJ8_newLength_cabcc_20 : decode cJ8_newLength_cabcc 20 = .ok (.ireturn, 1) := by decide +kernel
theorem dJ8_newLength_cabcc_21 : decode cJ8_newLength_cabcc 21 = .ok (.iload_n 0, 1) := by decide +kernel
theorem dJ8_newLength_cabcc_22 : decode cJ8_newLength_cabcc 22 = .ok (.iload_n 1, 1) := by decide +kernel
theorem dJ8_newLength_cabcc_23 : decode cJ8_newLength_cabcc 23 = .ok (.invokestatic 201, 3) := by decide +kernel
theorem dJ8_newLength_cabcc_26 : decode cJ8_newLength_cabcc 26 = .ok (.ireturn, 1) := by decide +kernel
theorem dJ3_checkIndex_8e157_0 : decode cJ3_checkIndex_8e157 0 = .ok (.iload_n 0, 1) := by decide +kernel
theorem dJ3_checkIndex_8e157_1 : decode cJ3_checkIndex_8e157 1 = .ok (.ifCond .lt 8, 3) := by decide +kernel
theorem dJ3_checkIndex_8e157_4 : decode cJ3_checkIndex_8e157 4 = .ok (.iload_n 0, 1) := by decide +kernel
theorem dJ3_checkIndex_8e157_5 : decode cJ3_checkIndex_8e157 5 = .ok (.iload_n 1, 1) := by decide +kernel
theorem dJ3_checkIndex_8e157_6 : decode cJ3_checkIndex_8e157 6 = .ok (.if_icmp .lt 10, 3) := by decide +kernel
theorem dJ3_checkIndex_8e157_9 : decode cJ3_checkIndex_8e157 9 = .ok (.aload_n 2, 1) := by decide +kernel
theorem dJ3_checkIndex_8e157_10 : decode cJ3_checkIndex_8e157 10 = .ok (.iload_n 0, 1) := by decide +kernel
theorem dJ3_checkIndex_8e157_11 : decode cJ3_checkIndex_8e157 11 = .ok (.iload_n 1, 1) := by decide +kernel
theorem dJ3_checkIndex_8e157_12 : decode cJ3_checkIndex_8e157 12 = .ok (.invokestatic 95, 3) := by decide +kernel
theorem dJ3_checkIndex_8e157_15 : decode cJ3_checkIndex_8e157 15 = .ok (.athrow, 1) := by decide +kernel
theorem dJ3_checkIndex_8e157_16 : decode cJ3_checkIndex_8e157 16 = .ok (.iload_n 0, 1) := by decide +kernel
theorem dJ3_checkIndex_8e157_17 : decode cJ3_checkIndex_8e157 17 = .ok (.ireturn, 1) := by decide +kernel
/-! references as answers -/
def QR (G : Gx) (e0 : Nat) (α : Ax) (κ : Nat → Int) (B : Nat) (ad : Nat) (Qm : Mem → Prop) : Array Value → State → Outcome → State → Prop :=
  va_Qr (fun (u : Mem) => Qm u) (fun u a U => a = ad ∧ Rp G e0 α κ B u U.heap) (fun q => B ≤ q)
def CR (l : Launch) (y : MethodName) (cd : Cond) (n : Nat) (G : Gx) (e0 : Nat) (α : Ax) (κ : Nat → Int) (B : Nat) (av : List Value) (M : Mem) (ad : Nat) (Qm : Mem → Prop) : Prop :=
  Met l y (cd :: gw) (rmL n) (va_Pc av (Pw G e0 α κ B M)) (QR G e0 α κ B ad Qm) 0 0 (fun q => B ≤ q)
abbrev WR (p : Program) (l : Launch) (e : Env) (k : Nat) (s : State) (m : MethodId) (args : Array Value) (below : List Frame) (meth : Method) (c : Code) (G : Gx) (e0 : Nat) (α : Ax) (κ : Nat → Int) (B : Nat) (ad : Nat) (Qm : Mem → Prop) (H : Heap) (locs : List Loc) (pc : Nat) (ls : Array Slot) (st : List Value) : Prop :=
  W p l e (rmL k) s m args below meth c H locs 0 0 (MQ below (QR G e0 α κ B ad Qm) args s 0 0 (fun q => B ≤ q)) (F0 m pc ls st)
theorem CR.mk {l : Launch} {y : MethodName} {cc : ByteArray} {maxL k : Nat} {ret : Option FieldType} {own : String} {G : Gx} {e0 : Nat} {α : Ax} {κ : Nat → Int} {B : Nat} {av : List Value} {lv : List (Nat × Value)} {M : Mem} {ad : Nat} {Qm : Mem → Prop} (hκ : kOK κ) (hy : plainName y.cls = true) (ho : y.cls = own) (hlen : (lg_sl av).length ≤ maxL) (hlv : lv_args 0 av = lv)
    (body : ∀ (p : Program) (e : Env) (s : State) (m : MethodId) (args : Array Value) (below : List Frame) (meth : Method) (c : Code) (ls : Array Slot), CX p m c cc maxL s args own G B κ meth ret → Rp G e0 α κ B M s.heap → va_S (fun q => B ≤ q) s.heap s.heap [] → lv_has ls maxL lv → WR p l e k s m args below meth c G e0 α κ B ad Qm s.heap [] 0 ls []) :
    CR l y (Cond.code y cc maxL ret) k G e0 α κ B av M ad Qm := by
  refine Met.ofW (cc := cc) (maxL := maxL) (ret := ret) hy rfl ?_
  intro p e s m args below meth c s₁ Bd hml hv
  obtain ⟨rfl, hE, hR⟩ := hv
  have hl := lv_entry av (n := maxL) hlen
  rw [lg_entry_eq]
  generalize (lg_sl av ++ List.replicate (maxL - (lg_sl av).length) Slot.unset).toArray = ls at hl ⊢
  rw [hlv] at hl
  exact body p e s m _ below meth c ls ⟨⟨Bd.exec, Bd.bytes, hml, by rw [← ho]; exact findClass_of_methodNamed Bd.named, fun w hw => atoms_spec (ws := Cond.code y cc maxL ret :: gw) Bd.pre w (List.mem_cons_of_mem _ hw)⟩, hE, hκ, Bd.returns, Bd.notSynchronized⟩ hR va_S.rf hl
section SL
variable {p : Program} {l : Launch} {e : Env} {R : Room} {s : State} {m : MethodId} {args : Array Value} {below : List Frame} {meth : Method} {c : Code} {H : Heap} {locs : List Loc} {cells slots : Nat} {Q : State → Prop}
variable {cc : ByteArray} {nL : Nat} {own : String} {pc : Nat} {ls : Array Slot} {rest : List Value} {G : Gx} {e0 : Nat} {α : Ax} {κ : Nat → Int} {B : Nat} {M : Mem} {ret : Option FieldType}
theorem sa_aret {ad : Nat} {rt : FieldType} {Qm : Mem → Prop} (C : CallFix p m c cc nL s args gw own) (hr : meth.sig.returnType = some rt) (hrt : (∃ n, rt = .object n) ∨ ∃ t, rt = .array t) (hlocks : meth.locks = false) (hR : Rp G e0 α κ B M H) (hS : va_S (fun q => B ≤ q) s.heap H locs) (hq : Qm M) (hd : decode cc pc = .ok (.areturn, 1)) :
    W p l e R s m args below meth c H locs 0 0 (MQ below (QR G e0 α κ B ad Qm) args s 0 0 (fun q => B ≤ q)) (F0 m pc ls [.ref ad]) :=
  W.aret C.1 C.2.1 hr hrt (Or.inr ⟨_, rfl⟩) (fun t ht _ => ⟨⟨M, ad, rfl, hq, rfl, by show Rp G e0 α κ B M t.heap; rw [ht]; exact hR⟩, hS.F ht⟩) hS.2.2 hd hlocks
theorem sa_callVR {y : MethodName} {bytes : ByteArray} {maxL n idx : Nat} (k : Nat) {ret : Option FieldType} {b : Nat} {Cn : String} {As st0 : List Value} {ad : Nat} {Qm : Mem → Prop} (C : CallFix p m c cc nL s args gw own) (E : EV G B s) (hR : Rp G e0 α κ B M H) (hS : va_S (fun q => B ≤ q) s.heap H locs)
    (hM : CR l y (Cond.code y bytes maxL ret) k G e0 α κ B (.ref b :: As) M ad Qm) (k1 : Cond.methodLink own idx y ∈ gw) (k2 : Cond.instanceMethod y ∈ gw) (k3 : Cond.selects Cn y y ∈ gw) (k4 : Cond.initialized Cn ∈ gw) (k5 : Cond.code y bytes maxL ret ∈ gw) (hdc : y.cls = Cn ∧ y.cls ≠ "java/lang/invoke/MethodHandle" ∧ y.cls ≠ "java/lang/invoke/VarHandle" ∧ (parseMethodDescriptor y.desc).map (fun d => d.parameters.length) = some n)
    (hroom : (rmL k).frames + 1 ≤ R.frames ∧ 8 + (maxL + 11) + (rmL k).locals ≤ R.locals) (hrc : ∃ cell : Cell, H[b]? = some cell ∧ cell.vm.isStatics = false ∧ s.vm.findClass Cn = some cell.cls) (hn : As.length = n) (hst : st0 = As.reverse ++ .ref b :: rest) (hw : (rest.map fun v => v.category).sum ≤ 8) (hml : ls.size = nL) (hd : decode cc pc = .ok (.invokevirtual idx, 3)) (hcel : cells ≤ R.cells ∧ slots ≤ R.slots)
    (kk : ∀ (M1 : Mem) (H1 : Heap) (locs1 : List Loc), Qm M1 → Rp G e0 α κ B M1 H1 → va_S (fun q => B ≤ q) s.heap H1 locs1 → W p l e R s m args below meth c H1 locs1 cells slots Q (F0 m (pc + 3) ls (.ref ad :: rest))) : W p l e R s m args below meth c H locs cells slots Q (F0 m pc ls st0) := by
  subst hst
  refine va_callr (va_runV (As := As) (rest := rest) (n := n) C hM (cwV n C.2.2.2.2 (g_inV k1 k2 k3 k4 k5) rfl rfl rfl hdc hroom) ⟨Pw.blind, hrc, fun U hU hW => ⟨rfl, E.at hS hU hW, by rw [hU]; exact hR⟩⟩ rfl hn hml rfl (lv_room hw) hd hcel) hS (fun q _ h => h) (fun q h => h) (fun u ra t H1 locs1 ht hvm hp hb _ _ hS1 => ?_)
  obtain ⟨rfl, hb⟩ := hb
  exact kk u H1 locs1 hp (by rw [← ht]; exact hb) hS1
/-! the lists -/
theorem ent_l {L : Nat} (h1 : 12 ≤ L) (h2 : L < 18) (j : Int) : ent G e0 α M L j = .inr (0, [.int (Int32.ofInt (M L 0 (-2))), .ref (if M (L + 6) 0 (-1) = 0 then e0 else α (L + 6) 0), .int (Int32.ofInt (M L 0 (-1)))]) := by
  unfold ent
  rw [if_neg (by omega), if_pos h2]
theorem ent_e {L : Nat} (h1 : 12 ≤ L) (h2 : L < 18) (j : Int) : ent G e0 α M (L + 6) j = .inl (G.2.2.2.2.1, (M (L + 6) 0 (-1)).toNat, .inr (.inr (.inr (.inr (fun k => if (k : Int) < M L 0 (-1) then some (α (lcl L) (M L 0 k)) else none))))) := by
  unfold ent
  rw [if_neg (by omega), if_neg (by omega), if_pos (by omega)]
  simp only [Nat.add_sub_cancel]
theorem okl (h : kOK κ) {L : Nat} (h1 : 12 ≤ L) (h2 : L < 18) : okk κ L 0 := by
  have e : kcode L = 0 := by
    rcases (by omega : L = 12 ∨ L = 13 ∨ L = 14 ∨ L = 15 ∨ L = 16 ∨ L = 17) with rfl | rfl | rfl | rfl | rfl | rfl <;> rfl
  exact okf h e
theorem ns_l {L : Nat} (h2 : L < 18) : L < NS := Nat.lt_trans h2 (by decide)
theorem ns_e {L : Nat} (h2 : L < 18) : L + 6 < NS := Nat.lt_of_lt_of_le (Nat.add_lt_add_right h2 6) (by decide)
theorem oke {L : Nat} (hR : Rp G e0 α κ B M H) (h1 : 12 ≤ L) (h2 : L < 18) (hc : M (L + 6) 0 (-1) ≠ 0) : okk κ (L + 6) 0 := by
  have h := (hR.2.2.2.2 L h1 h2).2.2.1
  rw [if_neg hc] at h
  exact ⟨Int.le_refl 0, by omega⟩
theorem rc_l {L : Nat} (h1 : 12 ≤ L) (h2 : L < 18) (X : CX p m c cc nL s args own G B κ meth ret) (hR : Rp G e0 α κ B M H) : ∃ cell : Cell, H[α L 0]? = some cell ∧ cell.vm.isStatics = false ∧ s.vm.findClass "java/util/ArrayList" = some cell.cls :=
  va_recv X.2.1.1 (hR.one (ns_l h2) (okl X.2.2.1 h1 h2) (ent_l h1 h2 0)) (q0 := 0) (ci := 0) (q := (RJx4a65c, TJx4a65c, 3)) rfl rfl
theorem gl_1 {L idx : Nat} (h1 : 12 ≤ L) (h2 : L < 18) (X : CX p m c cc nL s args own G B κ meth ret) (hR : Rp G e0 α κ B M H) (hl : Cond.fieldLink own idx "java/util/ArrayList" "elementData" "[Ljava/lang/Object;" ∈ gw) (hd : decode cc pc = .ok (.getfield idx, 3)) (kk : W p l e R s m args below meth c H locs cells slots Q (F0 m (pc + 3) ls (.ref (if M (L + 6) 0 (-1) = 0 then e0 else α (L + 6) 0) :: rest))) : W p l e R s m args below meth c H locs cells slots Q (F0 m pc ls (.ref (α L 0) :: rest)) :=
  sa_get (s0 := L) (ci := 0) X.1 X.2.1 hR (ns_l h2) (okl X.2.2.1 h1 h2) (ent_l h1 h2 0) rfl gf_Jx4a65c 1 (by decide) hl rfl rfl hd kk
theorem gl_2 {L idx : Nat} (h1 : 12 ≤ L) (h2 : L < 18) (X : CX p m c cc nL s args own G B κ meth ret) (hR : Rp G e0 α κ B M H) (hl : Cond.fieldLink own idx "java/util/ArrayList" "size" "I" ∈ gw) (hd : decode cc pc = .ok (.getfield idx, 3)) (kk : W p l e R s m args below meth c H locs cells slots Q (F0 m (pc + 3) ls (.int (Int32.ofInt (M L 0 (-1))) :: rest))) : W p l e R s m args below meth c H locs cells slots Q (F0 m pc ls (.ref (α L 0) :: rest)) :=
  sa_get (s0 := L) (ci := 0) X.1 X.2.1 hR (ns_l h2) (okl X.2.2.1 h1 h2) (ent_l h1 h2 0) rfl gf_Jx4a65c 2 (by decide) hl rfl rfl hd kk
end SL
theorem m_size {l : Launch} {G : Gx} {e0 : Nat} {α : Ax} {κ : Nat → Int} {B : Nat} {L : Nat} (hκ : kOK κ) (h1 : 12 ≤ L) (h2 : L < 18) {M : Mem} {Qm : Int → Mem → Prop} (hw : Qm (M L 0 (-1)) M) : CI l yJx4a65c_size_8abf5 (Cond.code yJx4a65c_size_8abf5 cJx4a65c_size_8abf5 1 (some .int)) 0 G e0 α κ B [.ref (α L 0)] M Qm :=
  CI.mk hκ (by decide +kernel) rfl (Nat.le_of_ble_eq_true rfl) (lv := [(0, .ref (α L 0))]) rfl (fun p e s m args below meth c ls X hR hS hl => by
    refine lv_aload_n X.1.1 X.1.2.1 dJx4a65c_size_8abf5_0 rfl (lv_at hl 0 rfl) ?_
    refine gl_2 h1 h2 X hR kw_101 dJx4a65c_size_8abf5_1 ?_
    exact sa_iret X.1 X.2.2.2.1 X.2.2.2.2 hR hS (hR.r L 0 (-1)) hw dJx4a65c_size_8abf5_4)
theorem m_isEmpty {l : Launch} {G : Gx} {e0 : Nat} {α : Ax} {κ : Nat → Int} {B : Nat} {L : Nat} (hκ : kOK κ) (h1 : 12 ≤ L) (h2 : L < 18) {M : Mem} {Qm : Int → Mem → Prop} (hw : Qm (if M L 0 (-1) = 0 then 1 else 0) M) : CI l yJx4a65c_isEmpty_aae02 (Cond.code yJx4a65c_isEmpty_aae02 cJx4a65c_isEmpty_aae02 1 (some .boolean)) 0 G e0 α κ B [.ref (α L 0)] M Qm :=
  CI.mk hκ (by decide +kernel) rfl (Nat.le_of_ble_eq_true rfl) (lv := [(0, .ref (α L 0))]) rfl (fun p e s m args below meth c ls X hR hS hl => by
    refine lv_aload_n X.1.1 X.1.2.1 dJx4a65c_isEmpty_aae02_0 rfl (lv_at hl 0 rfl) ?_
    refine gl_2 h1 h2 X hR kw_101 dJx4a65c_isEmpty_aae02_1 ?_
    refine sa_if_ne (tgt := 11) X.1 (hR.r L 0 (-1)) dJx4a65c_isEmpty_aae02_4 (by decide) (fun hc => ?_) (fun hc => ?_)
    · rw [if_neg hc] at hw
      refine sa_const X.1 dJx4a65c_isEmpty_aae02_11 ?_
      exact sa_zret X.1 X.2.2.2.1 X.2.2.2.2 hR hS (Or.inl rfl) hw dJx4a65c_isEmpty_aae02_12
    · rw [if_pos hc] at hw
      refine sa_const X.1 dJx4a65c_isEmpty_aae02_7 ?_
      refine lv_goto (tgt := 12) X.1.1 X.1.2.1 dJx4a65c_isEmpty_aae02_8 (by decide) ?_
      exact sa_zret X.1 X.2.2.2.1 X.2.2.2.2 hR hS (Or.inr rfl) hw dJx4a65c_isEmpty_aae02_12)
theorem m_checkP {l : Launch} {G : Gx} {e0 : Nat} {α : Ax} {κ : Nat → Int} {B : Nat} {i n : Int} (hκ : kOK κ) (hi : inR i) (hn : inR n) (h0 : 0 ≤ i) (h1 : i < n) {M : Mem} {Qm : Int → Mem → Prop} (hw : Qm i M) : CI l yJ3_checkIndex_8e157 (Cond.code yJ3_checkIndex_8e157 cJ3_checkIndex_8e157 3 (some .int)) 0 G e0 α κ B [.int (Int32.ofInt i), .int (Int32.ofInt n), .null] M Qm :=
  CI.mk hκ (by decide +kernel) rfl (Nat.le_of_ble_eq_true rfl) (lv := [(0, .int (Int32.ofInt i)), (1, .int (Int32.ofInt n)), (2, .null)]) rfl (fun p e s m args below meth c ls X hR hS hl => by
    refine lv_iload_n X.1.1 X.1.2.1 dJ3_checkIndex_8e157_0 rfl (lv_at hl 0 rfl) ?_
    refine sa_if_lt (tgt := 9) X.1 hi dJ3_checkIndex_8e157_1 (by decide) (fun hc => absurd hc (Int.not_lt.mpr h0)) (fun hc => ?_)
    refine lv_iload_n X.1.1 X.1.2.1 dJ3_checkIndex_8e157_4 rfl (lv_at hl 0 rfl) ?_
    refine lv_iload_n X.1.1 X.1.2.1 dJ3_checkIndex_8e157_5 rfl (lv_at hl 1 rfl) ?_
    refine sa_icmp_lt (tgt := 16) X.1 hi hn dJ3_checkIndex_8e157_6 (by decide) (fun hc => ?_) (fun hc => absurd h1 (Int.not_lt.mpr hc))
    refine lv_iload_n X.1.1 X.1.2.1 dJ3_checkIndex_8e157_16 rfl (lv_at hl 0 rfl) ?_
    exact sa_iret X.1 X.2.2.2.1 X.2.2.2.2 hR hS hi hw dJ3_checkIndex_8e157_17)
theorem m_checkO {l : Launch} {G : Gx} {e0 : Nat} {α : Ax} {κ : Nat → Int} {B : Nat} {i n : Int} (hκ : kOK κ) (hi : inR i) (hn : inR n) (h0 : 0 ≤ i) (h1 : i < n) {M : Mem} {Qm : Int → Mem → Prop} (hw : Qm i M) : CI l yJ15_checkIndex_7cf53 (Cond.code yJ15_checkIndex_7cf53 cJ15_checkIndex_7cf53 2 (some .int)) 1 G e0 α κ B [.int (Int32.ofInt i), .int (Int32.ofInt n)] M Qm :=
  CI.mk hκ (by decide +kernel) rfl (Nat.le_of_ble_eq_true rfl) (lv := [(0, .int (Int32.ofInt i)), (1, .int (Int32.ofInt n))]) rfl (fun p e s m args below meth c ls X hR hS hl => by
    refine lv_iload_n X.1.1 X.1.2.1 dJ15_checkIndex_7cf53_0 rfl (lv_at hl 0 rfl) ?_
    refine lv_iload_n X.1.1 X.1.2.1 dJ15_checkIndex_7cf53_1 rfl (lv_at hl 1 rfl) ?_
    refine lv_null X.1.1 X.1.2.1 dJ15_checkIndex_7cf53_2 ?_
    refine sa_callSI 0 (n := 3) (As := [.int (Int32.ofInt i), .int (Int32.ofInt n), .null]) (rest := []) (R := rmL 1) X.1 X.2.1 hR hS (m_checkP X.2.2.1 hi hn h0 h1 hw) kw_400 kw_401 kw_50 kw_402 ⟨by decide +kernel, by decide +kernel, by decide +kernel⟩ (rm_ok rmL_ok (by decide) (by decide)) rfl rfl (Nat.le_of_ble_eq_true rfl) hl.1 dJ15_checkIndex_7cf53_3 rm_c (fun r M H locs hw hr hR hS => ?_)
    exact sa_iret X.1 X.2.2.2.1 X.2.2.2.2 hR hS hr hw dJ15_checkIndex_7cf53_6)
theorem m_elem {l : Launch} {G : Gx} {e0 : Nat} {α : Ax} {κ : Nat → Int} {B : Nat} {L : Nat} {i : Int} (hκ : kOK κ) (h1 : 12 ≤ L) (h2 : L < 18) {M : Mem} (h0 : 0 ≤ i) (hi : i < M L 0 (-1)) {Qm : Mem → Prop} (hw : Qm M) : CR l yJx4a65c_elementData_915e3 (Cond.code yJx4a65c_elementData_915e3 cJx4a65c_elementData_915e3 2 (some (.object "java/lang/Object"))) 0 G e0 α κ B [.ref (α L 0), .int (Int32.ofInt i)] M (α (lcl L) (M L 0 i)) Qm :=
  CR.mk hκ (by decide +kernel) rfl (Nat.le_of_ble_eq_true rfl) (lv := [(0, .ref (α L 0)), (1, .int (Int32.ofInt i))]) rfl (fun p e s m args below meth c ls X hR hS hl => by
    have hle := (hR.2.2.2.2 L h1 h2).2.1
    have hb := (hR.2.2.2.2 L h1 h2).2.2.2.2
    have hc : M (L + 6) 0 (-1) ≠ 0 := by omega
    refine lv_aload_n X.1.1 X.1.2.1 dJx4a65c_elementData_915e3_0 rfl (lv_at hl 0 rfl) ?_
    refine gl_1 h1 h2 X hR kw_100 dJx4a65c_elementData_915e3_1 ?_
    rw [if_neg hc]
    refine lv_iload_n X.1.1 X.1.2.1 dJx4a65c_elementData_915e3_4 rfl (lv_at hl 1 rfl) ?_
    obtain ⟨g1, g2⟩ := inR_in (i := i) (n := (M (L + 6) 0 (-1)).toNat) h0 (by omega) (by omega)
    refine va_aldq X.1.1 X.1.2.1 X.2.1.1 (hR.one (ns_e h2) (oke hR h1 h2 hc) (ent_e h1 h2 0)) 0 3 rfl rfl g1 dJx4a65c_elementData_915e3_5 ?_
    rw [g2, if_pos hi]
    exact sa_aret X.1 X.2.2.2.1 (Or.inl ⟨_, rfl⟩) X.2.2.2.2 hR hS hw dJx4a65c_elementData_915e3_6)
theorem m_get {l : Launch} {G : Gx} {e0 : Nat} {α : Ax} {κ : Nat → Int} {B : Nat} {L : Nat} {i : Int} (hκ : kOK κ) (h1 : 12 ≤ L) (h2 : L < 18) {M : Mem} (hn : inR (M L 0 (-1))) (h0 : 0 ≤ i) (hi : i < M L 0 (-1)) {Qm : Mem → Prop} (hw : Qm M) : CR l yJx4a65c_get_915e3 (Cond.code yJx4a65c_get_915e3 cJx4a65c_get_915e3 2 (some (.object "java/lang/Object"))) 2 G e0 α κ B [.ref (α L 0), .int (Int32.ofInt i)] M (α (lcl L) (M L 0 i)) Qm :=
  CR.mk hκ (by decide +kernel) rfl (Nat.le_of_ble_eq_true rfl) (lv := [(0, .ref (α L 0)), (1, .int (Int32.ofInt i))]) rfl (fun p e s m args below meth c ls X hR hS hl => by
    have hir : inR i := ⟨by omega, by have := hn.2; omega⟩
    refine lv_iload_n X.1.1 X.1.2.1 dJx4a65c_get_915e3_0 rfl (lv_at hl 1 rfl) ?_
    refine lv_aload_n X.1.1 X.1.2.1 dJx4a65c_get_915e3_1 rfl (lv_at hl 0 rfl) ?_
    refine gl_2 h1 h2 X hR kw_101 dJx4a65c_get_915e3_2 ?_
    refine sa_callSI 1 (n := 2) (As := [.int (Int32.ofInt i), .int (Int32.ofInt (M L 0 (-1)))]) (rest := []) (R := rmL 2) (Qm := fun _ M1 => M1 = M) X.1 X.2.1 hR hS (m_checkO X.2.2.1 hir hn h0 hi rfl) kw_397 kw_398 kw_49 kw_399 ⟨by decide +kernel, by decide +kernel, by decide +kernel⟩ (rm_ok rmL_ok (by decide) (by decide)) rfl rfl (Nat.le_of_ble_eq_true rfl) hl.1 dJx4a65c_get_915e3_5 rm_c (fun r M1 H locs hM hr hR hS => ?_)
    rw [hM] at hR
    refine lv_pop X.1.1 X.1.2.1 dJx4a65c_get_915e3_8 rfl ?_
    refine lv_aload_n X.1.1 X.1.2.1 dJx4a65c_get_915e3_9 rfl (lv_at hl 0 rfl) ?_
    refine lv_iload_n X.1.1 X.1.2.1 dJx4a65c_get_915e3_10 rfl (lv_at hl 1 rfl) ?_
    refine sa_callVR 0 (n := 1) (As := [.int (Int32.ofInt i)]) (rest := []) (R := rmL 2) X.1 X.2.1 hR hS (m_elem X.2.2.1 h1 h2 h0 hi hw) kw_403 kw_404 kw_405 kw_42 kw_406 ⟨rfl, by decide +kernel, by decide +kernel, by decide +kernel⟩ (rm_ok rmL_ok (by decide) (by decide)) (rc_l h1 h2 X hR) rfl rfl (Nat.le_of_ble_eq_true rfl) hl.1 dJx4a65c_get_915e3_11 rm_c (fun M1 H locs hw hR hS => ?_)
    exact sa_aret X.1 X.2.2.2.1 (Or.inl ⟨_, rfl⟩) X.2.2.2.2 hR hS hw dJx4a65c_get_915e3_14)
theorem set_l {L : Nat} (h1 : 12 ≤ L) (h2 : L < 18) {G : Gx} {e0 : Nat} {α : Ax} {κ : Nat → Int} {B : Nat} {M : Mem} {H H' : Heap} {i v : Int} (hR : Rp G e0 α κ B M H) (h0 : 0 ≤ i) (hi : i < M L 0 (-1)) (hv : okk κ (lcl L) v) (hv2 : inR v)
    (he : va_at G.1 vwCl (α (L + 6) 0, ent G e0 α (up M L 0 i v) (L + 6) 0) H') (oq : ∀ q, q ≠ α (L + 6) 0 → H'[q]? = H[q]?) : Rp G e0 α κ B (up M L 0 i v) H' := by
  obtain ⟨r1, r2, r3, r4, r5⟩ := id hR
  have hi1 : i ≠ -1 := by omega
  have hi2 : i ≠ -2 := by omega
  have hcap : M (L + 6) 0 (-1) ≠ 0 := by have := (r5 L h1 h2).2.1; omega
  have n1 : ∀ s' (j' : Int), up M L 0 i v s' j' (-1) = M s' j' (-1) := fun s' j' => up_k M L 0 v s' j' (Ne.symm hi1)
  have n2 : ∀ s' (j' : Int), up M L 0 i v s' j' (-2) = M s' j' (-2) := fun s' j' => up_k M L 0 v s' j' (Ne.symm hi2)
  have n3 : ∀ s', s' ≠ L → ∀ j' k', up M L 0 i v s' j' k' = M s' j' k' := fun s' hs j' k' => up_s M 0 i v hs j' k'
  have hoe := oke hR h1 h2 hcap
  refine ⟨fun s' j' hs' ho' => ⟨?_, (r1 s' j' hs' ho').2⟩, r2, fun s' j' k' => ?_, fun j' ho' => ?_, fun L' a b => ?_⟩
  · by_cases e : s' = L + 6 ∧ j' = 0
    · obtain ⟨rfl, rfl⟩ := e
      exact he
    · have hne : α s' j' ≠ α (L + 6) 0 := fun z => e (r2 s' j' (L + 6) 0 hs' ho' (ns_e h2) hoe z)
      have hk := (r1 s' j' hs' ho').1.kept (H1 := H') (oq _ hne)
      have hent : ent G e0 α (up M L 0 i v) s' j' = ent G e0 α M s' j' := by
        unfold ent
        split
        · rename_i q1
          exact obj_congr (fun k => n3 s' (by omega) j' k)
        · rename_i q1
          split
          · rename_i q2
            simp only [n1, n2]
          · rename_i q2
            split
            · rename_i q3
              have q4 : s' ≠ L + 6 ∨ s' = L + 6 := by omega
              by_cases q5 : s' = L + 6
              · subst q5
                have h9 := r5 L h1 h2
                have hk9 : κ (L + 6) = 1 := by rw [h9.2.2.1, if_neg hcap]
                obtain ⟨o1, o2⟩ := ho'
                rw [hk9] at o2
                exact absurd ⟨rfl, (by omega : j' = 0)⟩ e
              · have q6 : s' - 6 ≠ L := by omega
                simp only [n1, n3 (s' - 6) q6]
            · rename_i q3
              simp only [n3 s' (by omega)]
      rw [hent]
      exact hk
  · unfold up
    split
    · exact hv2
    · exact r3 s' j' k'
  · rw [n3 1 (by omega)]
    exact r4 j' ho'
  · rw [n1, n1]
    obtain ⟨a1, a2, a3, a4, a5⟩ := r5 L' a b
    refine ⟨a1, a2, a3, fun k k1 k2 => ?_, a5⟩
    unfold up
    split
    · rename_i z
      rw [z.1]
      exact hv
    · exact a4 k k1 k2
section SP
variable {p : Program} {l : Launch} {e : Env} {s : State} {m : MethodId} {args : Array Value} {below : List Frame} {meth : Method} {c : Code} {H : Heap} {locs : List Loc} {Q : State → Prop}
variable {cc : ByteArray} {nL : Nat} {own : String} {pc : Nat} {ls : Array Slot} {rest : List Value} {G : Gx} {e0 : Nat} {α : Ax} {κ : Nat → Int} {B : Nat} {M : Mem} {ret : Option FieldType}
/-- a list of rows: heads, body, feet -/
def RLs (L : Nat) : Prop := 15 ≤ L ∧ L < 18
theorem RLs.lcl {L : Nat} (h : RLs L) : lcl L = 6 := by
  show (if L = 12 then 2 else if L = 14 then 1 else 6) = 6
  rw [if_neg (by have := h.1; omega), if_neg (by have := h.1; omega)]
theorem ls_size {L idx : Nat} (h1 : 12 ≤ L) (h2 : L < 18) (X : CX p m c cc nL s args own G B κ meth ret) {kc : Nat} {R : Room} {cells slots : Nat} (hRr : RmOK R kc) (hcel : cells ≤ R.cells ∧ slots ≤ R.slots) (hk : 1 ≤ kc) (hR : Rp G e0 α κ B M H) (hS : va_S (fun q => B ≤ q) s.heap H locs) (k1 : Cond.methodLink own idx yJx4a65c_size_8abf5 ∈ gw) (hml : ls.size = nL) (hd : decode cc pc = .ok (.invokevirtual idx, 3)) (hrest : (rest.map fun v => v.category).sum ≤ 8)
    (kk : ∀ (H1 : Heap) (locs1 : List Loc), Rp G e0 α κ B M H1 → va_S (fun q => B ≤ q) s.heap H1 locs1 → W p l e R s m args below meth c H1 locs1 cells slots Q (F0 m (pc + 3) ls (.int (Int32.ofInt (M L 0 (-1))) :: rest))) : W p l e R s m args below meth c H locs cells slots Q (F0 m pc ls (.ref (α L 0) :: rest)) :=
  sa_callVI 0 (n := 0) (As := []) (rest := rest) (Qm := fun r M1 => r = M L 0 (-1) ∧ M1 = M) X.1 X.2.1 hR hS (m_size X.2.2.1 h1 h2 ⟨rfl, rfl⟩) k1 kw_390 kw_391 kw_42 kw_392 ⟨rfl, by decide +kernel, by decide +kernel, by decide +kernel⟩ (rm_ok hRr hk (by decide)) (rc_l h1 h2 X hR) rfl rfl hrest hml hd hcel (fun r M1 H1 locs1 hq _ hR1 hS1 => by
    obtain ⟨q1, q2⟩ := hq
    rw [q2] at hR1
    rw [q1]
    exact kk H1 locs1 hR1 hS1)
theorem ls_isEmpty {L idx : Nat} (h1 : 12 ≤ L) (h2 : L < 18) (X : CX p m c cc nL s args own G B κ meth ret) {kc : Nat} {R : Room} {cells slots : Nat} (hRr : RmOK R kc) (hcel : cells ≤ R.cells ∧ slots ≤ R.slots) (hk : 1 ≤ kc) (hR : Rp G e0 α κ B M H) (hS : va_S (fun q => B ≤ q) s.heap H locs) (k1 : Cond.methodLink own idx yJx4a65c_isEmpty_aae02 ∈ gw) (hml : ls.size = nL) (hd : decode cc pc = .ok (.invokevirtual idx, 3)) (hrest : (rest.map fun v => v.category).sum ≤ 8)
    (kk : ∀ (H1 : Heap) (locs1 : List Loc), Rp G e0 α κ B M H1 → va_S (fun q => B ≤ q) s.heap H1 locs1 → W p l e R s m args below meth c H1 locs1 cells slots Q (F0 m (pc + 3) ls (.int (Int32.ofInt (if M L 0 (-1) = 0 then 1 else 0)) :: rest))) : W p l e R s m args below meth c H locs cells slots Q (F0 m pc ls (.ref (α L 0) :: rest)) :=
  sa_callVI 0 (n := 0) (As := []) (rest := rest) (Qm := fun r M1 => r = (if M L 0 (-1) = 0 then 1 else 0) ∧ M1 = M) X.1 X.2.1 hR hS (m_isEmpty X.2.2.1 h1 h2 ⟨rfl, rfl⟩) k1 kw_755 kw_756 kw_42 kw_757 ⟨rfl, by decide +kernel, by decide +kernel, by decide +kernel⟩ (rm_ok hRr hk (by decide)) (rc_l h1 h2 X hR) rfl rfl hrest hml hd hcel (fun r M1 H1 locs1 hq _ hR1 hS1 => by
    obtain ⟨q1, q2⟩ := hq
    rw [q2] at hR1
    rw [q1]
    exact kk H1 locs1 hR1 hS1)
theorem ls_get {L idx ci : Nat} {i : Int} (h1 : 12 ≤ L) (h2 : L < 18) (hci : lcl L = ci) (X : CX p m c cc nL s args own G B κ meth ret) (hi : 0 ≤ i ∧ i < M L 0 (-1)) {kc : Nat} {R : Room} {cells slots : Nat} (hRr : RmOK R kc) (hcel : cells ≤ R.cells ∧ slots ≤ R.slots) (hk : 3 ≤ kc) (hR : Rp G e0 α κ B M H) (hS : va_S (fun q => B ≤ q) s.heap H locs) (k1 : Cond.methodLink own idx yJx4a65c_get_915e3 ∈ gw) (hml : ls.size = nL) (hd : decode cc pc = .ok (.invokevirtual idx, 3)) (hrest : (rest.map fun v => v.category).sum ≤ 8)
    (kk : ∀ (H1 : Heap) (locs1 : List Loc), okk κ ci (M L 0 i) → Rp G e0 α κ B M H1 → va_S (fun q => B ≤ q) s.heap H1 locs1 → W p l e R s m args below meth c H1 locs1 cells slots Q (F0 m (pc + 3) ls (.ref (α ci (M L 0 i)) :: rest))) : W p l e R s m args below meth c H locs cells slots Q (F0 m pc ls (.int (Int32.ofInt i) :: .ref (α L 0) :: rest)) := by
  subst hci
  have ho := (hR.2.2.2.2 L h1 h2).2.2.2.1 i hi.1 hi.2
  exact sa_callVR 2 (n := 1) (As := [.int (Int32.ofInt i)]) (rest := rest) (Qm := fun M1 => M1 = M) X.1 X.2.1 hR hS (m_get X.2.2.1 h1 h2 (hR.r L 0 (-1)) hi.1 hi.2 rfl) k1 kw_394 kw_395 kw_42 kw_396 ⟨rfl, by decide +kernel, by decide +kernel, by decide +kernel⟩ (rm_ok hRr hk (by decide)) (rc_l h1 h2 X hR) rfl rfl hrest hml hd hcel (fun M1 H1 locs1 hq hR1 hS1 => by
    rw [hq] at hR1
    exact kk H1 locs1 ho hR1 hS1)
theorem ck_1 {idx : Nat} {j : Int} (X : CX p m c cc nL s args own G B κ meth ret) {R : Room} {cells slots : Nat} (hR : Rp G e0 α κ B M H) (ho : okk κ 1 j) (k1 : Cond.classLink own idx "TablePages$Cell" ∈ gw) (hd : decode cc pc = .ok (.checkcast idx, 3)) (kk : W p l e R s m args below meth c H locs cells slots Q (F0 m (pc + 3) ls (.ref (α 1 j) :: rest))) : W p l e R s m args below meth c H locs cells slots Q (F0 m pc ls (.ref (α 1 j) :: rest)) :=
  va_castS X.1.1 X.1.2.1 X.1.2.2.2.1 (X.1.2.2.2.2 _ k1) (X.2.1.1.1 1 _ rfl).2 (rc_1 X hR ho) hd kk
theorem ck_2 {idx : Nat} {j : Int} (X : CX p m c cc nL s args own G B κ meth ret) {R : Room} {cells slots : Nat} (hR : Rp G e0 α κ B M H) (ho : okk κ 2 j) (k1 : Cond.classLink own idx "TablePages$Column" ∈ gw) (hd : decode cc pc = .ok (.checkcast idx, 3)) (kk : W p l e R s m args below meth c H locs cells slots Q (F0 m (pc + 3) ls (.ref (α 2 j) :: rest))) : W p l e R s m args below meth c H locs cells slots Q (F0 m pc ls (.ref (α 2 j) :: rest)) :=
  va_castS X.1.1 X.1.2.1 X.1.2.2.2.1 (X.1.2.2.2.2 _ k1) (X.2.1.1.1 2 _ rfl).2 (rc_2 X hR ho) hd kk
theorem ck_6 {idx : Nat} {j : Int} (X : CX p m c cc nL s args own G B κ meth ret) {R : Room} {cells slots : Nat} (hR : Rp G e0 α κ B M H) (ho : okk κ 6 j) (k1 : Cond.classLink own idx "TablePages$Row" ∈ gw) (hd : decode cc pc = .ok (.checkcast idx, 3)) (kk : W p l e R s m args below meth c H locs cells slots Q (F0 m (pc + 3) ls (.ref (α 6 j) :: rest))) : W p l e R s m args below meth c H locs cells slots Q (F0 m pc ls (.ref (α 6 j) :: rest)) :=
  va_castS X.1.1 X.1.2.1 X.1.2.2.2.1 (X.1.2.2.2.2 _ k1) (X.2.1.1.1 6 _ rfl).2 (rc_6 X hR ho) hd kk
/-- a row put into a place of a list of rows -/
theorem sa_aast {L : Nat} {i v : Int} (hL : RLs L) (X : CX p m c cc nL s args own G B κ meth ret) {R : Room} {cells slots : Nat} (hR : Rp G e0 α κ B M H) (hS : va_S (fun q => B ≤ q) s.heap H locs) (hi : 0 ≤ i ∧ i < M L 0 (-1)) (hv : okk κ 6 v) (hv2 : inR v) (hd : decode cc pc = .ok (.aastore, 1))
    (kk : ∀ (H1 : Heap) (locs1 : List Loc), Rp G e0 α κ B (up M L 0 i v) H1 → va_S (fun q => B ≤ q) s.heap H1 locs1 → W p l e R s m args below meth c H1 locs1 cells slots Q (F0 m (pc + 1) ls rest)) : W p l e R s m args below meth c H locs cells slots Q (F0 m pc ls (.ref (α 6 v) :: .int (Int32.ofInt i) :: .ref (α (L + 6) 0) :: rest)) := by
  have h1 : 12 ≤ L := Nat.le_trans (by decide) hL.1
  have h2 := hL.2
  have hle := (hR.2.2.2.2 L h1 h2).2.1
  have hb := (hR.2.2.2.2 L h1 h2).2.2.2.2
  have hc : M (L + 6) 0 (-1) ≠ 0 := by omega
  have hoe := oke hR h1 h2 hc
  obtain ⟨g1, g2⟩ := inR_in (i := i) (n := (M (L + 6) 0 (-1)).toNat) hi.1 (by omega) (by omega)
  have hq := hR.ne (ns_e h2) hoe
  rw [ent_e h1 h2] at hq
  obtain ⟨cellV, v1, v2, v3⟩ := rc_6 X hR hv
  obtain ⟨kA, comp, k1, k2, k3, -⟩ := (X.2.1.1.2 3 _ rfl).2
  obtain ⟨kE, hkE, -⟩ := Vm.findClass_spec k3
  obtain ⟨c0, t1, f1, f2, f3⟩ := Cond.castable_spec (va_Nw.use (A := args) rfl (X.2.1.2.1.1 _ kn_1452))
  cases v3.symm.trans f1
  cases k3.symm.trans f2
  obtain ⟨-, kC, hkC, -⟩ := (X.2.1.1.1 6 _ rfl).2
  have hfc := (X.2.1.1.1 6 _ rfl).2.1
  have hcl : cellV.cls = G.1.1 6 := Option.some.inj (v3.symm.trans hfc)
  refine W.aast X.1.1 X.1.2.1 hq (fun q h => by cases h) (fun h => by cases h) k1 k2 rfl hkE ⟨fun q => g1 (Or.inl q), by show _ < (arrV _ _ _).slots.size; rw [arrV_size]; exact Nat.not_le.mp fun q => g1 (Or.inr q)⟩ v1 (fun q h => by rw [h] at v2; cases v2) (by rw [hcl]; exact hkC) f3 rfl rfl hd fun H1 e1 z oq => ?_
  refine kk H1 _ (set_l h1 h2 hR hi.1 hi.2 (by rw [hL.lcl]; exact hv) hv2 ?_ oq) (hS.put z oq (hR.1 _ _ (ns_e h2) hoe).2)
  have n1 : ∀ s' (j' : Int), up M L 0 i v s' j' (-1) = M s' j' (-1) := fun s' j' => up_k M L 0 v s' j' (by omega)
  rw [ent_e h1 h2, n1, n1]
  show H1[α (L + 6) 0]? = some (vp_cell _ _)
  rw [e1, vp_cell_q, vp_cell_q, arrV_store]
  congr 2
  funext q
  by_cases hqi : q = (Int32.ofInt i).toNatClampNeg
  · subst hqi
    simp only [updV, if_true]
    rw [g2, if_pos hi.2, up_eq, hL.lcl]
    rfl
  · simp only [updV, if_neg hqi]
    rw [up_k M L 0 v L 0 (by omega)]
end SP
theorem m_set {l : Launch} {G : Gx} {e0 : Nat} {α : Ax} {κ : Nat → Int} {B : Nat} {L : Nat} {i v : Int} (hκ : kOK κ) (hL : RLs L) {M : Mem} (hn : inR (M L 0 (-1))) (h0 : 0 ≤ i) (hi : i < M L 0 (-1)) (hv : okk κ 6 v) (hv2 : inR v) {Qm : Mem → Prop} (hw : Qm (up M L 0 i v)) : CR l yJx4a65c_set_bcc79 (Cond.code yJx4a65c_set_bcc79 cJx4a65c_set_bcc79 4 (some (.object "java/lang/Object"))) 2 G e0 α κ B [.ref (α L 0), .int (Int32.ofInt i), .ref (α 6 v)] M (α 6 (M L 0 i)) Qm :=
  CR.mk hκ (by decide +kernel) rfl (Nat.le_of_ble_eq_true rfl) (lv := [(0, .ref (α L 0)), (1, .int (Int32.ofInt i)), (2, .ref (α 6 v))]) rfl (fun p e s m args below meth c ls X hR hS hl => by
    have h1 : 12 ≤ L := Nat.le_trans (by decide) hL.1
    have h2 := hL.2
    have hir : inR i := ⟨by omega, by have := hn.2; omega⟩
    have hle := (hR.2.2.2.2 L h1 h2).2.1
    have hc : M (L + 6) 0 (-1) ≠ 0 := by omega
    refine lv_iload_n X.1.1 X.1.2.1 dJx4a65c_set_bcc79_0 rfl (lv_at hl 1 rfl) ?_
    refine lv_aload_n X.1.1 X.1.2.1 dJx4a65c_set_bcc79_1 rfl (lv_at hl 0 rfl) ?_
    refine gl_2 h1 h2 X hR kw_101 dJx4a65c_set_bcc79_2 ?_
    refine sa_callSI 1 (n := 2) (As := [.int (Int32.ofInt i), .int (Int32.ofInt (M L 0 (-1)))]) (rest := []) (R := rmL 2) (Qm := fun _ M1 => M1 = M) X.1 X.2.1 hR hS (m_checkO X.2.2.1 hir hn h0 hi rfl) kw_397 kw_398 kw_49 kw_399 ⟨by decide +kernel, by decide +kernel, by decide +kernel⟩ (rm_ok rmL_ok (by decide) (by decide)) rfl rfl (Nat.le_of_ble_eq_true rfl) hl.1 dJx4a65c_set_bcc79_5 rm_c (fun r M1 H locs hM hr hR hS => ?_)
    rw [hM] at hR
    refine lv_pop X.1.1 X.1.2.1 dJx4a65c_set_bcc79_8 rfl ?_
    refine lv_aload_n X.1.1 X.1.2.1 dJx4a65c_set_bcc79_9 rfl (lv_at hl 0 rfl) ?_
    refine lv_iload_n X.1.1 X.1.2.1 dJx4a65c_set_bcc79_10 rfl (lv_at hl 1 rfl) ?_
    refine sa_callVR 0 (n := 1) (As := [.int (Int32.ofInt i)]) (rest := []) (R := rmL 2) (Qm := fun M1 => M1 = M) X.1 X.2.1 hR hS (m_elem X.2.2.1 h1 h2 h0 hi rfl) kw_403 kw_404 kw_405 kw_42 kw_406 ⟨rfl, by decide +kernel, by decide +kernel, by decide +kernel⟩ (rm_ok rmL_ok (by decide) (by decide)) (rc_l h1 h2 X hR) rfl rfl (Nat.le_of_ble_eq_true rfl) hl.1 dJx4a65c_set_bcc79_11 rm_c (fun M1 H locs hM hR hS => ?_)
    rw [hM] at hR
    rw [hL.lcl]
    refine lv_astore_n (lv' := [(3, .ref (α 6 (M L 0 i))), (0, .ref (α L 0)), (1, .int (Int32.ofInt i)), (2, .ref (α 6 v))]) X.1.1 X.1.2.1 dJx4a65c_set_bcc79_14 rfl hl (by decide) rfl (fun ls hl => ?_)
    refine lv_aload_n X.1.1 X.1.2.1 dJx4a65c_set_bcc79_15 rfl (lv_at hl 1 rfl) ?_
    refine gl_1 h1 h2 X hR kw_100 dJx4a65c_set_bcc79_16 ?_
    rw [if_neg hc]
    refine lv_iload_n X.1.1 X.1.2.1 dJx4a65c_set_bcc79_19 rfl (lv_at hl 2 rfl) ?_
    refine lv_aload_n X.1.1 X.1.2.1 dJx4a65c_set_bcc79_20 rfl (lv_at hl 3 rfl) ?_
    refine sa_aast hL X hR hS ⟨h0, hi⟩ hv hv2 dJx4a65c_set_bcc79_21 (fun H locs hR hS => ?_)
    refine lv_aload_n X.1.1 X.1.2.1 dJx4a65c_set_bcc79_22 rfl (lv_at hl 0 rfl) ?_
    exact sa_aret X.1 X.2.2.2.1 (Or.inl ⟨_, rfl⟩) X.2.2.2.2 hR hS hw dJx4a65c_set_bcc79_23)
