theorem dX0_init_0 : decode cX0_init 0 = .ok (.aload_n 0, 1) := by decide +kernel
theorem dX0_init_1 : decode cX0_init 1 = .ok (.invokespecial 3, 3) := by decide +kernel
theorem dX0_init_4 : decode cX0_init 4 = .ok (.aload_n 0, 1) := by decide +kernel
theorem dX0_init_5 : decode cX0_init 5 = .ok (.sipush 400, 3) := by decide +kernel
theorem dX0_init_8 : decode cX0_init 8 = .ok (.newarray .byte, 2) := by decide +kernel
theorem dX0_init_10 : decode cX0_init 10 = .ok (.putfield 11, 3) := by decide +kernel
theorem dX0_init_13 : decode cX0_init 13 = .ok (.aload_n 0, 1) := by decide +kernel
theorem dX0_init_14 : decode cX0_init 14 = .ok (.iconst 0, 1) := by decide +kernel
theorem dX0_init_15 : decode cX0_init 15 = .ok (.putfield 15, 3) := by decide +kernel
theorem dX0_init_18 : decode cX0_init 18 = .ok (.return_, 1) := by decide +kernel
theorem dX0_size_0 : decode cX0_size 0 = .ok (.aload_n 0, 1) := by decide +kernel
theorem dX0_size_1 : decode cX0_size 1 = .ok (.getfield 15, 3) := by decide +kernel
theorem dX0_size_4 : decode cX0_size 4 = .ok (.ireturn, 1) := by decide +kernel
theorem dX0_codeAt_0 : decode cX0_codeAt 0 = .ok (.iload_n 1, 1) := by decide +kernel
theorem dX0_codeAt_1 : decode cX0_codeAt 1 = .ok (.ifCond .lt 20, 3) := by decide +kernel
theorem dX0_codeAt_4 : decode cX0_codeAt 4 = .ok (.iload_n 1, 1) := by decide +kernel
theorem dX0_codeAt_5 : decode cX0_codeAt 5 = .ok (.aload_n 0, 1) := by decide +kernel
theorem dX0_codeAt_6 : decode cX0_codeAt 6 = .ok (.getfield 15, 3) := by decide +kernel
theorem dX0_codeAt_9 : decode cX0_codeAt 9 = .ok (.if_icmp .ge 12, 3) := by decide +kernel
theorem dX0_codeAt_12 : decode cX0_codeAt 12 = .ok (.aload_n 0, 1) := by decide +kernel
theorem dX0_codeAt_13 : decode cX0_codeAt 13 = .ok (.getfield 11, 3) := by decide +kernel
theorem dX0_codeAt_16 : decode cX0_codeAt 16 = .ok (.iload_n 1, 1) := by decide +kernel
theorem dX0_codeAt_17 : decode cX0_codeAt 17 = .ok (.baload, 1) := by decide +kernel
theorem dX0_codeAt_18 : decode cX0_codeAt 18 = .ok (.goto 4, 3) := by decide +kernel
theorem dX0_codeAt_21 : decode cX0_codeAt 21 = .ok (.iconst (-1), 1) := by decide +kernel
theorem dX0_codeAt_22 : decode cX0_codeAt 22 = .ok (.ireturn, 1) := by decide +kernel
theorem dX0_empty_0 : decode cX0_empty 0 = .ok (.aload_n 0, 1) := by decide +kernel
theorem dX0_empty_1 : decode cX0_empty 1 = .ok (.iconst 0, 1) := by decide +kernel
theorem dX0_empty_2 : decode cX0_empty 2 = .ok (.putfield 15, 3) := by decide +kernel
theorem dX0_empty_5 : decode cX0_empty 5 = .ok (.return_, 1) := by decide +kernel
theorem dX0_makeRoom_0 : decode cX0_makeRoom 0 = .ok (.iload_n 1, 1) := by decide +kernel
theorem dX0_makeRoom_1 : decode cX0_makeRoom 1 = .ok (.bipush 34, 2) := by decide +kernel
theorem dX0_makeRoom_3 : decode cX0_makeRoom 3 = .ok (.iadd, 1) := by decide +kernel
theorem dX0_makeRoom_4 : decode cX0_makeRoom 4 = .ok (.aload_n 0, 1) := by decide +kernel
theorem dX0_makeRoom_5 : decode cX0_makeRoom 5 = .ok (.getfield 11, 3) := by decide +kernel
theorem dX0_makeRoom_8 : decode cX0_makeRoom 8 = .ok (.arraylength, 1) := by decide +kernel
theorem dX0_makeRoom_9 : decode cX0_makeRoom 9 = .ok (.if_icmp .le 12, 3) := by decide +kernel
theorem dX0_makeRoom_12 : decode cX0_makeRoom 12 = .ok (.aload_n 0, 1) := by decide +kernel
theorem dX0_makeRoom_13 : decode cX0_makeRoom 13 = .ok (.sipush 8226, 3) := by decide +kernel
theorem dX0_makeRoom_16 : decode cX0_makeRoom 16 = .ok (.newarray .byte, 2) := by decide +kernel
theorem dX0_makeRoom_18 : decode cX0_makeRoom 18 = .ok (.putfield 11, 3) := by decide +kernel
theorem dX0_makeRoom_21 : decode cX0_makeRoom 21 = .ok (.return_, 1) := by decide +kernel
theorem dX0_append_0 : decode cX0_append 0 = .ok (.aload_n 0, 1) := by decide +kernel
theorem dX0_append_1 : decode cX0_append 1 = .ok (.getfield 15, 3) := by decide +kernel
theorem dX0_append_4 : decode cX0_append 4 = .ok (.aload_n 0, 1) := by decide +kernel
theorem dX0_append_5 : decode cX0_append 5 = .ok (.getfield 11, 3) := by decide +kernel
theorem dX0_append_8 : decode cX0_append 8 = .ok (.arraylength, 1) := by decide +kernel
theorem dX0_append_9 : decode cX0_append 9 = .ok (.if_icmp .ge 24, 3) := by decide +kernel
theorem dX0_append_12 : decode cX0_append 12 = .ok (.aload_n 0, 1) := by decide +kernel
theorem dX0_append_13 : decode cX0_append 13 = .ok (.getfield 11, 3) := by decide +kernel
theorem dX0_append_16 : decode cX0_append 16 = .ok (.aload_n 0, 1) := by decide +kernel
theorem dX0_append_17 : decode cX0_append 17 = .ok (.getfield 15, 3) := by decide +kernel
theorem dX0_append_20 : decode cX0_append 20 = .ok (.iload_n 1, 1) := by decide +kernel
theorem dX0_append_21 : decode cX0_append 21 = .ok (.i2b, 1) := by decide +kernel
theorem dX0_append_22 : decode cX0_append 22 = .ok (.bastore, 1) := by decide +kernel
theorem dX0_append_23 : decode cX0_append 23 = .ok (.aload_n 0, 1) := by decide +kernel
theorem dX0_append_24 : decode cX0_append 24 = .ok (.dup, 1) := by decide +kernel
theorem dX0_append_25 : decode cX0_append 25 = .ok (.getfield 15, 3) := by decide +kernel
theorem dX0_append_28 : decode cX0_append 28 = .ok (.iconst 1, 1) := by decide +kernel
theorem dX0_append_29 : decode cX0_append 29 = .ok (.iadd, 1) := by decide +kernel
theorem dX0_append_30 : decode cX0_append 30 = .ok (.putfield 15, 3) := by decide +kernel
theorem dX0_append_33 : decode cX0_append 33 = .ok (.return_, 1) := by decide +kernel
theorem dX0_append__0 : decode cX0_append_ 0 = .ok (.iconst 0, 1) := by decide +kernel
theorem dX0_append__1 : decode cX0_append_ 1 = .ok (.istore_n 2, 1) := by decide +kernel
theorem dX0_append__2 : decode cX0_append_ 2 = .ok (.iload_n 2, 1) := by decide +kernel
theorem dX0_append__3 : decode cX0_append_ 3 = .ok (.aload_n 1, 1) := by decide +kernel
theorem dX0_append__4 : decode cX0_append_ 4 = .ok (.invokevirtual 19, 3) := by decide +kernel
theorem dX0_append__7 : decode cX0_append_ 7 = .ok (.if_icmp .ge 18, 3) := by decide +kernel
theorem dX0_append__10 : decode cX0_append_ 10 = .ok (.aload_n 0, 1) := by decide +kernel
theorem dX0_append__11 : decode cX0_append_ 11 = .ok (.aload_n 1, 1) := by decide +kernel
theorem dX0_append__12 : decode cX0_append_ 12 = .ok (.iload_n 2, 1) := by decide +kernel
theorem dX0_append__13 : decode cX0_append_ 13 = .ok (.invokevirtual 25, 3) := by decide +kernel
theorem dX0_append__16 : decode cX0_append_ 16 = .ok (.invokevirtual 29, 3) := by decide +kernel
theorem dX0_append__19 : decode cX0_append_ 19 = .ok (.iinc 2 1, 3) := by decide +kernel
theorem dX0_append__22 : decode cX0_append_ 22 = .ok (.goto (-20), 3) := by decide +kernel
theorem dX0_append__25 : decode cX0_append_ 25 = .ok (.return_, 1) := by decide +kernel
theorem dX0_copy_0 : decode cX0_copy 0 = .ok (.aload_n 0, 1) := by decide +kernel
theorem dX0_copy_1 : decode cX0_copy 1 = .ok (.invokevirtual 33, 3) := by decide +kernel
theorem dX0_copy_4 : decode cX0_copy 4 = .ok (.iconst 0, 1) := by decide +kernel
theorem dX0_copy_5 : decode cX0_copy 5 = .ok (.istore_n 2, 1) := by decide +kernel
theorem dX0_copy_6 : decode cX0_copy 6 = .ok (.iload_n 2, 1) := by decide +kernel
theorem dX0_copy_7 : decode cX0_copy 7 = .ok (.aload_n 1, 1) := by decide +kernel
theorem dX0_copy_8 : decode cX0_copy 8 = .ok (.getfield 15, 3) := by decide +kernel
theorem dX0_copy_11 : decode cX0_copy 11 = .ok (.if_icmp .ge 18, 3) := by decide +kernel
theorem dX0_copy_14 : decode cX0_copy 14 = .ok (.aload_n 0, 1) := by decide +kernel
theorem dX0_copy_15 : decode cX0_copy 15 = .ok (.aload_n 1, 1) := by decide +kernel
theorem dX0_copy_16 : decode cX0_copy 16 = .ok (.iload_n 2, 1) := by decide +kernel
theorem dX0_copy_17 : decode cX0_copy 17 = .ok (.invokevirtual 36, 3) := by decide +kernel
theorem dX0_copy_20 : decode cX0_copy 20 = .ok (.invokevirtual 29, 3) := by decide +kernel
theorem dX0_copy_23 : decode cX0_copy 23 = .ok (.iinc 2 1, 3) := by decide +kernel
theorem dX0_copy_26 : decode cX0_copy 26 = .ok (.goto (-20), 3) := by decide +kernel
theorem dX0_copy_29 : decode cX0_copy 29 = .ok (.return_, 1) := by decide +kernel
theorem dX0_appendLastDigits_0 : decode cX0_appendLastDigits 0 = .ok (.iload_n 2, 1) := by decide +kernel
theorem dX0_appendLastDigits_1 : decode cX0_appendLastDigits 1 = .ok (.iconst 2, 1) := by decide +kernel
theorem dX0_appendLastDigits_2 : decode cX0_appendLastDigits 2 = .ok (.if_icmp .ge 4, 3) := by decide +kernel
theorem dX0_appendLastDigits_5 : decode cX0_appendLastDigits 5 = .ok (.return_, 1) := by decide +kernel
theorem dX0_appendLastDigits_6 : decode cX0_appendLastDigits 6 = .ok (.iload_n 1, 1) := by decide +kernel
theorem dX0_appendLastDigits_7 : decode cX0_appendLastDigits 7 = .ok (.istore 4, 2) := by decide +kernel
theorem dX0_appendLastDigits_9 : decode cX0_appendLastDigits 9 = .ok (.iconst 0, 1) := by decide +kernel
theorem dX0_appendLastDigits_10 : decode cX0_appendLastDigits 10 = .ok (.istore 5, 2) := by decide +kernel
theorem dX0_appendLastDigits_12 : decode cX0_appendLastDigits 12 = .ok (.iload 5, 2) := by decide +kernel
theorem dX0_appendLastDigits_14 : decode cX0_appendLastDigits 14 = .ok (.iload_n 3, 1) := by decide +kernel
theorem dX0_appendLastDigits_15 : decode cX0_appendLastDigits 15 = .ok (.if_icmp .ge 48, 3) := by decide +kernel
theorem dX0_appendLastDigits_18 : decode cX0_appendLastDigits 18 = .ok (.iload 4, 2) := by decide +kernel
theorem dX0_appendLastDigits_20 : decode cX0_appendLastDigits 20 = .ok (.iload_n 2, 1) := by decide +kernel
theorem dX0_appendLastDigits_21 : decode cX0_appendLastDigits 21 = .ok (.irem, 1) := by decide +kernel
theorem dX0_appendLastDigits_22 : decode cX0_appendLastDigits 22 = .ok (.istore 6, 2) := by decide +kernel
theorem dX0_appendLastDigits_24 : decode cX0_appendLastDigits 24 = .ok (.aload_n 0, 1) := by decide +kernel
theorem dX0_appendLastDigits_25 : decode cX0_appendLastDigits 25 = .ok (.iload 6, 2) := by decide +kernel
theorem dX0_appendLastDigits_27 : decode cX0_appendLastDigits 27 = .ok (.bipush 10, 2) := by decide +kernel
theorem dX0_appendLastDigits_29 : decode cX0_appendLastDigits 29 = .ok (.if_icmp .ge 11, 3) := by decide +kernel
theorem dX0_appendLastDigits_32 : decode cX0_appendLastDigits 32 = .ok (.bipush 48, 2) := by decide +kernel
theorem dX0_appendLastDigits_34 : decode cX0_appendLastDigits 34 = .ok (.iload 6, 2) := by decide +kernel
theorem dX0_appendLastDigits_36 : decode cX0_appendLastDigits 36 = .ok (.iadd, 1) := by decide +kernel
theorem dX0_appendLastDigits_37 : decode cX0_appendLastDigits 37 = .ok (.goto 11, 3) := by decide +kernel
theorem dX0_appendLastDigits_40 : decode cX0_appendLastDigits 40 = .ok (.bipush 97, 2) := by decide +kernel
theorem dX0_appendLastDigits_42 : decode cX0_appendLastDigits 42 = .ok (.iload 6, 2) := by decide +kernel
theorem dX0_appendLastDigits_44 : decode cX0_appendLastDigits 44 = .ok (.iadd, 1) := by decide +kernel
theorem dX0_appendLastDigits_45 : decode cX0_appendLastDigits 45 = .ok (.bipush 10, 2) := by decide +kernel
theorem dX0_appendLastDigits_47 : decode cX0_appendLastDigits 47 = .ok (.isub, 1) := by decide +kernel
theorem dX0_appendLastDigits_48 : decode cX0_appendLastDigits 48 = .ok (.invokevirtual 29, 3) := by decide +kernel
theorem dX0_appendLastDigits_51 : decode cX0_appendLastDigits 51 = .ok (.iload 4, 2) := by decide +kernel
theorem dX0_appendLastDigits_53 : decode cX0_appendLastDigits 53 = .ok (.iload_n 2, 1) := by decide +kernel
theorem dX0_appendLastDigits_54 : decode cX0_appendLastDigits 54 = .ok (.idiv, 1) := by decide +kernel
theorem dX0_appendLastDigits_55 : decode cX0_appendLastDigits 55 = .ok (.istore 4, 2) := by decide +kernel
theorem dX0_appendLastDigits_57 : decode cX0_appendLastDigits 57 = .ok (.iinc 5 1, 3) := by decide +kernel
theorem dX0_appendLastDigits_60 : decode cX0_appendLastDigits 60 = .ok (.goto (-48), 3) := by decide +kernel
theorem dX0_appendLastDigits_63 : decode cX0_appendLastDigits 63 = .ok (.return_, 1) := by decide +kernel
theorem dX0_dropZerosAtEnd_0 : decode cX0_dropZerosAtEnd 0 = .ok (.aload_n 0, 1) := by decide +kernel
theorem dX0_dropZerosAtEnd_1 : decode cX0_dropZerosAtEnd 1 = .ok (.getfield 15, 3) := by decide +kernel
theorem dX0_dropZerosAtEnd_4 : decode cX0_dropZerosAtEnd 4 = .ok (.iload_n 1, 1) := by decide +kernel
theorem dX0_dropZerosAtEnd_5 : decode cX0_dropZerosAtEnd 5 = .ok (.if_icmp .le 31, 3) := by decide +kernel
theorem dX0_dropZerosAtEnd_8 : decode cX0_dropZerosAtEnd 8 = .ok (.aload_n 0, 1) := by decide +kernel
theorem dX0_dropZerosAtEnd_9 : decode cX0_dropZerosAtEnd 9 = .ok (.aload_n 0, 1) := by decide +kernel
theorem dX0_dropZerosAtEnd_10 : decode cX0_dropZerosAtEnd 10 = .ok (.getfield 15, 3) := by decide +kernel
theorem dX0_dropZerosAtEnd_13 : decode cX0_dropZerosAtEnd 13 = .ok (.iconst 1, 1) := by decide +kernel
theorem dX0_dropZerosAtEnd_14 : decode cX0_dropZerosAtEnd 14 = .ok (.isub, 1) := by decide +kernel
theorem dX0_dropZerosAtEnd_15 : decode cX0_dropZerosAtEnd 15 = .ok (.invokevirtual 36, 3) := by decide +kernel
theorem dX0_dropZerosAtEnd_18 : decode cX0_dropZerosAtEnd 18 = .ok (.bipush 48, 2) := by decide +kernel
theorem dX0_dropZerosAtEnd_20 : decode cX0_dropZerosAtEnd 20 = .ok (.if_icmp .ne 16, 3) := by decide +kernel
theorem dX0_dropZerosAtEnd_23 : decode cX0_dropZerosAtEnd 23 = .ok (.aload_n 0, 1) := by decide +kernel
theorem dX0_dropZerosAtEnd_24 : decode cX0_dropZerosAtEnd 24 = .ok (.dup, 1) := by decide +kernel
theorem dX0_dropZerosAtEnd_25 : decode cX0_dropZerosAtEnd 25 = .ok (.getfield 15, 3) := by decide +kernel
theorem dX0_dropZerosAtEnd_28 : decode cX0_dropZerosAtEnd 28 = .ok (.iconst 1, 1) := by decide +kernel
theorem dX0_dropZerosAtEnd_29 : decode cX0_dropZerosAtEnd 29 = .ok (.isub, 1) := by decide +kernel
theorem dX0_dropZerosAtEnd_30 : decode cX0_dropZerosAtEnd 30 = .ok (.putfield 15, 3) := by decide +kernel
theorem dX0_dropZerosAtEnd_33 : decode cX0_dropZerosAtEnd 33 = .ok (.goto (-33), 3) := by decide +kernel
theorem dX0_dropZerosAtEnd_36 : decode cX0_dropZerosAtEnd 36 = .ok (.return_, 1) := by decide +kernel
theorem dX0_reverseFrom_0 : decode cX0_reverseFrom 0 = .ok (.iload_n 1, 1) := by decide +kernel
theorem dX0_reverseFrom_1 : decode cX0_reverseFrom 1 = .ok (.iconst 0, 1) := by decide +kernel
theorem dX0_reverseFrom_2 : decode cX0_reverseFrom 2 = .ok (.invokestatic 40, 3) := by decide +kernel
theorem dX0_reverseFrom_5 : decode cX0_reverseFrom 5 = .ok (.istore_n 2, 1) := by decide +kernel
theorem dX0_reverseFrom_6 : decode cX0_reverseFrom 6 = .ok (.aload_n 0, 1) := by decide +kernel
theorem dX0_reverseFrom_7 : decode cX0_reverseFrom 7 = .ok (.getfield 15, 3) := by decide +kernel
theorem dX0_reverseFrom_10 : decode cX0_reverseFrom 10 = .ok (.iconst 1, 1) := by decide +kernel
theorem dX0_reverseFrom_11 : decode cX0_reverseFrom 11 = .ok (.isub, 1) := by decide +kernel
theorem dX0_reverseFrom_12 : decode cX0_reverseFrom 12 = .ok (.istore_n 3, 1) := by decide +kernel
theorem dX0_reverseFrom_13 : decode cX0_reverseFrom 13 = .ok (.iload_n 2, 1) := by decide +kernel
theorem dX0_reverseFrom_14 : decode cX0_reverseFrom 14 = .ok (.iload_n 3, 1) := by decide +kernel
theorem dX0_reverseFrom_15 : decode cX0_reverseFrom 15 = .ok (.if_icmp .ge 40, 3) := by decide +kernel
theorem dX0_reverseFrom_18 : decode cX0_reverseFrom 18 = .ok (.aload_n 0, 1) := by decide +kernel
theorem dX0_reverseFrom_19 : decode cX0_reverseFrom 19 = .ok (.getfield 11, 3) := by decide +kernel
theorem dX0_reverseFrom_22 : decode cX0_reverseFrom 22 = .ok (.iload_n 2, 1) := by decide +kernel
theorem dX0_reverseFrom_23 : decode cX0_reverseFrom 23 = .ok (.baload, 1) := by decide +kernel
theorem dX0_reverseFrom_24 : decode cX0_reverseFrom 24 = .ok (.istore 4, 2) := by decide +kernel
theorem dX0_reverseFrom_26 : decode cX0_reverseFrom 26 = .ok (.aload_n 0, 1) := by decide +kernel
theorem dX0_reverseFrom_27 : decode cX0_reverseFrom 27 = .ok (.getfield 11, 3) := by decide +kernel
theorem dX0_reverseFrom_30 : decode cX0_reverseFrom 30 = .ok (.iload_n 2, 1) := by decide +kernel
theorem dX0_reverseFrom_31 : decode cX0_reverseFrom 31 = .ok (.aload_n 0, 1) := by decide +kernel
theorem dX0_reverseFrom_32 : decode cX0_reverseFrom 32 = .ok (.getfield 11, 3) := by decide +kernel
theorem dX0_reverseFrom_35 : decode cX0_reverseFrom 35 = .ok (.iload_n 3, 1) := by decide +kernel
theorem dX0_reverseFrom_36 : decode cX0_reverseFrom 36 = .ok (.baload, 1) := by decide +kernel
theorem dX0_reverseFrom_37 : decode cX0_reverseFrom 37 = .ok (.bastore, 1) := by decide +kernel
theorem dX0_reverseFrom_38 : decode cX0_reverseFrom 38 = .ok (.aload_n 0, 1) := by decide +kernel
theorem dX0_reverseFrom_39 : decode cX0_reverseFrom 39 = .ok (.getfield 11, 3) := by decide +kernel
theorem dX0_reverseFrom_42 : decode cX0_reverseFrom 42 = .ok (.iload_n 3, 1) := by decide +kernel
theorem dX0_reverseFrom_43 : decode cX0_reverseFrom 43 = .ok (.iload 4, 2) := by decide +kernel
theorem dX0_reverseFrom_45 : decode cX0_reverseFrom 45 = .ok (.bastore, 1) := by decide +kernel
theorem dX0_reverseFrom_46 : decode cX0_reverseFrom 46 = .ok (.iinc 2 1, 3) := by decide +kernel
theorem dX0_reverseFrom_49 : decode cX0_reverseFrom 49 = .ok (.iinc 3 (-1), 3) := by decide +kernel
theorem dX0_reverseFrom_52 : decode cX0_reverseFrom 52 = .ok (.goto (-39), 3) := by decide +kernel
theorem dX0_reverseFrom_55 : decode cX0_reverseFrom 55 = .ok (.return_, 1) := by decide +kernel
theorem dX1_init_0 : decode cX1_init 0 = .ok (.aload_n 0, 1) := by decide +kernel
theorem dX1_init_1 : decode cX1_init 1 = .ok (.invokespecial 3, 3) := by decide +kernel
theorem dX1_init_4 : decode cX1_init 4 = .ok (.aload_n 0, 1) := by decide +kernel
theorem dX1_init_5 : decode cX1_init 5 = .ok (.sipush 132, 3) := by decide +kernel
theorem dX1_init_8 : decode cX1_init 8 = .ok (.newarray .int, 2) := by decide +kernel
theorem dX1_init_10 : decode cX1_init 10 = .ok (.putfield 9, 3) := by decide +kernel
theorem dX1_init_13 : decode cX1_init 13 = .ok (.aload_n 0, 1) := by decide +kernel
theorem dX1_init_14 : decode cX1_init 14 = .ok (.iconst 0, 1) := by decide +kernel
theorem dX1_init_15 : decode cX1_init 15 = .ok (.putfield 13, 3) := by decide +kernel
theorem dX1_init_18 : decode cX1_init 18 = .ok (.return_, 1) := by decide +kernel
theorem dX1_set_0 : decode cX1_set 0 = .ok (.aload_n 0, 1) := by decide +kernel
theorem dX1_set_1 : decode cX1_set 1 = .ok (.getfield 9, 3) := by decide +kernel
theorem dX1_set_4 : decode cX1_set 4 = .ok (.iconst 0, 1) := by decide +kernel
theorem dX1_set_5 : decode cX1_set 5 = .ok (.lload_n 1, 1) := by decide +kernel
theorem dX1_set_6 : decode cX1_set 6 = .ok (.l2i, 1) := by decide +kernel
theorem dX1_set_7 : decode cX1_set 7 = .ok (.iastore, 1) := by decide +kernel
theorem dX1_set_8 : decode cX1_set 8 = .ok (.aload_n 0, 1) := by decide +kernel
theorem dX1_set_9 : decode cX1_set 9 = .ok (.getfield 9, 3) := by decide +kernel
theorem dX1_set_12 : decode cX1_set 12 = .ok (.iconst 1, 1) := by decide +kernel
theorem dX1_set_13 : decode cX1_set 13 = .ok (.lload_n 1, 1) := by decide +kernel
theorem dX1_set_14 : decode cX1_set 14 = .ok (.bipush 32, 2) := by decide +kernel
theorem dX1_set_16 : decode cX1_set 16 = .ok (.lushr, 1) := by decide +kernel
theorem dX1_set_17 : decode cX1_set 17 = .ok (.l2i, 1) := by decide +kernel
theorem dX1_set_18 : decode cX1_set 18 = .ok (.iastore, 1) := by decide +kernel
theorem dX1_set_19 : decode cX1_set 19 = .ok (.aload_n 0, 1) := by decide +kernel
theorem dX1_set_20 : decode cX1_set 20 = .ok (.iconst 2, 1) := by decide +kernel
theorem dX1_set_21 : decode cX1_set 21 = .ok (.putfield 13, 3) := by decide +kernel
theorem dX1_set_24 : decode cX1_set 24 = .ok (.aload_n 0, 1) := by decide +kernel
theorem dX1_set_25 : decode cX1_set 25 = .ok (.invokevirtual 17, 3) := by decide +kernel
theorem dX1_set_28 : decode cX1_set 28 = .ok (.return_, 1) := by decide +kernel
theorem dX1_copy_0 : decode cX1_copy 0 = .ok (.iconst 0, 1) := by decide +kernel
theorem dX1_copy_1 : decode cX1_copy 1 = .ok (.istore_n 2, 1) := by decide +kernel
theorem dX1_copy_2 : decode cX1_copy 2 = .ok (.iload_n 2, 1) := by decide +kernel
theorem dX1_copy_3 : decode cX1_copy 3 = .ok (.aload_n 1, 1) := by decide +kernel
theorem dX1_copy_4 : decode cX1_copy 4 = .ok (.getfield 13, 3) := by decide +kernel
theorem dX1_copy_7 : decode cX1_copy 7 = .ok (.if_icmp .ge 28, 3) := by decide +kernel
theorem dX1_copy_10 : decode cX1_copy 10 = .ok (.iload_n 2, 1) := by decide +kernel
theorem dX1_copy_11 : decode cX1_copy 11 = .ok (.sipush 132, 3) := by decide +kernel
theorem dX1_copy_14 : decode cX1_copy 14 = .ok (.if_icmp .ge 21, 3) := by decide +kernel
theorem dX1_copy_17 : decode cX1_copy 17 = .ok (.aload_n 0, 1) := by decide +kernel
theorem dX1_copy_18 : decode cX1_copy 18 = .ok (.getfield 9, 3) := by decide +kernel
theorem dX1_copy_21 : decode cX1_copy 21 = .ok (.iload_n 2, 1) := by decide +kernel
theorem dX1_copy_22 : decode cX1_copy 22 = .ok (.aload_n 1, 1) := by decide +kernel
theorem dX1_copy_23 : decode cX1_copy 23 = .ok (.getfield 9, 3) := by decide +kernel
theorem dX1_copy_26 : decode cX1_copy 26 = .ok (.iload_n 2, 1) := by decide +kernel
theorem dX1_copy_27 : decode cX1_copy 27 = .ok (.iaload, 1) := by decide +kernel
theorem dX1_copy_28 : decode cX1_copy 28 = .ok (.iastore, 1) := by decide +kernel
theorem dX1_copy_29 : decode cX1_copy 29 = .ok (.iinc 2 1, 3) := by decide +kernel
theorem dX1_copy_32 : decode cX1_copy 32 = .ok (.goto (-30), 3) := by decide +kernel
theorem dX1_copy_35 : decode cX1_copy 35 = .ok (.aload_n 0, 1) := by decide +kernel
theorem dX1_copy_36 : decode cX1_copy 36 = .ok (.aload_n 1, 1) := by decide +kernel
theorem dX1_copy_37 : decode cX1_copy 37 = .ok (.getfield 13, 3) := by decide +kernel
theorem dX1_copy_40 : decode cX1_copy 40 = .ok (.putfield 13, 3) := by decide +kernel
theorem dX1_copy_43 : decode cX1_copy 43 = .ok (.return_, 1) := by decide +kernel
theorem dX1_isZero_0 : decode cX1_isZero 0 = .ok (.aload_n 0, 1) := by decide +kernel
theorem dX1_isZero_1 : decode cX1_isZero 1 = .ok (.getfield 13, 3) := by decide +kernel
theorem dX1_isZero_4 : decode cX1_isZero 4 = .ok (.ifCond .ne 7, 3) := by decide +kernel
theorem dX1_isZero_7 : decode cX1_isZero 7 = .ok (.iconst 1, 1) := by decide +kernel
theorem dX1_isZero_8 : decode cX1_isZero 8 = .ok (.goto 4, 3) := by decide +kernel
theorem dX1_isZero_11 : decode cX1_isZero 11 = .ok (.iconst 0, 1) := by decide +kernel
theorem dX1_isZero_12 : decode cX1_isZero 12 = .ok (.ireturn, 1) := by decide +kernel
theorem dX1_isOne_0 : decode cX1_isOne 0 = .ok (.aload_n 0, 1) := by decide +kernel
theorem dX1_isOne_1 : decode cX1_isOne 1 = .ok (.getfield 13, 3) := by decide +kernel
theorem dX1_isOne_4 : decode cX1_isOne 4 = .ok (.iconst 1, 1) := by decide +kernel
theorem dX1_isOne_5 : decode cX1_isOne 5 = .ok (.if_icmp .ne 17, 3) := by decide +kernel
theorem dX1_isOne_8 : decode cX1_isOne 8 = .ok (.aload_n 0, 1) := by decide +kernel
theorem dX1_isOne_9 : decode cX1_isOne 9 = .ok (.getfield 9, 3) := by decide +kernel
theorem dX1_isOne_12 : decode cX1_isOne 12 = .ok (.iconst 0, 1) := by decide +kernel
theorem dX1_isOne_13 : decode cX1_isOne 13 = .ok (.iaload, 1) := by decide +kernel
theorem dX1_isOne_14 : decode cX1_isOne 14 = .ok (.iconst 1, 1) := by decide +kernel
theorem dX1_isOne_15 : decode cX1_isOne 15 = .ok (.if_icmp .ne 7, 3) := by decide +kernel
theorem dX1_isOne_18 : decode cX1_isOne 18 = .ok (.iconst 1, 1) := by decide +kernel
theorem dX1_isOne_19 : decode cX1_isOne 19 = .ok (.goto 4, 3) := by decide +kernel
theorem dX1_isOne_22 : decode cX1_isOne 22 = .ok (.iconst 0, 1) := by decide +kernel
theorem dX1_isOne_23 : decode cX1_isOne 23 = .ok (.ireturn, 1) := by decide +kernel
theorem dX1_bitLength_0 : decode cX1_bitLength 0 = .ok (.aload_n 0, 1) := by decide +kernel
theorem dX1_bitLength_1 : decode cX1_bitLength 1 = .ok (.getfield 13, 3) := by decide +kernel
theorem dX1_bitLength_4 : decode cX1_bitLength 4 = .ok (.ifCond .ne 7, 3) := by decide +kernel
theorem dX1_bitLength_7 : decode cX1_bitLength 7 = .ok (.iconst 0, 1) := by decide +kernel
theorem dX1_bitLength_8 : decode cX1_bitLength 8 = .ok (.goto 24, 3) := by decide +kernel
theorem dX1_bitLength_11 : decode cX1_bitLength 11 = .ok (.bipush 32, 2) := by decide +kernel
theorem dX1_bitLength_13 : decode cX1_bitLength 13 = .ok (.aload_n 0, 1) := by decide +kernel
theorem dX1_bitLength_14 : decode cX1_bitLength 14 = .ok (.getfield 13, 3) := by decide +kernel
theorem dX1_bitLength_17 : decode cX1_bitLength 17 = .ok (.imul, 1) := by decide +kernel
theorem dX1_bitLength_18 : decode cX1_bitLength 18 = .ok (.aload_n 0, 1) := by decide +kernel
theorem dX1_bitLength_19 : decode cX1_bitLength 19 = .ok (.aload_n 0, 1) := by decide +kernel
theorem dX1_bitLength_20 : decode cX1_bitLength 20 = .ok (.getfield 13, 3) := by decide +kernel
theorem dX1_bitLength_23 : decode cX1_bitLength 23 = .ok (.iconst 1, 1) := by decide +kernel
theorem dX1_bitLength_24 : decode cX1_bitLength 24 = .ok (.isub, 1) := by decide +kernel
theorem dX1_bitLength_25 : decode cX1_bitLength 25 = .ok (.invokevirtual 20, 3) := by decide +kernel
theorem dX1_bitLength_28 : decode cX1_bitLength 28 = .ok (.invokestatic 24, 3) := by decide +kernel
theorem dX1_bitLength_31 : decode cX1_bitLength 31 = .ok (.isub, 1) := by decide +kernel
theorem dX1_bitLength_32 : decode cX1_bitLength 32 = .ok (.ireturn, 1) := by decide +kernel
theorem dX1_trailingZeros_0 : decode cX1_trailingZeros 0 = .ok (.iconst 0, 1) := by decide +kernel
theorem dX1_trailingZeros_1 : decode cX1_trailingZeros 1 = .ok (.istore_n 1, 1) := by decide +kernel
theorem dX1_trailingZeros_2 : decode cX1_trailingZeros 2 = .ok (.iload_n 1, 1) := by decide +kernel
theorem dX1_trailingZeros_3 : decode cX1_trailingZeros 3 = .ok (.aload_n 0, 1) := by decide +kernel
theorem dX1_trailingZeros_4 : decode cX1_trailingZeros 4 = .ok (.getfield 13, 3) := by decide +kernel
theorem dX1_trailingZeros_7 : decode cX1_trailingZeros 7 = .ok (.if_icmp .ge 31, 3) := by decide +kernel
theorem dX1_trailingZeros_10 : decode cX1_trailingZeros 10 = .ok (.aload_n 0, 1) := by decide +kernel
theorem dX1_trailingZeros_11 : decode cX1_trailingZeros 11 = .ok (.iload_n 1, 1) := by decide +kernel
theorem dX1_trailingZeros_12 : decode cX1_trailingZeros 12 = .ok (.invokevirtual 20, 3) := by decide +kernel
theorem dX1_trailingZeros_15 : decode cX1_trailingZeros 15 = .ok (.ifCond .eq 17, 3) := by decide +kernel
theorem dX1_trailingZeros_18 : decode cX1_trailingZeros 18 = .ok (.bipush 32, 2) := by decide +kernel
theorem dX1_trailingZeros_20 : decode cX1_trailingZeros 20 = .ok (.iload_n 1, 1) := by decide +kernel
theorem dX1_trailingZeros_21 : decode cX1_trailingZeros 21 = .ok (.imul, 1) := by decide +kernel
theorem dX1_trailingZeros_22 : decode cX1_trailingZeros 22 = .ok (.aload_n 0, 1) := by decide +kernel
theorem dX1_trailingZeros_23 : decode cX1_trailingZeros 23 = .ok (.iload_n 1, 1) := by decide +kernel
theorem dX1_trailingZeros_24 : decode cX1_trailingZeros 24 = .ok (.invokevirtual 20, 3) := by decide +kernel
theorem dX1_trailingZeros_27 : decode cX1_trailingZeros 27 = .ok (.invokestatic 29, 3) := by decide +kernel
theorem dX1_trailingZeros_30 : decode cX1_trailingZeros 30 = .ok (.iadd, 1) := by decide +kernel
theorem dX1_trailingZeros_31 : decode cX1_trailingZeros 31 = .ok (.ireturn, 1) := by decide +kernel
theorem dX1_trailingZeros_32 : decode cX1_trailingZeros 32 = .ok (.iinc 1 1, 3) := by decide +kernel
theorem dX1_trailingZeros_35 : decode cX1_trailingZeros 35 = .ok (.goto (-33), 3) := by decide +kernel
theorem dX1_trailingZeros_38 : decode cX1_trailingZeros 38 = .ok (.iconst 0, 1) := by decide +kernel
theorem dX1_trailingZeros_39 : decode cX1_trailingZeros 39 = .ok (.ireturn, 1) := by decide +kernel
theorem dX1_compare_0 : decode cX1_compare 0 = .ok (.aload_n 0, 1) := by decide +kernel
theorem dX1_compare_1 : decode cX1_compare 1 = .ok (.getfield 13, 3) := by decide +kernel
theorem dX1_compare_4 : decode cX1_compare 4 = .ok (.aload_n 1, 1) := by decide +kernel
theorem dX1_compare_5 : decode cX1_compare 5 = .ok (.getfield 13, 3) := by decide +kernel
theorem dX1_compare_8 : decode cX1_compare 8 = .ok (.if_icmp .eq 15, 3) := by decide +kernel
theorem dX1_compare_11 : decode cX1_compare 11 = .ok (.aload_n 0, 1) := by decide +kernel
theorem dX1_compare_12 : decode cX1_compare 12 = .ok (.getfield 13, 3) := by decide +kernel
theorem dX1_compare_15 : decode cX1_compare 15 = .ok (.aload_n 1, 1) := by decide +kernel
theorem dX1_compare_16 : decode cX1_compare 16 = .ok (.getfield 13, 3) := by decide +kernel
theorem dX1_compare_19 : decode cX1_compare 19 = .ok (.invokestatic 32, 3) := by decide +kernel
theorem dX1_compare_22 : decode cX1_compare 22 = .ok (.ireturn, 1) := by decide +kernel
theorem dX1_compare_23 : decode cX1_compare 23 = .ok (.aload_n 0, 1) := by decide +kernel
theorem dX1_compare_24 : decode cX1_compare 24 = .ok (.getfield 13, 3) := by decide +kernel
theorem dX1_compare_27 : decode cX1_compare 27 = .ok (.iconst 1, 1) := by decide +kernel
theorem dX1_compare_28 : decode cX1_compare 28 = .ok (.isub, 1) := by decide +kernel
theorem dX1_compare_29 : decode cX1_compare 29 = .ok (.istore_n 2, 1) := by decide +kernel
theorem dX1_compare_30 : decode cX1_compare 30 = .ok (.iload_n 2, 1) := by decide +kernel
theorem dX1_compare_31 : decode cX1_compare 31 = .ok (.ifCond .lt 29, 3) := by decide +kernel
theorem dX1_compare_34 : decode cX1_compare 34 = .ok (.aload_n 0, 1) := by decide +kernel
theorem dX1_compare_35 : decode cX1_compare 35 = .ok (.iload_n 2, 1) := by decide +kernel
theorem dX1_compare_36 : decode cX1_compare 36 = .ok (.invokevirtual 20, 3) := by decide +kernel
theorem dX1_compare_39 : decode cX1_compare 39 = .ok (.aload_n 1, 1) := by decide +kernel
theorem dX1_compare_40 : decode cX1_compare 40 = .ok (.iload_n 2, 1) := by decide +kernel
theorem dX1_compare_41 : decode cX1_compare 41 = .ok (.invokevirtual 20, 3) := by decide +kernel
theorem dX1_compare_44 : decode cX1_compare 44 = .ok (.invokestatic 36, 3) := by decide +kernel
theorem dX1_compare_47 : decode cX1_compare 47 = .ok (.istore_n 3, 1) := by decide +kernel
theorem dX1_compare_48 : decode cX1_compare 48 = .ok (.iload_n 3, 1) := by decide +kernel
theorem dX1_compare_49 : decode cX1_compare 49 = .ok (.ifCond .eq 5, 3) := by decide +kernel
theorem dX1_compare_52 : decode cX1_compare 52 = .ok (.iload_n 3, 1) := by decide +kernel
theorem dX1_compare_53 : decode cX1_compare 53 = .ok (.ireturn, 1) := by decide +kernel
theorem dX1_compare_54 : decode cX1_compare 54 = .ok (.iinc 2 (-1), 3) := by decide +kernel
theorem dX1_compare_57 : decode cX1_compare 57 = .ok (.goto (-27), 3) := by decide +kernel
theorem dX1_compare_60 : decode cX1_compare 60 = .ok (.iconst 0, 1) := by decide +kernel
theorem dX1_compare_61 : decode cX1_compare 61 = .ok (.ireturn, 1) := by decide +kernel
theorem dX1_add_0 : decode cX1_add 0 = .ok (.aload_n 0, 1) := by decide +kernel
theorem dX1_add_1 : decode cX1_add 1 = .ok (.getfield 13, 3) := by decide +kernel
theorem dX1_add_4 : decode cX1_add 4 = .ok (.aload_n 1, 1) := by decide +kernel
theorem dX1_add_5 : decode cX1_add 5 = .ok (.getfield 13, 3) := by decide +kernel
theorem dX1_add_8 : decode cX1_add 8 = .ok (.invokestatic 39, 3) := by decide +kernel
theorem dX1_add_11 : decode cX1_add 11 = .ok (.istore_n 2, 1) := by decide +kernel
theorem dX1_add_12 : decode cX1_add 12 = .ok (.lconst 0, 1) := by decide +kernel
theorem dX1_add_13 : decode cX1_add 13 = .ok (.lstore_n 3, 1) := by decide +kernel
theorem dX1_add_14 : decode cX1_add 14 = .ok (.iconst 0, 1) := by decide +kernel
theorem dX1_add_15 : decode cX1_add 15 = .ok (.istore 5, 2) := by decide +kernel
theorem dX1_add_17 : decode cX1_add 17 = .ok (.iload 5, 2) := by decide +kernel
theorem dX1_add_19 : decode cX1_add 19 = .ok (.iload_n 2, 1) := by decide +kernel
theorem dX1_add_20 : decode cX1_add 20 = .ok (.if_icmp .ge 57, 3) := by decide +kernel
theorem dX1_add_23 : decode cX1_add 23 = .ok (.iload 5, 2) := by decide +kernel
theorem dX1_add_25 : decode cX1_add 25 = .ok (.sipush 132, 3) := by decide +kernel
theorem dX1_add_28 : decode cX1_add 28 = .ok (.if_icmp .ge 49, 3) := by decide +kernel
theorem dX1_add_31 : decode cX1_add 31 = .ok (.lload_n 3, 1) := by decide +kernel
theorem dX1_add_32 : decode cX1_add 32 = .ok (.aload_n 0, 1) := by decide +kernel
theorem dX1_add_33 : decode cX1_add 33 = .ok (.iload 5, 2) := by decide +kernel
theorem dX1_add_35 : decode cX1_add 35 = .ok (.invokevirtual 20, 3) := by decide +kernel
theorem dX1_add_38 : decode cX1_add 38 = .ok (.i2l, 1) := by decide +kernel
theorem dX1_add_39 : decode cX1_add 39 = .ok (.ldc2_w 44, 3) := by decide +kernel
theorem dX1_add_42 : decode cX1_add 42 = .ok (.land, 1) := by decide +kernel
theorem dX1_add_43 : decode cX1_add 43 = .ok (.aload_n 1, 1) := by decide +kernel
theorem dX1_add_44 : decode cX1_add 44 = .ok (.iload 5, 2) := by decide +kernel
theorem dX1_add_46 : decode cX1_add 46 = .ok (.invokevirtual 20, 3) := by decide +kernel
theorem dX1_add_49 : decode cX1_add 49 = .ok (.i2l, 1) := by decide +kernel
theorem dX1_add_50 : decode cX1_add 50 = .ok (.ldc2_w 44, 3) := by decide +kernel
theorem dX1_add_53 : decode cX1_add 53 = .ok (.land, 1) := by decide +kernel
theorem dX1_add_54 : decode cX1_add 54 = .ok (.ladd, 1) := by decide +kernel
theorem dX1_add_55 : decode cX1_add 55 = .ok (.ladd, 1) := by decide +kernel
theorem dX1_add_56 : decode cX1_add 56 = .ok (.lstore_n 3, 1) := by decide +kernel
theorem dX1_add_57 : decode cX1_add 57 = .ok (.aload_n 0, 1) := by decide +kernel
theorem dX1_add_58 : decode cX1_add 58 = .ok (.getfield 9, 3) := by decide +kernel
theorem dX1_add_61 : decode cX1_add 61 = .ok (.iload 5, 2) := by decide +kernel
theorem dX1_add_63 : decode cX1_add 63 = .ok (.lload_n 3, 1) := by decide +kernel
theorem dX1_add_64 : decode cX1_add 64 = .ok (.l2i, 1) := by decide +kernel
theorem dX1_add_65 : decode cX1_add 65 = .ok (.iastore, 1) := by decide +kernel
theorem dX1_add_66 : decode cX1_add 66 = .ok (.lload_n 3, 1) := by decide +kernel
theorem dX1_add_67 : decode cX1_add 67 = .ok (.bipush 32, 2) := by decide +kernel
theorem dX1_add_69 : decode cX1_add 69 = .ok (.lushr, 1) := by decide +kernel
theorem dX1_add_70 : decode cX1_add 70 = .ok (.lstore_n 3, 1) := by decide +kernel
theorem dX1_add_71 : decode cX1_add 71 = .ok (.iinc 5 1, 3) := by decide +kernel
theorem dX1_add_74 : decode cX1_add 74 = .ok (.goto (-57), 3) := by decide +kernel
theorem dX1_add_77 : decode cX1_add 77 = .ok (.aload_n 0, 1) := by decide +kernel
theorem dX1_add_78 : decode cX1_add 78 = .ok (.iload_n 2, 1) := by decide +kernel
theorem dX1_add_79 : decode cX1_add 79 = .ok (.putfield 13, 3) := by decide +kernel
theorem dX1_add_82 : decode cX1_add 82 = .ok (.aload_n 0, 1) := by decide +kernel
theorem dX1_add_83 : decode cX1_add 83 = .ok (.lload_n 3, 1) := by decide +kernel
theorem dX1_add_84 : decode cX1_add 84 = .ok (.l2i, 1) := by decide +kernel
theorem dX1_add_85 : decode cX1_add 85 = .ok (.invokevirtual 46, 3) := by decide +kernel
theorem dX1_add_88 : decode cX1_add 88 = .ok (.return_, 1) := by decide +kernel
theorem dX1_subtract_0 : decode cX1_subtract 0 = .ok (.lconst 0, 1) := by decide +kernel
theorem dX1_subtract_1 : decode cX1_subtract 1 = .ok (.lstore_n 2, 1) := by decide +kernel
theorem dX1_subtract_2 : decode cX1_subtract 2 = .ok (.iconst 0, 1) := by decide +kernel
theorem dX1_subtract_3 : decode cX1_subtract 3 = .ok (.istore 4, 2) := by decide +kernel
theorem dX1_subtract_5 : decode cX1_subtract 5 = .ok (.iload 4, 2) := by decide +kernel
theorem dX1_subtract_7 : decode cX1_subtract 7 = .ok (.aload_n 0, 1) := by decide +kernel
theorem dX1_subtract_8 : decode cX1_subtract 8 = .ok (.getfield 13, 3) := by decide +kernel
theorem dX1_subtract_11 : decode cX1_subtract 11 = .ok (.if_icmp .ge 58, 3) := by decide +kernel
theorem dX1_subtract_14 : decode cX1_subtract 14 = .ok (.iload 4, 2) := by decide +kernel
theorem dX1_subtract_16 : decode cX1_subtract 16 = .ok (.sipush 132, 3) := by decide +kernel
theorem dX1_subtract_19 : decode cX1_subtract 19 = .ok (.if_icmp .ge 50, 3) := by decide +kernel
theorem dX1_subtract_22 : decode cX1_subtract 22 = .ok (.lload_n 2, 1) := by decide +kernel
theorem dX1_subtract_23 : decode cX1_subtract 23 = .ok (.aload_n 0, 1) := by decide +kernel
theorem dX1_subtract_24 : decode cX1_subtract 24 = .ok (.getfield 9, 3) := by decide +kernel
theorem dX1_subtract_27 : decode cX1_subtract 27 = .ok (.iload 4, 2) := by decide +kernel
theorem dX1_subtract_29 : decode cX1_subtract 29 = .ok (.iaload, 1) := by decide +kernel
theorem dX1_subtract_30 : decode cX1_subtract 30 = .ok (.i2l, 1) := by decide +kernel
theorem dX1_subtract_31 : decode cX1_subtract 31 = .ok (.ldc2_w 44, 3) := by decide +kernel
theorem dX1_subtract_34 : decode cX1_subtract 34 = .ok (.land, 1) := by decide +kernel
theorem dX1_subtract_35 : decode cX1_subtract 35 = .ok (.aload_n 1, 1) := by decide +kernel
theorem dX1_subtract_36 : decode cX1_subtract 36 = .ok (.iload 4, 2) := by decide +kernel
theorem dX1_subtract_38 : decode cX1_subtract 38 = .ok (.invokevirtual 20, 3) := by decide +kernel
theorem dX1_subtract_41 : decode cX1_subtract 41 = .ok (.i2l, 1) := by decide +kernel
theorem dX1_subtract_42 : decode cX1_subtract 42 = .ok (.ldc2_w 44, 3) := by decide +kernel
theorem dX1_subtract_45 : decode cX1_subtract 45 = .ok (.land, 1) := by decide +kernel
theorem dX1_subtract_46 : decode cX1_subtract 46 = .ok (.lsub, 1) := by decide +kernel
theorem dX1_subtract_47 : decode cX1_subtract 47 = .ok (.ladd, 1) := by decide +kernel
theorem dX1_subtract_48 : decode cX1_subtract 48 = .ok (.lstore_n 2, 1) := by decide +kernel
theorem dX1_subtract_49 : decode cX1_subtract 49 = .ok (.aload_n 0, 1) := by decide +kernel
theorem dX1_subtract_50 : decode cX1_subtract 50 = .ok (.getfield 9, 3) := by decide +kernel
theorem dX1_subtract_53 : decode cX1_subtract 53 = .ok (.iload 4, 2) := by decide +kernel
theorem dX1_subtract_55 : decode cX1_subtract 55 = .ok (.lload_n 2, 1) := by decide +kernel
theorem dX1_subtract_56 : decode cX1_subtract 56 = .ok (.l2i, 1) := by decide +kernel
theorem dX1_subtract_57 : decode cX1_subtract 57 = .ok (.iastore, 1) := by decide +kernel
theorem dX1_subtract_58 : decode cX1_subtract 58 = .ok (.lload_n 2, 1) := by decide +kernel
theorem dX1_subtract_59 : decode cX1_subtract 59 = .ok (.bipush 32, 2) := by decide +kernel
theorem dX1_subtract_61 : decode cX1_subtract 61 = .ok (.lshr, 1) := by decide +kernel
theorem dX1_subtract_62 : decode cX1_subtract 62 = .ok (.lstore_n 2, 1) := by decide +kernel
theorem dX1_subtract_63 : decode cX1_subtract 63 = .ok (.iinc 4 1, 3) := by decide +kernel
theorem dX1_subtract_66 : decode cX1_subtract 66 = .ok (.goto (-61), 3) := by decide +kernel
theorem dX1_subtract_69 : decode cX1_subtract 69 = .ok (.aload_n 0, 1) := by decide +kernel
theorem dX1_subtract_70 : decode cX1_subtract 70 = .ok (.invokevirtual 17, 3) := by decide +kernel
theorem dX1_subtract_73 : decode cX1_subtract 73 = .ok (.return_, 1) := by decide +kernel
theorem dX1_multiplyAdd_0 : decode cX1_multiplyAdd 0 = .ok (.iload_n 2, 1) := by decide +kernel
theorem dX1_multiplyAdd_1 : decode cX1_multiplyAdd 1 = .ok (.i2l, 1) := by decide +kernel
theorem dX1_multiplyAdd_2 : decode cX1_multiplyAdd 2 = .ok (.lstore_n 3, 1) := by decide +kernel
theorem dX1_multiplyAdd_3 : decode cX1_multiplyAdd 3 = .ok (.iconst 0, 1) := by decide +kernel
theorem dX1_multiplyAdd_4 : decode cX1_multiplyAdd 4 = .ok (.istore 5, 2) := by decide +kernel
theorem dX1_multiplyAdd_6 : decode cX1_multiplyAdd 6 = .ok (.iload 5, 2) := by decide +kernel
theorem dX1_multiplyAdd_8 : decode cX1_multiplyAdd 8 = .ok (.aload_n 0, 1) := by decide +kernel
theorem dX1_multiplyAdd_9 : decode cX1_multiplyAdd 9 = .ok (.getfield 13, 3) := by decide +kernel
theorem dX1_multiplyAdd_12 : decode cX1_multiplyAdd 12 = .ok (.if_icmp .ge 49, 3) := by decide +kernel
theorem dX1_multiplyAdd_15 : decode cX1_multiplyAdd 15 = .ok (.iload 5, 2) := by decide +kernel
theorem dX1_multiplyAdd_17 : decode cX1_multiplyAdd 17 = .ok (.sipush 132, 3) := by decide +kernel
theorem dX1_multiplyAdd_20 : decode cX1_multiplyAdd 20 = .ok (.if_icmp .ge 41, 3) := by decide +kernel
theorem dX1_multiplyAdd_23 : decode cX1_multiplyAdd 23 = .ok (.lload_n 3, 1) := by decide +kernel
theorem dX1_multiplyAdd_24 : decode cX1_multiplyAdd 24 = .ok (.aload_n 0, 1) := by decide +kernel
theorem dX1_multiplyAdd_25 : decode cX1_multiplyAdd 25 = .ok (.getfield 9, 3) := by decide +kernel
theorem dX1_multiplyAdd_28 : decode cX1_multiplyAdd 28 = .ok (.iload 5, 2) := by decide +kernel
theorem dX1_multiplyAdd_30 : decode cX1_multiplyAdd 30 = .ok (.iaload, 1) := by decide +kernel
theorem dX1_multiplyAdd_31 : decode cX1_multiplyAdd 31 = .ok (.i2l, 1) := by decide +kernel
theorem dX1_multiplyAdd_32 : decode cX1_multiplyAdd 32 = .ok (.ldc2_w 44, 3) := by decide +kernel
theorem dX1_multiplyAdd_35 : decode cX1_multiplyAdd 35 = .ok (.land, 1) := by decide +kernel
theorem dX1_multiplyAdd_36 : decode cX1_multiplyAdd 36 = .ok (.iload_n 1, 1) := by decide +kernel
theorem dX1_multiplyAdd_37 : decode cX1_multiplyAdd 37 = .ok (.i2l, 1) := by decide +kernel
theorem dX1_multiplyAdd_38 : decode cX1_multiplyAdd 38 = .ok (.lmul, 1) := by decide +kernel
theorem dX1_multiplyAdd_39 : decode cX1_multiplyAdd 39 = .ok (.ladd, 1) := by decide +kernel
theorem dX1_multiplyAdd_40 : decode cX1_multiplyAdd 40 = .ok (.lstore_n 3, 1) := by decide +kernel
theorem dX1_multiplyAdd_41 : decode cX1_multiplyAdd 41 = .ok (.aload_n 0, 1) := by decide +kernel
theorem dX1_multiplyAdd_42 : decode cX1_multiplyAdd 42 = .ok (.getfield 9, 3) := by decide +kernel
theorem dX1_multiplyAdd_45 : decode cX1_multiplyAdd 45 = .ok (.iload 5, 2) := by decide +kernel
theorem dX1_multiplyAdd_47 : decode cX1_multiplyAdd 47 = .ok (.lload_n 3, 1) := by decide +kernel
theorem dX1_multiplyAdd_48 : decode cX1_multiplyAdd 48 = .ok (.l2i, 1) := by decide +kernel
theorem dX1_multiplyAdd_49 : decode cX1_multiplyAdd 49 = .ok (.iastore, 1) := by decide +kernel
theorem dX1_multiplyAdd_50 : decode cX1_multiplyAdd 50 = .ok (.lload_n 3, 1) := by decide +kernel
theorem dX1_multiplyAdd_51 : decode cX1_multiplyAdd 51 = .ok (.bipush 32, 2) := by decide +kernel
theorem dX1_multiplyAdd_53 : decode cX1_multiplyAdd 53 = .ok (.lushr, 1) := by decide +kernel
theorem dX1_multiplyAdd_54 : decode cX1_multiplyAdd 54 = .ok (.lstore_n 3, 1) := by decide +kernel
theorem dX1_multiplyAdd_55 : decode cX1_multiplyAdd 55 = .ok (.iinc 5 1, 3) := by decide +kernel
theorem dX1_multiplyAdd_58 : decode cX1_multiplyAdd 58 = .ok (.goto (-52), 3) := by decide +kernel
theorem dX1_multiplyAdd_61 : decode cX1_multiplyAdd 61 = .ok (.aload_n 0, 1) := by decide +kernel
theorem dX1_multiplyAdd_62 : decode cX1_multiplyAdd 62 = .ok (.lload_n 3, 1) := by decide +kernel
theorem dX1_multiplyAdd_63 : decode cX1_multiplyAdd 63 = .ok (.l2i, 1) := by decide +kernel
theorem dX1_multiplyAdd_64 : decode cX1_multiplyAdd 64 = .ok (.invokevirtual 46, 3) := by decide +kernel
theorem dX1_multiplyAdd_67 : decode cX1_multiplyAdd 67 = .ok (.return_, 1) := by decide +kernel
theorem dX1_multiplyByFives_0 : decode cX1_multiplyByFives 0 = .ok (.iload_n 1, 1) := by decide +kernel
theorem dX1_multiplyByFives_1 : decode cX1_multiplyByFives 1 = .ok (.istore_n 2, 1) := by decide +kernel
theorem dX1_multiplyByFives_2 : decode cX1_multiplyByFives 2 = .ok (.iload_n 2, 1) := by decide +kernel
theorem dX1_multiplyByFives_3 : decode cX1_multiplyByFives 3 = .ok (.ifCond .le 18, 3) := by decide +kernel
theorem dX1_multiplyByFives_6 : decode cX1_multiplyByFives 6 = .ok (.aload_n 0, 1) := by decide +kernel
theorem dX1_multiplyByFives_7 : decode cX1_multiplyByFives 7 = .ok (.iload_n 2, 1) := by decide +kernel
theorem dX1_multiplyByFives_8 : decode cX1_multiplyByFives 8 = .ok (.invokestatic 50, 3) := by decide +kernel
theorem dX1_multiplyByFives_11 : decode cX1_multiplyByFives 11 = .ok (.iconst 0, 1) := by decide +kernel
theorem dX1_multiplyByFives_12 : decode cX1_multiplyByFives 12 = .ok (.invokevirtual 53, 3) := by decide +kernel
theorem dX1_multiplyByFives_15 : decode cX1_multiplyByFives 15 = .ok (.iinc 2 (-13), 3) := by decide +kernel
theorem dX1_multiplyByFives_18 : decode cX1_multiplyByFives 18 = .ok (.goto (-16), 3) := by decide +kernel
theorem dX1_multiplyByFives_21 : decode cX1_multiplyByFives 21 = .ok (.return_, 1) := by decide +kernel
theorem dX1_takeFives_0 : decode cX1_takeFives 0 = .ok (.bipush 13, 2) := by decide +kernel
theorem dX1_takeFives_2 : decode cX1_takeFives 2 = .ok (.aload_n 0, 1) := by decide +kernel
theorem dX1_takeFives_3 : decode cX1_takeFives 3 = .ok (.bipush 13, 2) := by decide +kernel
theorem dX1_takeFives_5 : decode cX1_takeFives 5 = .ok (.invokestatic 50, 3) := by decide +kernel
theorem dX1_takeFives_8 : decode cX1_takeFives 8 = .ok (.iload_n 1, 1) := by decide +kernel
theorem dX1_takeFives_9 : decode cX1_takeFives 9 = .ok (.bipush 13, 2) := by decide +kernel
theorem dX1_takeFives_11 : decode cX1_takeFives 11 = .ok (.idiv, 1) := by decide +kernel
theorem dX1_takeFives_12 : decode cX1_takeFives 12 = .ok (.invokevirtual 57, 3) := by decide +kernel
theorem dX1_takeFives_15 : decode cX1_takeFives 15 = .ok (.imul, 1) := by decide +kernel
theorem dX1_takeFives_16 : decode cX1_takeFives 16 = .ok (.istore_n 2, 1) := by decide +kernel
theorem dX1_takeFives_17 : decode cX1_takeFives 17 = .ok (.iload_n 2, 1) := by decide +kernel
theorem dX1_takeFives_18 : decode cX1_takeFives 18 = .ok (.aload_n 0, 1) := by decide +kernel
theorem dX1_takeFives_19 : decode cX1_takeFives 19 = .ok (.iconst 5, 1) := by decide +kernel
theorem dX1_takeFives_20 : decode cX1_takeFives 20 = .ok (.iload_n 1, 1) := by decide +kernel
theorem dX1_takeFives_21 : decode cX1_takeFives 21 = .ok (.iload_n 2, 1) := by decide +kernel
theorem dX1_takeFives_22 : decode cX1_takeFives 22 = .ok (.isub, 1) := by decide +kernel
theorem dX1_takeFives_23 : decode cX1_takeFives 23 = .ok (.invokevirtual 57, 3) := by decide +kernel
theorem dX1_takeFives_26 : decode cX1_takeFives 26 = .ok (.iadd, 1) := by decide +kernel
theorem dX1_takeFives_27 : decode cX1_takeFives 27 = .ok (.ireturn, 1) := by decide +kernel
theorem dX1_takeFactor_0 : decode cX1_takeFactor 0 = .ok (.iconst 0, 1) := by decide +kernel
theorem dX1_takeFactor_1 : decode cX1_takeFactor 1 = .ok (.istore_n 3, 1) := by decide +kernel
theorem dX1_takeFactor_2 : decode cX1_takeFactor 2 = .ok (.iload_n 3, 1) := by decide +kernel
theorem dX1_takeFactor_3 : decode cX1_takeFactor 3 = .ok (.iload_n 2, 1) := by decide +kernel
theorem dX1_takeFactor_4 : decode cX1_takeFactor 4 = .ok (.if_icmp .ge 30, 3) := by decide +kernel
theorem dX1_takeFactor_7 : decode cX1_takeFactor 7 = .ok (.aload_n 0, 1) := by decide +kernel
theorem dX1_takeFactor_8 : decode cX1_takeFactor 8 = .ok (.getfield 13, 3) := by decide +kernel
theorem dX1_takeFactor_11 : decode cX1_takeFactor 11 = .ok (.ifCond .le 23, 3) := by decide +kernel
theorem dX1_takeFactor_14 : decode cX1_takeFactor 14 = .ok (.aload_n 0, 1) := by decide +kernel
theorem dX1_takeFactor_15 : decode cX1_takeFactor 15 = .ok (.iload_n 1, 1) := by decide +kernel
theorem dX1_takeFactor_16 : decode cX1_takeFactor 16 = .ok (.invokevirtual 60, 3) := by decide +kernel
theorem dX1_takeFactor_19 : decode cX1_takeFactor 19 = .ok (.ifCond .ne 15, 3) := by decide +kernel
theorem dX1_takeFactor_22 : decode cX1_takeFactor 22 = .ok (.aload_n 0, 1) := by decide +kernel
theorem dX1_takeFactor_23 : decode cX1_takeFactor 23 = .ok (.iload_n 1, 1) := by decide +kernel
theorem dX1_takeFactor_24 : decode cX1_takeFactor 24 = .ok (.invokevirtual 63, 3) := by decide +kernel
theorem dX1_takeFactor_27 : decode cX1_takeFactor 27 = .ok (.pop, 1) := by decide +kernel
theorem dX1_takeFactor_28 : decode cX1_takeFactor 28 = .ok (.iinc 3 1, 3) := by decide +kernel
theorem dX1_takeFactor_31 : decode cX1_takeFactor 31 = .ok (.goto (-29), 3) := by decide +kernel
theorem dX1_takeFactor_34 : decode cX1_takeFactor 34 = .ok (.iload_n 3, 1) := by decide +kernel
theorem dX1_takeFactor_35 : decode cX1_takeFactor 35 = .ok (.ireturn, 1) := by decide +kernel
theorem dX1_powerOfFive_0 : decode cX1_powerOfFive 0 = .ok (.iload_n 0, 1) := by decide +kernel
theorem dX1_powerOfFive_1 : decode cX1_powerOfFive 1 = .ok (.bipush 13, 2) := by decide +kernel
theorem dX1_powerOfFive_3 : decode cX1_powerOfFive 3 = .ok (.invokestatic 66, 3) := by decide +kernel
theorem dX1_powerOfFive_6 : decode cX1_powerOfFive 6 = .ok (.istore_n 1, 1) := by decide +kernel
theorem dX1_powerOfFive_7 : decode cX1_powerOfFive 7 = .ok (.iload_n 1, 1) := by decide +kernel
theorem dX1_powerOfFive_8 : decode cX1_powerOfFive 8 = .ok (.ifCond .lt 19, 3) := by decide +kernel
theorem dX1_powerOfFive_11 : decode cX1_powerOfFive 11 = .ok (.iload_n 1, 1) := by decide +kernel
theorem dX1_powerOfFive_12 : decode cX1_powerOfFive 12 = .ok (.getstatic 69, 3) := by decide +kernel
theorem dX1_powerOfFive_15 : decode cX1_powerOfFive 15 = .ok (.arraylength, 1) := by decide +kernel
theorem dX1_powerOfFive_16 : decode cX1_powerOfFive 16 = .ok (.if_icmp .ge 11, 3) := by decide +kernel
theorem dX1_powerOfFive_19 : decode cX1_powerOfFive 19 = .ok (.getstatic 69, 3) := by decide +kernel
theorem dX1_powerOfFive_22 : decode cX1_powerOfFive 22 = .ok (.iload_n 1, 1) := by decide +kernel
theorem dX1_powerOfFive_23 : decode cX1_powerOfFive 23 = .ok (.iaload, 1) := by decide +kernel
theorem dX1_powerOfFive_24 : decode cX1_powerOfFive 24 = .ok (.goto 4, 3) := by decide +kernel
theorem dX1_powerOfFive_27 : decode cX1_powerOfFive 27 = .ok (.iconst 1, 1) := by decide +kernel
theorem dX1_powerOfFive_28 : decode cX1_powerOfFive 28 = .ok (.ireturn, 1) := by decide +kernel
theorem dX1_remainder_0 : decode cX1_remainder 0 = .ok (.iload_n 1, 1) := by decide +kernel
theorem dX1_remainder_1 : decode cX1_remainder 1 = .ok (.ifCond .gt 5, 3) := by decide +kernel
theorem dX1_remainder_4 : decode cX1_remainder 4 = .ok (.iconst 0, 1) := by decide +kernel
theorem dX1_remainder_5 : decode cX1_remainder 5 = .ok (.ireturn, 1) := by decide +kernel
theorem dX1_remainder_6 : decode cX1_remainder 6 = .ok (.lconst 0, 1) := by decide +kernel
theorem dX1_remainder_7 : decode cX1_remainder 7 = .ok (.lstore_n 2, 1) := by decide +kernel
theorem dX1_remainder_8 : decode cX1_remainder 8 = .ok (.aload_n 0, 1) := by decide +kernel
theorem dX1_remainder_9 : decode cX1_remainder 9 = .ok (.getfield 13, 3) := by decide +kernel
theorem dX1_remainder_12 : decode cX1_remainder 12 = .ok (.iconst 1, 1) := by decide +kernel
theorem dX1_remainder_13 : decode cX1_remainder 13 = .ok (.isub, 1) := by decide +kernel
theorem dX1_remainder_14 : decode cX1_remainder 14 = .ok (.istore 4, 2) := by decide +kernel
theorem dX1_remainder_16 : decode cX1_remainder 16 = .ok (.iload 4, 2) := by decide +kernel
theorem dX1_remainder_18 : decode cX1_remainder 18 = .ok (.ifCond .lt 29, 3) := by decide +kernel
theorem dX1_remainder_21 : decode cX1_remainder 21 = .ok (.lload_n 2, 1) := by decide +kernel
theorem dX1_remainder_22 : decode cX1_remainder 22 = .ok (.bipush 32, 2) := by decide +kernel
theorem dX1_remainder_24 : decode cX1_remainder 24 = .ok (.lshl, 1) := by decide +kernel
theorem dX1_remainder_25 : decode cX1_remainder 25 = .ok (.aload_n 0, 1) := by decide +kernel
theorem dX1_remainder_26 : decode cX1_remainder 26 = .ok (.iload 4, 2) := by decide +kernel
theorem dX1_remainder_28 : decode cX1_remainder 28 = .ok (.invokevirtual 20, 3) := by decide +kernel
theorem dX1_remainder_31 : decode cX1_remainder 31 = .ok (.i2l, 1) := by decide +kernel
theorem dX1_remainder_32 : decode cX1_remainder 32 = .ok (.ldc2_w 44, 3) := by decide +kernel
theorem dX1_remainder_35 : decode cX1_remainder 35 = .ok (.land, 1) := by decide +kernel
theorem dX1_remainder_36 : decode cX1_remainder 36 = .ok (.lor, 1) := by decide +kernel
theorem dX1_remainder_37 : decode cX1_remainder 37 = .ok (.iload_n 1, 1) := by decide +kernel
theorem dX1_remainder_38 : decode cX1_remainder 38 = .ok (.i2l, 1) := by decide +kernel
theorem dX1_remainder_39 : decode cX1_remainder 39 = .ok (.lrem, 1) := by decide +kernel
theorem dX1_remainder_40 : decode cX1_remainder 40 = .ok (.lstore_n 2, 1) := by decide +kernel
theorem dX1_remainder_41 : decode cX1_remainder 41 = .ok (.iinc 4 (-1), 3) := by decide +kernel
theorem dX1_remainder_44 : decode cX1_remainder 44 = .ok (.goto (-28), 3) := by decide +kernel
theorem dX1_remainder_47 : decode cX1_remainder 47 = .ok (.lload_n 2, 1) := by decide +kernel
theorem dX1_remainder_48 : decode cX1_remainder 48 = .ok (.l2i, 1) := by decide +kernel
theorem dX1_remainder_49 : decode cX1_remainder 49 = .ok (.ireturn, 1) := by decide +kernel
theorem dX1_divideBySmall_0 : decode cX1_divideBySmall 0 = .ok (.iload_n 1, 1) := by decide +kernel
theorem dX1_divideBySmall_1 : decode cX1_divideBySmall 1 = .ok (.ifCond .gt 5, 3) := by decide +kernel
theorem dX1_divideBySmall_4 : decode cX1_divideBySmall 4 = .ok (.iconst 0, 1) := by decide +kernel
theorem dX1_divideBySmall_5 : decode cX1_divideBySmall 5 = .ok (.ireturn, 1) := by decide +kernel
theorem dX1_divideBySmall_6 : decode cX1_divideBySmall 6 = .ok (.lconst 0, 1) := by decide +kernel
theorem dX1_divideBySmall_7 : decode cX1_divideBySmall 7 = .ok (.lstore_n 2, 1) := by decide +kernel
theorem dX1_divideBySmall_8 : decode cX1_divideBySmall 8 = .ok (.aload_n 0, 1) := by decide +kernel
theorem dX1_divideBySmall_9 : decode cX1_divideBySmall 9 = .ok (.getfield 13, 3) := by decide +kernel
theorem dX1_divideBySmall_12 : decode cX1_divideBySmall 12 = .ok (.sipush 132, 3) := by decide +kernel
theorem dX1_divideBySmall_15 : decode cX1_divideBySmall 15 = .ok (.invokestatic 66, 3) := by decide +kernel
theorem dX1_divideBySmall_18 : decode cX1_divideBySmall 18 = .ok (.iconst 1, 1) := by decide +kernel
theorem dX1_divideBySmall_19 : decode cX1_divideBySmall 19 = .ok (.isub, 1) := by decide +kernel
theorem dX1_divideBySmall_20 : decode cX1_divideBySmall 20 = .ok (.istore 4, 2) := by decide +kernel
theorem dX1_divideBySmall_22 : decode cX1_divideBySmall 22 = .ok (.iload 4, 2) := by decide +kernel
theorem dX1_divideBySmall_24 : decode cX1_divideBySmall 24 = .ok (.ifCond .lt 47, 3) := by decide +kernel
theorem dX1_divideBySmall_27 : decode cX1_divideBySmall 27 = .ok (.lload_n 2, 1) := by decide +kernel
theorem dX1_divideBySmall_28 : decode cX1_divideBySmall 28 = .ok (.bipush 32, 2) := by decide +kernel
theorem dX1_divideBySmall_30 : decode cX1_divideBySmall 30 = .ok (.lshl, 1) := by decide +kernel
theorem dX1_divideBySmall_31 : decode cX1_divideBySmall 31 = .ok (.aload_n 0, 1) := by decide +kernel
theorem dX1_divideBySmall_32 : decode cX1_divideBySmall 32 = .ok (.getfield 9, 3) := by decide +kernel
theorem dX1_divideBySmall_35 : decode cX1_divideBySmall 35 = .ok (.iload 4, 2) := by decide +kernel
theorem dX1_divideBySmall_37 : decode cX1_divideBySmall 37 = .ok (.iaload, 1) := by decide +kernel
theorem dX1_divideBySmall_38 : decode cX1_divideBySmall 38 = .ok (.i2l, 1) := by decide +kernel
theorem dX1_divideBySmall_39 : decode cX1_divideBySmall 39 = .ok (.ldc2_w 44, 3) := by decide +kernel
theorem dX1_divideBySmall_42 : decode cX1_divideBySmall 42 = .ok (.land, 1) := by decide +kernel
theorem dX1_divideBySmall_43 : decode cX1_divideBySmall 43 = .ok (.lor, 1) := by decide +kernel
theorem dX1_divideBySmall_44 : decode cX1_divideBySmall 44 = .ok (.lstore 5, 2) := by decide +kernel
theorem dX1_divideBySmall_46 : decode cX1_divideBySmall 46 = .ok (.aload_n 0, 1) := by decide +kernel
theorem dX1_divideBySmall_47 : decode cX1_divideBySmall 47 = .ok (.getfield 9, 3) := by decide +kernel
theorem dX1_divideBySmall_50 : decode cX1_divideBySmall 50 = .ok (.iload 4, 2) := by decide +kernel
theorem dX1_divideBySmall_52 : decode cX1_divideBySmall 52 = .ok (.lload 5, 2) := by decide +kernel
theorem dX1_divideBySmall_54 : decode cX1_divideBySmall 54 = .ok (.iload_n 1, 1) := by decide +kernel
theorem dX1_divideBySmall_55 : decode cX1_divideBySmall 55 = .ok (.i2l, 1) := by decide +kernel
theorem dX1_divideBySmall_56 : decode cX1_divideBySmall 56 = .ok (.ldiv, 1) := by decide +kernel
theorem dX1_divideBySmall_57 : decode cX1_divideBySmall 57 = .ok (.l2i, 1) := by decide +kernel
theorem dX1_divideBySmall_58 : decode cX1_divideBySmall 58 = .ok (.iastore, 1) := by decide +kernel
theorem dX1_divideBySmall_59 : decode cX1_divideBySmall 59 = .ok (.lload 5, 2) := by decide +kernel
theorem dX1_divideBySmall_61 : decode cX1_divideBySmall 61 = .ok (.iload_n 1, 1) := by decide +kernel
theorem dX1_divideBySmall_62 : decode cX1_divideBySmall 62 = .ok (.i2l, 1) := by decide +kernel
theorem dX1_divideBySmall_63 : decode cX1_divideBySmall 63 = .ok (.lrem, 1) := by decide +kernel
theorem dX1_divideBySmall_64 : decode cX1_divideBySmall 64 = .ok (.lstore_n 2, 1) := by decide +kernel
theorem dX1_divideBySmall_65 : decode cX1_divideBySmall 65 = .ok (.iinc 4 (-1), 3) := by decide +kernel
theorem dX1_divideBySmall_68 : decode cX1_divideBySmall 68 = .ok (.goto (-46), 3) := by decide +kernel
theorem dX1_divideBySmall_71 : decode cX1_divideBySmall 71 = .ok (.aload_n 0, 1) := by decide +kernel
theorem dX1_divideBySmall_72 : decode cX1_divideBySmall 72 = .ok (.invokevirtual 17, 3) := by decide +kernel
theorem dX1_divideBySmall_75 : decode cX1_divideBySmall 75 = .ok (.lload_n 2, 1) := by decide +kernel
theorem dX1_divideBySmall_76 : decode cX1_divideBySmall 76 = .ok (.l2i, 1) := by decide +kernel
theorem dX1_divideBySmall_77 : decode cX1_divideBySmall 77 = .ok (.ireturn, 1) := by decide +kernel
theorem dX1_divideByOddFactor_0 : decode cX1_divideByOddFactor 0 = .ok (.aload_n 1, 1) := by decide +kernel
theorem dX1_divideByOddFactor_1 : decode cX1_divideByOddFactor 1 = .ok (.iconst 0, 1) := by decide +kernel
theorem dX1_divideByOddFactor_2 : decode cX1_divideByOddFactor 2 = .ok (.invokevirtual 20, 3) := by decide +kernel
theorem dX1_divideByOddFactor_5 : decode cX1_divideByOddFactor 5 = .ok (.invokestatic 72, 3) := by decide +kernel
theorem dX1_divideByOddFactor_8 : decode cX1_divideByOddFactor 8 = .ok (.istore_n 2, 1) := by decide +kernel
theorem dX1_divideByOddFactor_9 : decode cX1_divideByOddFactor 9 = .ok (.iconst 0, 1) := by decide +kernel
theorem dX1_divideByOddFactor_10 : decode cX1_divideByOddFactor 10 = .ok (.istore_n 3, 1) := by decide +kernel
theorem dX1_divideByOddFactor_11 : decode cX1_divideByOddFactor 11 = .ok (.iload_n 3, 1) := by decide +kernel
theorem dX1_divideByOddFactor_12 : decode cX1_divideByOddFactor 12 = .ok (.aload_n 0, 1) := by decide +kernel
theorem dX1_divideByOddFactor_13 : decode cX1_divideByOddFactor 13 = .ok (.getfield 13, 3) := by decide +kernel
theorem dX1_divideByOddFactor_16 : decode cX1_divideByOddFactor 16 = .ok (.if_icmp .ge 47, 3) := by decide +kernel
theorem dX1_divideByOddFactor_19 : decode cX1_divideByOddFactor 19 = .ok (.iload_n 3, 1) := by decide +kernel
theorem dX1_divideByOddFactor_20 : decode cX1_divideByOddFactor 20 = .ok (.sipush 132, 3) := by decide +kernel
theorem dX1_divideByOddFactor_23 : decode cX1_divideByOddFactor 23 = .ok (.if_icmp .ge 40, 3) := by decide +kernel
theorem dX1_divideByOddFactor_26 : decode cX1_divideByOddFactor 26 = .ok (.aload_n 0, 1) := by decide +kernel
theorem dX1_divideByOddFactor_27 : decode cX1_divideByOddFactor 27 = .ok (.getfield 9, 3) := by decide +kernel
theorem dX1_divideByOddFactor_30 : decode cX1_divideByOddFactor 30 = .ok (.iload_n 3, 1) := by decide +kernel
theorem dX1_divideByOddFactor_31 : decode cX1_divideByOddFactor 31 = .ok (.iaload, 1) := by decide +kernel
theorem dX1_divideByOddFactor_32 : decode cX1_divideByOddFactor 32 = .ok (.iload_n 2, 1) := by decide +kernel
theorem dX1_divideByOddFactor_33 : decode cX1_divideByOddFactor 33 = .ok (.imul, 1) := by decide +kernel
theorem dX1_divideByOddFactor_34 : decode cX1_divideByOddFactor 34 = .ok (.istore 4, 2) := by decide +kernel
theorem dX1_divideByOddFactor_36 : decode cX1_divideByOddFactor 36 = .ok (.iload 4, 2) := by decide +kernel
theorem dX1_divideByOddFactor_38 : decode cX1_divideByOddFactor 38 = .ok (.ifCond .eq 11, 3) := by decide +kernel
theorem dX1_divideByOddFactor_41 : decode cX1_divideByOddFactor 41 = .ok (.aload_n 0, 1) := by decide +kernel
theorem dX1_divideByOddFactor_42 : decode cX1_divideByOddFactor 42 = .ok (.iload 4, 2) := by decide +kernel
theorem dX1_divideByOddFactor_44 : decode cX1_divideByOddFactor 44 = .ok (.aload_n 1, 1) := by decide +kernel
theorem dX1_divideByOddFactor_45 : decode cX1_divideByOddFactor 45 = .ok (.iload_n 3, 1) := by decide +kernel
theorem dX1_divideByOddFactor_46 : decode cX1_divideByOddFactor 46 = .ok (.invokevirtual 75, 3) := by decide +kernel
theorem dX1_divideByOddFactor_49 : decode cX1_divideByOddFactor 49 = .ok (.aload_n 0, 1) := by decide +kernel
theorem dX1_divideByOddFactor_50 : decode cX1_divideByOddFactor 50 = .ok (.getfield 9, 3) := by decide +kernel
theorem dX1_divideByOddFactor_53 : decode cX1_divideByOddFactor 53 = .ok (.iload_n 3, 1) := by decide +kernel
theorem dX1_divideByOddFactor_54 : decode cX1_divideByOddFactor 54 = .ok (.iload 4, 2) := by decide +kernel
theorem dX1_divideByOddFactor_56 : decode cX1_divideByOddFactor 56 = .ok (.iastore, 1) := by decide +kernel
theorem dX1_divideByOddFactor_57 : decode cX1_divideByOddFactor 57 = .ok (.iinc 3 1, 3) := by decide +kernel
theorem dX1_divideByOddFactor_60 : decode cX1_divideByOddFactor 60 = .ok (.goto (-49), 3) := by decide +kernel
theorem dX1_divideByOddFactor_63 : decode cX1_divideByOddFactor 63 = .ok (.aload_n 0, 1) := by decide +kernel
theorem dX1_divideByOddFactor_64 : decode cX1_divideByOddFactor 64 = .ok (.invokevirtual 17, 3) := by decide +kernel
theorem dX1_divideByOddFactor_67 : decode cX1_divideByOddFactor 67 = .ok (.return_, 1) := by decide +kernel
theorem dX1_subtractProduct_0 : decode cX1_subtractProduct 0 = .ok (.lconst 0, 1) := by decide +kernel
theorem dX1_subtractProduct_1 : decode cX1_subtractProduct 1 = .ok (.lstore 4, 2) := by decide +kernel
theorem dX1_subtractProduct_3 : decode cX1_subtractProduct 3 = .ok (.iload_n 3, 1) := by decide +kernel
theorem dX1_subtractProduct_4 : decode cX1_subtractProduct 4 = .ok (.iconst 0, 1) := by decide +kernel
theorem dX1_subtractProduct_5 : decode cX1_subtractProduct 5 = .ok (.invokestatic 39, 3) := by decide +kernel
theorem dX1_subtractProduct_8 : decode cX1_subtractProduct 8 = .ok (.istore 6, 2) := by decide +kernel
theorem dX1_subtractProduct_10 : decode cX1_subtractProduct 10 = .ok (.iload 6, 2) := by decide +kernel
theorem dX1_subtractProduct_12 : decode cX1_subtractProduct 12 = .ok (.aload_n 0, 1) := by decide +kernel
theorem dX1_subtractProduct_13 : decode cX1_subtractProduct 13 = .ok (.getfield 13, 3) := by decide +kernel
theorem dX1_subtractProduct_16 : decode cX1_subtractProduct 16 = .ok (.if_icmp .ge 87, 3) := by decide +kernel
theorem dX1_subtractProduct_19 : decode cX1_subtractProduct 19 = .ok (.iload 6, 2) := by decide +kernel
theorem dX1_subtractProduct_21 : decode cX1_subtractProduct 21 = .ok (.sipush 132, 3) := by decide +kernel
theorem dX1_subtractProduct_24 : decode cX1_subtractProduct 24 = .ok (.if_icmp .ge 79, 3) := by decide +kernel
theorem dX1_subtractProduct_27 : decode cX1_subtractProduct 27 = .ok (.lload 4, 2) := by decide +kernel
theorem dX1_subtractProduct_29 : decode cX1_subtractProduct 29 = .ok (.iload_n 1, 1) := by decide +kernel
theorem dX1_subtractProduct_30 : decode cX1_subtractProduct 30 = .ok (.i2l, 1) := by decide +kernel
theorem dX1_subtractProduct_31 : decode cX1_subtractProduct 31 = .ok (.ldc2_w 44, 3) := by decide +kernel
theorem dX1_subtractProduct_34 : decode cX1_subtractProduct 34 = .ok (.land, 1) := by decide +kernel
theorem dX1_subtractProduct_35 : decode cX1_subtractProduct 35 = .ok (.aload_n 2, 1) := by decide +kernel
theorem dX1_subtractProduct_36 : decode cX1_subtractProduct 36 = .ok (.iload 6, 2) := by decide +kernel
theorem dX1_subtractProduct_38 : decode cX1_subtractProduct 38 = .ok (.iload_n 3, 1) := by decide +kernel
theorem dX1_subtractProduct_39 : decode cX1_subtractProduct 39 = .ok (.isub, 1) := by decide +kernel
theorem dX1_subtractProduct_40 : decode cX1_subtractProduct 40 = .ok (.invokevirtual 20, 3) := by decide +kernel
theorem dX1_subtractProduct_43 : decode cX1_subtractProduct 43 = .ok (.i2l, 1) := by decide +kernel
theorem dX1_subtractProduct_44 : decode cX1_subtractProduct 44 = .ok (.ldc2_w 44, 3) := by decide +kernel
theorem dX1_subtractProduct_47 : decode cX1_subtractProduct 47 = .ok (.land, 1) := by decide +kernel
theorem dX1_subtractProduct_48 : decode cX1_subtractProduct 48 = .ok (.lmul, 1) := by decide +kernel
theorem dX1_subtractProduct_49 : decode cX1_subtractProduct 49 = .ok (.ladd, 1) := by decide +kernel
theorem dX1_subtractProduct_50 : decode cX1_subtractProduct 50 = .ok (.lstore 4, 2) := by decide +kernel
theorem dX1_subtractProduct_52 : decode cX1_subtractProduct 52 = .ok (.lload 4, 2) := by decide +kernel
theorem dX1_subtractProduct_54 : decode cX1_subtractProduct 54 = .ok (.l2i, 1) := by decide +kernel
theorem dX1_subtractProduct_55 : decode cX1_subtractProduct 55 = .ok (.istore 7, 2) := by decide +kernel
theorem dX1_subtractProduct_57 : decode cX1_subtractProduct 57 = .ok (.lload 4, 2) := by decide +kernel
theorem dX1_subtractProduct_59 : decode cX1_subtractProduct 59 = .ok (.bipush 32, 2) := by decide +kernel
theorem dX1_subtractProduct_61 : decode cX1_subtractProduct 61 = .ok (.lushr, 1) := by decide +kernel
theorem dX1_subtractProduct_62 : decode cX1_subtractProduct 62 = .ok (.lstore 4, 2) := by decide +kernel
theorem dX1_subtractProduct_64 : decode cX1_subtractProduct 64 = .ok (.aload_n 0, 1) := by decide +kernel
theorem dX1_subtractProduct_65 : decode cX1_subtractProduct 65 = .ok (.getfield 9, 3) := by decide +kernel
theorem dX1_subtractProduct_68 : decode cX1_subtractProduct 68 = .ok (.iload 6, 2) := by decide +kernel
theorem dX1_subtractProduct_70 : decode cX1_subtractProduct 70 = .ok (.iaload, 1) := by decide +kernel
theorem dX1_subtractProduct_71 : decode cX1_subtractProduct 71 = .ok (.iload 7, 2) := by decide +kernel
theorem dX1_subtractProduct_73 : decode cX1_subtractProduct 73 = .ok (.invokestatic 36, 3) := by decide +kernel
theorem dX1_subtractProduct_76 : decode cX1_subtractProduct 76 = .ok (.ifCond .ge 9, 3) := by decide +kernel
theorem dX1_subtractProduct_79 : decode cX1_subtractProduct 79 = .ok (.lload 4, 2) := by decide +kernel
theorem dX1_subtractProduct_81 : decode cX1_subtractProduct 81 = .ok (.lconst 1, 1) := by decide +kernel
theorem dX1_subtractProduct_82 : decode cX1_subtractProduct 82 = .ok (.ladd, 1) := by decide +kernel
theorem dX1_subtractProduct_83 : decode cX1_subtractProduct 83 = .ok (.lstore 4, 2) := by decide +kernel
theorem dX1_subtractProduct_85 : decode cX1_subtractProduct 85 = .ok (.aload_n 0, 1) := by decide +kernel
theorem dX1_subtractProduct_86 : decode cX1_subtractProduct 86 = .ok (.getfield 9, 3) := by decide +kernel
theorem dX1_subtractProduct_89 : decode cX1_subtractProduct 89 = .ok (.iload 6, 2) := by decide +kernel
theorem dX1_subtractProduct_91 : decode cX1_subtractProduct 91 = .ok (.dup2, 1) := by decide +kernel
theorem dX1_subtractProduct_92 : decode cX1_subtractProduct 92 = .ok (.iaload, 1) := by decide +kernel
theorem dX1_subtractProduct_93 : decode cX1_subtractProduct 93 = .ok (.iload 7, 2) := by decide +kernel
theorem dX1_subtractProduct_95 : decode cX1_subtractProduct 95 = .ok (.isub, 1) := by decide +kernel
theorem dX1_subtractProduct_96 : decode cX1_subtractProduct 96 = .ok (.iastore, 1) := by decide +kernel
theorem dX1_subtractProduct_97 : decode cX1_subtractProduct 97 = .ok (.iinc 6 1, 3) := by decide +kernel
theorem dX1_subtractProduct_100 : decode cX1_subtractProduct 100 = .ok (.goto (-90), 3) := by decide +kernel
theorem dX1_subtractProduct_103 : decode cX1_subtractProduct 103 = .ok (.return_, 1) := by decide +kernel
theorem dX1_inverse_0 : decode cX1_inverse 0 = .ok (.iload_n 0, 1) := by decide +kernel
theorem dX1_inverse_1 : decode cX1_inverse 1 = .ok (.istore_n 1, 1) := by decide +kernel
theorem dX1_inverse_2 : decode cX1_inverse 2 = .ok (.iconst 3, 1) := by decide +kernel
theorem dX1_inverse_3 : decode cX1_inverse 3 = .ok (.istore_n 2, 1) := by decide +kernel
theorem dX1_inverse_4 : decode cX1_inverse 4 = .ok (.iload_n 2, 1) := by decide +kernel
theorem dX1_inverse_5 : decode cX1_inverse 5 = .ok (.bipush 32, 2) := by decide +kernel
theorem dX1_inverse_7 : decode cX1_inverse 7 = .ok (.if_icmp .ge 18, 3) := by decide +kernel
theorem dX1_inverse_10 : decode cX1_inverse 10 = .ok (.iload_n 1, 1) := by decide +kernel
theorem dX1_inverse_11 : decode cX1_inverse 11 = .ok (.iconst 2, 1) := by decide +kernel
theorem dX1_inverse_12 : decode cX1_inverse 12 = .ok (.iload_n 0, 1) := by decide +kernel
theorem dX1_inverse_13 : decode cX1_inverse 13 = .ok (.iload_n 1, 1) := by decide +kernel
theorem dX1_inverse_14 : decode cX1_inverse 14 = .ok (.imul, 1) := by decide +kernel
theorem dX1_inverse_15 : decode cX1_inverse 15 = .ok (.isub, 1) := by decide +kernel
theorem dX1_inverse_16 : decode cX1_inverse 16 = .ok (.imul, 1) := by decide +kernel
theorem dX1_inverse_17 : decode cX1_inverse 17 = .ok (.istore_n 1, 1) := by decide +kernel
theorem dX1_inverse_18 : decode cX1_inverse 18 = .ok (.iload_n 2, 1) := by decide +kernel
theorem dX1_inverse_19 : decode cX1_inverse 19 = .ok (.iconst 2, 1) := by decide +kernel
theorem dX1_inverse_20 : decode cX1_inverse 20 = .ok (.imul, 1) := by decide +kernel
theorem dX1_inverse_21 : decode cX1_inverse 21 = .ok (.istore_n 2, 1) := by decide +kernel
theorem dX1_inverse_22 : decode cX1_inverse 22 = .ok (.goto (-18), 3) := by decide +kernel
theorem dX1_inverse_25 : decode cX1_inverse 25 = .ok (.iload_n 1, 1) := by decide +kernel
theorem dX1_inverse_26 : decode cX1_inverse 26 = .ok (.ireturn, 1) := by decide +kernel
theorem dX1_shiftLeft_0 : decode cX1_shiftLeft 0 = .ok (.aload_n 0, 1) := by decide +kernel
theorem dX1_shiftLeft_1 : decode cX1_shiftLeft 1 = .ok (.invokevirtual 79, 3) := by decide +kernel
theorem dX1_shiftLeft_4 : decode cX1_shiftLeft 4 = .ok (.istore_n 2, 1) := by decide +kernel
theorem dX1_shiftLeft_5 : decode cX1_shiftLeft 5 = .ok (.aload_n 0, 1) := by decide +kernel
theorem dX1_shiftLeft_6 : decode cX1_shiftLeft 6 = .ok (.getfield 13, 3) := by decide +kernel
theorem dX1_shiftLeft_9 : decode cX1_shiftLeft 9 = .ok (.ifCond .eq 16, 3) := by decide +kernel
theorem dX1_shiftLeft_12 : decode cX1_shiftLeft 12 = .ok (.iload_n 1, 1) := by decide +kernel
theorem dX1_shiftLeft_13 : decode cX1_shiftLeft 13 = .ok (.ifCond .le 12, 3) := by decide +kernel
theorem dX1_shiftLeft_16 : decode cX1_shiftLeft 16 = .ok (.iload_n 1, 1) := by decide +kernel
theorem dX1_shiftLeft_17 : decode cX1_shiftLeft 17 = .ok (.sipush 4224, 3) := by decide +kernel
theorem dX1_shiftLeft_20 : decode cX1_shiftLeft 20 = .ok (.iload_n 2, 1) := by decide +kernel
theorem dX1_shiftLeft_21 : decode cX1_shiftLeft 21 = .ok (.isub, 1) := by decide +kernel
theorem dX1_shiftLeft_22 : decode cX1_shiftLeft 22 = .ok (.if_icmp .le 4, 3) := by decide +kernel
theorem dX1_shiftLeft_25 : decode cX1_shiftLeft 25 = .ok (.return_, 1) := by decide +kernel
theorem dX1_shiftLeft_26 : decode cX1_shiftLeft 26 = .ok (.iload_n 1, 1) := by decide +kernel
theorem dX1_shiftLeft_27 : decode cX1_shiftLeft 27 = .ok (.iconst 5, 1) := by decide +kernel
theorem dX1_shiftLeft_28 : decode cX1_shiftLeft 28 = .ok (.ishr, 1) := by decide +kernel
theorem dX1_shiftLeft_29 : decode cX1_shiftLeft 29 = .ok (.istore_n 3, 1) := by decide +kernel
theorem dX1_shiftLeft_30 : decode cX1_shiftLeft 30 = .ok (.iload_n 1, 1) := by decide +kernel
theorem dX1_shiftLeft_31 : decode cX1_shiftLeft 31 = .ok (.bipush 31, 2) := by decide +kernel
theorem dX1_shiftLeft_33 : decode cX1_shiftLeft 33 = .ok (.iand, 1) := by decide +kernel
theorem dX1_shiftLeft_34 : decode cX1_shiftLeft 34 = .ok (.istore 4, 2) := by decide +kernel
theorem dX1_shiftLeft_36 : decode cX1_shiftLeft 36 = .ok (.iload_n 2, 1) := by decide +kernel
theorem dX1_shiftLeft_37 : decode cX1_shiftLeft 37 = .ok (.iload_n 1, 1) := by decide +kernel
theorem dX1_shiftLeft_38 : decode cX1_shiftLeft 38 = .ok (.iadd, 1) := by decide +kernel
theorem dX1_shiftLeft_39 : decode cX1_shiftLeft 39 = .ok (.bipush 31, 2) := by decide +kernel
theorem dX1_shiftLeft_41 : decode cX1_shiftLeft 41 = .ok (.iadd, 1) := by decide +kernel
theorem dX1_shiftLeft_42 : decode cX1_shiftLeft 42 = .ok (.iconst 5, 1) := by decide +kernel
theorem dX1_shiftLeft_43 : decode cX1_shiftLeft 43 = .ok (.ishr, 1) := by decide +kernel
theorem dX1_shiftLeft_44 : decode cX1_shiftLeft 44 = .ok (.istore 5, 2) := by decide +kernel
theorem dX1_shiftLeft_46 : decode cX1_shiftLeft 46 = .ok (.iload 5, 2) := by decide +kernel
theorem dX1_shiftLeft_48 : decode cX1_shiftLeft 48 = .ok (.iconst 1, 1) := by decide +kernel
theorem dX1_shiftLeft_49 : decode cX1_shiftLeft 49 = .ok (.isub, 1) := by decide +kernel
theorem dX1_shiftLeft_50 : decode cX1_shiftLeft 50 = .ok (.istore 6, 2) := by decide +kernel
theorem dX1_shiftLeft_52 : decode cX1_shiftLeft 52 = .ok (.iload 6, 2) := by decide +kernel
theorem dX1_shiftLeft_54 : decode cX1_shiftLeft 54 = .ok (.ifCond .lt 50, 3) := by decide +kernel
theorem dX1_shiftLeft_57 : decode cX1_shiftLeft 57 = .ok (.aload_n 0, 1) := by decide +kernel
theorem dX1_shiftLeft_58 : decode cX1_shiftLeft 58 = .ok (.iload 6, 2) := by decide +kernel
theorem dX1_shiftLeft_60 : decode cX1_shiftLeft 60 = .ok (.iload_n 3, 1) := by decide +kernel
theorem dX1_shiftLeft_61 : decode cX1_shiftLeft 61 = .ok (.isub, 1) := by decide +kernel
theorem dX1_shiftLeft_62 : decode cX1_shiftLeft 62 = .ok (.iconst 1, 1) := by decide +kernel
theorem dX1_shiftLeft_63 : decode cX1_shiftLeft 63 = .ok (.isub, 1) := by decide +kernel
theorem dX1_shiftLeft_64 : decode cX1_shiftLeft 64 = .ok (.invokevirtual 20, 3) := by decide +kernel
theorem dX1_shiftLeft_67 : decode cX1_shiftLeft 67 = .ok (.iconst 1, 1) := by decide +kernel
theorem dX1_shiftLeft_68 : decode cX1_shiftLeft 68 = .ok (.iushr, 1) := by decide +kernel
theorem dX1_shiftLeft_69 : decode cX1_shiftLeft 69 = .ok (.bipush 31, 2) := by decide +kernel
theorem dX1_shiftLeft_71 : decode cX1_shiftLeft 71 = .ok (.iload 4, 2) := by decide +kernel
theorem dX1_shiftLeft_73 : decode cX1_shiftLeft 73 = .ok (.isub, 1) := by decide +kernel
theorem dX1_shiftLeft_74 : decode cX1_shiftLeft 74 = .ok (.iushr, 1) := by decide +kernel
theorem dX1_shiftLeft_75 : decode cX1_shiftLeft 75 = .ok (.istore 7, 2) := by decide +kernel
theorem dX1_shiftLeft_77 : decode cX1_shiftLeft 77 = .ok (.aload_n 0, 1) := by decide +kernel
theorem dX1_shiftLeft_78 : decode cX1_shiftLeft 78 = .ok (.getfield 9, 3) := by decide +kernel
theorem dX1_shiftLeft_81 : decode cX1_shiftLeft 81 = .ok (.iload 6, 2) := by decide +kernel
theorem dX1_shiftLeft_83 : decode cX1_shiftLeft 83 = .ok (.aload_n 0, 1) := by decide +kernel
theorem dX1_shiftLeft_84 : decode cX1_shiftLeft 84 = .ok (.iload 6, 2) := by decide +kernel
theorem dX1_shiftLeft_86 : decode cX1_shiftLeft 86 = .ok (.iload_n 3, 1) := by decide +kernel
theorem dX1_shiftLeft_87 : decode cX1_shiftLeft 87 = .ok (.isub, 1) := by decide +kernel
theorem dX1_shiftLeft_88 : decode cX1_shiftLeft 88 = .ok (.invokevirtual 20, 3) := by decide +kernel
theorem dX1_shiftLeft_91 : decode cX1_shiftLeft 91 = .ok (.iload 4, 2) := by decide +kernel
theorem dX1_shiftLeft_93 : decode cX1_shiftLeft 93 = .ok (.ishl, 1) := by decide +kernel
theorem dX1_shiftLeft_94 : decode cX1_shiftLeft 94 = .ok (.iload 7, 2) := by decide +kernel
theorem dX1_shiftLeft_96 : decode cX1_shiftLeft 96 = .ok (.ior, 1) := by decide +kernel
theorem dX1_shiftLeft_97 : decode cX1_shiftLeft 97 = .ok (.iastore, 1) := by decide +kernel
theorem dX1_shiftLeft_98 : decode cX1_shiftLeft 98 = .ok (.iinc 6 (-1), 3) := by decide +kernel
theorem dX1_shiftLeft_101 : decode cX1_shiftLeft 101 = .ok (.goto (-49), 3) := by decide +kernel
theorem dX1_shiftLeft_104 : decode cX1_shiftLeft 104 = .ok (.aload_n 0, 1) := by decide +kernel
theorem dX1_shiftLeft_105 : decode cX1_shiftLeft 105 = .ok (.iload 5, 2) := by decide +kernel
theorem dX1_shiftLeft_107 : decode cX1_shiftLeft 107 = .ok (.putfield 13, 3) := by decide +kernel
theorem dX1_shiftLeft_110 : decode cX1_shiftLeft 110 = .ok (.return_, 1) := by decide +kernel
theorem dX1_shiftRight_0 : decode cX1_shiftRight 0 = .ok (.iload_n 1, 1) := by decide +kernel
theorem dX1_shiftRight_1 : decode cX1_shiftRight 1 = .ok (.ifCond .gt 4, 3) := by decide +kernel
theorem dX1_shiftRight_4 : decode cX1_shiftRight 4 = .ok (.return_, 1) := by decide +kernel
theorem dX1_shiftRight_5 : decode cX1_shiftRight 5 = .ok (.iload_n 1, 1) := by decide +kernel
theorem dX1_shiftRight_6 : decode cX1_shiftRight 6 = .ok (.iconst 5, 1) := by decide +kernel
theorem dX1_shiftRight_7 : decode cX1_shiftRight 7 = .ok (.ishr, 1) := by decide +kernel
theorem dX1_shiftRight_8 : decode cX1_shiftRight 8 = .ok (.istore_n 2, 1) := by decide +kernel
theorem dX1_shiftRight_9 : decode cX1_shiftRight 9 = .ok (.iload_n 1, 1) := by decide +kernel
theorem dX1_shiftRight_10 : decode cX1_shiftRight 10 = .ok (.bipush 31, 2) := by decide +kernel
theorem dX1_shiftRight_12 : decode cX1_shiftRight 12 = .ok (.iand, 1) := by decide +kernel
theorem dX1_shiftRight_13 : decode cX1_shiftRight 13 = .ok (.istore_n 3, 1) := by decide +kernel
theorem dX1_shiftRight_14 : decode cX1_shiftRight 14 = .ok (.aload_n 0, 1) := by decide +kernel
theorem dX1_shiftRight_15 : decode cX1_shiftRight 15 = .ok (.getfield 13, 3) := by decide +kernel
theorem dX1_shiftRight_18 : decode cX1_shiftRight 18 = .ok (.iload_n 2, 1) := by decide +kernel
theorem dX1_shiftRight_19 : decode cX1_shiftRight 19 = .ok (.isub, 1) := by decide +kernel
theorem dX1_shiftRight_20 : decode cX1_shiftRight 20 = .ok (.iconst 0, 1) := by decide +kernel
theorem dX1_shiftRight_21 : decode cX1_shiftRight 21 = .ok (.invokestatic 39, 3) := by decide +kernel
theorem dX1_shiftRight_24 : decode cX1_shiftRight 24 = .ok (.istore 4, 2) := by decide +kernel
theorem dX1_shiftRight_26 : decode cX1_shiftRight 26 = .ok (.iconst 0, 1) := by decide +kernel
theorem dX1_shiftRight_27 : decode cX1_shiftRight 27 = .ok (.istore 5, 2) := by decide +kernel
theorem dX1_shiftRight_29 : decode cX1_shiftRight 29 = .ok (.iload 5, 2) := by decide +kernel
theorem dX1_shiftRight_31 : decode cX1_shiftRight 31 = .ok (.iload 4, 2) := by decide +kernel
theorem dX1_shiftRight_33 : decode cX1_shiftRight 33 = .ok (.if_icmp .ge 56, 3) := by decide +kernel
theorem dX1_shiftRight_36 : decode cX1_shiftRight 36 = .ok (.iload 5, 2) := by decide +kernel
theorem dX1_shiftRight_38 : decode cX1_shiftRight 38 = .ok (.sipush 132, 3) := by decide +kernel
theorem dX1_shiftRight_41 : decode cX1_shiftRight 41 = .ok (.if_icmp .ge 48, 3) := by decide +kernel
theorem dX1_shiftRight_44 : decode cX1_shiftRight 44 = .ok (.aload_n 0, 1) := by decide +kernel
theorem dX1_shiftRight_45 : decode cX1_shiftRight 45 = .ok (.iload 5, 2) := by decide +kernel
theorem dX1_shiftRight_47 : decode cX1_shiftRight 47 = .ok (.iload_n 2, 1) := by decide +kernel
theorem dX1_shiftRight_48 : decode cX1_shiftRight 48 = .ok (.iadd, 1) := by decide +kernel
theorem dX1_shiftRight_49 : decode cX1_shiftRight 49 = .ok (.iconst 1, 1) := by decide +kernel
theorem dX1_shiftRight_50 : decode cX1_shiftRight 50 = .ok (.iadd, 1) := by decide +kernel
theorem dX1_shiftRight_51 : decode cX1_shiftRight 51 = .ok (.invokevirtual 20, 3) := by decide +kernel
theorem dX1_shiftRight_54 : decode cX1_shiftRight 54 = .ok (.iconst 1, 1) := by decide +kernel
theorem dX1_shiftRight_55 : decode cX1_shiftRight 55 = .ok (.ishl, 1) := by decide +kernel
theorem dX1_shiftRight_56 : decode cX1_shiftRight 56 = .ok (.bipush 31, 2) := by decide +kernel
theorem dX1_shiftRight_58 : decode cX1_shiftRight 58 = .ok (.iload_n 3, 1) := by decide +kernel
theorem dX1_shiftRight_59 : decode cX1_shiftRight 59 = .ok (.isub, 1) := by decide +kernel
theorem dX1_shiftRight_60 : decode cX1_shiftRight 60 = .ok (.ishl, 1) := by decide +kernel
theorem dX1_shiftRight_61 : decode cX1_shiftRight 61 = .ok (.istore 6, 2) := by decide +kernel
theorem dX1_shiftRight_63 : decode cX1_shiftRight 63 = .ok (.aload_n 0, 1) := by decide +kernel
theorem dX1_shiftRight_64 : decode cX1_shiftRight 64 = .ok (.getfield 9, 3) := by decide +kernel
theorem dX1_shiftRight_67 : decode cX1_shiftRight 67 = .ok (.iload 5, 2) := by decide +kernel
theorem dX1_shiftRight_69 : decode cX1_shiftRight 69 = .ok (.aload_n 0, 1) := by decide +kernel
theorem dX1_shiftRight_70 : decode cX1_shiftRight 70 = .ok (.iload 5, 2) := by decide +kernel
theorem dX1_shiftRight_72 : decode cX1_shiftRight 72 = .ok (.iload_n 2, 1) := by decide +kernel
theorem dX1_shiftRight_73 : decode cX1_shiftRight 73 = .ok (.iadd, 1) := by decide +kernel
theorem dX1_shiftRight_74 : decode cX1_shiftRight 74 = .ok (.invokevirtual 20, 3) := by decide +kernel
theorem dX1_shiftRight_77 : decode cX1_shiftRight 77 = .ok (.iload_n 3, 1) := by decide +kernel
theorem dX1_shiftRight_78 : decode cX1_shiftRight 78 = .ok (.iushr, 1) := by decide +kernel
theorem dX1_shiftRight_79 : decode cX1_shiftRight 79 = .ok (.iload 6, 2) := by decide +kernel
theorem dX1_shiftRight_81 : decode cX1_shiftRight 81 = .ok (.ior, 1) := by decide +kernel
theorem dX1_shiftRight_82 : decode cX1_shiftRight 82 = .ok (.iastore, 1) := by decide +kernel
theorem dX1_shiftRight_83 : decode cX1_shiftRight 83 = .ok (.iinc 5 1, 3) := by decide +kernel
theorem dX1_shiftRight_86 : decode cX1_shiftRight 86 = .ok (.goto (-57), 3) := by decide +kernel
theorem dX1_shiftRight_89 : decode cX1_shiftRight 89 = .ok (.aload_n 0, 1) := by decide +kernel
theorem dX1_shiftRight_90 : decode cX1_shiftRight 90 = .ok (.iload 4, 2) := by decide +kernel
theorem dX1_shiftRight_92 : decode cX1_shiftRight 92 = .ok (.putfield 13, 3) := by decide +kernel
theorem dX1_shiftRight_95 : decode cX1_shiftRight 95 = .ok (.aload_n 0, 1) := by decide +kernel
theorem dX1_shiftRight_96 : decode cX1_shiftRight 96 = .ok (.invokevirtual 17, 3) := by decide +kernel
theorem dX1_shiftRight_99 : decode cX1_shiftRight 99 = .ok (.return_, 1) := by decide +kernel
theorem dX1_wordAt_0 : decode cX1_wordAt 0 = .ok (.iload_n 1, 1) := by decide +kernel
theorem dX1_wordAt_1 : decode cX1_wordAt 1 = .ok (.ifCond .lt 27, 3) := by decide +kernel
theorem dX1_wordAt_4 : decode cX1_wordAt 4 = .ok (.iload_n 1, 1) := by decide +kernel
theorem dX1_wordAt_5 : decode cX1_wordAt 5 = .ok (.aload_n 0, 1) := by decide +kernel
theorem dX1_wordAt_6 : decode cX1_wordAt 6 = .ok (.getfield 13, 3) := by decide +kernel
theorem dX1_wordAt_9 : decode cX1_wordAt 9 = .ok (.if_icmp .ge 19, 3) := by decide +kernel
theorem dX1_wordAt_12 : decode cX1_wordAt 12 = .ok (.iload_n 1, 1) := by decide +kernel
theorem dX1_wordAt_13 : decode cX1_wordAt 13 = .ok (.sipush 132, 3) := by decide +kernel
theorem dX1_wordAt_16 : decode cX1_wordAt 16 = .ok (.if_icmp .ge 12, 3) := by decide +kernel
theorem dX1_wordAt_19 : decode cX1_wordAt 19 = .ok (.aload_n 0, 1) := by decide +kernel
theorem dX1_wordAt_20 : decode cX1_wordAt 20 = .ok (.getfield 9, 3) := by decide +kernel
theorem dX1_wordAt_23 : decode cX1_wordAt 23 = .ok (.iload_n 1, 1) := by decide +kernel
theorem dX1_wordAt_24 : decode cX1_wordAt 24 = .ok (.iaload, 1) := by decide +kernel
theorem dX1_wordAt_25 : decode cX1_wordAt 25 = .ok (.goto 4, 3) := by decide +kernel
theorem dX1_wordAt_28 : decode cX1_wordAt 28 = .ok (.iconst 0, 1) := by decide +kernel
theorem dX1_wordAt_29 : decode cX1_wordAt 29 = .ok (.ireturn, 1) := by decide +kernel
theorem dX1_append_0 : decode cX1_append 0 = .ok (.iload_n 1, 1) := by decide +kernel
theorem dX1_append_1 : decode cX1_append 1 = .ok (.ifCond .eq 40, 3) := by decide +kernel
theorem dX1_append_4 : decode cX1_append 4 = .ok (.aload_n 0, 1) := by decide +kernel
theorem dX1_append_5 : decode cX1_append 5 = .ok (.getfield 13, 3) := by decide +kernel
theorem dX1_append_8 : decode cX1_append 8 = .ok (.ifCond .lt 33, 3) := by decide +kernel
theorem dX1_append_11 : decode cX1_append 11 = .ok (.aload_n 0, 1) := by decide +kernel
theorem dX1_append_12 : decode cX1_append 12 = .ok (.getfield 13, 3) := by decide +kernel
theorem dX1_append_15 : decode cX1_append 15 = .ok (.sipush 132, 3) := by decide +kernel
theorem dX1_append_18 : decode cX1_append 18 = .ok (.if_icmp .ge 23, 3) := by decide +kernel
theorem dX1_append_21 : decode cX1_append 21 = .ok (.aload_n 0, 1) := by decide +kernel
theorem dX1_append_22 : decode cX1_append 22 = .ok (.getfield 9, 3) := by decide +kernel
theorem dX1_append_25 : decode cX1_append 25 = .ok (.aload_n 0, 1) := by decide +kernel
theorem dX1_append_26 : decode cX1_append 26 = .ok (.getfield 13, 3) := by decide +kernel
theorem dX1_append_29 : decode cX1_append 29 = .ok (.iload_n 1, 1) := by decide +kernel
theorem dX1_append_30 : decode cX1_append 30 = .ok (.iastore, 1) := by decide +kernel
theorem dX1_append_31 : decode cX1_append 31 = .ok (.aload_n 0, 1) := by decide +kernel
theorem dX1_append_32 : decode cX1_append 32 = .ok (.dup, 1) := by decide +kernel
theorem dX1_append_33 : decode cX1_append 33 = .ok (.getfield 13, 3) := by decide +kernel
theorem dX1_append_36 : decode cX1_append 36 = .ok (.iconst 1, 1) := by decide +kernel
theorem dX1_append_37 : decode cX1_append 37 = .ok (.iadd, 1) := by decide +kernel
theorem dX1_append_38 : decode cX1_append 38 = .ok (.putfield 13, 3) := by decide +kernel
theorem dX1_append_41 : decode cX1_append 41 = .ok (.return_, 1) := by decide +kernel
theorem dX1_trim_0 : decode cX1_trim 0 = .ok (.aload_n 0, 1) := by decide +kernel
theorem dX1_trim_1 : decode cX1_trim 1 = .ok (.getfield 13, 3) := by decide +kernel
theorem dX1_trim_4 : decode cX1_trim 4 = .ok (.ifCond .le 29, 3) := by decide +kernel
theorem dX1_trim_7 : decode cX1_trim 7 = .ok (.aload_n 0, 1) := by decide +kernel
theorem dX1_trim_8 : decode cX1_trim 8 = .ok (.aload_n 0, 1) := by decide +kernel
theorem dX1_trim_9 : decode cX1_trim 9 = .ok (.getfield 13, 3) := by decide +kernel
theorem dX1_trim_12 : decode cX1_trim 12 = .ok (.iconst 1, 1) := by decide +kernel
theorem dX1_trim_13 : decode cX1_trim 13 = .ok (.isub, 1) := by decide +kernel
theorem dX1_trim_14 : decode cX1_trim 14 = .ok (.invokevirtual 20, 3) := by decide +kernel
theorem dX1_trim_17 : decode cX1_trim 17 = .ok (.ifCond .ne 16, 3) := by decide +kernel
theorem dX1_trim_20 : decode cX1_trim 20 = .ok (.aload_n 0, 1) := by decide +kernel
theorem dX1_trim_21 : decode cX1_trim 21 = .ok (.dup, 1) := by decide +kernel
theorem dX1_trim_22 : decode cX1_trim 22 = .ok (.getfield 13, 3) := by decide +kernel
theorem dX1_trim_25 : decode cX1_trim 25 = .ok (.iconst 1, 1) := by decide +kernel
theorem dX1_trim_26 : decode cX1_trim 26 = .ok (.isub, 1) := by decide +kernel
theorem dX1_trim_27 : decode cX1_trim 27 = .ok (.putfield 13, 3) := by decide +kernel
theorem dX1_trim_30 : decode cX1_trim 30 = .ok (.goto (-30), 3) := by decide +kernel
theorem dX1_trim_33 : decode cX1_trim 33 = .ok (.return_, 1) := by decide +kernel
theorem dX2_init_0 : decode cX2_init 0 = .ok (.aload_n 0, 1) := by decide +kernel
theorem dX2_init_1 : decode cX2_init 1 = .ok (.invokespecial 3, 3) := by decide +kernel
theorem dX2_init_4 : decode cX2_init 4 = .ok (.aload_n 0, 1) := by decide +kernel
theorem dX2_init_5 : decode cX2_init 5 = .ok (.new 9, 3) := by decide +kernel
theorem dX2_init_8 : decode cX2_init 8 = .ok (.dup, 1) := by decide +kernel
theorem dX2_init_9 : decode cX2_init 9 = .ok (.invokespecial 11, 3) := by decide +kernel
theorem dX2_init_12 : decode cX2_init 12 = .ok (.putfield 12, 3) := by decide +kernel
theorem dX2_init_15 : decode cX2_init 15 = .ok (.aload_n 0, 1) := by decide +kernel
theorem dX2_init_16 : decode cX2_init 16 = .ok (.iconst 0, 1) := by decide +kernel
theorem dX2_init_17 : decode cX2_init 17 = .ok (.putfield 18, 3) := by decide +kernel
theorem dX2_init_20 : decode cX2_init 20 = .ok (.aload_n 0, 1) := by decide +kernel
theorem dX2_init_21 : decode cX2_init 21 = .ok (.iconst 0, 1) := by decide +kernel
theorem dX2_init_22 : decode cX2_init 22 = .ok (.putfield 22, 3) := by decide +kernel
theorem dX2_init_25 : decode cX2_init 25 = .ok (.aload_n 0, 1) := by decide +kernel
theorem dX2_init_26 : decode cX2_init 26 = .ok (.iconst 0, 1) := by decide +kernel
theorem dX2_init_27 : decode cX2_init 27 = .ok (.putfield 25, 3) := by decide +kernel
theorem dX2_init_30 : decode cX2_init 30 = .ok (.aload_n 0, 1) := by decide +kernel
theorem dX2_init_31 : decode cX2_init 31 = .ok (.iconst 0, 1) := by decide +kernel
theorem dX2_init_32 : decode cX2_init 32 = .ok (.putfield 28, 3) := by decide +kernel
theorem dX2_init_35 : decode cX2_init 35 = .ok (.aload_n 0, 1) := by decide +kernel
theorem dX2_init_36 : decode cX2_init 36 = .ok (.iconst 0, 1) := by decide +kernel
theorem dX2_init_37 : decode cX2_init 37 = .ok (.putfield 32, 3) := by decide +kernel
theorem dX2_init_40 : decode cX2_init 40 = .ok (.aload_n 0, 1) := by decide +kernel
theorem dX2_init_41 : decode cX2_init 41 = .ok (.iconst 0, 1) := by decide +kernel
theorem dX2_init_42 : decode cX2_init 42 = .ok (.putfield 35, 3) := by decide +kernel
theorem dX2_init_45 : decode cX2_init 45 = .ok (.aload_n 0, 1) := by decide +kernel
theorem dX2_init_46 : decode cX2_init 46 = .ok (.iconst 0, 1) := by decide +kernel
theorem dX2_init_47 : decode cX2_init 47 = .ok (.putfield 38, 3) := by decide +kernel
theorem dX2_init_50 : decode cX2_init 50 = .ok (.return_, 1) := by decide +kernel
theorem dX2_line_0 : decode cX2_line 0 = .ok (.aload_n 0, 1) := by decide +kernel
theorem dX2_line_1 : decode cX2_line 1 = .ok (.getfield 12, 3) := by decide +kernel
theorem dX2_line_4 : decode cX2_line 4 = .ok (.areturn, 1) := by decide +kernel
theorem dX2_exactIsAsked_0 : decode cX2_exactIsAsked 0 = .ok (.aload_n 0, 1) := by decide +kernel
theorem dX2_exactIsAsked_1 : decode cX2_exactIsAsked 1 = .ok (.getfield 25, 3) := by decide +kernel
theorem dX2_exactIsAsked_4 : decode cX2_exactIsAsked 4 = .ok (.bipush 101, 2) := by decide +kernel
theorem dX2_exactIsAsked_6 : decode cX2_exactIsAsked 6 = .ok (.if_icmp .ne 7, 3) := by decide +kernel
theorem dX2_exactIsAsked_9 : decode cX2_exactIsAsked 9 = .ok (.iconst 1, 1) := by decide +kernel
theorem dX2_exactIsAsked_10 : decode cX2_exactIsAsked 10 = .ok (.goto 4, 3) := by decide +kernel
theorem dX2_exactIsAsked_13 : decode cX2_exactIsAsked 13 = .ok (.iconst 0, 1) := by decide +kernel
theorem dX2_exactIsAsked_14 : decode cX2_exactIsAsked 14 = .ok (.ireturn, 1) := by decide +kernel
theorem dX2_inexactIsAsked_0 : decode cX2_inexactIsAsked 0 = .ok (.aload_n 0, 1) := by decide +kernel
theorem dX2_inexactIsAsked_1 : decode cX2_inexactIsAsked 1 = .ok (.getfield 25, 3) := by decide +kernel
theorem dX2_inexactIsAsked_4 : decode cX2_inexactIsAsked 4 = .ok (.bipush 105, 2) := by decide +kernel
theorem dX2_inexactIsAsked_6 : decode cX2_inexactIsAsked 6 = .ok (.if_icmp .ne 7, 3) := by decide +kernel
theorem dX2_inexactIsAsked_9 : decode cX2_inexactIsAsked 9 = .ok (.iconst 1, 1) := by decide +kernel
theorem dX2_inexactIsAsked_10 : decode cX2_inexactIsAsked 10 = .ok (.goto 4, 3) := by decide +kernel
theorem dX2_inexactIsAsked_13 : decode cX2_inexactIsAsked 13 = .ok (.iconst 0, 1) := by decide +kernel
theorem dX2_inexactIsAsked_14 : decode cX2_inexactIsAsked 14 = .ok (.ireturn, 1) := by decide +kernel
theorem dX2_hasMinus_0 : decode cX2_hasMinus 0 = .ok (.aload_n 0, 1) := by decide +kernel
theorem dX2_hasMinus_1 : decode cX2_hasMinus 1 = .ok (.getfield 32, 3) := by decide +kernel
theorem dX2_hasMinus_4 : decode cX2_hasMinus 4 = .ok (.ireturn, 1) := by decide +kernel
theorem dX2_tens_0 : decode cX2_tens 0 = .ok (.aload_n 0, 1) := by decide +kernel
theorem dX2_tens_1 : decode cX2_tens 1 = .ok (.getfield 35, 3) := by decide +kernel
theorem dX2_tens_4 : decode cX2_tens 4 = .ok (.ireturn, 1) := by decide +kernel
theorem dX2_significantDigits_0 : decode cX2_significantDigits 0 = .ok (.aload_n 0, 1) := by decide +kernel
theorem dX2_significantDigits_1 : decode cX2_significantDigits 1 = .ok (.getfield 38, 3) := by decide +kernel
theorem dX2_significantDigits_4 : decode cX2_significantDigits 4 = .ok (.ireturn, 1) := by decide +kernel
theorem dX2_parse_0 : decode cX2_parse 0 = .ok (.aload_n 0, 1) := by decide +kernel
theorem dX2_parse_1 : decode cX2_parse 1 = .ok (.iconst 0, 1) := by decide +kernel
theorem dX2_parse_2 : decode cX2_parse 2 = .ok (.putfield 18, 3) := by decide +kernel
theorem dX2_parse_5 : decode cX2_parse 5 = .ok (.aload_n 0, 1) := by decide +kernel
theorem dX2_parse_6 : decode cX2_parse 6 = .ok (.iconst 0, 1) := by decide +kernel
theorem dX2_parse_7 : decode cX2_parse 7 = .ok (.putfield 22, 3) := by decide +kernel
theorem dX2_parse_10 : decode cX2_parse 10 = .ok (.aload_n 0, 1) := by decide +kernel
theorem dX2_parse_11 : decode cX2_parse 11 = .ok (.iconst 0, 1) := by decide +kernel
theorem dX2_parse_12 : decode cX2_parse 12 = .ok (.putfield 25, 3) := by decide +kernel
theorem dX2_parse_15 : decode cX2_parse 15 = .ok (.aload_n 0, 1) := by decide +kernel
theorem dX2_parse_16 : decode cX2_parse 16 = .ok (.iconst 0, 1) := by decide +kernel
theorem dX2_parse_17 : decode cX2_parse 17 = .ok (.putfield 35, 3) := by decide +kernel
theorem dX2_parse_20 : decode cX2_parse 20 = .ok (.aload_n 0, 1) := by decide +kernel
theorem dX2_parse_21 : decode cX2_parse 21 = .ok (.iconst 0, 1) := by decide +kernel
theorem dX2_parse_22 : decode cX2_parse 22 = .ok (.putfield 38, 3) := by decide +kernel
theorem dX2_parse_25 : decode cX2_parse 25 = .ok (.aload_n 1, 1) := by decide +kernel
theorem dX2_parse_26 : decode cX2_parse 26 = .ok (.lconst 0, 1) := by decide +kernel
theorem dX2_parse_27 : decode cX2_parse 27 = .ok (.invokevirtual 41, 3) := by decide +kernel
theorem dX2_parse_30 : decode cX2_parse 30 = .ok (.aload_n 2, 1) := by decide +kernel
theorem dX2_parse_31 : decode cX2_parse 31 = .ok (.lconst 1, 1) := by decide +kernel
theorem dX2_parse_32 : decode cX2_parse 32 = .ok (.invokevirtual 41, 3) := by decide +kernel
theorem dX2_parse_35 : decode cX2_parse 35 = .ok (.aload_n 0, 1) := by decide +kernel
theorem dX2_parse_36 : decode cX2_parse 36 = .ok (.invokevirtual 47, 3) := by decide +kernel
theorem dX2_parse_39 : decode cX2_parse 39 = .ok (.istore_n 3, 1) := by decide +kernel
theorem dX2_parse_40 : decode cX2_parse 40 = .ok (.aload_n 0, 1) := by decide +kernel
theorem dX2_parse_41 : decode cX2_parse 41 = .ok (.getfield 22, 3) := by decide +kernel
theorem dX2_parse_44 : decode cX2_parse 44 = .ok (.ifCond .ne 9, 3) := by decide +kernel
theorem dX2_parse_47 : decode cX2_parse 47 = .ok (.aload_n 0, 1) := by decide +kernel
theorem dX2_parse_48 : decode cX2_parse 48 = .ok (.bipush 10, 2) := by decide +kernel
theorem dX2_parse_50 : decode cX2_parse 50 = .ok (.putfield 22, 3) := by decide +kernel
theorem dX2_parse_53 : decode cX2_parse 53 = .ok (.aload_n 0, 1) := by decide +kernel
theorem dX2_parse_54 : decode cX2_parse 54 = .ok (.invokevirtual 51, 3) := by decide +kernel
theorem dX2_parse_57 : decode cX2_parse 57 = .ok (.iload_n 3, 1) := by decide +kernel
theorem dX2_parse_58 : decode cX2_parse 58 = .ok (.ifCond .ne 7, 3) := by decide +kernel
theorem dX2_parse_61 : decode cX2_parse 61 = .ok (.iconst 0, 1) := by decide +kernel
theorem dX2_parse_62 : decode cX2_parse 62 = .ok (.goto 25, 3) := by decide +kernel
theorem dX2_parse_65 : decode cX2_parse 65 = .ok (.aload_n 0, 1) := by decide +kernel
theorem dX2_parse_66 : decode cX2_parse 66 = .ok (.getfield 28, 3) := by decide +kernel
theorem dX2_parse_69 : decode cX2_parse 69 = .ok (.ifCond .eq 12, 3) := by decide +kernel
theorem dX2_parse_72 : decode cX2_parse 72 = .ok (.aload_n 0, 1) := by decide +kernel
theorem dX2_parse_73 : decode cX2_parse 73 = .ok (.aload_n 1, 1) := by decide +kernel
theorem dX2_parse_74 : decode cX2_parse 74 = .ok (.aload_n 2, 1) := by decide +kernel
theorem dX2_parse_75 : decode cX2_parse 75 = .ok (.invokevirtual 54, 3) := by decide +kernel
theorem dX2_parse_78 : decode cX2_parse 78 = .ok (.goto 9, 3) := by decide +kernel
theorem dX2_parse_81 : decode cX2_parse 81 = .ok (.aload_n 0, 1) := by decide +kernel
theorem dX2_parse_82 : decode cX2_parse 82 = .ok (.aload_n 1, 1) := by decide +kernel
theorem dX2_parse_83 : decode cX2_parse 83 = .ok (.aload_n 2, 1) := by decide +kernel
theorem dX2_parse_84 : decode cX2_parse 84 = .ok (.invokevirtual 58, 3) := by decide +kernel
theorem dX2_parse_87 : decode cX2_parse 87 = .ok (.istore 4, 2) := by decide +kernel
theorem dX2_parse_89 : decode cX2_parse 89 = .ok (.aload_n 0, 1) := by decide +kernel
theorem dX2_parse_90 : decode cX2_parse 90 = .ok (.invokevirtual 61, 3) := by decide +kernel
theorem dX2_parse_93 : decode cX2_parse 93 = .ok (.ifCond .ge 8, 3) := by decide +kernel
theorem dX2_parse_96 : decode cX2_parse 96 = .ok (.iload 4, 2) := by decide +kernel
theorem dX2_parse_98 : decode cX2_parse 98 = .ok (.goto 4, 3) := by decide +kernel
theorem dX2_parse_101 : decode cX2_parse 101 = .ok (.iconst 0, 1) := by decide +kernel
theorem dX2_parse_102 : decode cX2_parse 102 = .ok (.ireturn, 1) := by decide +kernel
theorem dX2_takeWordOrNumber_0 : decode cX2_takeWordOrNumber 0 = .ok (.aload_n 0, 1) := by decide +kernel
theorem dX2_takeWordOrNumber_1 : decode cX2_takeWordOrNumber 1 = .ok (.ldc 65, 2) := by decide +kernel
theorem dX2_takeWordOrNumber_3 : decode cX2_takeWordOrNumber 3 = .ok (.invokevirtual 67, 3) := by decide +kernel
theorem dX2_takeWordOrNumber_6 : decode cX2_takeWordOrNumber 6 = .ok (.ifCond .eq 7, 3) := by decide +kernel
theorem dX2_takeWordOrNumber_9 : decode cX2_takeWordOrNumber 9 = .ok (.iconst 3, 1) := by decide +kernel
theorem dX2_takeWordOrNumber_10 : decode cX2_takeWordOrNumber 10 = .ok (.goto 17, 3) := by decide +kernel
theorem dX2_takeWordOrNumber_13 : decode cX2_takeWordOrNumber 13 = .ok (.aload_n 0, 1) := by decide +kernel
theorem dX2_takeWordOrNumber_14 : decode cX2_takeWordOrNumber 14 = .ok (.ldc 71, 2) := by decide +kernel
theorem dX2_takeWordOrNumber_16 : decode cX2_takeWordOrNumber 16 = .ok (.invokevirtual 67, 3) := by decide +kernel
theorem dX2_takeWordOrNumber_19 : decode cX2_takeWordOrNumber 19 = .ok (.ifCond .eq 7, 3) := by decide +kernel
theorem dX2_takeWordOrNumber_22 : decode cX2_takeWordOrNumber 22 = .ok (.iconst 4, 1) := by decide +kernel
theorem dX2_takeWordOrNumber_23 : decode cX2_takeWordOrNumber 23 = .ok (.goto 4, 3) := by decide +kernel
theorem dX2_takeWordOrNumber_26 : decode cX2_takeWordOrNumber 26 = .ok (.iconst 0, 1) := by decide +kernel
theorem dX2_takeWordOrNumber_27 : decode cX2_takeWordOrNumber 27 = .ok (.istore_n 3, 1) := by decide +kernel
theorem dX2_takeWordOrNumber_28 : decode cX2_takeWordOrNumber 28 = .ok (.iload_n 3, 1) := by decide +kernel
theorem dX2_takeWordOrNumber_29 : decode cX2_takeWordOrNumber 29 = .ok (.ifCond .ne 10, 3) := by decide +kernel
theorem dX2_takeWordOrNumber_32 : decode cX2_takeWordOrNumber 32 = .ok (.aload_n 0, 1) := by decide +kernel
theorem dX2_takeWordOrNumber_33 : decode cX2_takeWordOrNumber 33 = .ok (.aload_n 1, 1) := by decide +kernel
theorem dX2_takeWordOrNumber_34 : decode cX2_takeWordOrNumber 34 = .ok (.aload_n 2, 1) := by decide +kernel
theorem dX2_takeWordOrNumber_35 : decode cX2_takeWordOrNumber 35 = .ok (.invokevirtual 58, 3) := by decide +kernel
theorem dX2_takeWordOrNumber_38 : decode cX2_takeWordOrNumber 38 = .ok (.ireturn, 1) := by decide +kernel
theorem dX2_takeWordOrNumber_39 : decode cX2_takeWordOrNumber 39 = .ok (.aload_n 0, 1) := by decide +kernel
theorem dX2_takeWordOrNumber_40 : decode cX2_takeWordOrNumber 40 = .ok (.invokevirtual 73, 3) := by decide +kernel
theorem dX2_takeWordOrNumber_43 : decode cX2_takeWordOrNumber 43 = .ok (.ifCond .eq 7, 3) := by decide +kernel
theorem dX2_takeWordOrNumber_46 : decode cX2_takeWordOrNumber 46 = .ok (.iconst 0, 1) := by decide +kernel
theorem dX2_takeWordOrNumber_47 : decode cX2_takeWordOrNumber 47 = .ok (.goto 4, 3) := by decide +kernel
theorem dX2_takeWordOrNumber_50 : decode cX2_takeWordOrNumber 50 = .ok (.iload_n 3, 1) := by decide +kernel
theorem dX2_takeWordOrNumber_51 : decode cX2_takeWordOrNumber 51 = .ok (.ireturn, 1) := by decide +kernel
theorem dX2_takeNumber_0 : decode cX2_takeNumber 0 = .ok (.aload_n 0, 1) := by decide +kernel
theorem dX2_takeNumber_1 : decode cX2_takeNumber 1 = .ok (.aload_n 1, 1) := by decide +kernel
theorem dX2_takeNumber_2 : decode cX2_takeNumber 2 = .ok (.invokevirtual 76, 3) := by decide +kernel
theorem dX2_takeNumber_5 : decode cX2_takeNumber 5 = .ok (.istore_n 3, 1) := by decide +kernel
theorem dX2_takeNumber_6 : decode cX2_takeNumber 6 = .ok (.iload_n 3, 1) := by decide +kernel
theorem dX2_takeNumber_7 : decode cX2_takeNumber 7 = .ok (.ifCond .le 46, 3) := by decide +kernel
theorem dX2_takeNumber_10 : decode cX2_takeNumber 10 = .ok (.aload_n 0, 1) := by decide +kernel
theorem dX2_takeNumber_11 : decode cX2_takeNumber 11 = .ok (.invokevirtual 61, 3) := by decide +kernel
theorem dX2_takeNumber_14 : decode cX2_takeNumber 14 = .ok (.bipush 47, 2) := by decide +kernel
theorem dX2_takeNumber_16 : decode cX2_takeNumber 16 = .ok (.if_icmp .ne 37, 3) := by decide +kernel
theorem dX2_takeNumber_19 : decode cX2_takeNumber 19 = .ok (.aload_n 0, 1) := by decide +kernel
theorem dX2_takeNumber_20 : decode cX2_takeNumber 20 = .ok (.dup, 1) := by decide +kernel
theorem dX2_takeNumber_21 : decode cX2_takeNumber 21 = .ok (.getfield 18, 3) := by decide +kernel
theorem dX2_takeNumber_24 : decode cX2_takeNumber 24 = .ok (.iconst 1, 1) := by decide +kernel
theorem dX2_takeNumber_25 : decode cX2_takeNumber 25 = .ok (.iadd, 1) := by decide +kernel
theorem dX2_takeNumber_26 : decode cX2_takeNumber 26 = .ok (.putfield 18, 3) := by decide +kernel
theorem dX2_takeNumber_29 : decode cX2_takeNumber 29 = .ok (.aload_n 2, 1) := by decide +kernel
theorem dX2_takeNumber_30 : decode cX2_takeNumber 30 = .ok (.lconst 0, 1) := by decide +kernel
theorem dX2_takeNumber_31 : decode cX2_takeNumber 31 = .ok (.invokevirtual 41, 3) := by decide +kernel
theorem dX2_takeNumber_34 : decode cX2_takeNumber 34 = .ok (.aload_n 0, 1) := by decide +kernel
theorem dX2_takeNumber_35 : decode cX2_takeNumber 35 = .ok (.aload_n 2, 1) := by decide +kernel
theorem dX2_takeNumber_36 : decode cX2_takeNumber 36 = .ok (.invokevirtual 76, 3) := by decide +kernel
theorem dX2_takeNumber_39 : decode cX2_takeNumber 39 = .ok (.pop, 1) := by decide +kernel
theorem dX2_takeNumber_40 : decode cX2_takeNumber 40 = .ok (.aload_n 2, 1) := by decide +kernel
theorem dX2_takeNumber_41 : decode cX2_takeNumber 41 = .ok (.invokevirtual 80, 3) := by decide +kernel
theorem dX2_takeNumber_44 : decode cX2_takeNumber 44 = .ok (.ifCond .eq 7, 3) := by decide +kernel
theorem dX2_takeNumber_47 : decode cX2_takeNumber 47 = .ok (.iconst 0, 1) := by decide +kernel
theorem dX2_takeNumber_48 : decode cX2_takeNumber 48 = .ok (.goto 4, 3) := by decide +kernel
theorem dX2_takeNumber_51 : decode cX2_takeNumber 51 = .ok (.iconst 1, 1) := by decide +kernel
theorem dX2_takeNumber_52 : decode cX2_takeNumber 52 = .ok (.ireturn, 1) := by decide +kernel
theorem dX2_takeNumber_53 : decode cX2_takeNumber 53 = .ok (.aload_n 0, 1) := by decide +kernel
theorem dX2_takeNumber_54 : decode cX2_takeNumber 54 = .ok (.getfield 22, 3) := by decide +kernel
theorem dX2_takeNumber_57 : decode cX2_takeNumber 57 = .ok (.bipush 10, 2) := by decide +kernel
theorem dX2_takeNumber_59 : decode cX2_takeNumber 59 = .ok (.if_icmp .ne 29, 3) := by decide +kernel
theorem dX2_takeNumber_62 : decode cX2_takeNumber 62 = .ok (.aload_n 0, 1) := by decide +kernel
theorem dX2_takeNumber_63 : decode cX2_takeNumber 63 = .ok (.invokevirtual 61, 3) := by decide +kernel
theorem dX2_takeNumber_66 : decode cX2_takeNumber 66 = .ok (.bipush 46, 2) := by decide +kernel
theorem dX2_takeNumber_68 : decode cX2_takeNumber 68 = .ok (.if_icmp .eq 13, 3) := by decide +kernel
theorem dX2_takeNumber_71 : decode cX2_takeNumber 71 = .ok (.aload_n 0, 1) := by decide +kernel
theorem dX2_takeNumber_72 : decode cX2_takeNumber 72 = .ok (.invokevirtual 61, 3) := by decide +kernel
theorem dX2_takeNumber_75 : decode cX2_takeNumber 75 = .ok (.invokestatic 83, 3) := by decide +kernel
theorem dX2_takeNumber_78 : decode cX2_takeNumber 78 = .ok (.ifCond .eq 10, 3) := by decide +kernel
theorem dX2_takeNumber_81 : decode cX2_takeNumber 81 = .ok (.aload_n 0, 1) := by decide +kernel
theorem dX2_takeNumber_82 : decode cX2_takeNumber 82 = .ok (.aload_n 1, 1) := by decide +kernel
theorem dX2_takeNumber_83 : decode cX2_takeNumber 83 = .ok (.iload_n 3, 1) := by decide +kernel
theorem dX2_takeNumber_84 : decode cX2_takeNumber 84 = .ok (.invokevirtual 87, 3) := by decide +kernel
theorem dX2_takeNumber_87 : decode cX2_takeNumber 87 = .ok (.ireturn, 1) := by decide +kernel
theorem dX2_takeNumber_88 : decode cX2_takeNumber 88 = .ok (.iload_n 3, 1) := by decide +kernel
theorem dX2_takeNumber_89 : decode cX2_takeNumber 89 = .ok (.ifCond .le 7, 3) := by decide +kernel
theorem dX2_takeNumber_92 : decode cX2_takeNumber 92 = .ok (.iconst 1, 1) := by decide +kernel
theorem dX2_takeNumber_93 : decode cX2_takeNumber 93 = .ok (.goto 4, 3) := by decide +kernel
theorem dX2_takeNumber_96 : decode cX2_takeNumber 96 = .ok (.iconst 0, 1) := by decide +kernel
theorem dX2_takeNumber_97 : decode cX2_takeNumber 97 = .ok (.ireturn, 1) := by decide +kernel
theorem dX2_takeDecimal_0 : decode cX2_takeDecimal 0 = .ok (.iconst 0, 1) := by decide +kernel
theorem dX2_takeDecimal_1 : decode cX2_takeDecimal 1 = .ok (.istore_n 3, 1) := by decide +kernel
theorem dX2_takeDecimal_2 : decode cX2_takeDecimal 2 = .ok (.aload_n 0, 1) := by decide +kernel
theorem dX2_takeDecimal_3 : decode cX2_takeDecimal 3 = .ok (.invokevirtual 61, 3) := by decide +kernel
theorem dX2_takeDecimal_6 : decode cX2_takeDecimal 6 = .ok (.bipush 46, 2) := by decide +kernel
theorem dX2_takeDecimal_8 : decode cX2_takeDecimal 8 = .ok (.if_icmp .ne 19, 3) := by decide +kernel
theorem dX2_takeDecimal_11 : decode cX2_takeDecimal 11 = .ok (.aload_n 0, 1) := by decide +kernel
theorem dX2_takeDecimal_12 : decode cX2_takeDecimal 12 = .ok (.dup, 1) := by decide +kernel
theorem dX2_takeDecimal_13 : decode cX2_takeDecimal 13 = .ok (.getfield 18, 3) := by decide +kernel
theorem dX2_takeDecimal_16 : decode cX2_takeDecimal 16 = .ok (.iconst 1, 1) := by decide +kernel
theorem dX2_takeDecimal_17 : decode cX2_takeDecimal 17 = .ok (.iadd, 1) := by decide +kernel
theorem dX2_takeDecimal_18 : decode cX2_takeDecimal 18 = .ok (.putfield 18, 3) := by decide +kernel
theorem dX2_takeDecimal_21 : decode cX2_takeDecimal 21 = .ok (.aload_n 0, 1) := by decide +kernel
theorem dX2_takeDecimal_22 : decode cX2_takeDecimal 22 = .ok (.aload_n 1, 1) := by decide +kernel
theorem dX2_takeDecimal_23 : decode cX2_takeDecimal 23 = .ok (.invokevirtual 76, 3) := by decide +kernel
theorem dX2_takeDecimal_26 : decode cX2_takeDecimal 26 = .ok (.istore_n 3, 1) := by decide +kernel
theorem dX2_takeDecimal_27 : decode cX2_takeDecimal 27 = .ok (.iload_n 2, 1) := by decide +kernel
theorem dX2_takeDecimal_28 : decode cX2_takeDecimal 28 = .ok (.iload_n 3, 1) := by decide +kernel
theorem dX2_takeDecimal_29 : decode cX2_takeDecimal 29 = .ok (.iadd, 1) := by decide +kernel
theorem dX2_takeDecimal_30 : decode cX2_takeDecimal 30 = .ok (.ifCond .ne 5, 3) := by decide +kernel
theorem dX2_takeDecimal_33 : decode cX2_takeDecimal 33 = .ok (.iconst 0, 1) := by decide +kernel
theorem dX2_takeDecimal_34 : decode cX2_takeDecimal 34 = .ok (.ireturn, 1) := by decide +kernel
theorem dX2_takeDecimal_35 : decode cX2_takeDecimal 35 = .ok (.aload_n 0, 1) := by decide +kernel
theorem dX2_takeDecimal_36 : decode cX2_takeDecimal 36 = .ok (.iload_n 3, 1) := by decide +kernel
theorem dX2_takeDecimal_37 : decode cX2_takeDecimal 37 = .ok (.ineg, 1) := by decide +kernel
theorem dX2_takeDecimal_38 : decode cX2_takeDecimal 38 = .ok (.putfield 35, 3) := by decide +kernel
theorem dX2_takeDecimal_41 : decode cX2_takeDecimal 41 = .ok (.aload_n 0, 1) := by decide +kernel
theorem dX2_takeDecimal_42 : decode cX2_takeDecimal 42 = .ok (.invokevirtual 61, 3) := by decide +kernel
theorem dX2_takeDecimal_45 : decode cX2_takeDecimal 45 = .ok (.invokestatic 83, 3) := by decide +kernel
theorem dX2_takeDecimal_48 : decode cX2_takeDecimal 48 = .ok (.ifCond .eq 10, 3) := by decide +kernel
theorem dX2_takeDecimal_51 : decode cX2_takeDecimal 51 = .ok (.aload_n 0, 1) := by decide +kernel
theorem dX2_takeDecimal_52 : decode cX2_takeDecimal 52 = .ok (.invokevirtual 91, 3) := by decide +kernel
theorem dX2_takeDecimal_55 : decode cX2_takeDecimal 55 = .ok (.ifCond .eq 7, 3) := by decide +kernel
theorem dX2_takeDecimal_58 : decode cX2_takeDecimal 58 = .ok (.iconst 2, 1) := by decide +kernel
theorem dX2_takeDecimal_59 : decode cX2_takeDecimal 59 = .ok (.goto 4, 3) := by decide +kernel
theorem dX2_takeDecimal_62 : decode cX2_takeDecimal 62 = .ok (.iconst 0, 1) := by decide +kernel
theorem dX2_takeDecimal_63 : decode cX2_takeDecimal 63 = .ok (.ireturn, 1) := by decide +kernel
theorem dX2_takeExponent_0 : decode cX2_takeExponent 0 = .ok (.aload_n 0, 1) := by decide +kernel
theorem dX2_takeExponent_1 : decode cX2_takeExponent 1 = .ok (.dup, 1) := by decide +kernel
theorem dX2_takeExponent_2 : decode cX2_takeExponent 2 = .ok (.getfield 18, 3) := by decide +kernel
theorem dX2_takeExponent_5 : decode cX2_takeExponent 5 = .ok (.iconst 1, 1) := by decide +kernel
theorem dX2_takeExponent_6 : decode cX2_takeExponent 6 = .ok (.iadd, 1) := by decide +kernel
theorem dX2_takeExponent_7 : decode cX2_takeExponent 7 = .ok (.putfield 18, 3) := by decide +kernel
theorem dX2_takeExponent_10 : decode cX2_takeExponent 10 = .ok (.aload_n 0, 1) := by decide +kernel
theorem dX2_takeExponent_11 : decode cX2_takeExponent 11 = .ok (.invokevirtual 61, 3) := by decide +kernel
theorem dX2_takeExponent_14 : decode cX2_takeExponent 14 = .ok (.bipush 45, 2) := by decide +kernel
theorem dX2_takeExponent_16 : decode cX2_takeExponent 16 = .ok (.if_icmp .ne 7, 3) := by decide +kernel
theorem dX2_takeExponent_19 : decode cX2_takeExponent 19 = .ok (.iconst 1, 1) := by decide +kernel
theorem dX2_takeExponent_20 : decode cX2_takeExponent 20 = .ok (.goto 4, 3) := by decide +kernel
theorem dX2_takeExponent_23 : decode cX2_takeExponent 23 = .ok (.iconst 0, 1) := by decide +kernel
theorem dX2_takeExponent_24 : decode cX2_takeExponent 24 = .ok (.istore_n 1, 1) := by decide +kernel
theorem dX2_takeExponent_25 : decode cX2_takeExponent 25 = .ok (.iload_n 1, 1) := by decide +kernel
theorem dX2_takeExponent_26 : decode cX2_takeExponent 26 = .ok (.ifCond .ne 12, 3) := by decide +kernel
theorem dX2_takeExponent_29 : decode cX2_takeExponent 29 = .ok (.aload_n 0, 1) := by decide +kernel
theorem dX2_takeExponent_30 : decode cX2_takeExponent 30 = .ok (.invokevirtual 61, 3) := by decide +kernel
theorem dX2_takeExponent_33 : decode cX2_takeExponent 33 = .ok (.bipush 43, 2) := by decide +kernel
theorem dX2_takeExponent_35 : decode cX2_takeExponent 35 = .ok (.if_icmp .ne 13, 3) := by decide +kernel
theorem dX2_takeExponent_38 : decode cX2_takeExponent 38 = .ok (.aload_n 0, 1) := by decide +kernel
theorem dX2_takeExponent_39 : decode cX2_takeExponent 39 = .ok (.dup, 1) := by decide +kernel
theorem dX2_takeExponent_40 : decode cX2_takeExponent 40 = .ok (.getfield 18, 3) := by decide +kernel
theorem dX2_takeExponent_43 : decode cX2_takeExponent 43 = .ok (.iconst 1, 1) := by decide +kernel
theorem dX2_takeExponent_44 : decode cX2_takeExponent 44 = .ok (.iadd, 1) := by decide +kernel
theorem dX2_takeExponent_45 : decode cX2_takeExponent 45 = .ok (.putfield 18, 3) := by decide +kernel
theorem dX2_takeExponent_48 : decode cX2_takeExponent 48 = .ok (.iconst 0, 1) := by decide +kernel
theorem dX2_takeExponent_49 : decode cX2_takeExponent 49 = .ok (.istore_n 2, 1) := by decide +kernel
theorem dX2_takeExponent_50 : decode cX2_takeExponent 50 = .ok (.iconst 0, 1) := by decide +kernel
theorem dX2_takeExponent_51 : decode cX2_takeExponent 51 = .ok (.istore_n 3, 1) := by decide +kernel
theorem dX2_takeExponent_52 : decode cX2_takeExponent 52 = .ok (.iload_n 3, 1) := by decide +kernel
theorem dX2_takeExponent_53 : decode cX2_takeExponent 53 = .ok (.iconst 4, 1) := by decide +kernel
theorem dX2_takeExponent_54 : decode cX2_takeExponent 54 = .ok (.if_icmp .ge 36, 3) := by decide +kernel
theorem dX2_takeExponent_57 : decode cX2_takeExponent 57 = .ok (.aload_n 0, 1) := by decide +kernel
theorem dX2_takeExponent_58 : decode cX2_takeExponent 58 = .ok (.invokevirtual 94, 3) := by decide +kernel
theorem dX2_takeExponent_61 : decode cX2_takeExponent 61 = .ok (.ifCond .lt 29, 3) := by decide +kernel
theorem dX2_takeExponent_64 : decode cX2_takeExponent 64 = .ok (.bipush 10, 2) := by decide +kernel
theorem dX2_takeExponent_66 : decode cX2_takeExponent 66 = .ok (.iload_n 2, 1) := by decide +kernel
theorem dX2_takeExponent_67 : decode cX2_takeExponent 67 = .ok (.imul, 1) := by decide +kernel
theorem dX2_takeExponent_68 : decode cX2_takeExponent 68 = .ok (.aload_n 0, 1) := by decide +kernel
theorem dX2_takeExponent_69 : decode cX2_takeExponent 69 = .ok (.invokevirtual 94, 3) := by decide +kernel
theorem dX2_takeExponent_72 : decode cX2_takeExponent 72 = .ok (.iadd, 1) := by decide +kernel
theorem dX2_takeExponent_73 : decode cX2_takeExponent 73 = .ok (.istore_n 2, 1) := by decide +kernel
theorem dX2_takeExponent_74 : decode cX2_takeExponent 74 = .ok (.aload_n 0, 1) := by decide +kernel
theorem dX2_takeExponent_75 : decode cX2_takeExponent 75 = .ok (.dup, 1) := by decide +kernel
theorem dX2_takeExponent_76 : decode cX2_takeExponent 76 = .ok (.getfield 18, 3) := by decide +kernel
theorem dX2_takeExponent_79 : decode cX2_takeExponent 79 = .ok (.iconst 1, 1) := by decide +kernel
theorem dX2_takeExponent_80 : decode cX2_takeExponent 80 = .ok (.iadd, 1) := by decide +kernel
theorem dX2_takeExponent_81 : decode cX2_takeExponent 81 = .ok (.putfield 18, 3) := by decide +kernel
theorem dX2_takeExponent_84 : decode cX2_takeExponent 84 = .ok (.iinc 3 1, 3) := by decide +kernel
theorem dX2_takeExponent_87 : decode cX2_takeExponent 87 = .ok (.goto (-35), 3) := by decide +kernel
theorem dX2_takeExponent_90 : decode cX2_takeExponent 90 = .ok (.aload_n 0, 1) := by decide +kernel
theorem dX2_takeExponent_91 : decode cX2_takeExponent 91 = .ok (.dup, 1) := by decide +kernel
theorem dX2_takeExponent_92 : decode cX2_takeExponent 92 = .ok (.getfield 35, 3) := by decide +kernel
theorem dX2_takeExponent_95 : decode cX2_takeExponent 95 = .ok (.iload_n 1, 1) := by decide +kernel
theorem dX2_takeExponent_96 : decode cX2_takeExponent 96 = .ok (.ifCond .eq 8, 3) := by decide +kernel
theorem dX2_takeExponent_99 : decode cX2_takeExponent 99 = .ok (.iload_n 2, 1) := by decide +kernel
theorem dX2_takeExponent_100 : decode cX2_takeExponent 100 = .ok (.ineg, 1) := by decide +kernel
theorem dX2_takeExponent_101 : decode cX2_takeExponent 101 = .ok (.goto 4, 3) := by decide +kernel
theorem dX2_takeExponent_104 : decode cX2_takeExponent 104 = .ok (.iload_n 2, 1) := by decide +kernel
theorem dX2_takeExponent_105 : decode cX2_takeExponent 105 = .ok (.iadd, 1) := by decide +kernel
theorem dX2_takeExponent_106 : decode cX2_takeExponent 106 = .ok (.putfield 35, 3) := by decide +kernel
theorem dX2_takeExponent_109 : decode cX2_takeExponent 109 = .ok (.iload_n 3, 1) := by decide +kernel
theorem dX2_takeExponent_110 : decode cX2_takeExponent 110 = .ok (.ifCond .le 7, 3) := by decide +kernel
theorem dX2_takeExponent_113 : decode cX2_takeExponent 113 = .ok (.iconst 1, 1) := by decide +kernel
theorem dX2_takeExponent_114 : decode cX2_takeExponent 114 = .ok (.goto 4, 3) := by decide +kernel
theorem dX2_takeExponent_117 : decode cX2_takeExponent 117 = .ok (.iconst 0, 1) := by decide +kernel
theorem dX2_takeExponent_118 : decode cX2_takeExponent 118 = .ok (.ireturn, 1) := by decide +kernel
theorem dX2_takePrefixes_0 : decode cX2_takePrefixes 0 = .ok (.iconst 0, 1) := by decide +kernel
theorem dX2_takePrefixes_1 : decode cX2_takePrefixes 1 = .ok (.istore_n 1, 1) := by decide +kernel
theorem dX2_takePrefixes_2 : decode cX2_takePrefixes 2 = .ok (.iload_n 1, 1) := by decide +kernel
theorem dX2_takePrefixes_3 : decode cX2_takePrefixes 3 = .ok (.iconst 2, 1) := by decide +kernel
theorem dX2_takePrefixes_4 : decode cX2_takePrefixes 4 = .ok (.if_icmp .ge 108, 3) := by decide +kernel
theorem dX2_takePrefixes_7 : decode cX2_takePrefixes 7 = .ok (.aload_n 0, 1) := by decide +kernel
theorem dX2_takePrefixes_8 : decode cX2_takePrefixes 8 = .ok (.invokevirtual 61, 3) := by decide +kernel
theorem dX2_takePrefixes_11 : decode cX2_takePrefixes 11 = .ok (.bipush 35, 2) := by decide +kernel
theorem dX2_takePrefixes_13 : decode cX2_takePrefixes 13 = .ok (.if_icmp .ne 99, 3) := by decide +kernel
theorem dX2_takePrefixes_16 : decode cX2_takePrefixes 16 = .ok (.aload_n 0, 1) := by decide +kernel
theorem dX2_takePrefixes_17 : decode cX2_takePrefixes 17 = .ok (.dup, 1) := by decide +kernel
theorem dX2_takePrefixes_18 : decode cX2_takePrefixes 18 = .ok (.getfield 18, 3) := by decide +kernel
theorem dX2_takePrefixes_21 : decode cX2_takePrefixes 21 = .ok (.iconst 1, 1) := by decide +kernel
theorem dX2_takePrefixes_22 : decode cX2_takePrefixes 22 = .ok (.iadd, 1) := by decide +kernel
theorem dX2_takePrefixes_23 : decode cX2_takePrefixes 23 = .ok (.putfield 18, 3) := by decide +kernel
theorem dX2_takePrefixes_26 : decode cX2_takePrefixes 26 = .ok (.aload_n 0, 1) := by decide +kernel
theorem dX2_takePrefixes_27 : decode cX2_takePrefixes 27 = .ok (.invokevirtual 61, 3) := by decide +kernel
theorem dX2_takePrefixes_30 : decode cX2_takePrefixes 30 = .ok (.istore_n 2, 1) := by decide +kernel
theorem dX2_takePrefixes_31 : decode cX2_takePrefixes 31 = .ok (.aload_n 0, 1) := by decide +kernel
theorem dX2_takePrefixes_32 : decode cX2_takePrefixes 32 = .ok (.dup, 1) := by decide +kernel
theorem dX2_takePrefixes_33 : decode cX2_takePrefixes 33 = .ok (.getfield 18, 3) := by decide +kernel
theorem dX2_takePrefixes_36 : decode cX2_takePrefixes 36 = .ok (.iconst 1, 1) := by decide +kernel
theorem dX2_takePrefixes_37 : decode cX2_takePrefixes 37 = .ok (.iadd, 1) := by decide +kernel
theorem dX2_takePrefixes_38 : decode cX2_takePrefixes 38 = .ok (.putfield 18, 3) := by decide +kernel
theorem dX2_takePrefixes_41 : decode cX2_takePrefixes 41 = .ok (.iload_n 2, 1) := by decide +kernel
theorem dX2_takePrefixes_42 : decode cX2_takePrefixes 42 = .ok (.invokestatic 97, 3) := by decide +kernel
theorem dX2_takePrefixes_45 : decode cX2_takePrefixes 45 = .ok (.istore_n 3, 1) := by decide +kernel
theorem dX2_takePrefixes_46 : decode cX2_takePrefixes 46 = .ok (.iload_n 2, 1) := by decide +kernel
theorem dX2_takePrefixes_47 : decode cX2_takePrefixes 47 = .ok (.bipush 101, 2) := by decide +kernel
theorem dX2_takePrefixes_49 : decode cX2_takePrefixes 49 = .ok (.if_icmp .eq 9, 3) := by decide +kernel
theorem dX2_takePrefixes_52 : decode cX2_takePrefixes 52 = .ok (.iload_n 2, 1) := by decide +kernel
theorem dX2_takePrefixes_53 : decode cX2_takePrefixes 53 = .ok (.bipush 105, 2) := by decide +kernel
theorem dX2_takePrefixes_55 : decode cX2_takePrefixes 55 = .ok (.if_icmp .ne 7, 3) := by decide +kernel
theorem dX2_takePrefixes_58 : decode cX2_takePrefixes 58 = .ok (.iconst 1, 1) := by decide +kernel
theorem dX2_takePrefixes_59 : decode cX2_takePrefixes 59 = .ok (.goto 4, 3) := by decide +kernel
theorem dX2_takePrefixes_62 : decode cX2_takePrefixes 62 = .ok (.iconst 0, 1) := by decide +kernel
theorem dX2_takePrefixes_63 : decode cX2_takePrefixes 63 = .ok (.istore 4, 2) := by decide +kernel
theorem dX2_takePrefixes_65 : decode cX2_takePrefixes 65 = .ok (.iload_n 3, 1) := by decide +kernel
theorem dX2_takePrefixes_66 : decode cX2_takePrefixes 66 = .ok (.ifCond .eq 18, 3) := by decide +kernel
theorem dX2_takePrefixes_69 : decode cX2_takePrefixes 69 = .ok (.aload_n 0, 1) := by decide +kernel
theorem dX2_takePrefixes_70 : decode cX2_takePrefixes 70 = .ok (.getfield 22, 3) := by decide +kernel
theorem dX2_takePrefixes_73 : decode cX2_takePrefixes 73 = .ok (.ifCond .ne 11, 3) := by decide +kernel
theorem dX2_takePrefixes_76 : decode cX2_takePrefixes 76 = .ok (.aload_n 0, 1) := by decide +kernel
theorem dX2_takePrefixes_77 : decode cX2_takePrefixes 77 = .ok (.iload_n 3, 1) := by decide +kernel
theorem dX2_takePrefixes_78 : decode cX2_takePrefixes 78 = .ok (.putfield 22, 3) := by decide +kernel
theorem dX2_takePrefixes_81 : decode cX2_takePrefixes 81 = .ok (.goto 25, 3) := by decide +kernel
theorem dX2_takePrefixes_84 : decode cX2_takePrefixes 84 = .ok (.iload 4, 2) := by decide +kernel
theorem dX2_takePrefixes_86 : decode cX2_takePrefixes 86 = .ok (.ifCond .eq 18, 3) := by decide +kernel
theorem dX2_takePrefixes_89 : decode cX2_takePrefixes 89 = .ok (.aload_n 0, 1) := by decide +kernel
theorem dX2_takePrefixes_90 : decode cX2_takePrefixes 90 = .ok (.getfield 25, 3) := by decide +kernel
theorem dX2_takePrefixes_93 : decode cX2_takePrefixes 93 = .ok (.ifCond .ne 11, 3) := by decide +kernel
theorem dX2_takePrefixes_96 : decode cX2_takePrefixes 96 = .ok (.aload_n 0, 1) := by decide +kernel
theorem dX2_takePrefixes_97 : decode cX2_takePrefixes 97 = .ok (.iload_n 2, 1) := by decide +kernel
theorem dX2_takePrefixes_98 : decode cX2_takePrefixes 98 = .ok (.putfield 25, 3) := by decide +kernel
theorem dX2_takePrefixes_101 : decode cX2_takePrefixes 101 = .ok (.goto 5, 3) := by decide +kernel
theorem dX2_takePrefixes_104 : decode cX2_takePrefixes 104 = .ok (.iconst 0, 1) := by decide +kernel
theorem dX2_takePrefixes_105 : decode cX2_takePrefixes 105 = .ok (.ireturn, 1) := by decide +kernel
theorem dX2_takePrefixes_106 : decode cX2_takePrefixes 106 = .ok (.iinc 1 1, 3) := by decide +kernel
theorem dX2_takePrefixes_109 : decode cX2_takePrefixes 109 = .ok (.goto (-107), 3) := by decide +kernel
theorem dX2_takePrefixes_112 : decode cX2_takePrefixes 112 = .ok (.iconst 1, 1) := by decide +kernel
theorem dX2_takePrefixes_113 : decode cX2_takePrefixes 113 = .ok (.ireturn, 1) := by decide +kernel
theorem dX2_baseOf_0 : decode cX2_baseOf 0 = .ok (.iload_n 0, 1) := by decide +kernel
theorem dX2_baseOf_1 : decode cX2_baseOf 1 = .ok (.lookupswitch 54 #[(98, 46), (100, 51), (111, 48), (120, 43)], 43) := by decide +kernel
theorem dX2_baseOf_44 : decode cX2_baseOf 44 = .ok (.bipush 16, 2) := by decide +kernel
theorem dX2_baseOf_46 : decode cX2_baseOf 46 = .ok (.ireturn, 1) := by decide +kernel
theorem dX2_baseOf_47 : decode cX2_baseOf 47 = .ok (.iconst 2, 1) := by decide +kernel
theorem dX2_baseOf_48 : decode cX2_baseOf 48 = .ok (.ireturn, 1) := by decide +kernel
theorem dX2_baseOf_49 : decode cX2_baseOf 49 = .ok (.bipush 8, 2) := by decide +kernel
theorem dX2_baseOf_51 : decode cX2_baseOf 51 = .ok (.ireturn, 1) := by decide +kernel
theorem dX2_baseOf_52 : decode cX2_baseOf 52 = .ok (.bipush 10, 2) := by decide +kernel
theorem dX2_baseOf_54 : decode cX2_baseOf 54 = .ok (.ireturn, 1) := by decide +kernel
theorem dX2_baseOf_55 : decode cX2_baseOf 55 = .ok (.iconst 0, 1) := by decide +kernel
theorem dX2_baseOf_56 : decode cX2_baseOf 56 = .ok (.ireturn, 1) := by decide +kernel
theorem dX2_takeSign_0 : decode cX2_takeSign 0 = .ok (.aload_n 0, 1) := by decide +kernel
theorem dX2_takeSign_1 : decode cX2_takeSign 1 = .ok (.aload_n 0, 1) := by decide +kernel
theorem dX2_takeSign_2 : decode cX2_takeSign 2 = .ok (.invokevirtual 61, 3) := by decide +kernel
theorem dX2_takeSign_5 : decode cX2_takeSign 5 = .ok (.bipush 45, 2) := by decide +kernel
theorem dX2_takeSign_7 : decode cX2_takeSign 7 = .ok (.if_icmp .ne 7, 3) := by decide +kernel
theorem dX2_takeSign_10 : decode cX2_takeSign 10 = .ok (.iconst 1, 1) := by decide +kernel
theorem dX2_takeSign_11 : decode cX2_takeSign 11 = .ok (.goto 4, 3) := by decide +kernel
theorem dX2_takeSign_14 : decode cX2_takeSign 14 = .ok (.iconst 0, 1) := by decide +kernel
theorem dX2_takeSign_15 : decode cX2_takeSign 15 = .ok (.putfield 32, 3) := by decide +kernel
theorem dX2_takeSign_18 : decode cX2_takeSign 18 = .ok (.aload_n 0, 1) := by decide +kernel
theorem dX2_takeSign_19 : decode cX2_takeSign 19 = .ok (.aload_n 0, 1) := by decide +kernel
theorem dX2_takeSign_20 : decode cX2_takeSign 20 = .ok (.getfield 32, 3) := by decide +kernel
theorem dX2_takeSign_23 : decode cX2_takeSign 23 = .ok (.ifCond .ne 12, 3) := by decide +kernel
theorem dX2_takeSign_26 : decode cX2_takeSign 26 = .ok (.aload_n 0, 1) := by decide +kernel
theorem dX2_takeSign_27 : decode cX2_takeSign 27 = .ok (.invokevirtual 61, 3) := by decide +kernel
theorem dX2_takeSign_30 : decode cX2_takeSign 30 = .ok (.bipush 43, 2) := by decide +kernel
theorem dX2_takeSign_32 : decode cX2_takeSign 32 = .ok (.if_icmp .ne 7, 3) := by decide +kernel
theorem dX2_takeSign_35 : decode cX2_takeSign 35 = .ok (.iconst 1, 1) := by decide +kernel
theorem dX2_takeSign_36 : decode cX2_takeSign 36 = .ok (.goto 4, 3) := by decide +kernel
theorem dX2_takeSign_39 : decode cX2_takeSign 39 = .ok (.iconst 0, 1) := by decide +kernel
theorem dX2_takeSign_40 : decode cX2_takeSign 40 = .ok (.putfield 28, 3) := by decide +kernel
theorem dX2_takeSign_43 : decode cX2_takeSign 43 = .ok (.aload_n 0, 1) := by decide +kernel
theorem dX2_takeSign_44 : decode cX2_takeSign 44 = .ok (.getfield 28, 3) := by decide +kernel
theorem dX2_takeSign_47 : decode cX2_takeSign 47 = .ok (.ifCond .eq 13, 3) := by decide +kernel
theorem dX2_takeSign_50 : decode cX2_takeSign 50 = .ok (.aload_n 0, 1) := by decide +kernel
theorem dX2_takeSign_51 : decode cX2_takeSign 51 = .ok (.dup, 1) := by decide +kernel
theorem dX2_takeSign_52 : decode cX2_takeSign 52 = .ok (.getfield 18, 3) := by decide +kernel
theorem dX2_takeSign_55 : decode cX2_takeSign 55 = .ok (.iconst 1, 1) := by decide +kernel
theorem dX2_takeSign_56 : decode cX2_takeSign 56 = .ok (.iadd, 1) := by decide +kernel
theorem dX2_takeSign_57 : decode cX2_takeSign 57 = .ok (.putfield 18, 3) := by decide +kernel
theorem dX2_takeSign_60 : decode cX2_takeSign 60 = .ok (.return_, 1) := by decide +kernel
theorem dX2_takeWord_0 : decode cX2_takeWord 0 = .ok (.iconst 0, 1) := by decide +kernel
theorem dX2_takeWord_1 : decode cX2_takeWord 1 = .ok (.istore_n 2, 1) := by decide +kernel
theorem dX2_takeWord_2 : decode cX2_takeWord 2 = .ok (.iload_n 2, 1) := by decide +kernel
theorem dX2_takeWord_3 : decode cX2_takeWord 3 = .ok (.aload_n 1, 1) := by decide +kernel
theorem dX2_takeWord_4 : decode cX2_takeWord 4 = .ok (.invokevirtual 101, 3) := by decide +kernel
theorem dX2_takeWord_7 : decode cX2_takeWord 7 = .ok (.if_icmp .ge 32, 3) := by decide +kernel
theorem dX2_takeWord_10 : decode cX2_takeWord 10 = .ok (.aload_n 0, 1) := by decide +kernel
theorem dX2_takeWord_11 : decode cX2_takeWord 11 = .ok (.getfield 12, 3) := by decide +kernel
theorem dX2_takeWord_14 : decode cX2_takeWord 14 = .ok (.aload_n 0, 1) := by decide +kernel
theorem dX2_takeWord_15 : decode cX2_takeWord 15 = .ok (.getfield 18, 3) := by decide +kernel
theorem dX2_takeWord_18 : decode cX2_takeWord 18 = .ok (.iload_n 2, 1) := by decide +kernel
theorem dX2_takeWord_19 : decode cX2_takeWord 19 = .ok (.iadd, 1) := by decide +kernel
theorem dX2_takeWord_20 : decode cX2_takeWord 20 = .ok (.invokevirtual 106, 3) := by decide +kernel
theorem dX2_takeWord_23 : decode cX2_takeWord 23 = .ok (.aload_n 1, 1) := by decide +kernel
theorem dX2_takeWord_24 : decode cX2_takeWord 24 = .ok (.iload_n 2, 1) := by decide +kernel
theorem dX2_takeWord_25 : decode cX2_takeWord 25 = .ok (.invokevirtual 109, 3) := by decide +kernel
theorem dX2_takeWord_28 : decode cX2_takeWord 28 = .ok (.if_icmp .eq 5, 3) := by decide +kernel
theorem dX2_takeWord_31 : decode cX2_takeWord 31 = .ok (.iconst 0, 1) := by decide +kernel
theorem dX2_takeWord_32 : decode cX2_takeWord 32 = .ok (.ireturn, 1) := by decide +kernel
theorem dX2_takeWord_33 : decode cX2_takeWord 33 = .ok (.iinc 2 1, 3) := by decide +kernel
theorem dX2_takeWord_36 : decode cX2_takeWord 36 = .ok (.goto (-34), 3) := by decide +kernel
theorem dX2_takeWord_39 : decode cX2_takeWord 39 = .ok (.aload_n 0, 1) := by decide +kernel
theorem dX2_takeWord_40 : decode cX2_takeWord 40 = .ok (.dup, 1) := by decide +kernel
theorem dX2_takeWord_41 : decode cX2_takeWord 41 = .ok (.getfield 18, 3) := by decide +kernel
theorem dX2_takeWord_44 : decode cX2_takeWord 44 = .ok (.aload_n 1, 1) := by decide +kernel
theorem dX2_takeWord_45 : decode cX2_takeWord 45 = .ok (.invokevirtual 101, 3) := by decide +kernel
theorem dX2_takeWord_48 : decode cX2_takeWord 48 = .ok (.iadd, 1) := by decide +kernel
theorem dX2_takeWord_49 : decode cX2_takeWord 49 = .ok (.putfield 18, 3) := by decide +kernel
theorem dX2_takeWord_52 : decode cX2_takeWord 52 = .ok (.iconst 1, 1) := by decide +kernel
theorem dX2_takeWord_53 : decode cX2_takeWord 53 = .ok (.ireturn, 1) := by decide +kernel
theorem dX2_takeDigits_0 : decode cX2_takeDigits 0 = .ok (.iconst 0, 1) := by decide +kernel
theorem dX2_takeDigits_1 : decode cX2_takeDigits 1 = .ok (.istore_n 2, 1) := by decide +kernel
theorem dX2_takeDigits_2 : decode cX2_takeDigits 2 = .ok (.iload_n 2, 1) := by decide +kernel
theorem dX2_takeDigits_3 : decode cX2_takeDigits 3 = .ok (.sipush 400, 3) := by decide +kernel
theorem dX2_takeDigits_6 : decode cX2_takeDigits 6 = .ok (.if_icmp .ge 55, 3) := by decide +kernel
theorem dX2_takeDigits_9 : decode cX2_takeDigits 9 = .ok (.aload_n 0, 1) := by decide +kernel
theorem dX2_takeDigits_10 : decode cX2_takeDigits 10 = .ok (.invokevirtual 94, 3) := by decide +kernel
theorem dX2_takeDigits_13 : decode cX2_takeDigits 13 = .ok (.ifCond .lt 48, 3) := by decide +kernel
theorem dX2_takeDigits_16 : decode cX2_takeDigits 16 = .ok (.aload_n 1, 1) := by decide +kernel
theorem dX2_takeDigits_17 : decode cX2_takeDigits 17 = .ok (.aload_n 0, 1) := by decide +kernel
theorem dX2_takeDigits_18 : decode cX2_takeDigits 18 = .ok (.getfield 22, 3) := by decide +kernel
theorem dX2_takeDigits_21 : decode cX2_takeDigits 21 = .ok (.aload_n 0, 1) := by decide +kernel
theorem dX2_takeDigits_22 : decode cX2_takeDigits 22 = .ok (.invokevirtual 94, 3) := by decide +kernel
theorem dX2_takeDigits_25 : decode cX2_takeDigits 25 = .ok (.invokevirtual 113, 3) := by decide +kernel
theorem dX2_takeDigits_28 : decode cX2_takeDigits 28 = .ok (.aload_n 1, 1) := by decide +kernel
theorem dX2_takeDigits_29 : decode cX2_takeDigits 29 = .ok (.invokevirtual 80, 3) := by decide +kernel
theorem dX2_takeDigits_32 : decode cX2_takeDigits 32 = .ok (.ifCond .ne 13, 3) := by decide +kernel
theorem dX2_takeDigits_35 : decode cX2_takeDigits 35 = .ok (.aload_n 0, 1) := by decide +kernel
theorem dX2_takeDigits_36 : decode cX2_takeDigits 36 = .ok (.dup, 1) := by decide +kernel
theorem dX2_takeDigits_37 : decode cX2_takeDigits 37 = .ok (.getfield 38, 3) := by decide +kernel
theorem dX2_takeDigits_40 : decode cX2_takeDigits 40 = .ok (.iconst 1, 1) := by decide +kernel
theorem dX2_takeDigits_41 : decode cX2_takeDigits 41 = .ok (.iadd, 1) := by decide +kernel
theorem dX2_takeDigits_42 : decode cX2_takeDigits 42 = .ok (.putfield 38, 3) := by decide +kernel
theorem dX2_takeDigits_45 : decode cX2_takeDigits 45 = .ok (.aload_n 0, 1) := by decide +kernel
theorem dX2_takeDigits_46 : decode cX2_takeDigits 46 = .ok (.dup, 1) := by decide +kernel
theorem dX2_takeDigits_47 : decode cX2_takeDigits 47 = .ok (.getfield 18, 3) := by decide +kernel
theorem dX2_takeDigits_50 : decode cX2_takeDigits 50 = .ok (.iconst 1, 1) := by decide +kernel
theorem dX2_takeDigits_51 : decode cX2_takeDigits 51 = .ok (.iadd, 1) := by decide +kernel
theorem dX2_takeDigits_52 : decode cX2_takeDigits 52 = .ok (.putfield 18, 3) := by decide +kernel
theorem dX2_takeDigits_55 : decode cX2_takeDigits 55 = .ok (.iinc 2 1, 3) := by decide +kernel
theorem dX2_takeDigits_58 : decode cX2_takeDigits 58 = .ok (.goto (-56), 3) := by decide +kernel
theorem dX2_takeDigits_61 : decode cX2_takeDigits 61 = .ok (.iload_n 2, 1) := by decide +kernel
theorem dX2_takeDigits_62 : decode cX2_takeDigits 62 = .ok (.ireturn, 1) := by decide +kernel
theorem dX2_current_0 : decode cX2_current 0 = .ok (.aload_n 0, 1) := by decide +kernel
theorem dX2_current_1 : decode cX2_current 1 = .ok (.getfield 12, 3) := by decide +kernel
theorem dX2_current_4 : decode cX2_current 4 = .ok (.aload_n 0, 1) := by decide +kernel
theorem dX2_current_5 : decode cX2_current 5 = .ok (.getfield 18, 3) := by decide +kernel
theorem dX2_current_8 : decode cX2_current 8 = .ok (.invokevirtual 106, 3) := by decide +kernel
theorem dX2_current_11 : decode cX2_current 11 = .ok (.ireturn, 1) := by decide +kernel
theorem dX2_currentDigit_0 : decode cX2_currentDigit 0 = .ok (.aload_n 0, 1) := by decide +kernel
theorem dX2_currentDigit_1 : decode cX2_currentDigit 1 = .ok (.getfield 12, 3) := by decide +kernel
theorem dX2_currentDigit_4 : decode cX2_currentDigit 4 = .ok (.aload_n 0, 1) := by decide +kernel
theorem dX2_currentDigit_5 : decode cX2_currentDigit 5 = .ok (.getfield 18, 3) := by decide +kernel
theorem dX2_currentDigit_8 : decode cX2_currentDigit 8 = .ok (.invokevirtual 106, 3) := by decide +kernel
theorem dX2_currentDigit_11 : decode cX2_currentDigit 11 = .ok (.istore_n 1, 1) := by decide +kernel
theorem dX2_currentDigit_12 : decode cX2_currentDigit 12 = .ok (.iconst (-1), 1) := by decide +kernel
theorem dX2_currentDigit_13 : decode cX2_currentDigit 13 = .ok (.istore_n 2, 1) := by decide +kernel
theorem dX2_currentDigit_14 : decode cX2_currentDigit 14 = .ok (.iload_n 1, 1) := by decide +kernel
theorem dX2_currentDigit_15 : decode cX2_currentDigit 15 = .ok (.bipush 48, 2) := by decide +kernel
theorem dX2_currentDigit_17 : decode cX2_currentDigit 17 = .ok (.if_icmp .lt 17, 3) := by decide +kernel
theorem dX2_currentDigit_20 : decode cX2_currentDigit 20 = .ok (.iload_n 1, 1) := by decide +kernel
theorem dX2_currentDigit_21 : decode cX2_currentDigit 21 = .ok (.bipush 57, 2) := by decide +kernel
theorem dX2_currentDigit_23 : decode cX2_currentDigit 23 = .ok (.if_icmp .gt 11, 3) := by decide +kernel
theorem dX2_currentDigit_26 : decode cX2_currentDigit 26 = .ok (.iload_n 1, 1) := by decide +kernel
theorem dX2_currentDigit_27 : decode cX2_currentDigit 27 = .ok (.bipush 48, 2) := by decide +kernel
theorem dX2_currentDigit_29 : decode cX2_currentDigit 29 = .ok (.isub, 1) := by decide +kernel
theorem dX2_currentDigit_30 : decode cX2_currentDigit 30 = .ok (.istore_n 2, 1) := by decide +kernel
theorem dX2_currentDigit_31 : decode cX2_currentDigit 31 = .ok (.goto 46, 3) := by decide +kernel
theorem dX2_currentDigit_34 : decode cX2_currentDigit 34 = .ok (.iload_n 1, 1) := by decide +kernel
theorem dX2_currentDigit_35 : decode cX2_currentDigit 35 = .ok (.bipush 97, 2) := by decide +kernel
theorem dX2_currentDigit_37 : decode cX2_currentDigit 37 = .ok (.if_icmp .lt 20, 3) := by decide +kernel
theorem dX2_currentDigit_40 : decode cX2_currentDigit 40 = .ok (.iload_n 1, 1) := by decide +kernel
theorem dX2_currentDigit_41 : decode cX2_currentDigit 41 = .ok (.bipush 102, 2) := by decide +kernel
theorem dX2_currentDigit_43 : decode cX2_currentDigit 43 = .ok (.if_icmp .gt 14, 3) := by decide +kernel
theorem dX2_currentDigit_46 : decode cX2_currentDigit 46 = .ok (.iload_n 1, 1) := by decide +kernel
theorem dX2_currentDigit_47 : decode cX2_currentDigit 47 = .ok (.bipush 97, 2) := by decide +kernel
theorem dX2_currentDigit_49 : decode cX2_currentDigit 49 = .ok (.isub, 1) := by decide +kernel
theorem dX2_currentDigit_50 : decode cX2_currentDigit 50 = .ok (.bipush 10, 2) := by decide +kernel
theorem dX2_currentDigit_52 : decode cX2_currentDigit 52 = .ok (.iadd, 1) := by decide +kernel
theorem dX2_currentDigit_53 : decode cX2_currentDigit 53 = .ok (.istore_n 2, 1) := by decide +kernel
theorem dX2_currentDigit_54 : decode cX2_currentDigit 54 = .ok (.goto 23, 3) := by decide +kernel
theorem dX2_currentDigit_57 : decode cX2_currentDigit 57 = .ok (.iload_n 1, 1) := by decide +kernel
theorem dX2_currentDigit_58 : decode cX2_currentDigit 58 = .ok (.bipush 65, 2) := by decide +kernel
theorem dX2_currentDigit_60 : decode cX2_currentDigit 60 = .ok (.if_icmp .lt 17, 3) := by decide +kernel
theorem dX2_currentDigit_63 : decode cX2_currentDigit 63 = .ok (.iload_n 1, 1) := by decide +kernel
theorem dX2_currentDigit_64 : decode cX2_currentDigit 64 = .ok (.bipush 70, 2) := by decide +kernel
theorem dX2_currentDigit_66 : decode cX2_currentDigit 66 = .ok (.if_icmp .gt 11, 3) := by decide +kernel
theorem dX2_currentDigit_69 : decode cX2_currentDigit 69 = .ok (.iload_n 1, 1) := by decide +kernel
theorem dX2_currentDigit_70 : decode cX2_currentDigit 70 = .ok (.bipush 65, 2) := by decide +kernel
theorem dX2_currentDigit_72 : decode cX2_currentDigit 72 = .ok (.isub, 1) := by decide +kernel
theorem dX2_currentDigit_73 : decode cX2_currentDigit 73 = .ok (.bipush 10, 2) := by decide +kernel
theorem dX2_currentDigit_75 : decode cX2_currentDigit 75 = .ok (.iadd, 1) := by decide +kernel
theorem dX2_currentDigit_76 : decode cX2_currentDigit 76 = .ok (.istore_n 2, 1) := by decide +kernel
theorem dX2_currentDigit_77 : decode cX2_currentDigit 77 = .ok (.iload_n 2, 1) := by decide +kernel
theorem dX2_currentDigit_78 : decode cX2_currentDigit 78 = .ok (.aload_n 0, 1) := by decide +kernel
theorem dX2_currentDigit_79 : decode cX2_currentDigit 79 = .ok (.getfield 22, 3) := by decide +kernel
theorem dX2_currentDigit_82 : decode cX2_currentDigit 82 = .ok (.if_icmp .ge 7, 3) := by decide +kernel
theorem dX2_currentDigit_85 : decode cX2_currentDigit 85 = .ok (.iload_n 2, 1) := by decide +kernel
theorem dX2_currentDigit_86 : decode cX2_currentDigit 86 = .ok (.goto 4, 3) := by decide +kernel
theorem dX2_currentDigit_89 : decode cX2_currentDigit 89 = .ok (.iconst (-1), 1) := by decide +kernel
theorem dX2_currentDigit_90 : decode cX2_currentDigit 90 = .ok (.ireturn, 1) := by decide +kernel
theorem dX2_isExponentMark_0 : decode cX2_isExponentMark 0 = .ok (.iload_n 0, 1) := by decide +kernel
theorem dX2_isExponentMark_1 : decode cX2_isExponentMark 1 = .ok (.bipush 101, 2) := by decide +kernel
theorem dX2_isExponentMark_3 : decode cX2_isExponentMark 3 = .ok (.if_icmp .eq 9, 3) := by decide +kernel
theorem dX2_isExponentMark_6 : decode cX2_isExponentMark 6 = .ok (.iload_n 0, 1) := by decide +kernel
theorem dX2_isExponentMark_7 : decode cX2_isExponentMark 7 = .ok (.bipush 69, 2) := by decide +kernel
theorem dX2_isExponentMark_9 : decode cX2_isExponentMark 9 = .ok (.if_icmp .ne 7, 3) := by decide +kernel
theorem dX2_isExponentMark_12 : decode cX2_isExponentMark 12 = .ok (.iconst 1, 1) := by decide +kernel
theorem dX2_isExponentMark_13 : decode cX2_isExponentMark 13 = .ok (.goto 4, 3) := by decide +kernel
theorem dX2_isExponentMark_16 : decode cX2_isExponentMark 16 = .ok (.iconst 0, 1) := by decide +kernel
theorem dX2_isExponentMark_17 : decode cX2_isExponentMark 17 = .ok (.ireturn, 1) := by decide +kernel
theorem dJ6_compare_7cf53_0 : decode cJ6_compare_7cf53 0 = .ok (.iload_n 0, 1) := by decide +kernel
theorem dJ6_compare_7cf53_1 : decode cJ6_compare_7cf53 1 = .ok (.iload_n 1, 1) := by decide +kernel
theorem dJ6_compare_7cf53_2 : decode cJ6_compare_7cf53 2 = .ok (.if_icmp .ge 7, 3) := by decide +kernel
theorem dJ6_compare_7cf53_5 : decode cJ6_compare_7cf53 5 = .ok (.iconst (-1), 1) := by decide +kernel
theorem dJ6_compare_7cf53_6 : decode cJ6_compare_7cf53 6 = .ok (.goto 13, 3) := by decide +kernel
theorem dJ6_compare_7cf53_9 : decode cJ6_compare_7cf53 9 = .ok (.iload_n 0, 1) := by decide +kernel
theorem dJ6_compare_7cf53_10 : decode cJ6_compare_7cf53 10 = .ok (.iload_n 1, 1) := by decide +kernel
theorem dJ6_compare_7cf53_11 : decode cJ6_compare_7cf53 11 = .ok (.if_icmp .ne 7, 3) := by decide +kernel
theorem dJ6_compare_7cf53_14 : decode cJ6_compare_7cf53 14 = .ok (.iconst 0, 1) := by decide +kernel
theorem dJ6_compare_7cf53_15 : decode cJ6_compare_7cf53 15 = .ok (.goto 4, 3) := by decide +kernel
theorem dJ6_compare_7cf53_18 : decode cJ6_compare_7cf53 18 = .ok (.iconst 1, 1) := by decide +kernel
theorem dJ6_compare_7cf53_19 : decode cJ6_compare_7cf53 19 = .ok (.ireturn, 1) := by decide +kernel
theorem dJ6_compareUnsigned_7cf53_0 : decode cJ6_compareUnsigned_7cf53 0 = .ok (.iload_n 0, 1) := by decide +kernel
theorem dJ6_compareUnsigned_7cf53_1 : decode cJ6_compareUnsigned_7cf53 1 = .ok (.ldc 127, 2) := by decide +kernel
theorem dJ6_compareUnsigned_7cf53_3 : decode cJ6_compareUnsigned_7cf53 3 = .ok (.iadd, 1) := by decide +kernel
theorem dJ6_compareUnsigned_7cf53_4 : decode cJ6_compareUnsigned_7cf53 4 = .ok (.iload_n 1, 1) := by decide +kernel
theorem dJ6_compareUnsigned_7cf53_5 : decode cJ6_compareUnsigned_7cf53 5 = .ok (.ldc 127, 2) := by decide +kernel
theorem dJ6_compareUnsigned_7cf53_7 : decode cJ6_compareUnsigned_7cf53 7 = .ok (.iadd, 1) := by decide +kernel
theorem dJ6_compareUnsigned_7cf53_8 : decode cJ6_compareUnsigned_7cf53 8 = .ok (.invokestatic 259, 3) := by decide +kernel
theorem dJ6_compareUnsigned_7cf53_11 : decode cJ6_compareUnsigned_7cf53 11 = .ok (.ireturn, 1) := by decide +kernel
theorem dJ6_numberOfLeadingZeros_0f7a4_0 : decode cJ6_numberOfLeadingZeros_0f7a4 0 = .ok (.iload_n 0, 1) := by decide +kernel
theorem dJ6_numberOfLeadingZeros_0f7a4_1 : decode cJ6_numberOfLeadingZeros_0f7a4 1 = .ok (.ifCond .gt 14, 3) := by decide +kernel
theorem dJ6_numberOfLeadingZeros_0f7a4_4 : decode cJ6_numberOfLeadingZeros_0f7a4 4 = .ok (.iload_n 0, 1) := by decide +kernel
theorem dJ6_numberOfLeadingZeros_0f7a4_5 : decode cJ6_numberOfLeadingZeros_0f7a4 5 = .ok (.ifCond .ne 8, 3) := by decide +kernel
theorem dJ6_numberOfLeadingZeros_0f7a4_8 : decode cJ6_numberOfLeadingZeros_0f7a4 8 = .ok (.bipush 32, 2) := by decide +kernel
theorem dJ6_numberOfLeadingZeros_0f7a4_10 : decode cJ6_numberOfLeadingZeros_0f7a4 10 = .ok (.goto 4, 3) := by decide +kernel
theorem dJ6_numberOfLeadingZeros_0f7a4_13 : decode cJ6_numberOfLeadingZeros_0f7a4 13 = .ok (.iconst 0, 1) := by decide +kernel
theorem dJ6_numberOfLeadingZeros_0f7a4_14 : decode cJ6_numberOfLeadingZeros_0f7a4 14 = .ok (.ireturn, 1) := by decide +kernel
theorem dJ6_numberOfLeadingZeros_0f7a4_15 : decode cJ6_numberOfLeadingZeros_0f7a4 15 = .ok (.bipush 31, 2) := by decide +kernel
theorem dJ6_numberOfLeadingZeros_0f7a4_17 : decode cJ6_numberOfLeadingZeros_0f7a4 17 = .ok (.istore_n 1, 1) := by decide +kernel
theorem dJ6_numberOfLeadingZeros_0f7a4_18 : decode cJ6_numberOfLeadingZeros_0f7a4 18 = .ok (.iload_n 0, 1) := by decide +kernel
theorem dJ6_numberOfLeadingZeros_0f7a4_19 : decode cJ6_numberOfLeadingZeros_0f7a4 19 = .ok (.ldc_w 264, 3) := by decide +kernel
theorem dJ6_numberOfLeadingZeros_0f7a4_22 : decode cJ6_numberOfLeadingZeros_0f7a4 22 = .ok (.if_icmp .lt 11, 3) := by decide +kernel
theorem dJ6_numberOfLeadingZeros_0f7a4_25 : decode cJ6_numberOfLeadingZeros_0f7a4 25 = .ok (.iinc 1 (-16), 3) := by decide +kernel
theorem dJ6_numberOfLeadingZeros_0f7a4_28 : decode cJ6_numberOfLeadingZeros_0f7a4 28 = .ok (.iload_n 0, 1) := by decide +kernel
theorem dJ6_numberOfLeadingZeros_0f7a4_29 : decode cJ6_numberOfLeadingZeros_0f7a4 29 = .ok (.bipush 16, 2) := by decide +kernel
theorem dJ6_numberOfLeadingZeros_0f7a4_31 : decode cJ6_numberOfLeadingZeros_0f7a4 31 = .ok (.iushr, 1) := by decide +kernel
theorem dJ6_numberOfLeadingZeros_0f7a4_32 : decode cJ6_numberOfLeadingZeros_0f7a4 32 = .ok (.istore_n 0, 1) := by decide +kernel
theorem dJ6_numberOfLeadingZeros_0f7a4_33 : decode cJ6_numberOfLeadingZeros_0f7a4 33 = .ok (.iload_n 0, 1) := by decide +kernel
theorem dJ6_numberOfLeadingZeros_0f7a4_34 : decode cJ6_numberOfLeadingZeros_0f7a4 34 = .ok (.sipush 256, 3) := by decide +kernel
theorem dJ6_numberOfLeadingZeros_0f7a4_37 : decode cJ6_numberOfLeadingZeros_0f7a4 37 = .ok (.if_icmp .lt 11, 3) := by decide +kernel
theorem dJ6_numberOfLeadingZeros_0f7a4_40 : decode cJ6_numberOfLeadingZeros_0f7a4 40 = .ok (.iinc 1 (-8), 3) := by decide +kernel
theorem dJ6_numberOfLeadingZeros_0f7a4_43 : decode cJ6_numberOfLeadingZeros_0f7a4 43 = .ok (.iload_n 0, 1) := by decide +kernel
theorem dJ6_numberOfLeadingZeros_0f7a4_44 : decode cJ6_numberOfLeadingZeros_0f7a4 44 = .ok (.bipush 8, 2) := by decide +kernel
theorem dJ6_numberOfLeadingZeros_0f7a4_46 : decode cJ6_numberOfLeadingZeros_0f7a4 46 = .ok (.iushr, 1) := by decide +kernel
theorem dJ6_numberOfLeadingZeros_0f7a4_47 : decode cJ6_numberOfLeadingZeros_0f7a4 47 = .ok (.istore_n 0, 1) := by decide +kernel
theorem dJ6_numberOfLeadingZeros_0f7a4_48 : decode cJ6_numberOfLeadingZeros_0f7a4 48 = .ok (.iload_n 0, 1) := by decide +kernel
theorem dJ6_numberOfLeadingZeros_0f7a4_49 : decode cJ6_numberOfLeadingZeros_0f7a4 49 = .ok (.bipush 16, 2) := by decide +kernel
theorem dJ6_numberOfLeadingZeros_0f7a4_51 : decode cJ6_numberOfLeadingZeros_0f7a4 51 = .ok (.if_icmp .lt 10, 3) := by decide +kernel
theorem dJ6_numberOfLeadingZeros_0f7a4_54 : decode cJ6_numberOfLeadingZeros_0f7a4 54 = .ok (.iinc 1 (-4), 3) := by decide +kernel
theorem dJ6_numberOfLeadingZeros_0f7a4_57 : decode cJ6_numberOfLeadingZeros_0f7a4 57 = .ok (.iload_n 0, 1) := by decide +kernel
theorem dJ6_numberOfLeadingZeros_0f7a4_58 : decode cJ6_numberOfLeadingZeros_0f7a4 58 = .ok (.iconst 4, 1) := by decide +kernel
theorem dJ6_numberOfLeadingZeros_0f7a4_59 : decode cJ6_numberOfLeadingZeros_0f7a4 59 = .ok (.iushr, 1) := by decide +kernel
theorem dJ6_numberOfLeadingZeros_0f7a4_60 : decode cJ6_numberOfLeadingZeros_0f7a4 60 = .ok (.istore_n 0, 1) := by decide +kernel
theorem dJ6_numberOfLeadingZeros_0f7a4_61 : decode cJ6_numberOfLeadingZeros_0f7a4 61 = .ok (.iload_n 0, 1) := by decide +kernel
theorem dJ6_numberOfLeadingZeros_0f7a4_62 : decode cJ6_numberOfLeadingZeros_0f7a4 62 = .ok (.iconst 4, 1) := by decide +kernel
theorem dJ6_numberOfLeadingZeros_0f7a4_63 : decode cJ6_numberOfLeadingZeros_0f7a4 63 = .ok (.if_icmp .lt 10, 3) := by decide +kernel
theorem dJ6_numberOfLeadingZeros_0f7a4_66 : decode cJ6_numberOfLeadingZeros_0f7a4 66 = .ok (.iinc 1 (-2), 3) := by decide +kernel
theorem dJ6_numberOfLeadingZeros_0f7a4_69 : decode cJ6_numberOfLeadingZeros_0f7a4 69 = .ok (.iload_n 0, 1) := by decide +kernel
theorem dJ6_numberOfLeadingZeros_0f7a4_70 : decode cJ6_numberOfLeadingZeros_0f7a4 70 = .ok (.iconst 2, 1) := by decide +kernel
theorem dJ6_numberOfLeadingZeros_0f7a4_71 : decode cJ6_numberOfLeadingZeros_0f7a4 71 = .ok (.iushr, 1) := by decide +kernel
theorem dJ6_numberOfLeadingZeros_0f7a4_72 : decode cJ6_numberOfLeadingZeros_0f7a4 72 = .ok (.istore_n 0, 1) := by decide +kernel
theorem dJ6_numberOfLeadingZeros_0f7a4_73 : decode cJ6_numberOfLeadingZeros_0f7a4 73 = .ok (.iload_n 1, 1) := by decide +kernel
theorem dJ6_numberOfLeadingZeros_0f7a4_74 : decode cJ6_numberOfLeadingZeros_0f7a4 74 = .ok (.iload_n 0, 1) := by decide +kernel
theorem dJ6_numberOfLeadingZeros_0f7a4_75 : decode cJ6_numberOfLeadingZeros_0f7a4 75 = .ok (.iconst 1, 1) := by decide +kernel
theorem dJ6_numberOfLeadingZeros_0f7a4_76 : decode cJ6_numberOfLeadingZeros_0f7a4 76 = .ok (.iushr, 1) := by decide +kernel
theorem dJ6_numberOfLeadingZeros_0f7a4_77 : decode cJ6_numberOfLeadingZeros_0f7a4 77 = .ok (.isub, 1) := by decide +kernel
theorem dJ6_numberOfLeadingZeros_0f7a4_78 : decode cJ6_numberOfLeadingZeros_0f7a4 78 = .ok (.ireturn, 1) := by decide +kernel
theorem dJ6_numberOfTrailingZeros_0f7a4_0 : decode cJ6_numberOfTrailingZeros_0f7a4 0 = .ok (.iload_n 0, 1) := by decide +kernel
theorem dJ6_numberOfTrailingZeros_0f7a4_1 : decode cJ6_numberOfTrailingZeros_0f7a4 1 = .ok (.iconst (-1), 1) := by decide +kernel
theorem dJ6_numberOfTrailingZeros_0f7a4_2 : decode cJ6_numberOfTrailingZeros_0f7a4 2 = .ok (.ixor, 1) := by decide +kernel
theorem dJ6_numberOfTrailingZeros_0f7a4_3 : decode cJ6_numberOfTrailingZeros_0f7a4 3 = .ok (.iload_n 0, 1) := by decide +kernel
theorem dJ6_numberOfTrailingZeros_0f7a4_4 : decode cJ6_numberOfTrailingZeros_0f7a4 4 = .ok (.iconst 1, 1) := by decide +kernel
theorem dJ6_numberOfTrailingZeros_0f7a4_5 : decode cJ6_numberOfTrailingZeros_0f7a4 5 = .ok (.isub, 1) := by decide +kernel
theorem dJ6_numberOfTrailingZeros_0f7a4_6 : decode cJ6_numberOfTrailingZeros_0f7a4 6 = .ok (.iand, 1) := by decide +kernel
theorem dJ6_numberOfTrailingZeros_0f7a4_7 : decode cJ6_numberOfTrailingZeros_0f7a4 7 = .ok (.istore_n 0, 1) := by decide +kernel
theorem dJ6_numberOfTrailingZeros_0f7a4_8 : decode cJ6_numberOfTrailingZeros_0f7a4 8 = .ok (.iload_n 0, 1) := by decide +kernel
theorem dJ6_numberOfTrailingZeros_0f7a4_9 : decode cJ6_numberOfTrailingZeros_0f7a4 9 = .ok (.ifCond .gt 8, 3) := by decide +kernel
theorem dJ6_numberOfTrailingZeros_0f7a4_12 : decode cJ6_numberOfTrailingZeros_0f7a4 12 = .ok (.iload_n 0, 1) := by decide +kernel
theorem dJ6_numberOfTrailingZeros_0f7a4_13 : decode cJ6_numberOfTrailingZeros_0f7a4 13 = .ok (.bipush 32, 2) := by decide +kernel
theorem dJ6_numberOfTrailingZeros_0f7a4_15 : decode cJ6_numberOfTrailingZeros_0f7a4 15 = .ok (.iand, 1) := by decide +kernel
theorem dJ6_numberOfTrailingZeros_0f7a4_16 : decode cJ6_numberOfTrailingZeros_0f7a4 16 = .ok (.ireturn, 1) := by decide +kernel
theorem dJ6_numberOfTrailingZeros_0f7a4_17 : decode cJ6_numberOfTrailingZeros_0f7a4 17 = .ok (.iconst 1, 1) := by decide +kernel
theorem dJ6_numberOfTrailingZeros_0f7a4_18 : decode cJ6_numberOfTrailingZeros_0f7a4 18 = .ok (.istore_n 1, 1) := by decide +kernel
theorem dJ6_numberOfTrailingZeros_0f7a4_19 : decode cJ6_numberOfTrailingZeros_0f7a4 19 = .ok (.iload_n 0, 1) := by decide +kernel
theorem dJ6_numberOfTrailingZeros_0f7a4_20 : decode cJ6_numberOfTrailingZeros_0f7a4 20 = .ok (.ldc_w 264, 3) := by decide +kernel
theorem dJ6_numberOfTrailingZeros_0f7a4_23 : decode cJ6_numberOfTrailingZeros_0f7a4 23 = .ok (.if_icmp .le 11, 3) := by decide +kernel
theorem dJ6_numberOfTrailingZeros_0f7a4_26 : decode cJ6_numberOfTrailingZeros_0f7a4 26 = .ok (.iinc 1 16, 3) := by decide +kernel
theorem dJ6_numberOfTrailingZeros_0f7a4_29 : decode cJ6_numberOfTrailingZeros_0f7a4 29 = .ok (.iload_n 0, 1) := by decide +kernel
theorem dJ6_numberOfTrailingZeros_0f7a4_30 : decode cJ6_numberOfTrailingZeros_0f7a4 30 = .ok (.bipush 16, 2) := by decide +kernel
theorem dJ6_numberOfTrailingZeros_0f7a4_32 : decode cJ6_numberOfTrailingZeros_0f7a4 32 = .ok (.iushr, 1) := by decide +kernel
theorem dJ6_numberOfTrailingZeros_0f7a4_33 : decode cJ6_numberOfTrailingZeros_0f7a4 33 = .ok (.istore_n 0, 1) := by decide +kernel
theorem dJ6_numberOfTrailingZeros_0f7a4_34 : decode cJ6_numberOfTrailingZeros_0f7a4 34 = .ok (.iload_n 0, 1) := by decide +kernel
theorem dJ6_numberOfTrailingZeros_0f7a4_35 : decode cJ6_numberOfTrailingZeros_0f7a4 35 = .ok (.sipush 256, 3) := by decide +kernel
theorem dJ6_numberOfTrailingZeros_0f7a4_38 : decode cJ6_numberOfTrailingZeros_0f7a4 38 = .ok (.if_icmp .le 11, 3) := by decide +kernel
theorem dJ6_numberOfTrailingZeros_0f7a4_41 : decode cJ6_numberOfTrailingZeros_0f7a4 41 = .ok (.iinc 1 8, 3) := by decide +kernel
theorem dJ6_numberOfTrailingZeros_0f7a4_44 : decode cJ6_numberOfTrailingZeros_0f7a4 44 = .ok (.iload_n 0, 1) := by decide +kernel
theorem dJ6_numberOfTrailingZeros_0f7a4_45 : decode cJ6_numberOfTrailingZeros_0f7a4 45 = .ok (.bipush 8, 2) := by decide +kernel
theorem dJ6_numberOfTrailingZeros_0f7a4_47 : decode cJ6_numberOfTrailingZeros_0f7a4 47 = .ok (.iushr, 1) := by decide +kernel
theorem dJ6_numberOfTrailingZeros_0f7a4_48 : decode cJ6_numberOfTrailingZeros_0f7a4 48 = .ok (.istore_n 0, 1) := by decide +kernel
theorem dJ6_numberOfTrailingZeros_0f7a4_49 : decode cJ6_numberOfTrailingZeros_0f7a4 49 = .ok (.iload_n 0, 1) := by decide +kernel
theorem dJ6_numberOfTrailingZeros_0f7a4_50 : decode cJ6_numberOfTrailingZeros_0f7a4 50 = .ok (.bipush 16, 2) := by decide +kernel
theorem dJ6_numberOfTrailingZeros_0f7a4_52 : decode cJ6_numberOfTrailingZeros_0f7a4 52 = .ok (.if_icmp .le 10, 3) := by decide +kernel
theorem dJ6_numberOfTrailingZeros_0f7a4_55 : decode cJ6_numberOfTrailingZeros_0f7a4 55 = .ok (.iinc 1 4, 3) := by decide +kernel
theorem dJ6_numberOfTrailingZeros_0f7a4_58 : decode cJ6_numberOfTrailingZeros_0f7a4 58 = .ok (.iload_n 0, 1) := by decide +kernel
theorem dJ6_numberOfTrailingZeros_0f7a4_59 : decode cJ6_numberOfTrailingZeros_0f7a4 59 = .ok (.iconst 4, 1) := by decide +kernel
theorem dJ6_numberOfTrailingZeros_0f7a4_60 : decode cJ6_numberOfTrailingZeros_0f7a4 60 = .ok (.iushr, 1) := by decide +kernel
theorem dJ6_numberOfTrailingZeros_0f7a4_61 : decode cJ6_numberOfTrailingZeros_0f7a4 61 = .ok (.istore_n 0, 1) := by decide +kernel
theorem dJ6_numberOfTrailingZeros_0f7a4_62 : decode cJ6_numberOfTrailingZeros_0f7a4 62 = .ok (.iload_n 0, 1) := by decide +kernel
theorem dJ6_numberOfTrailingZeros_0f7a4_63 : decode cJ6_numberOfTrailingZeros_0f7a4 63 = .ok (.iconst 4, 1) := by decide +kernel
theorem dJ6_numberOfTrailingZeros_0f7a4_64 : decode cJ6_numberOfTrailingZeros_0f7a4 64 = .ok (.if_icmp .le 10, 3) := by decide +kernel
theorem dJ6_numberOfTrailingZeros_0f7a4_67 : decode cJ6_numberOfTrailingZeros_0f7a4 67 = .ok (.iinc 1 2, 3) := by decide +kernel
theorem dJ6_numberOfTrailingZeros_0f7a4_70 : decode cJ6_numberOfTrailingZeros_0f7a4 70 = .ok (.iload_n 0, 1) := by decide +kernel
theorem dJ6_numberOfTrailingZeros_0f7a4_71 : decode cJ6_numberOfTrailingZeros_0f7a4 71 = .ok (.iconst 2, 1) := by decide +kernel
theorem dJ6_numberOfTrailingZeros_0f7a4_72 : decode cJ6_numberOfTrailingZeros_0f7a4 72 = .ok (.iushr, 1) := by decide +kernel
theorem dJ6_numberOfTrailingZeros_0f7a4_73 : decode cJ6_numberOfTrailingZeros_0f7a4 73 = .ok (.istore_n 0, 1) := by decide +kernel
theorem dJ6_numberOfTrailingZeros_0f7a4_74 : decode cJ6_numberOfTrailingZeros_0f7a4 74 = .ok (.iload_n 1, 1) := by decide +kernel
theorem dJ6_numberOfTrailingZeros_0f7a4_75 : decode cJ6_numberOfTrailingZeros_0f7a4 75 = .ok (.iload_n 0, 1) := by decide +kernel
theorem dJ6_numberOfTrailingZeros_0f7a4_76 : decode cJ6_numberOfTrailingZeros_0f7a4 76 = .ok (.iconst 1, 1) := by decide +kernel
theorem dJ6_numberOfTrailingZeros_0f7a4_77 : decode cJ6_numberOfTrailingZeros_0f7a4 77 = .ok (.iushr, 1) := by decide +kernel
theorem dJ6_numberOfTrailingZeros_0f7a4_78 : decode cJ6_numberOfTrailingZeros_0f7a4 78 = .ok (.iadd, 1) := by decide +kernel
theorem dJ6_numberOfTrailingZeros_0f7a4_79 : decode cJ6_numberOfTrailingZeros_0f7a4 79 = .ok (.ireturn, 1) := by decide +kernel
theorem dJ13_numberOfLeadingZeros_95d88_0 : decode cJ13_numberOfLeadingZeros_95d88 0 = .ok (.lload_n 0, 1) := by decide +kernel
theorem dJ13_numberOfLeadingZeros_95d88_1 : decode cJ13_numberOfLeadingZeros_95d88 1 = .ok (.bipush 32, 2) := by decide +kernel
theorem dJ13_numberOfLeadingZeros_95d88_3 : decode cJ13_numberOfLeadingZeros_95d88 3 = .ok (.lushr, 1) := by decide +kernel
theorem dJ13_numberOfLeadingZeros_95d88_4 : decode cJ13_numberOfLeadingZeros_95d88 4 = .ok (.l2i, 1) := by decide +kernel
theorem dJ13_numberOfLeadingZeros_95d88_5 : decode cJ13_numberOfLeadingZeros_95d88 5 = .ok (.istore_n 2, 1) := by decide +kernel
theorem dJ13_numberOfLeadingZeros_95d88_6 : decode cJ13_numberOfLeadingZeros_95d88 6 = .ok (.iload_n 2, 1) := by decide +kernel
theorem dJ13_numberOfLeadingZeros_95d88_7 : decode cJ13_numberOfLeadingZeros_95d88 7 = .ok (.ifCond .ne 14, 3) := by decide +kernel
theorem dJ13_numberOfLeadingZeros_95d88_10 : decode cJ13_numberOfLeadingZeros_95d88 10 = .ok (.bipush 32, 2) := by decide +kernel
theorem dJ13_numberOfLeadingZeros_95d88_12 : decode cJ13_numberOfLeadingZeros_95d88 12 = .ok (.lload_n 0, 1) := by decide +kernel
theorem dJ13_numberOfLeadingZeros_95d88_13 : decode cJ13_numberOfLeadingZeros_95d88 13 = .ok (.l2i, 1) := by decide +kernel
theorem dJ13_numberOfLeadingZeros_95d88_14 : decode cJ13_numberOfLeadingZeros_95d88 14 = .ok (.invokestatic 308, 3) := by decide +kernel
theorem dJ13_numberOfLeadingZeros_95d88_17 : decode cJ13_numberOfLeadingZeros_95d88 17 = .ok (.iadd, 1) := by decide +kernel
theorem dJ13_numberOfLeadingZeros_95d88_18 : decode cJ13_numberOfLeadingZeros_95d88 18 = .ok (.goto 7, 3) := by decide +kernel
theorem dJ13_numberOfLeadingZeros_95d88_21 : decode cJ13_numberOfLeadingZeros_95d88 21 = .ok (.iload_n 2, 1) := by decide +kernel
theorem dJ13_numberOfLeadingZeros_95d88_22 : decode cJ13_numberOfLeadingZeros_95d88 22 = .ok (.invokestatic 308, 3) := by decide +kernel
theorem dJ13_numberOfLeadingZeros_95d88_25 : decode cJ13_numberOfLeadingZeros_95d88 25 = .ok (.ireturn, 1) := by decide +kernel
theorem dJ13_numberOfTrailingZeros_95d88_0 : decode cJ13_numberOfTrailingZeros_95d88 0 = .ok (.lload_n 0, 1) := by decide +kernel
theorem dJ13_numberOfTrailingZeros_95d88_1 : decode cJ13_numberOfTrailingZeros_95d88 1 = .ok (.l2i, 1) := by decide +kernel
theorem dJ13_numberOfTrailingZeros_95d88_2 : decode cJ13_numberOfTrailingZeros_95d88 2 = .ok (.istore_n 2, 1) := by decide +kernel
theorem dJ13_numberOfTrailingZeros_95d88_3 : decode cJ13_numberOfTrailingZeros_95d88 3 = .ok (.iload_n 2, 1) := by decide +kernel
theorem dJ13_numberOfTrailingZeros_95d88_4 : decode cJ13_numberOfTrailingZeros_95d88 4 = .ok (.ifCond .ne 17, 3) := by decide +kernel
theorem dJ13_numberOfTrailingZeros_95d88_7 : decode cJ13_numberOfTrailingZeros_95d88 7 = .ok (.bipush 32, 2) := by decide +kernel
theorem dJ13_numberOfTrailingZeros_95d88_9 : decode cJ13_numberOfTrailingZeros_95d88 9 = .ok (.lload_n 0, 1) := by decide +kernel
theorem dJ13_numberOfTrailingZeros_95d88_10 : decode cJ13_numberOfTrailingZeros_95d88 10 = .ok (.bipush 32, 2) := by decide +kernel
theorem dJ13_numberOfTrailingZeros_95d88_12 : decode cJ13_numberOfTrailingZeros_95d88 12 = .ok (.lushr, 1) := by decide +kernel
theorem dJ13_numberOfTrailingZeros_95d88_13 : decode cJ13_numberOfTrailingZeros_95d88 13 = .ok (.l2i, 1) := by decide +kernel
theorem dJ13_numberOfTrailingZeros_95d88_14 : decode cJ13_numberOfTrailingZeros_95d88 14 = .ok (.invokestatic 311, 3) := by decide +kernel
theorem dJ13_numberOfTrailingZeros_95d88_17 : decode cJ13_numberOfTrailingZeros_95d88 17 = .ok (.iadd, 1) := by decide +kernel
theorem dJ13_numberOfTrailingZeros_95d88_18 : decode cJ13_numberOfTrailingZeros_95d88 18 = .ok (.goto 7, 3) := by decide +kernel
theorem dJ13_numberOfTrailingZeros_95d88_21 : decode cJ13_numberOfTrailingZeros_95d88 21 = .ok (.iload_n 2, 1) := by decide +kernel
theorem dJ13_numberOfTrailingZeros_95d88_22 : decode cJ13_numberOfTrailingZeros_95d88 22 = .ok (.invokestatic 311, 3) := by decide +kernel
theorem dJ13_numberOfTrailingZeros_95d88_25 : decode cJ13_numberOfTrailingZeros_95d88 25 = .ok (.ireturn, 1) := by decide +kernel
theorem dJ9_floorDiv_7cf53_0 : decode cJ9_floorDiv_7cf53 0 = .ok (.iload_n 0, 1) := by decide +kernel
theorem dJ9_floorDiv_7cf53_1 : decode cJ9_floorDiv_7cf53 1 = .ok (.iload_n 1, 1) := by decide +kernel
theorem dJ9_floorDiv_7cf53_2 : decode cJ9_floorDiv_7cf53 2 = .ok (.idiv, 1) := by decide +kernel
theorem dJ9_floorDiv_7cf53_3 : decode cJ9_floorDiv_7cf53 3 = .ok (.istore_n 2, 1) := by decide +kernel
theorem dJ9_floorDiv_7cf53_4 : decode cJ9_floorDiv_7cf53 4 = .ok (.iload_n 0, 1) := by decide +kernel
theorem dJ9_floorDiv_7cf53_5 : decode cJ9_floorDiv_7cf53 5 = .ok (.iload_n 1, 1) := by decide +kernel
theorem dJ9_floorDiv_7cf53_6 : decode cJ9_floorDiv_7cf53 6 = .ok (.ixor, 1) := by decide +kernel
theorem dJ9_floorDiv_7cf53_7 : decode cJ9_floorDiv_7cf53 7 = .ok (.ifCond .ge 14, 3) := by decide +kernel
theorem dJ9_floorDiv_7cf53_10 : decode cJ9_floorDiv_7cf53 10 = .ok (.iload_n 2, 1) := by decide +kernel
theorem dJ9_floorDiv_7cf53_11 : decode cJ9_floorDiv_7cf53 11 = .ok (.iload_n 1, 1) := by decide +kernel
theorem dJ9_floorDiv_7cf53_12 : decode cJ9_floorDiv_7cf53 12 = .ok (.imul, 1) := by decide +kernel
theorem dJ9_floorDiv_7cf53_13 : decode cJ9_floorDiv_7cf53 13 = .ok (.iload_n 0, 1) := by decide +kernel
theorem dJ9_floorDiv_7cf53_14 : decode cJ9_floorDiv_7cf53 14 = .ok (.if_icmp .eq 7, 3) := by decide +kernel
theorem dJ9_floorDiv_7cf53_17 : decode cJ9_floorDiv_7cf53 17 = .ok (.iload_n 2, 1) := by decide +kernel
theorem dJ9_floorDiv_7cf53_18 : decode cJ9_floorDiv_7cf53 18 = .ok (.iconst 1, 1) := by decide +kernel
theorem dJ9_floorDiv_7cf53_19 : decode cJ9_floorDiv_7cf53 19 = .ok (.isub, 1) := by decide +kernel
theorem dJ9_floorDiv_7cf53_20 : decode cJ9_floorDiv_7cf53 20 = .ok (.ireturn, 1) := by decide +kernel
theorem dJ9_floorDiv_7cf53_21 : decode cJ9_floorDiv_7cf53 21 = .ok (.iload_n 2, 1) := by decide +kernel
theorem dJ9_floorDiv_7cf53_22 : decode cJ9_floorDiv_7cf53 22 = .ok (.ireturn, 1) := by decide +kernel
theorem dJ9_abs_0f7a4_0 : decode cJ9_abs_0f7a4 0 = .ok (.iload_n 0, 1) := by decide +kernel
theorem dJ9_abs_0f7a4_1 : decode cJ9_abs_0f7a4 1 = .ok (.ifCond .ge 8, 3) := by decide +kernel
theorem dJ9_abs_0f7a4_4 : decode cJ9_abs_0f7a4 4 = .ok (.iload_n 0, 1) := by decide +kernel
theorem dJ9_abs_0f7a4_5 : decode cJ9_abs_0f7a4 5 = .ok (.ineg, 1) := by decide +kernel
theorem dJ9_abs_0f7a4_6 : decode cJ9_abs_0f7a4 6 = .ok (.goto 4, 3) := by decide +kernel
theorem dJ9_abs_0f7a4_9 : decode cJ9_abs_0f7a4 9 = .ok (.iload_n 0, 1) := by decide +kernel
theorem dJ9_abs_0f7a4_10 : decode cJ9_abs_0f7a4 10 = .ok (.ireturn, 1) := by decide +kernel
theorem dJ9_max_7cf53_0 : decode cJ9_max_7cf53 0 = .ok (.iload_n 0, 1) := by decide +kernel
theorem dJ9_max_7cf53_1 : decode cJ9_max_7cf53 1 = .ok (.iload_n 1, 1) := by decide +kernel
theorem dJ9_max_7cf53_2 : decode cJ9_max_7cf53 2 = .ok (.if_icmp .lt 7, 3) := by decide +kernel
theorem dJ9_max_7cf53_5 : decode cJ9_max_7cf53 5 = .ok (.iload_n 0, 1) := by decide +kernel
theorem dJ9_max_7cf53_6 : decode cJ9_max_7cf53 6 = .ok (.goto 4, 3) := by decide +kernel
theorem dJ9_max_7cf53_9 : decode cJ9_max_7cf53 9 = .ok (.iload_n 1, 1) := by decide +kernel
theorem dJ9_max_7cf53_10 : decode cJ9_max_7cf53 10 = .ok (.ireturn, 1) := by decide +kernel
theorem dJ9_min_7cf53_0 : decode cJ9_min_7cf53 0 = .ok (.iload_n 0, 1) := by decide +kernel
theorem dJ9_min_7cf53_1 : decode cJ9_min_7cf53 1 = .ok (.iload_n 1, 1) := by decide +kernel
theorem dJ9_min_7cf53_2 : decode cJ9_min_7cf53 2 = .ok (.if_icmp .gt 7, 3) := by decide +kernel
theorem dJ9_min_7cf53_5 : decode cJ9_min_7cf53 5 = .ok (.iload_n 0, 1) := by decide +kernel
theorem dJ9_min_7cf53_6 : decode cJ9_min_7cf53 6 = .ok (.goto 4, 3) := by decide +kernel
theorem dJ9_min_7cf53_9 : decode cJ9_min_7cf53 9 = .ok (.iload_n 1, 1) := by decide +kernel
theorem dJ9_min_7cf53_10 : decode cJ9_min_7cf53 10 = .ok (.ireturn, 1) := by decide +kernel
theorem dJ9_min_eb370_0 : decode cJ9_min_eb370 0 = .ok (.dload_n 0, 1) := by decide +kernel
theorem dJ9_min_eb370_1 : decode cJ9_min_eb370 1 = .ok (.dload_n 0, 1) := by decide +kernel
theorem dJ9_min_eb370_2 : decode cJ9_min_eb370 2 = .ok (.dcmp .l, 1) := by decide +kernel
theorem dJ9_min_eb370_3 : decode cJ9_min_eb370 3 = .ok (.ifCond .eq 5, 3) := by decide +kernel
theorem dJ9_min_eb370_6 : decode cJ9_min_eb370 6 = .ok (.dload_n 0, 1) := by decide +kernel
theorem dJ9_min_eb370_7 : decode cJ9_min_eb370 7 = .ok (.dreturn, 1) := by decide +kernel
theorem dJ9_min_eb370_8 : decode cJ9_min_eb370 8 = .ok (.dload_n 0, 1) := by decide +kernel
theorem dJ9_min_eb370_9 : decode cJ9_min_eb370 9 = .ok (.dconst 0, 1) := by decide +kernel
theorem dJ9_min_eb370_10 : decode cJ9_min_eb370 10 = .ok (.dcmp .l, 1) := by decide +kernel
theorem dJ9_min_eb370_11 : decode cJ9_min_eb370 11 = .ok (.ifCond .ne 22, 3) := by decide +kernel
theorem dJ9_min_eb370_14 : decode cJ9_min_eb370 14 = .ok (.dload_n 2, 1) := by decide +kernel
theorem dJ9_min_eb370_15 : decode cJ9_min_eb370 15 = .ok (.dconst 0, 1) := by decide +kernel
theorem dJ9_min_eb370_16 : decode cJ9_min_eb370 16 = .ok (.dcmp .l, 1) := by decide +kernel
theorem dJ9_min_eb370_17 : decode cJ9_min_eb370 17 = .ok (.ifCond .ne 16, 3) := by decide +kernel
theorem dJ9_min_eb370_20 : decode cJ9_min_eb370 20 = .ok (.dload_n 2, 1) := by decide +kernel
theorem dJ9_min_eb370_21 : decode cJ9_min_eb370 21 = .ok (.invokestatic 79, 3) := by decide +kernel
theorem dJ9_min_eb370_24 : decode cJ9_min_eb370 24 = .ok (.getstatic 174, 3) := by decide +kernel
theorem dJ9_min_eb370_27 : decode cJ9_min_eb370 27 = .ok (.lcmp, 1) := by decide +kernel
theorem dJ9_min_eb370_28 : decode cJ9_min_eb370 28 = .ok (.ifCond .ne 5, 3) := by decide +kernel
theorem dJ9_min_eb370_31 : decode cJ9_min_eb370 31 = .ok (.dload_n 2, 1) := by decide +kernel
theorem dJ9_min_eb370_32 : decode cJ9_min_eb370 32 = .ok (.dreturn, 1) := by decide +kernel
theorem dJ9_min_eb370_33 : decode cJ9_min_eb370 33 = .ok (.dload_n 0, 1) := by decide +kernel
theorem dJ9_min_eb370_34 : decode cJ9_min_eb370 34 = .ok (.dload_n 2, 1) := by decide +kernel
theorem dJ9_min_eb370_35 : decode cJ9_min_eb370 35 = .ok (.dcmp .g, 1) := by decide +kernel
theorem dJ9_min_eb370_36 : decode cJ9_min_eb370 36 = .ok (.ifCond .gt 7, 3) := by decide +kernel
theorem dJ9_min_eb370_39 : decode cJ9_min_eb370 39 = .ok (.dload_n 0, 1) := by decide +kernel
theorem dJ9_min_eb370_40 : decode cJ9_min_eb370 40 = .ok (.goto 4, 3) := by decide +kernel
theorem dJ9_min_eb370_43 : decode cJ9_min_eb370 43 = .ok (.dload_n 2, 1) := by decide +kernel
theorem dJ9_min_eb370_44 : decode cJ9_min_eb370 44 = .ok (.dreturn, 1) := by decide +kernel
theorem dJ0_length_8abf5_0 : decode cJ0_length_8abf5 0 = .ok (.aload_n 0, 1) := by decide +kernel
theorem dJ0_length_8abf5_1 : decode cJ0_length_8abf5 1 = .ok (.getfield 9, 3) := by decide +kernel
theorem dJ0_length_8abf5_4 : decode cJ0_length_8abf5 4 = .ok (.arraylength, 1) := by decide +kernel
theorem dJ0_length_8abf5_5 : decode cJ0_length_8abf5 5 = .ok (.aload_n 0, 1) := by decide +kernel
theorem dJ0_length_8abf5_6 : decode cJ0_length_8abf5 6 = .ok (.invokevirtual 335, 3) := by decide +kernel
theorem dJ0_length_8abf5_9 : decode cJ0_length_8abf5 9 = .ok (.ishr, 1) := by decide +kernel
theorem dJ0_length_8abf5_10 : decode cJ0_length_8abf5 10 = .ok (.ireturn, 1) := by decide +kernel
theorem dJ0_charAt_5068e_0 : decode cJ0_charAt_5068e 0 = .ok (.aload_n 0, 1) := by decide +kernel
theorem dJ0_charAt_5068e_1 : decode cJ0_charAt_5068e 1 = .ok (.invokevirtual 492, 3) := by decide +kernel
theorem dJ0_charAt_5068e_4 : decode cJ0_charAt_5068e 4 = .ok (.ifCond .eq 12, 3) := by decide +kernel
theorem dJ0_charAt_5068e_7 : decode cJ0_charAt_5068e 7 = .ok (.aload_n 0, 1) := by decide +kernel
theorem dJ0_charAt_5068e_8 : decode cJ0_charAt_5068e 8 = .ok (.getfield 9, 3) := by decide +kernel
theorem dJ0_charAt_5068e_11 : decode cJ0_charAt_5068e 11 = .ok (.iload_n 1, 1) := by decide +kernel
theorem dJ0_charAt_5068e_12 : decode cJ0_charAt_5068e 12 = .ok (.invokestatic 495, 3) := by decide +kernel
theorem dJ0_charAt_5068e_15 : decode cJ0_charAt_5068e 15 = .ok (.ireturn, 1) := by decide +kernel
theorem dJ0_charAt_5068e_16 : decode cJ0_charAt_5068e 16 = .ok (.aload_n 0, 1) := by decide +kernel
theorem dJ0_charAt_5068e_17 : decode cJ0_charAt_5068e 17 = .ok (.getfield 9, 3) := by decide +kernel
theorem dJ0_charAt_5068e_20 : decode cJ0_charAt_5068e 20 = .ok (.iload_n 1, 1) := by decide +kernel
theorem dJ0_charAt_5068e_21 : decode cJ0_charAt_5068e 21 = .ok (.invokestatic 498, 3) := by decide +kernel
theorem dJ0_charAt_5068e_24 : decode cJ0_charAt_5068e 24 = .ok (.ireturn, 1) := by decide +kernel
theorem dJ0_coder_7d493_0 : decode cJ0_coder_7d493 0 = .ok (.getstatic 38, 3) := by decide +kernel
theorem dJ0_coder_7d493_3 : decode cJ0_coder_7d493 3 = .ok (.ifCond .eq 10, 3) := by decide +kernel
theorem dJ0_coder_7d493_6 : decode cJ0_coder_7d493 6 = .ok (.aload_n 0, 1) := by decide +kernel
theorem dJ0_coder_7d493_7 : decode cJ0_coder_7d493 7 = .ok (.getfield 15, 3) := by decide +kernel
theorem dJ0_coder_7d493_10 : decode cJ0_coder_7d493 10 = .ok (.goto 4, 3) := by decide +kernel
theorem dJ0_coder_7d493_13 : decode cJ0_coder_7d493 13 = .ok (.iconst 1, 1) := by decide +kernel
theorem dJ0_coder_7d493_14 : decode cJ0_coder_7d493 14 = .ok (.ireturn, 1) := by decide +kernel
theorem dJ0_isLatin1_aae02_0 : decode cJ0_isLatin1_aae02 0 = .ok (.getstatic 38, 3) := by decide +kernel
theorem dJ0_isLatin1_aae02_3 : decode cJ0_isLatin1_aae02 3 = .ok (.ifCond .eq 14, 3) := by decide +kernel
theorem dJ0_isLatin1_aae02_6 : decode cJ0_isLatin1_aae02 6 = .ok (.aload_n 0, 1) := by decide +kernel
theorem dJ0_isLatin1_aae02_7 : decode cJ0_isLatin1_aae02 7 = .ok (.getfield 15, 3) := by decide +kernel
theorem dJ0_isLatin1_aae02_10 : decode cJ0_isLatin1_aae02 10 = .ok (.ifCond .ne 7, 3) := by decide +kernel
theorem dJ0_isLatin1_aae02_13 : decode cJ0_isLatin1_aae02 13 = .ok (.iconst 1, 1) := by decide +kernel
theorem dJ0_isLatin1_aae02_14 : decode cJ0_isLatin1_aae02 14 = .ok (.goto 4, 3) := by decide +kernel
theorem dJ0_isLatin1_aae02_17 : decode cJ0_isLatin1_aae02 17 = .ok (.iconst 0, 1) := by decide +kernel
theorem dJ0_isLatin1_aae02_18 : decode cJ0_isLatin1_aae02 18 = .ok (.ireturn, 1) := by decide +kernel
theorem dJ0_checkIndex_df160_0 : decode cJ0_checkIndex_df160 0 = .ok (.iload_n 0, 1) := by decide +kernel
theorem dJ0_checkIndex_df160_1 : decode cJ0_checkIndex_df160 1 = .ok (.iload_n 1, 1) := by decide +kernel
theorem dJ0_checkIndex_df160_2 : decode cJ0_checkIndex_df160 2 = .ok (.getstatic 1053, 3) := by decide +kernel
theorem dJ0_checkIndex_df160_5 : decode cJ0_checkIndex_df160 5 = .ok (.invokestatic 1059, 3) := by decide +kernel
theorem dJ0_checkIndex_df160_8 : decode cJ0_checkIndex_df160 8 = .ok (.pop, 1) := by decide +kernel
theorem dJ0_checkIndex_df160_9 : decode cJ0_checkIndex_df160 9 = .ok (.return_, 1) := by decide +kernel
theorem dJ1_charAt_3b067_0 : decode cJ1_charAt_3b067 0 = .ok (.iload_n 1, 1) := by decide +kernel
theorem dJ1_charAt_3b067_1 : decode cJ1_charAt_3b067 1 = .ok (.aload_n 0, 1) := by decide +kernel
theorem dJ1_charAt_3b067_2 : decode cJ1_charAt_3b067 2 = .ok (.arraylength, 1) := by decide +kernel
theorem dJ1_charAt_3b067_3 : decode cJ1_charAt_3b067 3 = .ok (.invokestatic 9, 3) := by decide +kernel
theorem dJ1_charAt_3b067_6 : decode cJ1_charAt_3b067 6 = .ok (.aload_n 0, 1) := by decide +kernel
theorem dJ1_charAt_3b067_7 : decode cJ1_charAt_3b067 7 = .ok (.iload_n 1, 1) := by decide +kernel
theorem dJ1_charAt_3b067_8 : decode cJ1_charAt_3b067 8 = .ok (.baload, 1) := by decide +kernel
theorem dJ1_charAt_3b067_9 : decode cJ1_charAt_3b067 9 = .ok (.sipush 255, 3) := by decide +kernel
theorem dJ1_charAt_3b067_12 : decode cJ1_charAt_3b067 12 = .ok (.iand, 1) := by decide +kernel
theorem dJ1_charAt_3b067_13 : decode cJ1_charAt_3b067 13 = .ok (.i2c, 1) := by decide +kernel
theorem dJ1_charAt_3b067_14 : decode cJ1_charAt_3b067 14 = .ok (.ireturn, 1) := by decide +kernel
theorem dJ2_getChar_3b067_0 : decode cJ2_getChar_3b067 0 = .ok (.getstatic 44, 3) := by decide +kernel
theorem dJ2_getChar_3b067_3 : decode cJ2_getChar_3b067 3 = .ok (.ifCond .ne 25, 3) := by decide +kernel
theorem dJ2_getChar_3b067_6 : decode cJ2_getChar_3b067 6 = .ok (.iload_n 1, 1) := by decide +kernel
theorem dJ2_getChar_3b067_7 : decode cJ2_getChar_3b067 7 = .ok (.ifCond .lt 11, 3) := by decide +kernel
theorem dJ2_getChar_3b067_10 : decode cJ2_getChar_3b067 10 = .ok (.iload_n 1, 1) := by decide +kernel
theorem dJ2_getChar_3b067_11 : decode cJ2_getChar_3b067 11 = .ok (.aload_n 0, 1) := by decide +kernel
theorem dJ2_getChar_3b067_12 : decode cJ2_getChar_3b067 12 = .ok (.invokestatic 48, 3) := by decide +kernel
theorem dJ2_getChar_3b067_15 : decode cJ2_getChar_3b067 15 = .ok (.if_icmp .lt 13, 3) := by decide +kernel
theorem dJ2_getChar_3b067_18 : decode cJ2_getChar_3b067 18 = .ok (.new 52, 3) := by decide +kernel
theorem dJ2_getChar_3b067_21 : decode cJ2_getChar_3b067 21 = .ok (.dup, 1) := by decide +kernel
theorem dJ2_getChar_3b067_22 : decode cJ2_getChar_3b067 22 = .ok (.ldc 54, 2) := by decide +kernel
theorem dJ2_getChar_3b067_24 : decode cJ2_getChar_3b067 24 = .ok (.invokespecial 56, 3) := by decide +kernel
theorem dJ2_getChar_3b067_27 : decode cJ2_getChar_3b067 27 = .ok (.athrow, 1) := by decide +kernel
theorem dJ2_getChar_3b067_28 : decode cJ2_getChar_3b067 28 = .ok (.iload_n 1, 1) := by decide +kernel
theorem dJ2_getChar_3b067_29 : decode cJ2_getChar_3b067 29 = .ok (.iconst 1, 1) := by decide +kernel
theorem dJ2_getChar_3b067_30 : decode cJ2_getChar_3b067 30 = .ok (.ishl, 1) := by decide +kernel
theorem dJ2_getChar_3b067_31 : decode cJ2_getChar_3b067 31 = .ok (.istore_n 1, 1) := by decide +kernel
theorem dJ2_getChar_3b067_32 : decode cJ2_getChar_3b067 32 = .ok (.aload_n 0, 1) := by decide +kernel
theorem dJ2_getChar_3b067_33 : decode cJ2_getChar_3b067 33 = .ok (.iload_n 1, 1) := by decide +kernel
theorem dJ2_getChar_3b067_34 : decode cJ2_getChar_3b067 34 = .ok (.iinc 1 1, 3) := by decide +kernel
theorem dJ2_getChar_3b067_37 : decode cJ2_getChar_3b067 37 = .ok (.baload, 1) := by decide +kernel
theorem dJ2_getChar_3b067_38 : decode cJ2_getChar_3b067 38 = .ok (.sipush 255, 3) := by decide +kernel
theorem dJ2_getChar_3b067_41 : decode cJ2_getChar_3b067 41 = .ok (.iand, 1) := by decide +kernel
theorem dJ2_getChar_3b067_42 : decode cJ2_getChar_3b067 42 = .ok (.getstatic 59, 3) := by decide +kernel
theorem dJ2_getChar_3b067_45 : decode cJ2_getChar_3b067 45 = .ok (.ishl, 1) := by decide +kernel
theorem dJ2_getChar_3b067_46 : decode cJ2_getChar_3b067 46 = .ok (.aload_n 0, 1) := by decide +kernel
theorem dJ2_getChar_3b067_47 : decode cJ2_getChar_3b067 47 = .ok (.iload_n 1, 1) := by decide +kernel
theorem dJ2_getChar_3b067_48 : decode cJ2_getChar_3b067 48 = .ok (.baload, 1) := by decide +kernel
theorem dJ2_getChar_3b067_49 : decode cJ2_getChar_3b067 49 = .ok (.sipush 255, 3) := by decide +kernel
theorem dJ2_getChar_3b067_52 : decode cJ2_getChar_3b067 52 = .ok (.iand, 1) := by decide +kernel
theorem dJ2_getChar_3b067_53 : decode cJ2_getChar_3b067 53 = .ok (.getstatic 63, 3) := by decide +kernel
theorem dJ2_getChar_3b067_56 : decode cJ2_getChar_3b067 56 = .ok (.ishl, 1) := by decide +kernel
theorem dJ2_getChar_3b067_57 : decode cJ2_getChar_3b067 57 = .ok (.ior, 1) := by decide +kernel
theorem dJ2_getChar_3b067_58 : decode cJ2_getChar_3b067 58 = .ok (.i2c, 1) := by decide +kernel
theorem dJ2_getChar_3b067_59 : decode cJ2_getChar_3b067 59 = .ok (.ireturn, 1) := by decide +kernel
theorem dJ2_length_9d52b_0 : decode cJ2_length_9d52b 0 = .ok (.aload_n 0, 1) := by decide +kernel
theorem dJ2_length_9d52b_1 : decode cJ2_length_9d52b 1 = .ok (.arraylength, 1) := by decide +kernel
theorem dJ2_length_9d52b_2 : decode cJ2_length_9d52b 2 = .ok (.iconst 1, 1) := by decide +kernel
theorem dJ2_length_9d52b_3 : decode cJ2_length_9d52b 3 = .ok (.ishr, 1) := by decide +kernel
theorem dJ2_length_9d52b_4 : decode cJ2_length_9d52b 4 = .ok (.ireturn, 1) := by decide +kernel
theorem dJ2_charAt_3b067_0 : decode cJ2_charAt_3b067 0 = .ok (.iload_n 1, 1) := by decide +kernel
theorem dJ2_charAt_3b067_1 : decode cJ2_charAt_3b067 1 = .ok (.aload_n 0, 1) := by decide +kernel
theorem dJ2_charAt_3b067_2 : decode cJ2_charAt_3b067 2 = .ok (.invokestatic 67, 3) := by decide +kernel
theorem dJ2_charAt_3b067_5 : decode cJ2_charAt_3b067 5 = .ok (.aload_n 0, 1) := by decide +kernel
theorem dJ2_charAt_3b067_6 : decode cJ2_charAt_3b067 6 = .ok (.iload_n 1, 1) := by decide +kernel
theorem dJ2_charAt_3b067_7 : decode cJ2_charAt_3b067 7 = .ok (.invokestatic 71, 3) := by decide +kernel
theorem dJ2_charAt_3b067_10 : decode cJ2_charAt_3b067 10 = .ok (.ireturn, 1) := by decide +kernel
theorem dJ2_checkIndex_2214a_0 : decode cJ2_checkIndex_2214a 0 = .ok (.iload_n 0, 1) := by decide +kernel
theorem dJ2_checkIndex_2214a_1 : decode cJ2_checkIndex_2214a 1 = .ok (.aload_n 1, 1) := by decide +kernel
theorem dJ2_checkIndex_2214a_2 : decode cJ2_checkIndex_2214a 2 = .ok (.invokestatic 48, 3) := by decide +kernel
theorem dJ2_checkIndex_2214a_5 : decode cJ2_checkIndex_2214a 5 = .ok (.invokestatic 414, 3) := by decide +kernel
theorem dJ2_checkIndex_2214a_8 : decode cJ2_checkIndex_2214a 8 = .ok (.return_, 1) := by decide +kernel
theorem dJ7_copyOf_59c91_0 : decode cJ7_copyOf_59c91 0 = .ok (.iload_n 1, 1) := by decide +kernel
theorem dJ7_copyOf_59c91_1 : decode cJ7_copyOf_59c91 1 = .ok (.aload_n 0, 1) := by decide +kernel
theorem dJ7_copyOf_59c91_2 : decode cJ7_copyOf_59c91 2 = .ok (.arraylength, 1) := by decide +kernel
theorem dJ7_copyOf_59c91_3 : decode cJ7_copyOf_59c91 3 = .ok (.if_icmp .ne 11, 3) := by decide +kernel
theorem dJ7_copyOf_59c91_6 : decode cJ7_copyOf_59c91 6 = .ok (.aload_n 0, 1) := by decide +kernel
theorem dJ7_copyOf_59c91_7 : decode cJ7_copyOf_59c91 7 = .ok (.invokevirtual 316, 3) := by decide +kernel
theorem dJ7_copyOf_59c91_10 : decode cJ7_copyOf_59c91 10 = .ok (.checkcast 317, 3) := by decide +kernel
theorem dJ7_copyOf_59c91_13 : decode cJ7_copyOf_59c91 13 = .ok (.areturn, 1) := by decide +kernel
theorem dJ7_copyOf_59c91_14 : decode cJ7_copyOf_59c91 14 = .ok (.iload_n 1, 1) := by decide +kernel
theorem dJ7_copyOf_59c91_15 : decode cJ7_copyOf_59c91 15 = .ok (.newarray .int, 2) := by decide +kernel
theorem dJ7_copyOf_59c91_17 : decode cJ7_copyOf_59c91 17 = .ok (.astore_n 2, 1) := by decide +kernel
theorem dJ7_copyOf_59c91_18 : decode cJ7_copyOf_59c91 18 = .ok (.aload_n 0, 1) := by decide +kernel
theorem dJ7_copyOf_59c91_19 : decode cJ7_copyOf_59c91 19 = .ok (.iconst 0, 1) := by decide +kernel
theorem dJ7_copyOf_59c91_20 : decode cJ7_copyOf_59c91 20 = .ok (.aload_n 2, 1) := by decide +kernel
theorem dJ7_copyOf_59c91_21 : decode cJ7_copyOf_59c91 21 = .ok (.iconst 0, 1) := by decide +kernel
theorem dJ7_copyOf_59c91_22 : decode cJ7_copyOf_59c91 22 = .ok (.aload_n 0, 1) := by decide +kernel
theorem dJ7_copyOf_59c91_23 : decode cJ7_copyOf_59c91 23 = .ok (.arraylength, 1) := by decide +kernel
theorem dJ7_copyOf_59c91_24 : decode cJ7_copyOf_59c91 24 = .ok (.iload_n 1, 1) := by decide +kernel
theorem dJ7_copyOf_59c91_25 : decode cJ7_copyOf_59c91 25 = .ok (.invokestatic 304, 3) := by decide +kernel
theorem dJ7_copyOf_59c91_28 : decode cJ7_copyOf_59c91 28 = .ok (.invokestatic 150, 3) := by decide +kernel
theorem dJ7_copyOf_59c91_31 : decode cJ7_copyOf_59c91 31 = .ok (.aload_n 2, 1) := by decide +kernel
theorem dJ7_copyOf_59c91_32 : decode cJ7_copyOf_59c91 32 = .ok (.areturn, 1) := by decide +kernel
theorem dJ3_checkIndex_8e157_0 : decode cJ3_checkIndex_8e157 0 = .ok (.iload_n 0, 1) := by decide +kernel
theorem dJ3_checkIndex_8e157_1 : decode cJ3_checkIndex_8e157 1 = .ok (.ifCond .lt 8, 3) := by decide +kernel
theorem dJ3_checkIndex_8e157_4 : decode cJ3_checkIndex_8e157 4 = .ok (.iload_n 0, 1) := by decide +kernel
theorem dJ3_checkIndex_8e157_5 : decode cJ3_checkIndex_8e157 5 = .ok (.iload_n 1, 1) := by decide +kernel
theorem dJ3_checkIndex_8e157_6 : decode cJ3_checkIndex_8e157 6 = .ok (.if_icmp .lt 10, 3) := by decide +kernel
theorem dJ3_checkIndex_8e157_9 : decode cJ3_checkIndex_8e157 9 = .ok (.aload_n 2, 1) := by decide +kernel
theorem dJ3_checkIndex_8e157_10 : decode cJ3_checkIndex_8e157 10 = .ok (.iload_n 0, 1) := by decide +kernel
theorem dJ3_checkIndex_8e157_11 : decode cJ3_checkIndex_8e157 11 = .ok (.iload_n 1, 1) := by decide +kernel
theorem dJ3_checkIndex_8e157_12 : decode cJ3_checkIndex_8e157 12 = .ok (.invokestatic 95, 3) := by decide +kernel
theorem dJ3_checkIndex_8e157_15 : decode cJ3_checkIndex_8e157 15 = .ok (.athrow, 1) := by decide +kernel
theorem dJ3_checkIndex_8e157_16 : decode cJ3_checkIndex_8e157 16 = .ok (.iload_n 0, 1) := by decide +kernel
theorem dJ3_checkIndex_8e157_17 : decode cJ3_checkIndex_8e157 17 = .ok (.ireturn, 1) := by decide +kernel
