theorem pf_X2_11 : FPF RX2 11 2 0 2 (.array (.object "ComparatorNetworks$Network")) := ⟨RX2, TX2, 4, tyX2, rfl, i_X2, by decide, gX2_11, rfl, tyX2_ok, nmX2, rfl, rfl⟩
theorem pf_X2_17 : FPF RX2 17 2 1 2 (.array .int) := ⟨RX2, TX2, 4, tyX2, rfl, i_X2, by decide, gX2_17, rfl, tyX2_ok, nmX2, rfl, rfl⟩
theorem pf_X2_21 : FPF RX2 21 2 2 0 .int := ⟨RX2, TX2, 4, tyX2, rfl, i_X2, by decide, gX2_21, rfl, tyX2_ok, nmX2, rfl, rfl⟩
theorem pf_X2_25 : FPF RX2 25 2 3 0 .int := ⟨RX2, TX2, 4, tyX2, rfl, i_X2, by decide, gX2_25, rfl, tyX2_ok, nmX2, rfl, rfl⟩
theorem pf_X10_11 : FPF RX10 11 10 0 2 (.array (.object "ComparatorNetworks$Network")) := ⟨RX10, TX10, 13, tyX10, rfl, i_X10, by decide, gX10_11, rfl, tyX10_ok, nmX10, rfl, rfl⟩
theorem pf_X10_16 : FPF RX10 16 10 1 2 (.object "ComparatorNetworks$Network") := ⟨RX10, TX10, 13, tyX10, rfl, i_X10, by decide, gX10_16, rfl, tyX10_ok, nmX10, rfl, rfl⟩
theorem pf_X10_23 : FPF RX10 23 10 2 2 (.object "ComparatorNetworks$History") := ⟨RX10, TX10, 13, tyX10, rfl, i_X10, by decide, gX10_23, rfl, tyX10_ok, nmX10, rfl, rfl⟩
theorem pf_X10_30 : FPF RX10 30 10 3 2 (.object "ComparatorNetworks$Text") := ⟨RX10, TX10, 13, tyX10, rfl, i_X10, by decide, gX10_30, rfl, tyX10_ok, nmX10, rfl, rfl⟩
theorem pf_X10_34 : FPF RX10 34 10 4 2 (.array .int) := ⟨RX10, TX10, 13, tyX10, rfl, i_X10, by decide, gX10_34, rfl, tyX10_ok, nmX10, rfl, rfl⟩
theorem pf_X10_41 : FPF RX10 41 10 5 2 (.object "ComparatorNetworks$Trial") := ⟨RX10, TX10, 13, tyX10, rfl, i_X10, by decide, gX10_41, rfl, tyX10_ok, nmX10, rfl, rfl⟩
theorem pf_X10_47 : FPF RX10 47 10 6 2 (.array (.object "ComparatorNetworks$Shelf")) := ⟨RX10, TX10, 13, tyX10, rfl, i_X10, by decide, gX10_47, rfl, tyX10_ok, nmX10, rfl, rfl⟩
theorem pf_X10_55 : FPF RX10 55 10 7 2 (.object "ComparatorNetworks$Sweep") := ⟨RX10, TX10, 13, tyX10, rfl, i_X10, by decide, gX10_55, rfl, tyX10_ok, nmX10, rfl, rfl⟩
theorem pf_X10_62 : FPF RX10 62 10 8 2 (.object "ComparatorNetworks$OutputSet") := ⟨RX10, TX10, 13, tyX10, rfl, i_X10, by decide, gX10_62, rfl, tyX10_ok, nmX10, rfl, rfl⟩
theorem pf_X10_66 : FPF RX10 66 10 9 2 (.object "ComparatorNetworks$OutputSet") := ⟨RX10, TX10, 13, tyX10, rfl, i_X10, by decide, gX10_66, rfl, tyX10_ok, nmX10, rfl, rfl⟩
theorem pf_X10_72 : FPF RX10 72 10 10 2 (.object "ComparatorNetworks$Extensions") := ⟨RX10, TX10, 13, tyX10, rfl, i_X10, by decide, gX10_72, rfl, tyX10_ok, nmX10, rfl, rfl⟩
theorem pf_X10_79 : FPF RX10 79 10 11 2 (.object "ComparatorNetworks$Chains") := ⟨RX10, TX10, 13, tyX10, rfl, i_X10, by decide, gX10_79, rfl, tyX10_ok, nmX10, rfl, rfl⟩
theorem pf_X10_86 : FPF RX10 86 10 12 2 (.object "ComparatorNetworks$Renaming") := ⟨RX10, TX10, 13, tyX10, rfl, i_X10, by decide, gX10_86, rfl, tyX10_ok, nmX10, rfl, rfl⟩
theorem pf_X11_9 : FPF RX11 9 11 0 2 (.array .int) := ⟨RX11, TX11, 34, tyX11, rfl, i_X11, by decide, gX11_9, rfl, tyX11_ok, nmX11, rfl, rfl⟩
theorem pf_X11_13 : FPF RX11 13 11 1 2 (.array .int) := ⟨RX11, TX11, 34, tyX11, rfl, i_X11, by decide, gX11_13, rfl, tyX11_ok, nmX11, rfl, rfl⟩
theorem pf_X11_16 : FPF RX11 16 11 2 2 (.array .int) := ⟨RX11, TX11, 34, tyX11, rfl, i_X11, by decide, gX11_16, rfl, tyX11_ok, nmX11, rfl, rfl⟩
theorem pf_X11_19 : FPF RX11 19 11 3 2 (.array .int) := ⟨RX11, TX11, 34, tyX11, rfl, i_X11, by decide, gX11_19, rfl, tyX11_ok, nmX11, rfl, rfl⟩
theorem pf_X11_22 : FPF RX11 22 11 4 2 (.array .int) := ⟨RX11, TX11, 34, tyX11, rfl, i_X11, by decide, gX11_22, rfl, tyX11_ok, nmX11, rfl, rfl⟩
theorem pf_X11_25 : FPF RX11 25 11 5 2 (.array .int) := ⟨RX11, TX11, 34, tyX11, rfl, i_X11, by decide, gX11_25, rfl, tyX11_ok, nmX11, rfl, rfl⟩
theorem pf_X11_28 : FPF RX11 28 11 6 2 (.array .int) := ⟨RX11, TX11, 34, tyX11, rfl, i_X11, by decide, gX11_28, rfl, tyX11_ok, nmX11, rfl, rfl⟩
theorem pf_X11_31 : FPF RX11 31 11 8 2 (.array .int) := ⟨RX11, TX11, 34, tyX11, rfl, i_X11, by decide, gX11_31, rfl, tyX11_ok, nmX11, rfl, rfl⟩
theorem pf_X11_34 : FPF RX11 34 11 10 2 (.array .int) := ⟨RX11, TX11, 34, tyX11, rfl, i_X11, by decide, gX11_34, rfl, tyX11_ok, nmX11, rfl, rfl⟩
theorem pf_X11_37 : FPF RX11 37 11 12 2 (.array .int) := ⟨RX11, TX11, 34, tyX11, rfl, i_X11, by decide, gX11_37, rfl, tyX11_ok, nmX11, rfl, rfl⟩
theorem pf_X11_40 : FPF RX11 40 11 13 2 (.array .int) := ⟨RX11, TX11, 34, tyX11, rfl, i_X11, by decide, gX11_40, rfl, tyX11_ok, nmX11, rfl, rfl⟩
theorem pf_X11_43 : FPF RX11 43 11 14 2 (.array .int) := ⟨RX11, TX11, 34, tyX11, rfl, i_X11, by decide, gX11_43, rfl, tyX11_ok, nmX11, rfl, rfl⟩
theorem pf_X11_46 : FPF RX11 46 11 15 2 (.array .int) := ⟨RX11, TX11, 34, tyX11, rfl, i_X11, by decide, gX11_46, rfl, tyX11_ok, nmX11, rfl, rfl⟩
theorem pf_X11_49 : FPF RX11 49 11 16 2 (.array .int) := ⟨RX11, TX11, 34, tyX11, rfl, i_X11, by decide, gX11_49, rfl, tyX11_ok, nmX11, rfl, rfl⟩
theorem pf_X11_52 : FPF RX11 52 11 17 2 (.array .int) := ⟨RX11, TX11, 34, tyX11, rfl, i_X11, by decide, gX11_52, rfl, tyX11_ok, nmX11, rfl, rfl⟩
theorem pf_X11_55 : FPF RX11 55 11 21 2 (.array .boolean) := ⟨RX11, TX11, 34, tyX11, rfl, i_X11, by decide, gX11_55, rfl, tyX11_ok, nmX11, rfl, rfl⟩
theorem pf_X11_59 : FPF RX11 59 11 22 2 (.array .boolean) := ⟨RX11, TX11, 34, tyX11, rfl, i_X11, by decide, gX11_59, rfl, tyX11_ok, nmX11, rfl, rfl⟩
theorem pf_X11_62 : FPF RX11 62 11 23 2 (.array .int) := ⟨RX11, TX11, 34, tyX11, rfl, i_X11, by decide, gX11_62, rfl, tyX11_ok, nmX11, rfl, rfl⟩
theorem pf_X11_65 : FPF RX11 65 11 24 2 (.array .int) := ⟨RX11, TX11, 34, tyX11, rfl, i_X11, by decide, gX11_65, rfl, tyX11_ok, nmX11, rfl, rfl⟩
theorem pf_X11_68 : FPF RX11 68 11 29 2 (.array .int) := ⟨RX11, TX11, 34, tyX11, rfl, i_X11, by decide, gX11_68, rfl, tyX11_ok, nmX11, rfl, rfl⟩
theorem pf_X11_71 : FPF RX11 71 11 30 2 (.array .boolean) := ⟨RX11, TX11, 34, tyX11, rfl, i_X11, by decide, gX11_71, rfl, tyX11_ok, nmX11, rfl, rfl⟩
theorem pf_X11_74 : FPF RX11 74 11 31 2 (.array .int) := ⟨RX11, TX11, 34, tyX11, rfl, i_X11, by decide, gX11_74, rfl, tyX11_ok, nmX11, rfl, rfl⟩
theorem pf_X11_77 : FPF RX11 77 11 32 2 (.array .int) := ⟨RX11, TX11, 34, tyX11, rfl, i_X11, by decide, gX11_77, rfl, tyX11_ok, nmX11, rfl, rfl⟩
def LWL : List CDs := [cO 10 (fu (fu (fu (fu (fu (fu (fu (fu (fu (fu (fu (fu (fu (dfl 10) 0 (Sum.inr (some 1))) 1 (Sum.inr (some 18))) 2 (Sum.inr (some 22))) 3 (Sum.inr (some 73))) 4 (Sum.inr (some 75))) 5 (Sum.inr (some 76))) 6 (Sum.inr (some 79))) 7 (Sum.inr (some 83))) 8 (Sum.inr (some 85))) 9 (Sum.inr (some 88))) 10 (Sum.inr (some 91))) 11 (Sum.inr (some 97))) 12 (Sum.inr (some 100))), cR 3 4 (ru (ru (ru (ru (fun _ => none) 0 2) 1 6) 2 10) 3 14), cO 3 (fu (fu (fu (fu (fu (dfl 3) 0 (Sum.inl 2)) 1 (Sum.inl 0)) 2 (Sum.inr (some 3))) 3 (Sum.inr (some 4))) 4 (Sum.inr (some 5))), cP 0 40 (fun _ => 0), cP 0 40 (fun _ => 0), cP 0 8 (fun _ => 0), cO 3 (fu (fu (fu (fu (fu (dfl 3) 0 (Sum.inl 2)) 1 (Sum.inl 0)) 2 (Sum.inr (some 7))) 3 (Sum.inr (some 8))) 4 (Sum.inr (some 9))), cP 0 40 (fun _ => 0), cP 0 40 (fun _ => 0), cP 0 8 (fun _ => 0), cO 3 (fu (fu (fu (fu (fu (dfl 3) 0 (Sum.inl 2)) 1 (Sum.inl 0)) 2 (Sum.inr (some 11))) 3 (Sum.inr (some 12))) 4 (Sum.inr (some 13))), cP 0 40 (fun _ => 0), cP 0 40 (fun _ => 0), cP 0 8 (fun _ => 0), cO 3 (fu (fu (fu (fu (fu (dfl 3) 0 (Sum.inl 2)) 1 (Sum.inl 0)) 2 (Sum.inr (some 15))) 3 (Sum.inr (some 16))) 4 (Sum.inr (some 17))), cP 0 40 (fun _ => 0), cP 0 40 (fun _ => 0), cP 0 8 (fun _ => 0), cO 3 (fu (fu (fu (fu (fu (dfl 3) 0 (Sum.inl 2)) 1 (Sum.inl 0)) 2 (Sum.inr (some 19))) 3 (Sum.inr (some 20))) 4 (Sum.inr (some 21))), cP 0 40 (fun _ => 0), cP 0 40 (fun _ => 0), cP 0 8 (fun _ => 0), cO 2 (fu (fu (fu (fu (dfl 2) 0 (Sum.inr (some 23))) 1 (Sum.inr (some 24))) 2 (Sum.inl 0)) 3 (Sum.inl 0)), cR 3 12 (ru (ru (ru (ru (ru (ru (ru (ru (ru (ru (ru (ru (fun _ => none) 0 25) 1 29) 2 33) 3 37) 4 41) 5 45) 6 49) 7 53) 8 57) 9 61) 10 65) 11 69), cP 0 12 (fun _ => 0), cO 3 (fu (fu (fu (fu (fu (dfl 3) 0 (Sum.inl 2)) 1 (Sum.inl 0)) 2 (Sum.inr (some 26))) 3 (Sum.inr (some 27))) 4 (Sum.inr (some 28))), cP 0 40 (fun _ => 0), cP 0 40 (fun _ => 0), cP 0 8 (fun _ => 0), cO 3 (fu (fu (fu (fu (fu (dfl 3) 0 (Sum.inl 2)) 1 (Sum.inl 0)) 2 (Sum.inr (some 30))) 3 (Sum.inr (some 31))) 4 (Sum.inr (some 32))), cP 0 40 (fun _ => 0), cP 0 40 (fun _ => 0), cP 0 8 (fun _ => 0), cO 3 (fu (fu (fu (fu (fu (dfl 3) 0 (Sum.inl 2)) 1 (Sum.inl 0)) 2 (Sum.inr (some 34))) 3 (Sum.inr (some 35))) 4 (Sum.inr (some 36))), cP 0 40 (fun _ => 0), cP 0 40 (fun _ => 0), cP 0 8 (fun _ => 0), cO 3 (fu (fu (fu (fu (fu (dfl 3) 0 (Sum.inl 2)) 1 (Sum.inl 0)) 2 (Sum.inr (some 38))) 3 (Sum.inr (some 39))) 4 (Sum.inr (some 40))), cP 0 40 (fun _ => 0), cP 0 40 (fun _ => 0), cP 0 8 (fun _ => 0), cO 3 (fu (fu (fu (fu (fu (dfl 3) 0 (Sum.inl 2)) 1 (Sum.inl 0)) 2 (Sum.inr (some 42))) 3 (Sum.inr (some 43))) 4 (Sum.inr (some 44))), cP 0 40 (fun _ => 0), cP 0 40 (fun _ => 0), cP 0 8 (fun _ => 0), cO 3 (fu (fu (fu (fu (fu (dfl 3) 0 (Sum.inl 2)) 1 (Sum.inl 0)) 2 (Sum.inr (some 46))) 3 (Sum.inr (some 47))) 4 (Sum.inr (some 48))), cP 0 40 (fun _ => 0), cP 0 40 (fun _ => 0), cP 0 8 (fun _ => 0), cO 3 (fu (fu (fu (fu (fu (dfl 3) 0 (Sum.inl 2)) 1 (Sum.inl 0)) 2 (Sum.inr (some 50))) 3 (Sum.inr (some 51))) 4 (Sum.inr (some 52))), cP 0 40 (fun _ => 0), cP 0 40 (fun _ => 0), cP 0 8 (fun _ => 0), cO 3 (fu (fu (fu (fu (fu (dfl 3) 0 (Sum.inl 2)) 1 (Sum.inl 0)) 2 (Sum.inr (some 54))) 3 (Sum.inr (some 55))) 4 (Sum.inr (some 56))), cP 0 40 (fun _ => 0), cP 0 40 (fun _ => 0), cP 0 8 (fun _ => 0), cO 3 (fu (fu (fu (fu (fu (dfl 3) 0 (Sum.inl 2)) 1 (Sum.inl 0)) 2 (Sum.inr (some 58))) 3 (Sum.inr (some 59))) 4 (Sum.inr (some 60))), cP 0 40 (fun _ => 0), cP 0 40 (fun _ => 0), cP 0 8 (fun _ => 0), cO 3 (fu (fu (fu (fu (fu (dfl 3) 0 (Sum.inl 2)) 1 (Sum.inl 0)) 2 (Sum.inr (some 62))) 3 (Sum.inr (some 63))) 4 (Sum.inr (some 64))), cP 0 40 (fun _ => 0), cP 0 40 (fun _ => 0), cP 0 8 (fun _ => 0), cO 3 (fu (fu (fu (fu (fu (dfl 3) 0 (Sum.inl 2)) 1 (Sum.inl 0)) 2 (Sum.inr (some 66))) 3 (Sum.inr (some 67))) 4 (Sum.inr (some 68))), cP 0 40 (fun _ => 0), cP 0 40 (fun _ => 0), cP 0 8 (fun _ => 0), cO 3 (fu (fu (fu (fu (fu (dfl 3) 0 (Sum.inl 2)) 1 (Sum.inl 0)) 2 (Sum.inr (some 70))) 3 (Sum.inr (some 71))) 4 (Sum.inr (some 72))), cP 0 40 (fun _ => 0), cP 0 40 (fun _ => 0), cP 0 8 (fun _ => 0), cO 8 (fu (fu (dfl 8) 0 (Sum.inr (some 74))) 1 (Sum.inl 0)), cP 0 60 (fun _ => 0), cP 0 8 (fun _ => 0), cO 9 (fu (fu (fu (fu (dfl 9) 0 (Sum.inl 0)) 1 (Sum.inl 0)) 2 (Sum.inr (some 77))) 3 (Sum.inr (some 78))), cP 0 8 (fun _ => 0), cP 0 8 (fun _ => 0), cR 4 3 (ru (ru (ru (fun _ => none) 0 80) 1 81) 2 82), cO 6 (fu (fu (fu (dfl 6) 0 (Sum.inl (-1))) 1 (Sum.inl 0)) 2 (Sum.inl 0)), cO 6 (fu (fu (fu (dfl 6) 0 (Sum.inl (-1))) 1 (Sum.inl 0)) 2 (Sum.inl 0)), cO 6 (fu (fu (fu (dfl 6) 0 (Sum.inl (-1))) 1 (Sum.inl 0)) 2 (Sum.inl 0)), cO 7 (fu (fu (fu (dfl 7) 0 (Sum.inr (some 84))) 1 (Sum.inl 2)) 2 (Sum.inl 1)), cP 2 32 (fun _ => 0), cO 4 (fu (fu (fu (fu (dfl 4) 0 (Sum.inr (some 86))) 1 (Sum.inr (some 87))) 2 (Sum.inl 2)) 3 (Sum.inl 0)), cP 1 256 (fun _ => 0), cP 0 256 (fun _ => 0), cO 4 (fu (fu (fu (fu (dfl 4) 0 (Sum.inr (some 89))) 1 (Sum.inr (some 90))) 2 (Sum.inl 2)) 3 (Sum.inl 0)), cP 1 256 (fun _ => 0), cP 0 256 (fun _ => 0), cO 1 (fu (fu (fu (fu (fu (fu (dfl 1) 0 (Sum.inr (some 92))) 1 (Sum.inr (some 93))) 2 (Sum.inr (some 94))) 3 (Sum.inl 0)) 4 (Sum.inr (some 95))) 5 (Sum.inr (some 96))), cP 0 28 (fun _ => 0), cP 0 28 (fun _ => 0), cP 0 28 (fun _ => 0), cP 0 256 (fun _ => 0), cP 0 256 (fun _ => 0), cO 0 (fu (fu (dfl 0) 0 (Sum.inr (some 98))) 1 (Sum.inr (some 99))), cP 0 256 (fun _ => 0), cP 2 256 (fun _ => 0), cO 5 (fu (fu (dfl 5) 0 (Sum.inr (some 101))) 1 (Sum.inr (some 102))), cP 0 8 (fun _ => 0), cP 0 8 (fun _ => 0), cO 11 (fu (fu (fu (fu (fu (fu (fu (fu (fu (fu (fu (fu (fu (fu (fu (fu (fu (fu (fu (fu (fu (fu (fu (dfl 11) 0 (Sum.inr (some 104))) 1 (Sum.inr (some 105))) 2 (Sum.inr (some 106))) 3 (Sum.inr (some 107))) 4 (Sum.inr (some 108))) 5 (Sum.inr (some 109))) 6 (Sum.inr (some 110))) 8 (Sum.inr (some 111))) 10 (Sum.inr (some 112))) 12 (Sum.inr (some 113))) 13 (Sum.inr (some 114))) 14 (Sum.inr (some 115))) 15 (Sum.inr (some 116))) 16 (Sum.inr (some 117))) 17 (Sum.inr (some 118))) 21 (Sum.inr (some 119))) 22 (Sum.inr (some 120))) 23 (Sum.inr (some 121))) 24 (Sum.inr (some 122))) 29 (Sum.inr (some 123))) 30 (Sum.inr (some 124))) 31 (Sum.inr (some 125))) 32 (Sum.inr (some 126))), cP 0 4 (iu (iu (iu (iu (fun _ => 0) 0 2) 1 2) 2 2) 3 2), cP 0 4 (fun _ => 0), cP 0 160 (fun _ => 0), cP 0 160 (fun _ => 0), cP 0 8 (fun _ => 0), cP 0 8 (fun _ => 0), cP 0 8 (fun _ => 0), cP 0 60 (fun _ => 0), cP 0 3936 (fun _ => 0), cP 0 3 (iu (iu (iu (fun _ => 0) 0 (-1)) 1 (-1)) 2 (-1)), cP 0 3 (fun _ => 0), cP 0 3 (fun _ => 0), cP 0 40 (fun _ => 0), cP 0 40 (fun _ => 0), cP 0 40 (fun _ => 0), cP 1 256 (fun _ => 0), cP 1 256 (fun _ => 0), cP 0 8 (fun _ => 0), cP 0 8 (fun _ => 0), cP 0 28 (fun _ => 0), cP 1 256 (fun _ => 0), cP 0 80 (fun _ => 0), cP 0 80 (fun _ => 0)]
def LW (j : Nat) : CDs := LWL.getD j (cP 0 0 (fun _ => 0))
theorem dX2_init_0 : decode prog_4_method_1_code 0 = .ok (.aload_n 0, 1) := by decide +kernel
theorem dX2_init_1 : decode prog_4_method_1_code 1 = .ok (.invokespecial 3, 3) := by decide +kernel
theorem dX2_init_4 : decode prog_4_method_1_code 4 = .ok (.aload_n 0, 1) := by decide +kernel
theorem dX2_init_5 : decode prog_4_method_1_code 5 = .ok (.bipush 12, 2) := by decide +kernel
theorem dX2_init_7 : decode prog_4_method_1_code 7 = .ok (.anewarray 9, 3) := by decide +kernel
theorem dX2_init_10 : decode prog_4_method_1_code 10 = .ok (.putfield 11, 3) := by decide +kernel
theorem dX2_init_13 : decode prog_4_method_1_code 13 = .ok (.aload_n 0, 1) := by decide +kernel
theorem dX2_init_14 : decode prog_4_method_1_code 14 = .ok (.bipush 12, 2) := by decide +kernel
theorem dX2_init_16 : decode prog_4_method_1_code 16 = .ok (.newarray .int, 2) := by decide +kernel
theorem dX2_init_18 : decode prog_4_method_1_code 18 = .ok (.putfield 17, 3) := by decide +kernel
theorem dX2_init_21 : decode prog_4_method_1_code 21 = .ok (.aload_n 0, 1) := by decide +kernel
theorem dX2_init_22 : decode prog_4_method_1_code 22 = .ok (.iconst 0, 1) := by decide +kernel
theorem dX2_init_23 : decode prog_4_method_1_code 23 = .ok (.putfield 21, 3) := by decide +kernel
theorem dX2_init_26 : decode prog_4_method_1_code 26 = .ok (.aload_n 0, 1) := by decide +kernel
theorem dX2_init_27 : decode prog_4_method_1_code 27 = .ok (.iconst 0, 1) := by decide +kernel
theorem dX2_init_28 : decode prog_4_method_1_code 28 = .ok (.putfield 25, 3) := by decide +kernel
theorem dX2_init_31 : decode prog_4_method_1_code 31 = .ok (.iconst 0, 1) := by decide +kernel
theorem dX2_init_32 : decode prog_4_method_1_code 32 = .ok (.istore_n 1, 1) := by decide +kernel
theorem dX2_init_33 : decode prog_4_method_1_code 33 = .ok (.iload_n 1, 1) := by decide +kernel
theorem dX2_init_34 : decode prog_4_method_1_code 34 = .ok (.bipush 12, 2) := by decide +kernel
theorem dX2_init_36 : decode prog_4_method_1_code 36 = .ok (.if_icmp .ge 22, 3) := by decide +kernel
theorem dX2_init_39 : decode prog_4_method_1_code 39 = .ok (.aload_n 0, 1) := by decide +kernel
theorem dX2_init_40 : decode prog_4_method_1_code 40 = .ok (.getfield 11, 3) := by decide +kernel
theorem dX2_init_43 : decode prog_4_method_1_code 43 = .ok (.iload_n 1, 1) := by decide +kernel
theorem dX2_init_44 : decode prog_4_method_1_code 44 = .ok (.new 9, 3) := by decide +kernel
theorem dX2_init_47 : decode prog_4_method_1_code 47 = .ok (.dup, 1) := by decide +kernel
theorem dX2_init_48 : decode prog_4_method_1_code 48 = .ok (.invokespecial 28, 3) := by decide +kernel
theorem dX2_init_51 : decode prog_4_method_1_code 51 = .ok (.aastore, 1) := by decide +kernel
theorem dX2_init_52 : decode prog_4_method_1_code 52 = .ok (.iinc 1 1, 3) := by decide +kernel
theorem dX2_init_55 : decode prog_4_method_1_code 55 = .ok (.goto (-22), 3) := by decide +kernel
theorem dX2_init_58 : decode prog_4_method_1_code 58 = .ok (.return_, 1) := by decide +kernel
set_option maxHeartbeats 4000000 in
theorem kX2 {cs : Nat → CDs} {Q : Nat → (Nat → CDs) → Prop} (hT22 : cs 22 = cO 2 (dfl 2)) (hq : ∀ cs', (∀ j, j < 22 → cs' j = cs j) → (∀ j, 22 ≤ j → j < 73 → cs' j = LW j) → Q 73 cs') : CtF 2 50 1140 mX2_init 22 23 cs Q := by
  refine CtF_of fX2_init rfl rfl (by decide) ?_
  have hX : ∀ j, j < 22 → cs j = cs j := fun _ _ => rfl
  have hW : ∀ j, 22 < j → j < 23 → j ≠ 22 → cs j = LW j := fun j h1 h2 _ => absurd h1 (by omega)
  refine F_aload 0 0 dX2_init_0 rfl rfl ?_
  show Fj 2 50 1140 mX2_init 1 [(0, vr 22)] [vr 22] 23 cs 0 0 Q
  refine F_objInit dX2_init_1 oi_X2 oi_im oi_cd (by decide) (Nat.le_of_ble_eq_true rfl) ?_
  show Fj 2 50 1140 mX2_init 4 [(0, vr 22)] [] 23 cs 0 0 Q
  refine F_aload 0 0 dX2_init_4 rfl rfl ?_
  show Fj 2 50 1140 mX2_init 5 [(0, vr 22)] [vr 22] 23 cs 0 0 Q
  refine F_bipush dX2_init_5 (by decide) ?_
  show Fj 2 50 1140 mX2_init 7 [(0, vr 22)] [vi 12, vr 22] 23 cs 0 0 Q
  obtain ⟨cs1, hcs1⟩ : ∃ x, (cu cs 23 (cR 3 12 (fun _ => none))) = x := ⟨_, rfl⟩
  refine F_anewN (N := 12) dX2_init_7 cl_X2_9 (by decide) (by decide) (by decide) hcs1 ?_
  have hT22 : cs1 22 = cO 2 (dfl 2) := by rw [← hcs1, cu_ne (by decide)]; exact hT22
  have hT23 : cs1 23 = cR 3 12 (fun _ => none) := by rw [← hcs1, cu_self]
  have hW : ∀ j, 22 < j → j < 24 → j ≠ 22 → j ≠ 23 → cs1 j = LW j := by
    intro j hj0 hj h22 h23
    rw [← hcs1]
    rw [cu_ne (by omega)]
    exact hW j hj0 (by omega) (by omega)
  have hX : ∀ j, j < 22 → cs1 j = cs j := by
    intro j hj
    have e9 : cs1 j = cs j := by rw [← hcs1, cu_ne (by omega)]
    exact e9.trans (hX j hj)
  show Fj 2 50 1140 mX2_init 10 [(0, vr 22)] [vr 23, vr 22] 24 cs1 1 12 Q
  obtain ⟨cs2, hcs2⟩ : ∃ x, (cu cs1 22 (cO 2 (fu (dfl 2) 0 (Sum.inr (some 23))))) = x := ⟨_, rfl⟩
  refine F_putR (r := 23) (i := 22) dX2_init_10 pf_X2_11 (refAO _) (by decide) hT22 hcs2 ?_
  have hT22 : cs2 22 = cO 2 (fu (dfl 2) 0 (Sum.inr (some 23))) := by rw [← hcs2, cu_self]
  have hT23 : cs2 23 = cR 3 12 (fun _ => none) := by rw [← hcs2, cu_ne (by decide)]; exact hT23
  have hW : ∀ j, 22 < j → j < 24 → j ≠ 22 → j ≠ 23 → cs2 j = LW j := by
    intro j hj0 hj h22 h23
    rw [← hcs2]
    rw [cu_ne (by omega)]
    exact hW j hj0 (by omega) (by omega) (by omega)
  have hX : ∀ j, j < 22 → cs2 j = cs j := by
    intro j hj
    have e9 : cs2 j = cs1 j := by rw [← hcs2, cu_ne (by omega)]
    exact e9.trans (hX j hj)
  show Fj 2 50 1140 mX2_init 13 [(0, vr 22)] [] 24 cs2 1 12 Q
  refine F_aload 0 0 dX2_init_13 rfl rfl ?_
  show Fj 2 50 1140 mX2_init 14 [(0, vr 22)] [vr 22] 24 cs2 1 12 Q
  refine F_bipush dX2_init_14 (by decide) ?_
  show Fj 2 50 1140 mX2_init 16 [(0, vr 22)] [vi 12, vr 22] 24 cs2 1 12 Q
  obtain ⟨cs3, hcs3⟩ : ∃ x, (cu cs2 24 (cP 0 12 (fun _ => 0))) = x := ⟨_, rfl⟩
  refine F_newaI (N := 12) dX2_init_16 ac_int (by decide) (by decide) (by decide) hcs3 ?_
  have hT22 : cs3 22 = cO 2 (fu (dfl 2) 0 (Sum.inr (some 23))) := by rw [← hcs3, cu_ne (by decide)]; exact hT22
  have hT23 : cs3 23 = cR 3 12 (fun _ => none) := by rw [← hcs3, cu_ne (by decide)]; exact hT23
  have hW : ∀ j, 22 < j → j < 25 → j ≠ 22 → j ≠ 23 → cs3 j = LW j := by
    intro j hj0 hj h22 h23
    rw [← hcs3]
    by_cases q0 : j = 24
    · subst q0; rw [cu_self]; rfl
    rw [cu_ne q0]
    exact hW j hj0 (by omega) (by omega) (by omega)
  have hX : ∀ j, j < 22 → cs3 j = cs j := by
    intro j hj
    have e9 : cs3 j = cs2 j := by rw [← hcs3, cu_ne (by omega)]
    exact e9.trans (hX j hj)
  show Fj 2 50 1140 mX2_init 18 [(0, vr 22)] [vr 24, vr 22] 25 cs3 2 24 Q
  obtain ⟨cs4, hcs4⟩ : ∃ x, (cu cs3 22 (cO 2 (fu (fu (dfl 2) 0 (Sum.inr (some 23))) 1 (Sum.inr (some 24))))) = x := ⟨_, rfl⟩
  refine F_putR (r := 24) (i := 22) dX2_init_18 pf_X2_17 refAI (by decide) hT22 hcs4 ?_
  have hT22 : cs4 22 = cO 2 (fu (fu (dfl 2) 0 (Sum.inr (some 23))) 1 (Sum.inr (some 24))) := by rw [← hcs4, cu_self]
  have hT23 : cs4 23 = cR 3 12 (fun _ => none) := by rw [← hcs4, cu_ne (by decide)]; exact hT23
  have hW : ∀ j, 22 < j → j < 25 → j ≠ 22 → j ≠ 23 → cs4 j = LW j := by
    intro j hj0 hj h22 h23
    rw [← hcs4]
    rw [cu_ne (by omega)]
    exact hW j hj0 (by omega) (by omega) (by omega)
  have hX : ∀ j, j < 22 → cs4 j = cs j := by
    intro j hj
    have e9 : cs4 j = cs3 j := by rw [← hcs4, cu_ne (by omega)]
    exact e9.trans (hX j hj)
  show Fj 2 50 1140 mX2_init 21 [(0, vr 22)] [] 25 cs4 2 24 Q
  refine F_aload 0 0 dX2_init_21 rfl rfl ?_
  show Fj 2 50 1140 mX2_init 22 [(0, vr 22)] [vr 22] 25 cs4 2 24 Q
  refine F_iconst dX2_init_22 ?_
  show Fj 2 50 1140 mX2_init 23 [(0, vr 22)] [vi 0, vr 22] 25 cs4 2 24 Q
  obtain ⟨cs5, hcs5⟩ : ∃ x, (cu cs4 22 (cO 2 (fu (fu (fu (dfl 2) 0 (Sum.inr (some 23))) 1 (Sum.inr (some 24))) 2 (Sum.inl 0)))) = x := ⟨_, rfl⟩
  refine F_putI (i := 22) dX2_init_23 pf_X2_21 (by decide) hT22 hcs5 ?_
  have hT22 : cs5 22 = cO 2 (fu (fu (fu (dfl 2) 0 (Sum.inr (some 23))) 1 (Sum.inr (some 24))) 2 (Sum.inl 0)) := by rw [← hcs5, cu_self]
  have hT23 : cs5 23 = cR 3 12 (fun _ => none) := by rw [← hcs5, cu_ne (by decide)]; exact hT23
  have hW : ∀ j, 22 < j → j < 25 → j ≠ 22 → j ≠ 23 → cs5 j = LW j := by
    intro j hj0 hj h22 h23
    rw [← hcs5]
    rw [cu_ne (by omega)]
    exact hW j hj0 (by omega) (by omega) (by omega)
  have hX : ∀ j, j < 22 → cs5 j = cs j := by
    intro j hj
    have e9 : cs5 j = cs4 j := by rw [← hcs5, cu_ne (by omega)]
    exact e9.trans (hX j hj)
  show Fj 2 50 1140 mX2_init 26 [(0, vr 22)] [] 25 cs5 2 24 Q
  refine F_aload 0 0 dX2_init_26 rfl rfl ?_
  show Fj 2 50 1140 mX2_init 27 [(0, vr 22)] [vr 22] 25 cs5 2 24 Q
  refine F_iconst dX2_init_27 ?_
  show Fj 2 50 1140 mX2_init 28 [(0, vr 22)] [vi 0, vr 22] 25 cs5 2 24 Q
  obtain ⟨cs6, hcs6⟩ : ∃ x, (cu cs5 22 (cO 2 (fu (fu (fu (fu (dfl 2) 0 (Sum.inr (some 23))) 1 (Sum.inr (some 24))) 2 (Sum.inl 0)) 3 (Sum.inl 0)))) = x := ⟨_, rfl⟩
  refine F_putI (i := 22) dX2_init_28 pf_X2_25 (by decide) hT22 hcs6 ?_
  have hT22 : cs6 22 = cO 2 (fu (fu (fu (fu (dfl 2) 0 (Sum.inr (some 23))) 1 (Sum.inr (some 24))) 2 (Sum.inl 0)) 3 (Sum.inl 0)) := by rw [← hcs6, cu_self]
  have hT23 : cs6 23 = cR 3 12 (fun _ => none) := by rw [← hcs6, cu_ne (by decide)]; exact hT23
  have hW : ∀ j, 22 < j → j < 25 → j ≠ 22 → j ≠ 23 → cs6 j = LW j := by
    intro j hj0 hj h22 h23
    rw [← hcs6]
    rw [cu_ne (by omega)]
    exact hW j hj0 (by omega) (by omega) (by omega)
  have hX : ∀ j, j < 22 → cs6 j = cs j := by
    intro j hj
    have e9 : cs6 j = cs5 j := by rw [← hcs6, cu_ne (by omega)]
    exact e9.trans (hX j hj)
  show Fj 2 50 1140 mX2_init 31 [(0, vr 22)] [] 25 cs6 2 24 Q
  refine F_iconst dX2_init_31 ?_
  show Fj 2 50 1140 mX2_init 32 [(0, vr 22)] [vi 0] 25 cs6 2 24 Q
  refine F_istore dX2_init_32 rfl (by decide) rfl ?_
  show Fj 2 50 1140 mX2_init 33 [(1, vi 0), (0, vr 22)] [] 25 cs6 2 24 Q
  refine F_iload 0 1 dX2_init_33 rfl rfl ?_
  show Fj 2 50 1140 mX2_init 34 [(1, vi 0), (0, vr 22)] [vi 0] 25 cs6 2 24 Q
  refine F_bipush dX2_init_34 (by decide) ?_
  show Fj 2 50 1140 mX2_init 36 [(1, vi 0), (0, vr 22)] [vi 12, vi 0] 25 cs6 2 24 Q
  refine F_ge 58 dX2_init_36 rfl (rg_of rfl) (rg_of rfl) (fun hh => absurd hh (by decide)) (fun _ => ?_)
  show Fj 2 50 1140 mX2_init 39 [(1, vi 0), (0, vr 22)] [] 25 cs6 2 24 Q
  refine F_aload 1 0 dX2_init_39 rfl rfl ?_
  show Fj 2 50 1140 mX2_init 40 [(1, vi 0), (0, vr 22)] [vr 22] 25 cs6 2 24 Q
  refine F_getR (r := 23) (i := 22) dX2_init_40 FX2_11 (by decide) hT22 rfl ?_
  show Fj 2 50 1140 mX2_init 43 [(1, vi 0), (0, vr 22)] [vr 23] 25 cs6 2 24 Q
  refine F_iload 0 1 dX2_init_43 rfl rfl ?_
  show Fj 2 50 1140 mX2_init 44 [(1, vi 0), (0, vr 22)] [vi 0, vr 23] 25 cs6 2 24 Q
  obtain ⟨cs7, hcs7⟩ : ∃ x, (cu cs6 25 (cO 3 (dfl 3))) = x := ⟨_, rfl⟩
  refine F_new dX2_init_44 nw_X2_9 (by decide) (by decide) hcs7 ?_
  have hT22 : cs7 22 = cO 2 (fu (fu (fu (fu (dfl 2) 0 (Sum.inr (some 23))) 1 (Sum.inr (some 24))) 2 (Sum.inl 0)) 3 (Sum.inl 0)) := by rw [← hcs7, cu_ne (by decide)]; exact hT22
  have hT23 : cs7 23 = cR 3 12 (fun _ => none) := by rw [← hcs7, cu_ne (by decide)]; exact hT23
  have hT25 : cs7 25 = cO 3 (dfl 3) := by rw [← hcs7, cu_self]
  have hW : ∀ j, 22 < j → j < 26 → j ≠ 22 → j ≠ 23 → j ≠ 25 → cs7 j = LW j := by
    intro j hj0 hj h22 h23 h25
    rw [← hcs7]
    rw [cu_ne (by omega)]
    exact hW j hj0 (by omega) (by omega) (by omega)
  have hX : ∀ j, j < 22 → cs7 j = cs j := by
    intro j hj
    have e9 : cs7 j = cs6 j := by rw [← hcs7, cu_ne (by omega)]
    exact e9.trans (hX j hj)
  show Fj 2 50 1140 mX2_init 47 [(1, vi 0), (0, vr 22)] [vr 25, vi 0, vr 23] 26 cs7 3 29 Q
  refine F_dup dX2_init_47 rfl ?_
  show Fj 2 50 1140 mX2_init 48 [(1, vi 0), (0, vr 22)] [vr 25, vr 25, vi 0, vr 23] 26 cs7 3 29 Q
  obtain ⟨cs8, hcs8⟩ : ∃ x, (cu (cu (cu (cu cs7 25 (cO 3 (fu (fu (fu (fu (fu (dfl 3) 0 (Sum.inl 2)) 1 (Sum.inl 0)) 2 (Sum.inr (some 26))) 3 (Sum.inr (some 27))) 4 (Sum.inr (some 28))))) 26 (cP 0 40 (fun _ => 0))) 27 (cP 0 40 (fun _ => 0))) 28 (cP 0 8 (fun _ => 0))) = x := ⟨_, rfl⟩
  refine F_callN (i := 25) dX2_init_48 fX3_init rfl rfl im_X3 nX2_28 (by decide) (Nat.le_of_ble_eq_true rfl) (by decide) (by decide) (kX3 (by decide) hT25 ?_)
  rw [hcs8]
  have hT22 : cs8 22 = cO 2 (fu (fu (fu (fu (dfl 2) 0 (Sum.inr (some 23))) 1 (Sum.inr (some 24))) 2 (Sum.inl 0)) 3 (Sum.inl 0)) := by rw [← hcs8, cu_ne (by decide), cu_ne (by decide), cu_ne (by decide), cu_ne (by decide)]; exact hT22
  have hT23 : cs8 23 = cR 3 12 (fun _ => none) := by rw [← hcs8, cu_ne (by decide), cu_ne (by decide), cu_ne (by decide), cu_ne (by decide)]; exact hT23
  have hW : ∀ j, 22 < j → j < 29 → j ≠ 22 → j ≠ 23 → cs8 j = LW j := by
    intro j hj0 hj h22 h23
    rw [← hcs8]
    by_cases q3 : j = 28
    · subst q3; rw [cu_self]; rfl
    rw [cu_ne q3]
    by_cases q2 : j = 27
    · subst q2; rw [cu_self]; rfl
    rw [cu_ne q2]
    by_cases q1 : j = 26
    · subst q1; rw [cu_self]; rfl
    rw [cu_ne q1]
    by_cases q0 : j = 25
    · subst q0; rw [cu_self]; rfl
    rw [cu_ne q0]
    exact hW j hj0 (by omega) (by omega) (by omega) (by omega)
  have hX : ∀ j, j < 22 → cs8 j = cs j := by
    intro j hj
    have e9 : cs8 j = cs7 j := by rw [← hcs8, cu_ne (by omega), cu_ne (by omega), cu_ne (by omega), cu_ne (by omega)]
    exact e9.trans (hX j hj)
  show Fj 2 50 1140 mX2_init 51 [(1, vi 0), (0, vr 22)] [vr 25, vi 0, vr 23] 29 cs8 6 117 Q
  obtain ⟨cs9, hcs9⟩ : ∃ x, (cu cs8 23 (cR 3 12 (ru (fun _ => none) 0 25))) = x := ⟨_, rfl⟩
  refine F_aast (i := 23) (r := 25) (x := 0) dX2_init_51 (by decide) hT23 (by decide) ((hW 25 (by decide) (by decide) (by decide) (by decide)).trans (show LW 25 = cO 3 _ from rfl)) (fun _ => rfl) rfl (by decide) (by decide) hcs9 ?_
  have hT22 : cs9 22 = cO 2 (fu (fu (fu (fu (dfl 2) 0 (Sum.inr (some 23))) 1 (Sum.inr (some 24))) 2 (Sum.inl 0)) 3 (Sum.inl 0)) := by rw [← hcs9, cu_ne (by decide)]; exact hT22
  have hT23 : cs9 23 = cR 3 12 (ru (fun _ => none) 0 25) := by rw [← hcs9, cu_self]
  have hW : ∀ j, 22 < j → j < 29 → j ≠ 22 → j ≠ 23 → cs9 j = LW j := by
    intro j hj0 hj h22 h23
    rw [← hcs9]
    rw [cu_ne (by omega)]
    exact hW j hj0 (by omega) (by omega) (by omega)
  have hX : ∀ j, j < 22 → cs9 j = cs j := by
    intro j hj
    have e9 : cs9 j = cs8 j := by rw [← hcs9, cu_ne (by omega)]
    exact e9.trans (hX j hj)
  show Fj 2 50 1140 mX2_init 52 [(1, vi 0), (0, vr 22)] [] 29 cs9 6 117 Q
  refine F_iinc (y := 1) 0 dX2_init_52 rfl (by decide) (by decide) rfl ?_
  show Fj 2 50 1140 mX2_init 55 [(1, vi 1), (0, vr 22)] [] 29 cs9 6 117 Q
  refine F_goto 33 dX2_init_55 rfl ?_
  show Fj 2 50 1140 mX2_init 33 [(1, vi 1), (0, vr 22)] [] 29 cs9 6 117 Q
  refine F_iload 0 1 dX2_init_33 rfl rfl ?_
  show Fj 2 50 1140 mX2_init 34 [(1, vi 1), (0, vr 22)] [vi 1] 29 cs9 6 117 Q
  refine F_bipush dX2_init_34 (by decide) ?_
  show Fj 2 50 1140 mX2_init 36 [(1, vi 1), (0, vr 22)] [vi 12, vi 1] 29 cs9 6 117 Q
  refine F_ge 58 dX2_init_36 rfl (rg_of rfl) (rg_of rfl) (fun hh => absurd hh (by decide)) (fun _ => ?_)
  show Fj 2 50 1140 mX2_init 39 [(1, vi 1), (0, vr 22)] [] 29 cs9 6 117 Q
  refine F_aload 1 0 dX2_init_39 rfl rfl ?_
  show Fj 2 50 1140 mX2_init 40 [(1, vi 1), (0, vr 22)] [vr 22] 29 cs9 6 117 Q
  refine F_getR (r := 23) (i := 22) dX2_init_40 FX2_11 (by decide) hT22 rfl ?_
  show Fj 2 50 1140 mX2_init 43 [(1, vi 1), (0, vr 22)] [vr 23] 29 cs9 6 117 Q
  refine F_iload 0 1 dX2_init_43 rfl rfl ?_
  show Fj 2 50 1140 mX2_init 44 [(1, vi 1), (0, vr 22)] [vi 1, vr 23] 29 cs9 6 117 Q
  obtain ⟨cs10, hcs10⟩ : ∃ x, (cu cs9 29 (cO 3 (dfl 3))) = x := ⟨_, rfl⟩
  refine F_new dX2_init_44 nw_X2_9 (by decide) (by decide) hcs10 ?_
  have hT22 : cs10 22 = cO 2 (fu (fu (fu (fu (dfl 2) 0 (Sum.inr (some 23))) 1 (Sum.inr (some 24))) 2 (Sum.inl 0)) 3 (Sum.inl 0)) := by rw [← hcs10, cu_ne (by decide)]; exact hT22
  have hT23 : cs10 23 = cR 3 12 (ru (fun _ => none) 0 25) := by rw [← hcs10, cu_ne (by decide)]; exact hT23
  have hT29 : cs10 29 = cO 3 (dfl 3) := by rw [← hcs10, cu_self]
  have hW : ∀ j, 22 < j → j < 30 → j ≠ 22 → j ≠ 23 → j ≠ 29 → cs10 j = LW j := by
    intro j hj0 hj h22 h23 h29
    rw [← hcs10]
    rw [cu_ne (by omega)]
    exact hW j hj0 (by omega) (by omega) (by omega)
  have hX : ∀ j, j < 22 → cs10 j = cs j := by
    intro j hj
    have e9 : cs10 j = cs9 j := by rw [← hcs10, cu_ne (by omega)]
    exact e9.trans (hX j hj)
  show Fj 2 50 1140 mX2_init 47 [(1, vi 1), (0, vr 22)] [vr 29, vi 1, vr 23] 30 cs10 7 122 Q
  refine F_dup dX2_init_47 rfl ?_
  show Fj 2 50 1140 mX2_init 48 [(1, vi 1), (0, vr 22)] [vr 29, vr 29, vi 1, vr 23] 30 cs10 7 122 Q
  obtain ⟨cs11, hcs11⟩ : ∃ x, (cu (cu (cu (cu cs10 29 (cO 3 (fu (fu (fu (fu (fu (dfl 3) 0 (Sum.inl 2)) 1 (Sum.inl 0)) 2 (Sum.inr (some 30))) 3 (Sum.inr (some 31))) 4 (Sum.inr (some 32))))) 30 (cP 0 40 (fun _ => 0))) 31 (cP 0 40 (fun _ => 0))) 32 (cP 0 8 (fun _ => 0))) = x := ⟨_, rfl⟩
  refine F_callN (i := 29) dX2_init_48 fX3_init rfl rfl im_X3 nX2_28 (by decide) (Nat.le_of_ble_eq_true rfl) (by decide) (by decide) (kX3 (by decide) hT29 ?_)
  rw [hcs11]
  have hT22 : cs11 22 = cO 2 (fu (fu (fu (fu (dfl 2) 0 (Sum.inr (some 23))) 1 (Sum.inr (some 24))) 2 (Sum.inl 0)) 3 (Sum.inl 0)) := by rw [← hcs11, cu_ne (by decide), cu_ne (by decide), cu_ne (by decide), cu_ne (by decide)]; exact hT22
  have hT23 : cs11 23 = cR 3 12 (ru (fun _ => none) 0 25) := by rw [← hcs11, cu_ne (by decide), cu_ne (by decide), cu_ne (by decide), cu_ne (by decide)]; exact hT23
  have hW : ∀ j, 22 < j → j < 33 → j ≠ 22 → j ≠ 23 → cs11 j = LW j := by
    intro j hj0 hj h22 h23
    rw [← hcs11]
    by_cases q3 : j = 32
    · subst q3; rw [cu_self]; rfl
    rw [cu_ne q3]
    by_cases q2 : j = 31
    · subst q2; rw [cu_self]; rfl
    rw [cu_ne q2]
    by_cases q1 : j = 30
    · subst q1; rw [cu_self]; rfl
    rw [cu_ne q1]
    by_cases q0 : j = 29
    · subst q0; rw [cu_self]; rfl
    rw [cu_ne q0]
    exact hW j hj0 (by omega) (by omega) (by omega) (by omega)
  have hX : ∀ j, j < 22 → cs11 j = cs j := by
    intro j hj
    have e9 : cs11 j = cs10 j := by rw [← hcs11, cu_ne (by omega), cu_ne (by omega), cu_ne (by omega), cu_ne (by omega)]
    exact e9.trans (hX j hj)
  show Fj 2 50 1140 mX2_init 51 [(1, vi 1), (0, vr 22)] [vr 29, vi 1, vr 23] 33 cs11 10 210 Q
  obtain ⟨cs12, hcs12⟩ : ∃ x, (cu cs11 23 (cR 3 12 (ru (ru (fun _ => none) 0 25) 1 29))) = x := ⟨_, rfl⟩
  refine F_aast (i := 23) (r := 29) (x := 1) dX2_init_51 (by decide) hT23 (by decide) ((hW 29 (by decide) (by decide) (by decide) (by decide)).trans (show LW 29 = cO 3 _ from rfl)) (fun _ => rfl) rfl (by decide) (by decide) hcs12 ?_
  have hT22 : cs12 22 = cO 2 (fu (fu (fu (fu (dfl 2) 0 (Sum.inr (some 23))) 1 (Sum.inr (some 24))) 2 (Sum.inl 0)) 3 (Sum.inl 0)) := by rw [← hcs12, cu_ne (by decide)]; exact hT22
  have hT23 : cs12 23 = cR 3 12 (ru (ru (fun _ => none) 0 25) 1 29) := by rw [← hcs12, cu_self]
  have hW : ∀ j, 22 < j → j < 33 → j ≠ 22 → j ≠ 23 → cs12 j = LW j := by
    intro j hj0 hj h22 h23
    rw [← hcs12]
    rw [cu_ne (by omega)]
    exact hW j hj0 (by omega) (by omega) (by omega)
  have hX : ∀ j, j < 22 → cs12 j = cs j := by
    intro j hj
    have e9 : cs12 j = cs11 j := by rw [← hcs12, cu_ne (by omega)]
    exact e9.trans (hX j hj)
  show Fj 2 50 1140 mX2_init 52 [(1, vi 1), (0, vr 22)] [] 33 cs12 10 210 Q
  refine F_iinc (y := 2) 0 dX2_init_52 rfl (by decide) (by decide) rfl ?_
  show Fj 2 50 1140 mX2_init 55 [(1, vi 2), (0, vr 22)] [] 33 cs12 10 210 Q
  refine F_goto 33 dX2_init_55 rfl ?_
  show Fj 2 50 1140 mX2_init 33 [(1, vi 2), (0, vr 22)] [] 33 cs12 10 210 Q
  refine F_iload 0 1 dX2_init_33 rfl rfl ?_
  show Fj 2 50 1140 mX2_init 34 [(1, vi 2), (0, vr 22)] [vi 2] 33 cs12 10 210 Q
  refine F_bipush dX2_init_34 (by decide) ?_
  show Fj 2 50 1140 mX2_init 36 [(1, vi 2), (0, vr 22)] [vi 12, vi 2] 33 cs12 10 210 Q
  refine F_ge 58 dX2_init_36 rfl (rg_of rfl) (rg_of rfl) (fun hh => absurd hh (by decide)) (fun _ => ?_)
  show Fj 2 50 1140 mX2_init 39 [(1, vi 2), (0, vr 22)] [] 33 cs12 10 210 Q
  refine F_aload 1 0 dX2_init_39 rfl rfl ?_
  show Fj 2 50 1140 mX2_init 40 [(1, vi 2), (0, vr 22)] [vr 22] 33 cs12 10 210 Q
  refine F_getR (r := 23) (i := 22) dX2_init_40 FX2_11 (by decide) hT22 rfl ?_
  show Fj 2 50 1140 mX2_init 43 [(1, vi 2), (0, vr 22)] [vr 23] 33 cs12 10 210 Q
  refine F_iload 0 1 dX2_init_43 rfl rfl ?_
  show Fj 2 50 1140 mX2_init 44 [(1, vi 2), (0, vr 22)] [vi 2, vr 23] 33 cs12 10 210 Q
  obtain ⟨cs13, hcs13⟩ : ∃ x, (cu cs12 33 (cO 3 (dfl 3))) = x := ⟨_, rfl⟩
  refine F_new dX2_init_44 nw_X2_9 (by decide) (by decide) hcs13 ?_
  have hT22 : cs13 22 = cO 2 (fu (fu (fu (fu (dfl 2) 0 (Sum.inr (some 23))) 1 (Sum.inr (some 24))) 2 (Sum.inl 0)) 3 (Sum.inl 0)) := by rw [← hcs13, cu_ne (by decide)]; exact hT22
  have hT23 : cs13 23 = cR 3 12 (ru (ru (fun _ => none) 0 25) 1 29) := by rw [← hcs13, cu_ne (by decide)]; exact hT23
  have hT33 : cs13 33 = cO 3 (dfl 3) := by rw [← hcs13, cu_self]
  have hW : ∀ j, 22 < j → j < 34 → j ≠ 22 → j ≠ 23 → j ≠ 33 → cs13 j = LW j := by
    intro j hj0 hj h22 h23 h33
    rw [← hcs13]
    rw [cu_ne (by omega)]
    exact hW j hj0 (by omega) (by omega) (by omega)
  have hX : ∀ j, j < 22 → cs13 j = cs j := by
    intro j hj
    have e9 : cs13 j = cs12 j := by rw [← hcs13, cu_ne (by omega)]
    exact e9.trans (hX j hj)
  show Fj 2 50 1140 mX2_init 47 [(1, vi 2), (0, vr 22)] [vr 33, vi 2, vr 23] 34 cs13 11 215 Q
  refine F_dup dX2_init_47 rfl ?_
  show Fj 2 50 1140 mX2_init 48 [(1, vi 2), (0, vr 22)] [vr 33, vr 33, vi 2, vr 23] 34 cs13 11 215 Q
  obtain ⟨cs14, hcs14⟩ : ∃ x, (cu (cu (cu (cu cs13 33 (cO 3 (fu (fu (fu (fu (fu (dfl 3) 0 (Sum.inl 2)) 1 (Sum.inl 0)) 2 (Sum.inr (some 34))) 3 (Sum.inr (some 35))) 4 (Sum.inr (some 36))))) 34 (cP 0 40 (fun _ => 0))) 35 (cP 0 40 (fun _ => 0))) 36 (cP 0 8 (fun _ => 0))) = x := ⟨_, rfl⟩
  refine F_callN (i := 33) dX2_init_48 fX3_init rfl rfl im_X3 nX2_28 (by decide) (Nat.le_of_ble_eq_true rfl) (by decide) (by decide) (kX3 (by decide) hT33 ?_)
  rw [hcs14]
  have hT22 : cs14 22 = cO 2 (fu (fu (fu (fu (dfl 2) 0 (Sum.inr (some 23))) 1 (Sum.inr (some 24))) 2 (Sum.inl 0)) 3 (Sum.inl 0)) := by rw [← hcs14, cu_ne (by decide), cu_ne (by decide), cu_ne (by decide), cu_ne (by decide)]; exact hT22
  have hT23 : cs14 23 = cR 3 12 (ru (ru (fun _ => none) 0 25) 1 29) := by rw [← hcs14, cu_ne (by decide), cu_ne (by decide), cu_ne (by decide), cu_ne (by decide)]; exact hT23
  have hW : ∀ j, 22 < j → j < 37 → j ≠ 22 → j ≠ 23 → cs14 j = LW j := by
    intro j hj0 hj h22 h23
    rw [← hcs14]
    by_cases q3 : j = 36
    · subst q3; rw [cu_self]; rfl
    rw [cu_ne q3]
    by_cases q2 : j = 35
    · subst q2; rw [cu_self]; rfl
    rw [cu_ne q2]
    by_cases q1 : j = 34
    · subst q1; rw [cu_self]; rfl
    rw [cu_ne q1]
    by_cases q0 : j = 33
    · subst q0; rw [cu_self]; rfl
    rw [cu_ne q0]
    exact hW j hj0 (by omega) (by omega) (by omega) (by omega)
  have hX : ∀ j, j < 22 → cs14 j = cs j := by
    intro j hj
    have e9 : cs14 j = cs13 j := by rw [← hcs14, cu_ne (by omega), cu_ne (by omega), cu_ne (by omega), cu_ne (by omega)]
    exact e9.trans (hX j hj)
  show Fj 2 50 1140 mX2_init 51 [(1, vi 2), (0, vr 22)] [vr 33, vi 2, vr 23] 37 cs14 14 303 Q
  obtain ⟨cs15, hcs15⟩ : ∃ x, (cu cs14 23 (cR 3 12 (ru (ru (ru (fun _ => none) 0 25) 1 29) 2 33))) = x := ⟨_, rfl⟩
  refine F_aast (i := 23) (r := 33) (x := 2) dX2_init_51 (by decide) hT23 (by decide) ((hW 33 (by decide) (by decide) (by decide) (by decide)).trans (show LW 33 = cO 3 _ from rfl)) (fun _ => rfl) rfl (by decide) (by decide) hcs15 ?_
  have hT22 : cs15 22 = cO 2 (fu (fu (fu (fu (dfl 2) 0 (Sum.inr (some 23))) 1 (Sum.inr (some 24))) 2 (Sum.inl 0)) 3 (Sum.inl 0)) := by rw [← hcs15, cu_ne (by decide)]; exact hT22
  have hT23 : cs15 23 = cR 3 12 (ru (ru (ru (fun _ => none) 0 25) 1 29) 2 33) := by rw [← hcs15, cu_self]
  have hW : ∀ j, 22 < j → j < 37 → j ≠ 22 → j ≠ 23 → cs15 j = LW j := by
    intro j hj0 hj h22 h23
    rw [← hcs15]
    rw [cu_ne (by omega)]
    exact hW j hj0 (by omega) (by omega) (by omega)
  have hX : ∀ j, j < 22 → cs15 j = cs j := by
    intro j hj
    have e9 : cs15 j = cs14 j := by rw [← hcs15, cu_ne (by omega)]
    exact e9.trans (hX j hj)
  show Fj 2 50 1140 mX2_init 52 [(1, vi 2), (0, vr 22)] [] 37 cs15 14 303 Q
  refine F_iinc (y := 3) 0 dX2_init_52 rfl (by decide) (by decide) rfl ?_
  show Fj 2 50 1140 mX2_init 55 [(1, vi 3), (0, vr 22)] [] 37 cs15 14 303 Q
  refine F_goto 33 dX2_init_55 rfl ?_
  show Fj 2 50 1140 mX2_init 33 [(1, vi 3), (0, vr 22)] [] 37 cs15 14 303 Q
  refine F_iload 0 1 dX2_init_33 rfl rfl ?_
  show Fj 2 50 1140 mX2_init 34 [(1, vi 3), (0, vr 22)] [vi 3] 37 cs15 14 303 Q
  refine F_bipush dX2_init_34 (by decide) ?_
  show Fj 2 50 1140 mX2_init 36 [(1, vi 3), (0, vr 22)] [vi 12, vi 3] 37 cs15 14 303 Q
  refine F_ge 58 dX2_init_36 rfl (rg_of rfl) (rg_of rfl) (fun hh => absurd hh (by decide)) (fun _ => ?_)
  show Fj 2 50 1140 mX2_init 39 [(1, vi 3), (0, vr 22)] [] 37 cs15 14 303 Q
  refine F_aload 1 0 dX2_init_39 rfl rfl ?_
  show Fj 2 50 1140 mX2_init 40 [(1, vi 3), (0, vr 22)] [vr 22] 37 cs15 14 303 Q
  refine F_getR (r := 23) (i := 22) dX2_init_40 FX2_11 (by decide) hT22 rfl ?_
  show Fj 2 50 1140 mX2_init 43 [(1, vi 3), (0, vr 22)] [vr 23] 37 cs15 14 303 Q
  refine F_iload 0 1 dX2_init_43 rfl rfl ?_
  show Fj 2 50 1140 mX2_init 44 [(1, vi 3), (0, vr 22)] [vi 3, vr 23] 37 cs15 14 303 Q
  obtain ⟨cs16, hcs16⟩ : ∃ x, (cu cs15 37 (cO 3 (dfl 3))) = x := ⟨_, rfl⟩
  refine F_new dX2_init_44 nw_X2_9 (by decide) (by decide) hcs16 ?_
  have hT22 : cs16 22 = cO 2 (fu (fu (fu (fu (dfl 2) 0 (Sum.inr (some 23))) 1 (Sum.inr (some 24))) 2 (Sum.inl 0)) 3 (Sum.inl 0)) := by rw [← hcs16, cu_ne (by decide)]; exact hT22
  have hT23 : cs16 23 = cR 3 12 (ru (ru (ru (fun _ => none) 0 25) 1 29) 2 33) := by rw [← hcs16, cu_ne (by decide)]; exact hT23
  have hT37 : cs16 37 = cO 3 (dfl 3) := by rw [← hcs16, cu_self]
  have hW : ∀ j, 22 < j → j < 38 → j ≠ 22 → j ≠ 23 → j ≠ 37 → cs16 j = LW j := by
    intro j hj0 hj h22 h23 h37
    rw [← hcs16]
    rw [cu_ne (by omega)]
    exact hW j hj0 (by omega) (by omega) (by omega)
  have hX : ∀ j, j < 22 → cs16 j = cs j := by
    intro j hj
    have e9 : cs16 j = cs15 j := by rw [← hcs16, cu_ne (by omega)]
    exact e9.trans (hX j hj)
  show Fj 2 50 1140 mX2_init 47 [(1, vi 3), (0, vr 22)] [vr 37, vi 3, vr 23] 38 cs16 15 308 Q
  refine F_dup dX2_init_47 rfl ?_
  show Fj 2 50 1140 mX2_init 48 [(1, vi 3), (0, vr 22)] [vr 37, vr 37, vi 3, vr 23] 38 cs16 15 308 Q
  obtain ⟨cs17, hcs17⟩ : ∃ x, (cu (cu (cu (cu cs16 37 (cO 3 (fu (fu (fu (fu (fu (dfl 3) 0 (Sum.inl 2)) 1 (Sum.inl 0)) 2 (Sum.inr (some 38))) 3 (Sum.inr (some 39))) 4 (Sum.inr (some 40))))) 38 (cP 0 40 (fun _ => 0))) 39 (cP 0 40 (fun _ => 0))) 40 (cP 0 8 (fun _ => 0))) = x := ⟨_, rfl⟩
  refine F_callN (i := 37) dX2_init_48 fX3_init rfl rfl im_X3 nX2_28 (by decide) (Nat.le_of_ble_eq_true rfl) (by decide) (by decide) (kX3 (by decide) hT37 ?_)
  rw [hcs17]
  have hT22 : cs17 22 = cO 2 (fu (fu (fu (fu (dfl 2) 0 (Sum.inr (some 23))) 1 (Sum.inr (some 24))) 2 (Sum.inl 0)) 3 (Sum.inl 0)) := by rw [← hcs17, cu_ne (by decide), cu_ne (by decide), cu_ne (by decide), cu_ne (by decide)]; exact hT22
  have hT23 : cs17 23 = cR 3 12 (ru (ru (ru (fun _ => none) 0 25) 1 29) 2 33) := by rw [← hcs17, cu_ne (by decide), cu_ne (by decide), cu_ne (by decide), cu_ne (by decide)]; exact hT23
  have hW : ∀ j, 22 < j → j < 41 → j ≠ 22 → j ≠ 23 → cs17 j = LW j := by
    intro j hj0 hj h22 h23
    rw [← hcs17]
    by_cases q3 : j = 40
    · subst q3; rw [cu_self]; rfl
    rw [cu_ne q3]
    by_cases q2 : j = 39
    · subst q2; rw [cu_self]; rfl
    rw [cu_ne q2]
    by_cases q1 : j = 38
    · subst q1; rw [cu_self]; rfl
    rw [cu_ne q1]
    by_cases q0 : j = 37
    · subst q0; rw [cu_self]; rfl
    rw [cu_ne q0]
    exact hW j hj0 (by omega) (by omega) (by omega) (by omega)
  have hX : ∀ j, j < 22 → cs17 j = cs j := by
    intro j hj
    have e9 : cs17 j = cs16 j := by rw [← hcs17, cu_ne (by omega), cu_ne (by omega), cu_ne (by omega), cu_ne (by omega)]
    exact e9.trans (hX j hj)
  show Fj 2 50 1140 mX2_init 51 [(1, vi 3), (0, vr 22)] [vr 37, vi 3, vr 23] 41 cs17 18 396 Q
  obtain ⟨cs18, hcs18⟩ : ∃ x, (cu cs17 23 (cR 3 12 (ru (ru (ru (ru (fun _ => none) 0 25) 1 29) 2 33) 3 37))) = x := ⟨_, rfl⟩
  refine F_aast (i := 23) (r := 37) (x := 3) dX2_init_51 (by decide) hT23 (by decide) ((hW 37 (by decide) (by decide) (by decide) (by decide)).trans (show LW 37 = cO 3 _ from rfl)) (fun _ => rfl) rfl (by decide) (by decide) hcs18 ?_
  have hT22 : cs18 22 = cO 2 (fu (fu (fu (fu (dfl 2) 0 (Sum.inr (some 23))) 1 (Sum.inr (some 24))) 2 (Sum.inl 0)) 3 (Sum.inl 0)) := by rw [← hcs18, cu_ne (by decide)]; exact hT22
  have hT23 : cs18 23 = cR 3 12 (ru (ru (ru (ru (fun _ => none) 0 25) 1 29) 2 33) 3 37) := by rw [← hcs18, cu_self]
  have hW : ∀ j, 22 < j → j < 41 → j ≠ 22 → j ≠ 23 → cs18 j = LW j := by
    intro j hj0 hj h22 h23
    rw [← hcs18]
    rw [cu_ne (by omega)]
    exact hW j hj0 (by omega) (by omega) (by omega)
  have hX : ∀ j, j < 22 → cs18 j = cs j := by
    intro j hj
    have e9 : cs18 j = cs17 j := by rw [← hcs18, cu_ne (by omega)]
    exact e9.trans (hX j hj)
  show Fj 2 50 1140 mX2_init 52 [(1, vi 3), (0, vr 22)] [] 41 cs18 18 396 Q
  refine F_iinc (y := 4) 0 dX2_init_52 rfl (by decide) (by decide) rfl ?_
  show Fj 2 50 1140 mX2_init 55 [(1, vi 4), (0, vr 22)] [] 41 cs18 18 396 Q
  refine F_goto 33 dX2_init_55 rfl ?_
  show Fj 2 50 1140 mX2_init 33 [(1, vi 4), (0, vr 22)] [] 41 cs18 18 396 Q
  refine F_iload 0 1 dX2_init_33 rfl rfl ?_
  show Fj 2 50 1140 mX2_init 34 [(1, vi 4), (0, vr 22)] [vi 4] 41 cs18 18 396 Q
  refine F_bipush dX2_init_34 (by decide) ?_
  show Fj 2 50 1140 mX2_init 36 [(1, vi 4), (0, vr 22)] [vi 12, vi 4] 41 cs18 18 396 Q
  refine F_ge 58 dX2_init_36 rfl (rg_of rfl) (rg_of rfl) (fun hh => absurd hh (by decide)) (fun _ => ?_)
  show Fj 2 50 1140 mX2_init 39 [(1, vi 4), (0, vr 22)] [] 41 cs18 18 396 Q
  refine F_aload 1 0 dX2_init_39 rfl rfl ?_
  show Fj 2 50 1140 mX2_init 40 [(1, vi 4), (0, vr 22)] [vr 22] 41 cs18 18 396 Q
  refine F_getR (r := 23) (i := 22) dX2_init_40 FX2_11 (by decide) hT22 rfl ?_
  show Fj 2 50 1140 mX2_init 43 [(1, vi 4), (0, vr 22)] [vr 23] 41 cs18 18 396 Q
  refine F_iload 0 1 dX2_init_43 rfl rfl ?_
  show Fj 2 50 1140 mX2_init 44 [(1, vi 4), (0, vr 22)] [vi 4, vr 23] 41 cs18 18 396 Q
  obtain ⟨cs19, hcs19⟩ : ∃ x, (cu cs18 41 (cO 3 (dfl 3))) = x := ⟨_, rfl⟩
  refine F_new dX2_init_44 nw_X2_9 (by decide) (by decide) hcs19 ?_
  have hT22 : cs19 22 = cO 2 (fu (fu (fu (fu (dfl 2) 0 (Sum.inr (some 23))) 1 (Sum.inr (some 24))) 2 (Sum.inl 0)) 3 (Sum.inl 0)) := by rw [← hcs19, cu_ne (by decide)]; exact hT22
  have hT23 : cs19 23 = cR 3 12 (ru (ru (ru (ru (fun _ => none) 0 25) 1 29) 2 33) 3 37) := by rw [← hcs19, cu_ne (by decide)]; exact hT23
  have hT41 : cs19 41 = cO 3 (dfl 3) := by rw [← hcs19, cu_self]
  have hW : ∀ j, 22 < j → j < 42 → j ≠ 22 → j ≠ 23 → j ≠ 41 → cs19 j = LW j := by
    intro j hj0 hj h22 h23 h41
    rw [← hcs19]
    rw [cu_ne (by omega)]
    exact hW j hj0 (by omega) (by omega) (by omega)
  have hX : ∀ j, j < 22 → cs19 j = cs j := by
    intro j hj
    have e9 : cs19 j = cs18 j := by rw [← hcs19, cu_ne (by omega)]
    exact e9.trans (hX j hj)
  show Fj 2 50 1140 mX2_init 47 [(1, vi 4), (0, vr 22)] [vr 41, vi 4, vr 23] 42 cs19 19 401 Q
  refine F_dup dX2_init_47 rfl ?_
  show Fj 2 50 1140 mX2_init 48 [(1, vi 4), (0, vr 22)] [vr 41, vr 41, vi 4, vr 23] 42 cs19 19 401 Q
  obtain ⟨cs20, hcs20⟩ : ∃ x, (cu (cu (cu (cu cs19 41 (cO 3 (fu (fu (fu (fu (fu (dfl 3) 0 (Sum.inl 2)) 1 (Sum.inl 0)) 2 (Sum.inr (some 42))) 3 (Sum.inr (some 43))) 4 (Sum.inr (some 44))))) 42 (cP 0 40 (fun _ => 0))) 43 (cP 0 40 (fun _ => 0))) 44 (cP 0 8 (fun _ => 0))) = x := ⟨_, rfl⟩
  refine F_callN (i := 41) dX2_init_48 fX3_init rfl rfl im_X3 nX2_28 (by decide) (Nat.le_of_ble_eq_true rfl) (by decide) (by decide) (kX3 (by decide) hT41 ?_)
  rw [hcs20]
  have hT22 : cs20 22 = cO 2 (fu (fu (fu (fu (dfl 2) 0 (Sum.inr (some 23))) 1 (Sum.inr (some 24))) 2 (Sum.inl 0)) 3 (Sum.inl 0)) := by rw [← hcs20, cu_ne (by decide), cu_ne (by decide), cu_ne (by decide), cu_ne (by decide)]; exact hT22
  have hT23 : cs20 23 = cR 3 12 (ru (ru (ru (ru (fun _ => none) 0 25) 1 29) 2 33) 3 37) := by rw [← hcs20, cu_ne (by decide), cu_ne (by decide), cu_ne (by decide), cu_ne (by decide)]; exact hT23
  have hW : ∀ j, 22 < j → j < 45 → j ≠ 22 → j ≠ 23 → cs20 j = LW j := by
    intro j hj0 hj h22 h23
    rw [← hcs20]
    by_cases q3 : j = 44
    · subst q3; rw [cu_self]; rfl
    rw [cu_ne q3]
    by_cases q2 : j = 43
    · subst q2; rw [cu_self]; rfl
    rw [cu_ne q2]
    by_cases q1 : j = 42
    · subst q1; rw [cu_self]; rfl
    rw [cu_ne q1]
    by_cases q0 : j = 41
    · subst q0; rw [cu_self]; rfl
    rw [cu_ne q0]
    exact hW j hj0 (by omega) (by omega) (by omega) (by omega)
  have hX : ∀ j, j < 22 → cs20 j = cs j := by
    intro j hj
    have e9 : cs20 j = cs19 j := by rw [← hcs20, cu_ne (by omega), cu_ne (by omega), cu_ne (by omega), cu_ne (by omega)]
    exact e9.trans (hX j hj)
  show Fj 2 50 1140 mX2_init 51 [(1, vi 4), (0, vr 22)] [vr 41, vi 4, vr 23] 45 cs20 22 489 Q
  obtain ⟨cs21, hcs21⟩ : ∃ x, (cu cs20 23 (cR 3 12 (ru (ru (ru (ru (ru (fun _ => none) 0 25) 1 29) 2 33) 3 37) 4 41))) = x := ⟨_, rfl⟩
  refine F_aast (i := 23) (r := 41) (x := 4) dX2_init_51 (by decide) hT23 (by decide) ((hW 41 (by decide) (by decide) (by decide) (by decide)).trans (show LW 41 = cO 3 _ from rfl)) (fun _ => rfl) rfl (by decide) (by decide) hcs21 ?_
  have hT22 : cs21 22 = cO 2 (fu (fu (fu (fu (dfl 2) 0 (Sum.inr (some 23))) 1 (Sum.inr (some 24))) 2 (Sum.inl 0)) 3 (Sum.inl 0)) := by rw [← hcs21, cu_ne (by decide)]; exact hT22
  have hT23 : cs21 23 = cR 3 12 (ru (ru (ru (ru (ru (fun _ => none) 0 25) 1 29) 2 33) 3 37) 4 41) := by rw [← hcs21, cu_self]
  have hW : ∀ j, 22 < j → j < 45 → j ≠ 22 → j ≠ 23 → cs21 j = LW j := by
    intro j hj0 hj h22 h23
    rw [← hcs21]
    rw [cu_ne (by omega)]
    exact hW j hj0 (by omega) (by omega) (by omega)
  have hX : ∀ j, j < 22 → cs21 j = cs j := by
    intro j hj
    have e9 : cs21 j = cs20 j := by rw [← hcs21, cu_ne (by omega)]
    exact e9.trans (hX j hj)
  show Fj 2 50 1140 mX2_init 52 [(1, vi 4), (0, vr 22)] [] 45 cs21 22 489 Q
  refine F_iinc (y := 5) 0 dX2_init_52 rfl (by decide) (by decide) rfl ?_
  show Fj 2 50 1140 mX2_init 55 [(1, vi 5), (0, vr 22)] [] 45 cs21 22 489 Q
  refine F_goto 33 dX2_init_55 rfl ?_
  show Fj 2 50 1140 mX2_init 33 [(1, vi 5), (0, vr 22)] [] 45 cs21 22 489 Q
  refine F_iload 0 1 dX2_init_33 rfl rfl ?_
  show Fj 2 50 1140 mX2_init 34 [(1, vi 5), (0, vr 22)] [vi 5] 45 cs21 22 489 Q
  refine F_bipush dX2_init_34 (by decide) ?_
  show Fj 2 50 1140 mX2_init 36 [(1, vi 5), (0, vr 22)] [vi 12, vi 5] 45 cs21 22 489 Q
  refine F_ge 58 dX2_init_36 rfl (rg_of rfl) (rg_of rfl) (fun hh => absurd hh (by decide)) (fun _ => ?_)
  show Fj 2 50 1140 mX2_init 39 [(1, vi 5), (0, vr 22)] [] 45 cs21 22 489 Q
  refine F_aload 1 0 dX2_init_39 rfl rfl ?_
  show Fj 2 50 1140 mX2_init 40 [(1, vi 5), (0, vr 22)] [vr 22] 45 cs21 22 489 Q
  refine F_getR (r := 23) (i := 22) dX2_init_40 FX2_11 (by decide) hT22 rfl ?_
  show Fj 2 50 1140 mX2_init 43 [(1, vi 5), (0, vr 22)] [vr 23] 45 cs21 22 489 Q
  refine F_iload 0 1 dX2_init_43 rfl rfl ?_
  show Fj 2 50 1140 mX2_init 44 [(1, vi 5), (0, vr 22)] [vi 5, vr 23] 45 cs21 22 489 Q
  obtain ⟨cs22, hcs22⟩ : ∃ x, (cu cs21 45 (cO 3 (dfl 3))) = x := ⟨_, rfl⟩
  refine F_new dX2_init_44 nw_X2_9 (by decide) (by decide) hcs22 ?_
  have hT22 : cs22 22 = cO 2 (fu (fu (fu (fu (dfl 2) 0 (Sum.inr (some 23))) 1 (Sum.inr (some 24))) 2 (Sum.inl 0)) 3 (Sum.inl 0)) := by rw [← hcs22, cu_ne (by decide)]; exact hT22
  have hT23 : cs22 23 = cR 3 12 (ru (ru (ru (ru (ru (fun _ => none) 0 25) 1 29) 2 33) 3 37) 4 41) := by rw [← hcs22, cu_ne (by decide)]; exact hT23
  have hT45 : cs22 45 = cO 3 (dfl 3) := by rw [← hcs22, cu_self]
  have hW : ∀ j, 22 < j → j < 46 → j ≠ 22 → j ≠ 23 → j ≠ 45 → cs22 j = LW j := by
    intro j hj0 hj h22 h23 h45
    rw [← hcs22]
    rw [cu_ne (by omega)]
    exact hW j hj0 (by omega) (by omega) (by omega)
  have hX : ∀ j, j < 22 → cs22 j = cs j := by
    intro j hj
    have e9 : cs22 j = cs21 j := by rw [← hcs22, cu_ne (by omega)]
    exact e9.trans (hX j hj)
  show Fj 2 50 1140 mX2_init 47 [(1, vi 5), (0, vr 22)] [vr 45, vi 5, vr 23] 46 cs22 23 494 Q
  refine F_dup dX2_init_47 rfl ?_
  show Fj 2 50 1140 mX2_init 48 [(1, vi 5), (0, vr 22)] [vr 45, vr 45, vi 5, vr 23] 46 cs22 23 494 Q
  obtain ⟨cs23, hcs23⟩ : ∃ x, (cu (cu (cu (cu cs22 45 (cO 3 (fu (fu (fu (fu (fu (dfl 3) 0 (Sum.inl 2)) 1 (Sum.inl 0)) 2 (Sum.inr (some 46))) 3 (Sum.inr (some 47))) 4 (Sum.inr (some 48))))) 46 (cP 0 40 (fun _ => 0))) 47 (cP 0 40 (fun _ => 0))) 48 (cP 0 8 (fun _ => 0))) = x := ⟨_, rfl⟩
  refine F_callN (i := 45) dX2_init_48 fX3_init rfl rfl im_X3 nX2_28 (by decide) (Nat.le_of_ble_eq_true rfl) (by decide) (by decide) (kX3 (by decide) hT45 ?_)
  rw [hcs23]
  have hT22 : cs23 22 = cO 2 (fu (fu (fu (fu (dfl 2) 0 (Sum.inr (some 23))) 1 (Sum.inr (some 24))) 2 (Sum.inl 0)) 3 (Sum.inl 0)) := by rw [← hcs23, cu_ne (by decide), cu_ne (by decide), cu_ne (by decide), cu_ne (by decide)]; exact hT22
  have hT23 : cs23 23 = cR 3 12 (ru (ru (ru (ru (ru (fun _ => none) 0 25) 1 29) 2 33) 3 37) 4 41) := by rw [← hcs23, cu_ne (by decide), cu_ne (by decide), cu_ne (by decide), cu_ne (by decide)]; exact hT23
  have hW : ∀ j, 22 < j → j < 49 → j ≠ 22 → j ≠ 23 → cs23 j = LW j := by
    intro j hj0 hj h22 h23
    rw [← hcs23]
    by_cases q3 : j = 48
    · subst q3; rw [cu_self]; rfl
    rw [cu_ne q3]
    by_cases q2 : j = 47
    · subst q2; rw [cu_self]; rfl
    rw [cu_ne q2]
    by_cases q1 : j = 46
    · subst q1; rw [cu_self]; rfl
    rw [cu_ne q1]
    by_cases q0 : j = 45
    · subst q0; rw [cu_self]; rfl
    rw [cu_ne q0]
    exact hW j hj0 (by omega) (by omega) (by omega) (by omega)
  have hX : ∀ j, j < 22 → cs23 j = cs j := by
    intro j hj
    have e9 : cs23 j = cs22 j := by rw [← hcs23, cu_ne (by omega), cu_ne (by omega), cu_ne (by omega), cu_ne (by omega)]
    exact e9.trans (hX j hj)
  show Fj 2 50 1140 mX2_init 51 [(1, vi 5), (0, vr 22)] [vr 45, vi 5, vr 23] 49 cs23 26 582 Q
  obtain ⟨cs24, hcs24⟩ : ∃ x, (cu cs23 23 (cR 3 12 (ru (ru (ru (ru (ru (ru (fun _ => none) 0 25) 1 29) 2 33) 3 37) 4 41) 5 45))) = x := ⟨_, rfl⟩
  refine F_aast (i := 23) (r := 45) (x := 5) dX2_init_51 (by decide) hT23 (by decide) ((hW 45 (by decide) (by decide) (by decide) (by decide)).trans (show LW 45 = cO 3 _ from rfl)) (fun _ => rfl) rfl (by decide) (by decide) hcs24 ?_
  have hT22 : cs24 22 = cO 2 (fu (fu (fu (fu (dfl 2) 0 (Sum.inr (some 23))) 1 (Sum.inr (some 24))) 2 (Sum.inl 0)) 3 (Sum.inl 0)) := by rw [← hcs24, cu_ne (by decide)]; exact hT22
  have hT23 : cs24 23 = cR 3 12 (ru (ru (ru (ru (ru (ru (fun _ => none) 0 25) 1 29) 2 33) 3 37) 4 41) 5 45) := by rw [← hcs24, cu_self]
  have hW : ∀ j, 22 < j → j < 49 → j ≠ 22 → j ≠ 23 → cs24 j = LW j := by
    intro j hj0 hj h22 h23
    rw [← hcs24]
    rw [cu_ne (by omega)]
    exact hW j hj0 (by omega) (by omega) (by omega)
  have hX : ∀ j, j < 22 → cs24 j = cs j := by
    intro j hj
    have e9 : cs24 j = cs23 j := by rw [← hcs24, cu_ne (by omega)]
    exact e9.trans (hX j hj)
  show Fj 2 50 1140 mX2_init 52 [(1, vi 5), (0, vr 22)] [] 49 cs24 26 582 Q
  refine F_iinc (y := 6) 0 dX2_init_52 rfl (by decide) (by decide) rfl ?_
  show Fj 2 50 1140 mX2_init 55 [(1, vi 6), (0, vr 22)] [] 49 cs24 26 582 Q
  refine F_goto 33 dX2_init_55 rfl ?_
  show Fj 2 50 1140 mX2_init 33 [(1, vi 6), (0, vr 22)] [] 49 cs24 26 582 Q
  refine F_iload 0 1 dX2_init_33 rfl rfl ?_
  show Fj 2 50 1140 mX2_init 34 [(1, vi 6), (0, vr 22)] [vi 6] 49 cs24 26 582 Q
  refine F_bipush dX2_init_34 (by decide) ?_
  show Fj 2 50 1140 mX2_init 36 [(1, vi 6), (0, vr 22)] [vi 12, vi 6] 49 cs24 26 582 Q
  refine F_ge 58 dX2_init_36 rfl (rg_of rfl) (rg_of rfl) (fun hh => absurd hh (by decide)) (fun _ => ?_)
  show Fj 2 50 1140 mX2_init 39 [(1, vi 6), (0, vr 22)] [] 49 cs24 26 582 Q
  refine F_aload 1 0 dX2_init_39 rfl rfl ?_
  show Fj 2 50 1140 mX2_init 40 [(1, vi 6), (0, vr 22)] [vr 22] 49 cs24 26 582 Q
  refine F_getR (r := 23) (i := 22) dX2_init_40 FX2_11 (by decide) hT22 rfl ?_
  show Fj 2 50 1140 mX2_init 43 [(1, vi 6), (0, vr 22)] [vr 23] 49 cs24 26 582 Q
  refine F_iload 0 1 dX2_init_43 rfl rfl ?_
  show Fj 2 50 1140 mX2_init 44 [(1, vi 6), (0, vr 22)] [vi 6, vr 23] 49 cs24 26 582 Q
  obtain ⟨cs25, hcs25⟩ : ∃ x, (cu cs24 49 (cO 3 (dfl 3))) = x := ⟨_, rfl⟩
  refine F_new dX2_init_44 nw_X2_9 (by decide) (by decide) hcs25 ?_
  have hT22 : cs25 22 = cO 2 (fu (fu (fu (fu (dfl 2) 0 (Sum.inr (some 23))) 1 (Sum.inr (some 24))) 2 (Sum.inl 0)) 3 (Sum.inl 0)) := by rw [← hcs25, cu_ne (by decide)]; exact hT22
  have hT23 : cs25 23 = cR 3 12 (ru (ru (ru (ru (ru (ru (fun _ => none) 0 25) 1 29) 2 33) 3 37) 4 41) 5 45) := by rw [← hcs25, cu_ne (by decide)]; exact hT23
  have hT49 : cs25 49 = cO 3 (dfl 3) := by rw [← hcs25, cu_self]
  have hW : ∀ j, 22 < j → j < 50 → j ≠ 22 → j ≠ 23 → j ≠ 49 → cs25 j = LW j := by
    intro j hj0 hj h22 h23 h49
    rw [← hcs25]
    rw [cu_ne (by omega)]
    exact hW j hj0 (by omega) (by omega) (by omega)
  have hX : ∀ j, j < 22 → cs25 j = cs j := by
    intro j hj
    have e9 : cs25 j = cs24 j := by rw [← hcs25, cu_ne (by omega)]
    exact e9.trans (hX j hj)
  show Fj 2 50 1140 mX2_init 47 [(1, vi 6), (0, vr 22)] [vr 49, vi 6, vr 23] 50 cs25 27 587 Q
  refine F_dup dX2_init_47 rfl ?_
  show Fj 2 50 1140 mX2_init 48 [(1, vi 6), (0, vr 22)] [vr 49, vr 49, vi 6, vr 23] 50 cs25 27 587 Q
  obtain ⟨cs26, hcs26⟩ : ∃ x, (cu (cu (cu (cu cs25 49 (cO 3 (fu (fu (fu (fu (fu (dfl 3) 0 (Sum.inl 2)) 1 (Sum.inl 0)) 2 (Sum.inr (some 50))) 3 (Sum.inr (some 51))) 4 (Sum.inr (some 52))))) 50 (cP 0 40 (fun _ => 0))) 51 (cP 0 40 (fun _ => 0))) 52 (cP 0 8 (fun _ => 0))) = x := ⟨_, rfl⟩
  refine F_callN (i := 49) dX2_init_48 fX3_init rfl rfl im_X3 nX2_28 (by decide) (Nat.le_of_ble_eq_true rfl) (by decide) (by decide) (kX3 (by decide) hT49 ?_)
  rw [hcs26]
  have hT22 : cs26 22 = cO 2 (fu (fu (fu (fu (dfl 2) 0 (Sum.inr (some 23))) 1 (Sum.inr (some 24))) 2 (Sum.inl 0)) 3 (Sum.inl 0)) := by rw [← hcs26, cu_ne (by decide), cu_ne (by decide), cu_ne (by decide), cu_ne (by decide)]; exact hT22
  have hT23 : cs26 23 = cR 3 12 (ru (ru (ru (ru (ru (ru (fun _ => none) 0 25) 1 29) 2 33) 3 37) 4 41) 5 45) := by rw [← hcs26, cu_ne (by decide), cu_ne (by decide), cu_ne (by decide), cu_ne (by decide)]; exact hT23
  have hW : ∀ j, 22 < j → j < 53 → j ≠ 22 → j ≠ 23 → cs26 j = LW j := by
    intro j hj0 hj h22 h23
    rw [← hcs26]
    by_cases q3 : j = 52
    · subst q3; rw [cu_self]; rfl
    rw [cu_ne q3]
    by_cases q2 : j = 51
    · subst q2; rw [cu_self]; rfl
    rw [cu_ne q2]
    by_cases q1 : j = 50
    · subst q1; rw [cu_self]; rfl
    rw [cu_ne q1]
    by_cases q0 : j = 49
    · subst q0; rw [cu_self]; rfl
    rw [cu_ne q0]
    exact hW j hj0 (by omega) (by omega) (by omega) (by omega)
  have hX : ∀ j, j < 22 → cs26 j = cs j := by
    intro j hj
    have e9 : cs26 j = cs25 j := by rw [← hcs26, cu_ne (by omega), cu_ne (by omega), cu_ne (by omega), cu_ne (by omega)]
    exact e9.trans (hX j hj)
  show Fj 2 50 1140 mX2_init 51 [(1, vi 6), (0, vr 22)] [vr 49, vi 6, vr 23] 53 cs26 30 675 Q
  obtain ⟨cs27, hcs27⟩ : ∃ x, (cu cs26 23 (cR 3 12 (ru (ru (ru (ru (ru (ru (ru (fun _ => none) 0 25) 1 29) 2 33) 3 37) 4 41) 5 45) 6 49))) = x := ⟨_, rfl⟩
  refine F_aast (i := 23) (r := 49) (x := 6) dX2_init_51 (by decide) hT23 (by decide) ((hW 49 (by decide) (by decide) (by decide) (by decide)).trans (show LW 49 = cO 3 _ from rfl)) (fun _ => rfl) rfl (by decide) (by decide) hcs27 ?_
  have hT22 : cs27 22 = cO 2 (fu (fu (fu (fu (dfl 2) 0 (Sum.inr (some 23))) 1 (Sum.inr (some 24))) 2 (Sum.inl 0)) 3 (Sum.inl 0)) := by rw [← hcs27, cu_ne (by decide)]; exact hT22
  have hT23 : cs27 23 = cR 3 12 (ru (ru (ru (ru (ru (ru (ru (fun _ => none) 0 25) 1 29) 2 33) 3 37) 4 41) 5 45) 6 49) := by rw [← hcs27, cu_self]
  have hW : ∀ j, 22 < j → j < 53 → j ≠ 22 → j ≠ 23 → cs27 j = LW j := by
    intro j hj0 hj h22 h23
    rw [← hcs27]
    rw [cu_ne (by omega)]
    exact hW j hj0 (by omega) (by omega) (by omega)
  have hX : ∀ j, j < 22 → cs27 j = cs j := by
    intro j hj
    have e9 : cs27 j = cs26 j := by rw [← hcs27, cu_ne (by omega)]
    exact e9.trans (hX j hj)
  show Fj 2 50 1140 mX2_init 52 [(1, vi 6), (0, vr 22)] [] 53 cs27 30 675 Q
  refine F_iinc (y := 7) 0 dX2_init_52 rfl (by decide) (by decide) rfl ?_
  show Fj 2 50 1140 mX2_init 55 [(1, vi 7), (0, vr 22)] [] 53 cs27 30 675 Q
  refine F_goto 33 dX2_init_55 rfl ?_
  show Fj 2 50 1140 mX2_init 33 [(1, vi 7), (0, vr 22)] [] 53 cs27 30 675 Q
  refine F_iload 0 1 dX2_init_33 rfl rfl ?_
  show Fj 2 50 1140 mX2_init 34 [(1, vi 7), (0, vr 22)] [vi 7] 53 cs27 30 675 Q
  refine F_bipush dX2_init_34 (by decide) ?_
  show Fj 2 50 1140 mX2_init 36 [(1, vi 7), (0, vr 22)] [vi 12, vi 7] 53 cs27 30 675 Q
  refine F_ge 58 dX2_init_36 rfl (rg_of rfl) (rg_of rfl) (fun hh => absurd hh (by decide)) (fun _ => ?_)
  show Fj 2 50 1140 mX2_init 39 [(1, vi 7), (0, vr 22)] [] 53 cs27 30 675 Q
  refine F_aload 1 0 dX2_init_39 rfl rfl ?_
  show Fj 2 50 1140 mX2_init 40 [(1, vi 7), (0, vr 22)] [vr 22] 53 cs27 30 675 Q
  refine F_getR (r := 23) (i := 22) dX2_init_40 FX2_11 (by decide) hT22 rfl ?_
  show Fj 2 50 1140 mX2_init 43 [(1, vi 7), (0, vr 22)] [vr 23] 53 cs27 30 675 Q
  refine F_iload 0 1 dX2_init_43 rfl rfl ?_
  show Fj 2 50 1140 mX2_init 44 [(1, vi 7), (0, vr 22)] [vi 7, vr 23] 53 cs27 30 675 Q
  obtain ⟨cs28, hcs28⟩ : ∃ x, (cu cs27 53 (cO 3 (dfl 3))) = x := ⟨_, rfl⟩
  refine F_new dX2_init_44 nw_X2_9 (by decide) (by decide) hcs28 ?_
  have hT22 : cs28 22 = cO 2 (fu (fu (fu (fu (dfl 2) 0 (Sum.inr (some 23))) 1 (Sum.inr (some 24))) 2 (Sum.inl 0)) 3 (Sum.inl 0)) := by rw [← hcs28, cu_ne (by decide)]; exact hT22
  have hT23 : cs28 23 = cR 3 12 (ru (ru (ru (ru (ru (ru (ru (fun _ => none) 0 25) 1 29) 2 33) 3 37) 4 41) 5 45) 6 49) := by rw [← hcs28, cu_ne (by decide)]; exact hT23
  have hT53 : cs28 53 = cO 3 (dfl 3) := by rw [← hcs28, cu_self]
  have hW : ∀ j, 22 < j → j < 54 → j ≠ 22 → j ≠ 23 → j ≠ 53 → cs28 j = LW j := by
    intro j hj0 hj h22 h23 h53
    rw [← hcs28]
    rw [cu_ne (by omega)]
    exact hW j hj0 (by omega) (by omega) (by omega)
  have hX : ∀ j, j < 22 → cs28 j = cs j := by
    intro j hj
    have e9 : cs28 j = cs27 j := by rw [← hcs28, cu_ne (by omega)]
    exact e9.trans (hX j hj)
  show Fj 2 50 1140 mX2_init 47 [(1, vi 7), (0, vr 22)] [vr 53, vi 7, vr 23] 54 cs28 31 680 Q
  refine F_dup dX2_init_47 rfl ?_
  show Fj 2 50 1140 mX2_init 48 [(1, vi 7), (0, vr 22)] [vr 53, vr 53, vi 7, vr 23] 54 cs28 31 680 Q
  obtain ⟨cs29, hcs29⟩ : ∃ x, (cu (cu (cu (cu cs28 53 (cO 3 (fu (fu (fu (fu (fu (dfl 3) 0 (Sum.inl 2)) 1 (Sum.inl 0)) 2 (Sum.inr (some 54))) 3 (Sum.inr (some 55))) 4 (Sum.inr (some 56))))) 54 (cP 0 40 (fun _ => 0))) 55 (cP 0 40 (fun _ => 0))) 56 (cP 0 8 (fun _ => 0))) = x := ⟨_, rfl⟩
  refine F_callN (i := 53) dX2_init_48 fX3_init rfl rfl im_X3 nX2_28 (by decide) (Nat.le_of_ble_eq_true rfl) (by decide) (by decide) (kX3 (by decide) hT53 ?_)
  rw [hcs29]
  have hT22 : cs29 22 = cO 2 (fu (fu (fu (fu (dfl 2) 0 (Sum.inr (some 23))) 1 (Sum.inr (some 24))) 2 (Sum.inl 0)) 3 (Sum.inl 0)) := by rw [← hcs29, cu_ne (by decide), cu_ne (by decide), cu_ne (by decide), cu_ne (by decide)]; exact hT22
  have hT23 : cs29 23 = cR 3 12 (ru (ru (ru (ru (ru (ru (ru (fun _ => none) 0 25) 1 29) 2 33) 3 37) 4 41) 5 45) 6 49) := by rw [← hcs29, cu_ne (by decide), cu_ne (by decide), cu_ne (by decide), cu_ne (by decide)]; exact hT23
  have hW : ∀ j, 22 < j → j < 57 → j ≠ 22 → j ≠ 23 → cs29 j = LW j := by
    intro j hj0 hj h22 h23
    rw [← hcs29]
    by_cases q3 : j = 56
    · subst q3; rw [cu_self]; rfl
    rw [cu_ne q3]
    by_cases q2 : j = 55
    · subst q2; rw [cu_self]; rfl
    rw [cu_ne q2]
    by_cases q1 : j = 54
    · subst q1; rw [cu_self]; rfl
    rw [cu_ne q1]
    by_cases q0 : j = 53
    · subst q0; rw [cu_self]; rfl
    rw [cu_ne q0]
    exact hW j hj0 (by omega) (by omega) (by omega) (by omega)
  have hX : ∀ j, j < 22 → cs29 j = cs j := by
    intro j hj
    have e9 : cs29 j = cs28 j := by rw [← hcs29, cu_ne (by omega), cu_ne (by omega), cu_ne (by omega), cu_ne (by omega)]
    exact e9.trans (hX j hj)
  show Fj 2 50 1140 mX2_init 51 [(1, vi 7), (0, vr 22)] [vr 53, vi 7, vr 23] 57 cs29 34 768 Q
  obtain ⟨cs30, hcs30⟩ : ∃ x, (cu cs29 23 (cR 3 12 (ru (ru (ru (ru (ru (ru (ru (ru (fun _ => none) 0 25) 1 29) 2 33) 3 37) 4 41) 5 45) 6 49) 7 53))) = x := ⟨_, rfl⟩
  refine F_aast (i := 23) (r := 53) (x := 7) dX2_init_51 (by decide) hT23 (by decide) ((hW 53 (by decide) (by decide) (by decide) (by decide)).trans (show LW 53 = cO 3 _ from rfl)) (fun _ => rfl) rfl (by decide) (by decide) hcs30 ?_
  have hT22 : cs30 22 = cO 2 (fu (fu (fu (fu (dfl 2) 0 (Sum.inr (some 23))) 1 (Sum.inr (some 24))) 2 (Sum.inl 0)) 3 (Sum.inl 0)) := by rw [← hcs30, cu_ne (by decide)]; exact hT22
  have hT23 : cs30 23 = cR 3 12 (ru (ru (ru (ru (ru (ru (ru (ru (fun _ => none) 0 25) 1 29) 2 33) 3 37) 4 41) 5 45) 6 49) 7 53) := by rw [← hcs30, cu_self]
  have hW : ∀ j, 22 < j → j < 57 → j ≠ 22 → j ≠ 23 → cs30 j = LW j := by
    intro j hj0 hj h22 h23
    rw [← hcs30]
    rw [cu_ne (by omega)]
    exact hW j hj0 (by omega) (by omega) (by omega)
  have hX : ∀ j, j < 22 → cs30 j = cs j := by
    intro j hj
    have e9 : cs30 j = cs29 j := by rw [← hcs30, cu_ne (by omega)]
    exact e9.trans (hX j hj)
  show Fj 2 50 1140 mX2_init 52 [(1, vi 7), (0, vr 22)] [] 57 cs30 34 768 Q
  refine F_iinc (y := 8) 0 dX2_init_52 rfl (by decide) (by decide) rfl ?_
  show Fj 2 50 1140 mX2_init 55 [(1, vi 8), (0, vr 22)] [] 57 cs30 34 768 Q
  refine F_goto 33 dX2_init_55 rfl ?_
  show Fj 2 50 1140 mX2_init 33 [(1, vi 8), (0, vr 22)] [] 57 cs30 34 768 Q
  refine F_iload 0 1 dX2_init_33 rfl rfl ?_
  show Fj 2 50 1140 mX2_init 34 [(1, vi 8), (0, vr 22)] [vi 8] 57 cs30 34 768 Q
  refine F_bipush dX2_init_34 (by decide) ?_
  show Fj 2 50 1140 mX2_init 36 [(1, vi 8), (0, vr 22)] [vi 12, vi 8] 57 cs30 34 768 Q
  refine F_ge 58 dX2_init_36 rfl (rg_of rfl) (rg_of rfl) (fun hh => absurd hh (by decide)) (fun _ => ?_)
  show Fj 2 50 1140 mX2_init 39 [(1, vi 8), (0, vr 22)] [] 57 cs30 34 768 Q
  refine F_aload 1 0 dX2_init_39 rfl rfl ?_
  show Fj 2 50 1140 mX2_init 40 [(1, vi 8), (0, vr 22)] [vr 22] 57 cs30 34 768 Q
  refine F_getR (r := 23) (i := 22) dX2_init_40 FX2_11 (by decide) hT22 rfl ?_
  show Fj 2 50 1140 mX2_init 43 [(1, vi 8), (0, vr 22)] [vr 23] 57 cs30 34 768 Q
  refine F_iload 0 1 dX2_init_43 rfl rfl ?_
  show Fj 2 50 1140 mX2_init 44 [(1, vi 8), (0, vr 22)] [vi 8, vr 23] 57 cs30 34 768 Q
  obtain ⟨cs31, hcs31⟩ : ∃ x, (cu cs30 57 (cO 3 (dfl 3))) = x := ⟨_, rfl⟩
  refine F_new dX2_init_44 nw_X2_9 (by decide) (by decide) hcs31 ?_
  have hT22 : cs31 22 = cO 2 (fu (fu (fu (fu (dfl 2) 0 (Sum.inr (some 23))) 1 (Sum.inr (some 24))) 2 (Sum.inl 0)) 3 (Sum.inl 0)) := by rw [← hcs31, cu_ne (by decide)]; exact hT22
  have hT23 : cs31 23 = cR 3 12 (ru (ru (ru (ru (ru (ru (ru (ru (fun _ => none) 0 25) 1 29) 2 33) 3 37) 4 41) 5 45) 6 49) 7 53) := by rw [← hcs31, cu_ne (by decide)]; exact hT23
  have hT57 : cs31 57 = cO 3 (dfl 3) := by rw [← hcs31, cu_self]
  have hW : ∀ j, 22 < j → j < 58 → j ≠ 22 → j ≠ 23 → j ≠ 57 → cs31 j = LW j := by
    intro j hj0 hj h22 h23 h57
    rw [← hcs31]
    rw [cu_ne (by omega)]
    exact hW j hj0 (by omega) (by omega) (by omega)
  have hX : ∀ j, j < 22 → cs31 j = cs j := by
    intro j hj
    have e9 : cs31 j = cs30 j := by rw [← hcs31, cu_ne (by omega)]
    exact e9.trans (hX j hj)
  show Fj 2 50 1140 mX2_init 47 [(1, vi 8), (0, vr 22)] [vr 57, vi 8, vr 23] 58 cs31 35 773 Q
  refine F_dup dX2_init_47 rfl ?_
  show Fj 2 50 1140 mX2_init 48 [(1, vi 8), (0, vr 22)] [vr 57, vr 57, vi 8, vr 23] 58 cs31 35 773 Q
  obtain ⟨cs32, hcs32⟩ : ∃ x, (cu (cu (cu (cu cs31 57 (cO 3 (fu (fu (fu (fu (fu (dfl 3) 0 (Sum.inl 2)) 1 (Sum.inl 0)) 2 (Sum.inr (some 58))) 3 (Sum.inr (some 59))) 4 (Sum.inr (some 60))))) 58 (cP 0 40 (fun _ => 0))) 59 (cP 0 40 (fun _ => 0))) 60 (cP 0 8 (fun _ => 0))) = x := ⟨_, rfl⟩
  refine F_callN (i := 57) dX2_init_48 fX3_init rfl rfl im_X3 nX2_28 (by decide) (Nat.le_of_ble_eq_true rfl) (by decide) (by decide) (kX3 (by decide) hT57 ?_)
  rw [hcs32]
  have hT22 : cs32 22 = cO 2 (fu (fu (fu (fu (dfl 2) 0 (Sum.inr (some 23))) 1 (Sum.inr (some 24))) 2 (Sum.inl 0)) 3 (Sum.inl 0)) := by rw [← hcs32, cu_ne (by decide), cu_ne (by decide), cu_ne (by decide), cu_ne (by decide)]; exact hT22
  have hT23 : cs32 23 = cR 3 12 (ru (ru (ru (ru (ru (ru (ru (ru (fun _ => none) 0 25) 1 29) 2 33) 3 37) 4 41) 5 45) 6 49) 7 53) := by rw [← hcs32, cu_ne (by decide), cu_ne (by decide), cu_ne (by decide), cu_ne (by decide)]; exact hT23
  have hW : ∀ j, 22 < j → j < 61 → j ≠ 22 → j ≠ 23 → cs32 j = LW j := by
    intro j hj0 hj h22 h23
    rw [← hcs32]
    by_cases q3 : j = 60
    · subst q3; rw [cu_self]; rfl
    rw [cu_ne q3]
    by_cases q2 : j = 59
    · subst q2; rw [cu_self]; rfl
    rw [cu_ne q2]
    by_cases q1 : j = 58
    · subst q1; rw [cu_self]; rfl
    rw [cu_ne q1]
    by_cases q0 : j = 57
    · subst q0; rw [cu_self]; rfl
    rw [cu_ne q0]
    exact hW j hj0 (by omega) (by omega) (by omega) (by omega)
  have hX : ∀ j, j < 22 → cs32 j = cs j := by
    intro j hj
    have e9 : cs32 j = cs31 j := by rw [← hcs32, cu_ne (by omega), cu_ne (by omega), cu_ne (by omega), cu_ne (by omega)]
    exact e9.trans (hX j hj)
  show Fj 2 50 1140 mX2_init 51 [(1, vi 8), (0, vr 22)] [vr 57, vi 8, vr 23] 61 cs32 38 861 Q
  obtain ⟨cs33, hcs33⟩ : ∃ x, (cu cs32 23 (cR 3 12 (ru (ru (ru (ru (ru (ru (ru (ru (ru (fun _ => none) 0 25) 1 29) 2 33) 3 37) 4 41) 5 45) 6 49) 7 53) 8 57))) = x := ⟨_, rfl⟩
  refine F_aast (i := 23) (r := 57) (x := 8) dX2_init_51 (by decide) hT23 (by decide) ((hW 57 (by decide) (by decide) (by decide) (by decide)).trans (show LW 57 = cO 3 _ from rfl)) (fun _ => rfl) rfl (by decide) (by decide) hcs33 ?_
  have hT22 : cs33 22 = cO 2 (fu (fu (fu (fu (dfl 2) 0 (Sum.inr (some 23))) 1 (Sum.inr (some 24))) 2 (Sum.inl 0)) 3 (Sum.inl 0)) := by rw [← hcs33, cu_ne (by decide)]; exact hT22
  have hT23 : cs33 23 = cR 3 12 (ru (ru (ru (ru (ru (ru (ru (ru (ru (fun _ => none) 0 25) 1 29) 2 33) 3 37) 4 41) 5 45) 6 49) 7 53) 8 57) := by rw [← hcs33, cu_self]
  have hW : ∀ j, 22 < j → j < 61 → j ≠ 22 → j ≠ 23 → cs33 j = LW j := by
    intro j hj0 hj h22 h23
    rw [← hcs33]
    rw [cu_ne (by omega)]
    exact hW j hj0 (by omega) (by omega) (by omega)
  have hX : ∀ j, j < 22 → cs33 j = cs j := by
    intro j hj
    have e9 : cs33 j = cs32 j := by rw [← hcs33, cu_ne (by omega)]
    exact e9.trans (hX j hj)
  show Fj 2 50 1140 mX2_init 52 [(1, vi 8), (0, vr 22)] [] 61 cs33 38 861 Q
  refine F_iinc (y := 9) 0 dX2_init_52 rfl (by decide) (by decide) rfl ?_
  show Fj 2 50 1140 mX2_init 55 [(1, vi 9), (0, vr 22)] [] 61 cs33 38 861 Q
  refine F_goto 33 dX2_init_55 rfl ?_
  show Fj 2 50 1140 mX2_init 33 [(1, vi 9), (0, vr 22)] [] 61 cs33 38 861 Q
  refine F_iload 0 1 dX2_init_33 rfl rfl ?_
  show Fj 2 50 1140 mX2_init 34 [(1, vi 9), (0, vr 22)] [vi 9] 61 cs33 38 861 Q
  refine F_bipush dX2_init_34 (by decide) ?_
  show Fj 2 50 1140 mX2_init 36 [(1, vi 9), (0, vr 22)] [vi 12, vi 9] 61 cs33 38 861 Q
  refine F_ge 58 dX2_init_36 rfl (rg_of rfl) (rg_of rfl) (fun hh => absurd hh (by decide)) (fun _ => ?_)
  show Fj 2 50 1140 mX2_init 39 [(1, vi 9), (0, vr 22)] [] 61 cs33 38 861 Q
  refine F_aload 1 0 dX2_init_39 rfl rfl ?_
  show Fj 2 50 1140 mX2_init 40 [(1, vi 9), (0, vr 22)] [vr 22] 61 cs33 38 861 Q
  refine F_getR (r := 23) (i := 22) dX2_init_40 FX2_11 (by decide) hT22 rfl ?_
  show Fj 2 50 1140 mX2_init 43 [(1, vi 9), (0, vr 22)] [vr 23] 61 cs33 38 861 Q
  refine F_iload 0 1 dX2_init_43 rfl rfl ?_
  show Fj 2 50 1140 mX2_init 44 [(1, vi 9), (0, vr 22)] [vi 9, vr 23] 61 cs33 38 861 Q
  obtain ⟨cs34, hcs34⟩ : ∃ x, (cu cs33 61 (cO 3 (dfl 3))) = x := ⟨_, rfl⟩
  refine F_new dX2_init_44 nw_X2_9 (by decide) (by decide) hcs34 ?_
  have hT22 : cs34 22 = cO 2 (fu (fu (fu (fu (dfl 2) 0 (Sum.inr (some 23))) 1 (Sum.inr (some 24))) 2 (Sum.inl 0)) 3 (Sum.inl 0)) := by rw [← hcs34, cu_ne (by decide)]; exact hT22
  have hT23 : cs34 23 = cR 3 12 (ru (ru (ru (ru (ru (ru (ru (ru (ru (fun _ => none) 0 25) 1 29) 2 33) 3 37) 4 41) 5 45) 6 49) 7 53) 8 57) := by rw [← hcs34, cu_ne (by decide)]; exact hT23
  have hT61 : cs34 61 = cO 3 (dfl 3) := by rw [← hcs34, cu_self]
  have hW : ∀ j, 22 < j → j < 62 → j ≠ 22 → j ≠ 23 → j ≠ 61 → cs34 j = LW j := by
    intro j hj0 hj h22 h23 h61
    rw [← hcs34]
    rw [cu_ne (by omega)]
    exact hW j hj0 (by omega) (by omega) (by omega)
  have hX : ∀ j, j < 22 → cs34 j = cs j := by
    intro j hj
    have e9 : cs34 j = cs33 j := by rw [← hcs34, cu_ne (by omega)]
    exact e9.trans (hX j hj)
  show Fj 2 50 1140 mX2_init 47 [(1, vi 9), (0, vr 22)] [vr 61, vi 9, vr 23] 62 cs34 39 866 Q
  refine F_dup dX2_init_47 rfl ?_
  show Fj 2 50 1140 mX2_init 48 [(1, vi 9), (0, vr 22)] [vr 61, vr 61, vi 9, vr 23] 62 cs34 39 866 Q
  obtain ⟨cs35, hcs35⟩ : ∃ x, (cu (cu (cu (cu cs34 61 (cO 3 (fu (fu (fu (fu (fu (dfl 3) 0 (Sum.inl 2)) 1 (Sum.inl 0)) 2 (Sum.inr (some 62))) 3 (Sum.inr (some 63))) 4 (Sum.inr (some 64))))) 62 (cP 0 40 (fun _ => 0))) 63 (cP 0 40 (fun _ => 0))) 64 (cP 0 8 (fun _ => 0))) = x := ⟨_, rfl⟩
  refine F_callN (i := 61) dX2_init_48 fX3_init rfl rfl im_X3 nX2_28 (by decide) (Nat.le_of_ble_eq_true rfl) (by decide) (by decide) (kX3 (by decide) hT61 ?_)
  rw [hcs35]
  have hT22 : cs35 22 = cO 2 (fu (fu (fu (fu (dfl 2) 0 (Sum.inr (some 23))) 1 (Sum.inr (some 24))) 2 (Sum.inl 0)) 3 (Sum.inl 0)) := by rw [← hcs35, cu_ne (by decide), cu_ne (by decide), cu_ne (by decide), cu_ne (by decide)]; exact hT22
  have hT23 : cs35 23 = cR 3 12 (ru (ru (ru (ru (ru (ru (ru (ru (ru (fun _ => none) 0 25) 1 29) 2 33) 3 37) 4 41) 5 45) 6 49) 7 53) 8 57) := by rw [← hcs35, cu_ne (by decide), cu_ne (by decide), cu_ne (by decide), cu_ne (by decide)]; exact hT23
  have hW : ∀ j, 22 < j → j < 65 → j ≠ 22 → j ≠ 23 → cs35 j = LW j := by
    intro j hj0 hj h22 h23
    rw [← hcs35]
    by_cases q3 : j = 64
    · subst q3; rw [cu_self]; rfl
    rw [cu_ne q3]
    by_cases q2 : j = 63
    · subst q2; rw [cu_self]; rfl
    rw [cu_ne q2]
    by_cases q1 : j = 62
    · subst q1; rw [cu_self]; rfl
    rw [cu_ne q1]
    by_cases q0 : j = 61
    · subst q0; rw [cu_self]; rfl
    rw [cu_ne q0]
    exact hW j hj0 (by omega) (by omega) (by omega) (by omega)
  have hX : ∀ j, j < 22 → cs35 j = cs j := by
    intro j hj
    have e9 : cs35 j = cs34 j := by rw [← hcs35, cu_ne (by omega), cu_ne (by omega), cu_ne (by omega), cu_ne (by omega)]
    exact e9.trans (hX j hj)
  show Fj 2 50 1140 mX2_init 51 [(1, vi 9), (0, vr 22)] [vr 61, vi 9, vr 23] 65 cs35 42 954 Q
  obtain ⟨cs36, hcs36⟩ : ∃ x, (cu cs35 23 (cR 3 12 (ru (ru (ru (ru (ru (ru (ru (ru (ru (ru (fun _ => none) 0 25) 1 29) 2 33) 3 37) 4 41) 5 45) 6 49) 7 53) 8 57) 9 61))) = x := ⟨_, rfl⟩
  refine F_aast (i := 23) (r := 61) (x := 9) dX2_init_51 (by decide) hT23 (by decide) ((hW 61 (by decide) (by decide) (by decide) (by decide)).trans (show LW 61 = cO 3 _ from rfl)) (fun _ => rfl) rfl (by decide) (by decide) hcs36 ?_
  have hT22 : cs36 22 = cO 2 (fu (fu (fu (fu (dfl 2) 0 (Sum.inr (some 23))) 1 (Sum.inr (some 24))) 2 (Sum.inl 0)) 3 (Sum.inl 0)) := by rw [← hcs36, cu_ne (by decide)]; exact hT22
  have hT23 : cs36 23 = cR 3 12 (ru (ru (ru (ru (ru (ru (ru (ru (ru (ru (fun _ => none) 0 25) 1 29) 2 33) 3 37) 4 41) 5 45) 6 49) 7 53) 8 57) 9 61) := by rw [← hcs36, cu_self]
  have hW : ∀ j, 22 < j → j < 65 → j ≠ 22 → j ≠ 23 → cs36 j = LW j := by
    intro j hj0 hj h22 h23
    rw [← hcs36]
    rw [cu_ne (by omega)]
    exact hW j hj0 (by omega) (by omega) (by omega)
  have hX : ∀ j, j < 22 → cs36 j = cs j := by
    intro j hj
    have e9 : cs36 j = cs35 j := by rw [← hcs36, cu_ne (by omega)]
    exact e9.trans (hX j hj)
  show Fj 2 50 1140 mX2_init 52 [(1, vi 9), (0, vr 22)] [] 65 cs36 42 954 Q
  refine F_iinc (y := 10) 0 dX2_init_52 rfl (by decide) (by decide) rfl ?_
  show Fj 2 50 1140 mX2_init 55 [(1, vi 10), (0, vr 22)] [] 65 cs36 42 954 Q
  refine F_goto 33 dX2_init_55 rfl ?_
  show Fj 2 50 1140 mX2_init 33 [(1, vi 10), (0, vr 22)] [] 65 cs36 42 954 Q
  refine F_iload 0 1 dX2_init_33 rfl rfl ?_
  show Fj 2 50 1140 mX2_init 34 [(1, vi 10), (0, vr 22)] [vi 10] 65 cs36 42 954 Q
  refine F_bipush dX2_init_34 (by decide) ?_
  show Fj 2 50 1140 mX2_init 36 [(1, vi 10), (0, vr 22)] [vi 12, vi 10] 65 cs36 42 954 Q
  refine F_ge 58 dX2_init_36 rfl (rg_of rfl) (rg_of rfl) (fun hh => absurd hh (by decide)) (fun _ => ?_)
  show Fj 2 50 1140 mX2_init 39 [(1, vi 10), (0, vr 22)] [] 65 cs36 42 954 Q
  refine F_aload 1 0 dX2_init_39 rfl rfl ?_
  show Fj 2 50 1140 mX2_init 40 [(1, vi 10), (0, vr 22)] [vr 22] 65 cs36 42 954 Q
  refine F_getR (r := 23) (i := 22) dX2_init_40 FX2_11 (by decide) hT22 rfl ?_
  show Fj 2 50 1140 mX2_init 43 [(1, vi 10), (0, vr 22)] [vr 23] 65 cs36 42 954 Q
  refine F_iload 0 1 dX2_init_43 rfl rfl ?_
  show Fj 2 50 1140 mX2_init 44 [(1, vi 10), (0, vr 22)] [vi 10, vr 23] 65 cs36 42 954 Q
  obtain ⟨cs37, hcs37⟩ : ∃ x, (cu cs36 65 (cO 3 (dfl 3))) = x := ⟨_, rfl⟩
  refine F_new dX2_init_44 nw_X2_9 (by decide) (by decide) hcs37 ?_
  have hT22 : cs37 22 = cO 2 (fu (fu (fu (fu (dfl 2) 0 (Sum.inr (some 23))) 1 (Sum.inr (some 24))) 2 (Sum.inl 0)) 3 (Sum.inl 0)) := by rw [← hcs37, cu_ne (by decide)]; exact hT22
  have hT23 : cs37 23 = cR 3 12 (ru (ru (ru (ru (ru (ru (ru (ru (ru (ru (fun _ => none) 0 25) 1 29) 2 33) 3 37) 4 41) 5 45) 6 49) 7 53) 8 57) 9 61) := by rw [← hcs37, cu_ne (by decide)]; exact hT23
  have hT65 : cs37 65 = cO 3 (dfl 3) := by rw [← hcs37, cu_self]
  have hW : ∀ j, 22 < j → j < 66 → j ≠ 22 → j ≠ 23 → j ≠ 65 → cs37 j = LW j := by
    intro j hj0 hj h22 h23 h65
    rw [← hcs37]
    rw [cu_ne (by omega)]
    exact hW j hj0 (by omega) (by omega) (by omega)
  have hX : ∀ j, j < 22 → cs37 j = cs j := by
    intro j hj
    have e9 : cs37 j = cs36 j := by rw [← hcs37, cu_ne (by omega)]
    exact e9.trans (hX j hj)
  show Fj 2 50 1140 mX2_init 47 [(1, vi 10), (0, vr 22)] [vr 65, vi 10, vr 23] 66 cs37 43 959 Q
  refine F_dup dX2_init_47 rfl ?_
  show Fj 2 50 1140 mX2_init 48 [(1, vi 10), (0, vr 22)] [vr 65, vr 65, vi 10, vr 23] 66 cs37 43 959 Q
  obtain ⟨cs38, hcs38⟩ : ∃ x, (cu (cu (cu (cu cs37 65 (cO 3 (fu (fu (fu (fu (fu (dfl 3) 0 (Sum.inl 2)) 1 (Sum.inl 0)) 2 (Sum.inr (some 66))) 3 (Sum.inr (some 67))) 4 (Sum.inr (some 68))))) 66 (cP 0 40 (fun _ => 0))) 67 (cP 0 40 (fun _ => 0))) 68 (cP 0 8 (fun _ => 0))) = x := ⟨_, rfl⟩
  refine F_callN (i := 65) dX2_init_48 fX3_init rfl rfl im_X3 nX2_28 (by decide) (Nat.le_of_ble_eq_true rfl) (by decide) (by decide) (kX3 (by decide) hT65 ?_)
  rw [hcs38]
  have hT22 : cs38 22 = cO 2 (fu (fu (fu (fu (dfl 2) 0 (Sum.inr (some 23))) 1 (Sum.inr (some 24))) 2 (Sum.inl 0)) 3 (Sum.inl 0)) := by rw [← hcs38, cu_ne (by decide), cu_ne (by decide), cu_ne (by decide), cu_ne (by decide)]; exact hT22
  have hT23 : cs38 23 = cR 3 12 (ru (ru (ru (ru (ru (ru (ru (ru (ru (ru (fun _ => none) 0 25) 1 29) 2 33) 3 37) 4 41) 5 45) 6 49) 7 53) 8 57) 9 61) := by rw [← hcs38, cu_ne (by decide), cu_ne (by decide), cu_ne (by decide), cu_ne (by decide)]; exact hT23
  have hW : ∀ j, 22 < j → j < 69 → j ≠ 22 → j ≠ 23 → cs38 j = LW j := by
    intro j hj0 hj h22 h23
    rw [← hcs38]
    by_cases q3 : j = 68
    · subst q3; rw [cu_self]; rfl
    rw [cu_ne q3]
    by_cases q2 : j = 67
    · subst q2; rw [cu_self]; rfl
    rw [cu_ne q2]
    by_cases q1 : j = 66
    · subst q1; rw [cu_self]; rfl
    rw [cu_ne q1]
    by_cases q0 : j = 65
    · subst q0; rw [cu_self]; rfl
    rw [cu_ne q0]
    exact hW j hj0 (by omega) (by omega) (by omega) (by omega)
  have hX : ∀ j, j < 22 → cs38 j = cs j := by
    intro j hj
    have e9 : cs38 j = cs37 j := by rw [← hcs38, cu_ne (by omega), cu_ne (by omega), cu_ne (by omega), cu_ne (by omega)]
    exact e9.trans (hX j hj)
  show Fj 2 50 1140 mX2_init 51 [(1, vi 10), (0, vr 22)] [vr 65, vi 10, vr 23] 69 cs38 46 1047 Q
  obtain ⟨cs39, hcs39⟩ : ∃ x, (cu cs38 23 (cR 3 12 (ru (ru (ru (ru (ru (ru (ru (ru (ru (ru (ru (fun _ => none) 0 25) 1 29) 2 33) 3 37) 4 41) 5 45) 6 49) 7 53) 8 57) 9 61) 10 65))) = x := ⟨_, rfl⟩
  refine F_aast (i := 23) (r := 65) (x := 10) dX2_init_51 (by decide) hT23 (by decide) ((hW 65 (by decide) (by decide) (by decide) (by decide)).trans (show LW 65 = cO 3 _ from rfl)) (fun _ => rfl) rfl (by decide) (by decide) hcs39 ?_
  have hT22 : cs39 22 = cO 2 (fu (fu (fu (fu (dfl 2) 0 (Sum.inr (some 23))) 1 (Sum.inr (some 24))) 2 (Sum.inl 0)) 3 (Sum.inl 0)) := by rw [← hcs39, cu_ne (by decide)]; exact hT22
  have hT23 : cs39 23 = cR 3 12 (ru (ru (ru (ru (ru (ru (ru (ru (ru (ru (ru (fun _ => none) 0 25) 1 29) 2 33) 3 37) 4 41) 5 45) 6 49) 7 53) 8 57) 9 61) 10 65) := by rw [← hcs39, cu_self]
  have hW : ∀ j, 22 < j → j < 69 → j ≠ 22 → j ≠ 23 → cs39 j = LW j := by
    intro j hj0 hj h22 h23
    rw [← hcs39]
    rw [cu_ne (by omega)]
    exact hW j hj0 (by omega) (by omega) (by omega)
  have hX : ∀ j, j < 22 → cs39 j = cs j := by
    intro j hj
    have e9 : cs39 j = cs38 j := by rw [← hcs39, cu_ne (by omega)]
    exact e9.trans (hX j hj)
  show Fj 2 50 1140 mX2_init 52 [(1, vi 10), (0, vr 22)] [] 69 cs39 46 1047 Q
  refine F_iinc (y := 11) 0 dX2_init_52 rfl (by decide) (by decide) rfl ?_
  show Fj 2 50 1140 mX2_init 55 [(1, vi 11), (0, vr 22)] [] 69 cs39 46 1047 Q
  refine F_goto 33 dX2_init_55 rfl ?_
  show Fj 2 50 1140 mX2_init 33 [(1, vi 11), (0, vr 22)] [] 69 cs39 46 1047 Q
  refine F_iload 0 1 dX2_init_33 rfl rfl ?_
  show Fj 2 50 1140 mX2_init 34 [(1, vi 11), (0, vr 22)] [vi 11] 69 cs39 46 1047 Q
  refine F_bipush dX2_init_34 (by decide) ?_
  show Fj 2 50 1140 mX2_init 36 [(1, vi 11), (0, vr 22)] [vi 12, vi 11] 69 cs39 46 1047 Q
  refine F_ge 58 dX2_init_36 rfl (rg_of rfl) (rg_of rfl) (fun hh => absurd hh (by decide)) (fun _ => ?_)
  show Fj 2 50 1140 mX2_init 39 [(1, vi 11), (0, vr 22)] [] 69 cs39 46 1047 Q
  refine F_aload 1 0 dX2_init_39 rfl rfl ?_
  show Fj 2 50 1140 mX2_init 40 [(1, vi 11), (0, vr 22)] [vr 22] 69 cs39 46 1047 Q
  refine F_getR (r := 23) (i := 22) dX2_init_40 FX2_11 (by decide) hT22 rfl ?_
  show Fj 2 50 1140 mX2_init 43 [(1, vi 11), (0, vr 22)] [vr 23] 69 cs39 46 1047 Q
  refine F_iload 0 1 dX2_init_43 rfl rfl ?_
  show Fj 2 50 1140 mX2_init 44 [(1, vi 11), (0, vr 22)] [vi 11, vr 23] 69 cs39 46 1047 Q
  obtain ⟨cs40, hcs40⟩ : ∃ x, (cu cs39 69 (cO 3 (dfl 3))) = x := ⟨_, rfl⟩
  refine F_new dX2_init_44 nw_X2_9 (by decide) (by decide) hcs40 ?_
  have hT22 : cs40 22 = cO 2 (fu (fu (fu (fu (dfl 2) 0 (Sum.inr (some 23))) 1 (Sum.inr (some 24))) 2 (Sum.inl 0)) 3 (Sum.inl 0)) := by rw [← hcs40, cu_ne (by decide)]; exact hT22
  have hT23 : cs40 23 = cR 3 12 (ru (ru (ru (ru (ru (ru (ru (ru (ru (ru (ru (fun _ => none) 0 25) 1 29) 2 33) 3 37) 4 41) 5 45) 6 49) 7 53) 8 57) 9 61) 10 65) := by rw [← hcs40, cu_ne (by decide)]; exact hT23
  have hT69 : cs40 69 = cO 3 (dfl 3) := by rw [← hcs40, cu_self]
  have hW : ∀ j, 22 < j → j < 70 → j ≠ 22 → j ≠ 23 → j ≠ 69 → cs40 j = LW j := by
    intro j hj0 hj h22 h23 h69
    rw [← hcs40]
    rw [cu_ne (by omega)]
    exact hW j hj0 (by omega) (by omega) (by omega)
  have hX : ∀ j, j < 22 → cs40 j = cs j := by
    intro j hj
    have e9 : cs40 j = cs39 j := by rw [← hcs40, cu_ne (by omega)]
    exact e9.trans (hX j hj)
  show Fj 2 50 1140 mX2_init 47 [(1, vi 11), (0, vr 22)] [vr 69, vi 11, vr 23] 70 cs40 47 1052 Q
  refine F_dup dX2_init_47 rfl ?_
  show Fj 2 50 1140 mX2_init 48 [(1, vi 11), (0, vr 22)] [vr 69, vr 69, vi 11, vr 23] 70 cs40 47 1052 Q
  obtain ⟨cs41, hcs41⟩ : ∃ x, (cu (cu (cu (cu cs40 69 (cO 3 (fu (fu (fu (fu (fu (dfl 3) 0 (Sum.inl 2)) 1 (Sum.inl 0)) 2 (Sum.inr (some 70))) 3 (Sum.inr (some 71))) 4 (Sum.inr (some 72))))) 70 (cP 0 40 (fun _ => 0))) 71 (cP 0 40 (fun _ => 0))) 72 (cP 0 8 (fun _ => 0))) = x := ⟨_, rfl⟩
  refine F_callN (i := 69) dX2_init_48 fX3_init rfl rfl im_X3 nX2_28 (by decide) (Nat.le_of_ble_eq_true rfl) (by decide) (by decide) (kX3 (by decide) hT69 ?_)
  rw [hcs41]
  have hT22 : cs41 22 = cO 2 (fu (fu (fu (fu (dfl 2) 0 (Sum.inr (some 23))) 1 (Sum.inr (some 24))) 2 (Sum.inl 0)) 3 (Sum.inl 0)) := by rw [← hcs41, cu_ne (by decide), cu_ne (by decide), cu_ne (by decide), cu_ne (by decide)]; exact hT22
  have hT23 : cs41 23 = cR 3 12 (ru (ru (ru (ru (ru (ru (ru (ru (ru (ru (ru (fun _ => none) 0 25) 1 29) 2 33) 3 37) 4 41) 5 45) 6 49) 7 53) 8 57) 9 61) 10 65) := by rw [← hcs41, cu_ne (by decide), cu_ne (by decide), cu_ne (by decide), cu_ne (by decide)]; exact hT23
  have hW : ∀ j, 22 < j → j < 73 → j ≠ 22 → j ≠ 23 → cs41 j = LW j := by
    intro j hj0 hj h22 h23
    rw [← hcs41]
    by_cases q3 : j = 72
    · subst q3; rw [cu_self]; rfl
    rw [cu_ne q3]
    by_cases q2 : j = 71
    · subst q2; rw [cu_self]; rfl
    rw [cu_ne q2]
    by_cases q1 : j = 70
    · subst q1; rw [cu_self]; rfl
    rw [cu_ne q1]
    by_cases q0 : j = 69
    · subst q0; rw [cu_self]; rfl
    rw [cu_ne q0]
    exact hW j hj0 (by omega) (by omega) (by omega) (by omega)
  have hX : ∀ j, j < 22 → cs41 j = cs j := by
    intro j hj
    have e9 : cs41 j = cs40 j := by rw [← hcs41, cu_ne (by omega), cu_ne (by omega), cu_ne (by omega), cu_ne (by omega)]
    exact e9.trans (hX j hj)
  show Fj 2 50 1140 mX2_init 51 [(1, vi 11), (0, vr 22)] [vr 69, vi 11, vr 23] 73 cs41 50 1140 Q
  obtain ⟨cs42, hcs42⟩ : ∃ x, (cu cs41 23 (cR 3 12 (ru (ru (ru (ru (ru (ru (ru (ru (ru (ru (ru (ru (fun _ => none) 0 25) 1 29) 2 33) 3 37) 4 41) 5 45) 6 49) 7 53) 8 57) 9 61) 10 65) 11 69))) = x := ⟨_, rfl⟩
  refine F_aast (i := 23) (r := 69) (x := 11) dX2_init_51 (by decide) hT23 (by decide) ((hW 69 (by decide) (by decide) (by decide) (by decide)).trans (show LW 69 = cO 3 _ from rfl)) (fun _ => rfl) rfl (by decide) (by decide) hcs42 ?_
  have hT22 : cs42 22 = cO 2 (fu (fu (fu (fu (dfl 2) 0 (Sum.inr (some 23))) 1 (Sum.inr (some 24))) 2 (Sum.inl 0)) 3 (Sum.inl 0)) := by rw [← hcs42, cu_ne (by decide)]; exact hT22
  have hW : ∀ j, 22 < j → j < 73 → j ≠ 22 → cs42 j = LW j := by
    intro j hj0 hj h22
    rw [← hcs42]
    by_cases q0 : j = 23
    · subst q0; rw [cu_self]; rfl
    rw [cu_ne q0]
    exact hW j hj0 (by omega) (by omega) (by omega)
  have hX : ∀ j, j < 22 → cs42 j = cs j := by
    intro j hj
    have e9 : cs42 j = cs41 j := by rw [← hcs42, cu_ne (by omega)]
    exact e9.trans (hX j hj)
  show Fj 2 50 1140 mX2_init 52 [(1, vi 11), (0, vr 22)] [] 73 cs42 50 1140 Q
  refine F_iinc (y := 12) 0 dX2_init_52 rfl (by decide) (by decide) rfl ?_
  show Fj 2 50 1140 mX2_init 55 [(1, vi 12), (0, vr 22)] [] 73 cs42 50 1140 Q
  refine F_goto 33 dX2_init_55 rfl ?_
  show Fj 2 50 1140 mX2_init 33 [(1, vi 12), (0, vr 22)] [] 73 cs42 50 1140 Q
  refine F_iload 0 1 dX2_init_33 rfl rfl ?_
  show Fj 2 50 1140 mX2_init 34 [(1, vi 12), (0, vr 22)] [vi 12] 73 cs42 50 1140 Q
  refine F_bipush dX2_init_34 (by decide) ?_
  show Fj 2 50 1140 mX2_init 36 [(1, vi 12), (0, vr 22)] [vi 12, vi 12] 73 cs42 50 1140 Q
  refine F_ge 58 dX2_init_36 rfl (rg_of rfl) (rg_of rfl) (fun _ => ?_) (fun hh => absurd (by decide) hh)
  show Fj 2 50 1140 mX2_init 58 [(1, vi 12), (0, vr 22)] [] 73 cs42 50 1140 Q
  refine F_return dX2_init_58 rfl rfl ?_
  refine hq cs42 hX ?_
  · intro j h1 h2
    by_cases q : j = 22
    · subst q; rw [hT22]; rfl
    · exact hW j (by omega) h2 q
theorem dX10_init_0 : decode prog_1_method_1_code 0 = .ok (.aload_n 0, 1) := by decide +kernel
theorem dX10_init_1 : decode prog_1_method_1_code 1 = .ok (.invokespecial 3, 3) := by decide +kernel
theorem dX10_init_4 : decode prog_1_method_1_code 4 = .ok (.aload_n 0, 1) := by decide +kernel
theorem dX10_init_5 : decode prog_1_method_1_code 5 = .ok (.iconst 4, 1) := by decide +kernel
theorem dX10_init_6 : decode prog_1_method_1_code 6 = .ok (.anewarray 9, 3) := by decide +kernel
theorem dX10_init_9 : decode prog_1_method_1_code 9 = .ok (.putfield 11, 3) := by decide +kernel
theorem dX10_init_12 : decode prog_1_method_1_code 12 = .ok (.iconst 0, 1) := by decide +kernel
theorem dX10_init_13 : decode prog_1_method_1_code 13 = .ok (.istore_n 1, 1) := by decide +kernel
theorem dX10_init_14 : decode prog_1_method_1_code 14 = .ok (.iload_n 1, 1) := by decide +kernel
theorem dX10_init_15 : decode prog_1_method_1_code 15 = .ok (.iconst 4, 1) := by decide +kernel
theorem dX10_init_16 : decode prog_1_method_1_code 16 = .ok (.if_icmp .ge 22, 3) := by decide +kernel
theorem dX10_init_19 : decode prog_1_method_1_code 19 = .ok (.aload_n 0, 1) := by decide +kernel
theorem dX10_init_20 : decode prog_1_method_1_code 20 = .ok (.getfield 11, 3) := by decide +kernel
theorem dX10_init_23 : decode prog_1_method_1_code 23 = .ok (.iload_n 1, 1) := by decide +kernel
theorem dX10_init_24 : decode prog_1_method_1_code 24 = .ok (.new 9, 3) := by decide +kernel
theorem dX10_init_27 : decode prog_1_method_1_code 27 = .ok (.dup, 1) := by decide +kernel
theorem dX10_init_28 : decode prog_1_method_1_code 28 = .ok (.invokespecial 15, 3) := by decide +kernel
theorem dX10_init_31 : decode prog_1_method_1_code 31 = .ok (.aastore, 1) := by decide +kernel
theorem dX10_init_32 : decode prog_1_method_1_code 32 = .ok (.iinc 1 1, 3) := by decide +kernel
theorem dX10_init_35 : decode prog_1_method_1_code 35 = .ok (.goto (-21), 3) := by decide +kernel
theorem dX10_init_38 : decode prog_1_method_1_code 38 = .ok (.aload_n 0, 1) := by decide +kernel
theorem dX10_init_39 : decode prog_1_method_1_code 39 = .ok (.new 9, 3) := by decide +kernel
theorem dX10_init_42 : decode prog_1_method_1_code 42 = .ok (.dup, 1) := by decide +kernel
theorem dX10_init_43 : decode prog_1_method_1_code 43 = .ok (.invokespecial 15, 3) := by decide +kernel
theorem dX10_init_46 : decode prog_1_method_1_code 46 = .ok (.putfield 16, 3) := by decide +kernel
theorem dX10_init_49 : decode prog_1_method_1_code 49 = .ok (.aload_n 0, 1) := by decide +kernel
theorem dX10_init_50 : decode prog_1_method_1_code 50 = .ok (.new 20, 3) := by decide +kernel
theorem dX10_init_53 : decode prog_1_method_1_code 53 = .ok (.dup, 1) := by decide +kernel
theorem dX10_init_54 : decode prog_1_method_1_code 54 = .ok (.invokespecial 22, 3) := by decide +kernel
theorem dX10_init_57 : decode prog_1_method_1_code 57 = .ok (.putfield 23, 3) := by decide +kernel
theorem dX10_init_60 : decode prog_1_method_1_code 60 = .ok (.aload_n 0, 1) := by decide +kernel
theorem dX10_init_61 : decode prog_1_method_1_code 61 = .ok (.new 27, 3) := by decide +kernel
theorem dX10_init_64 : decode prog_1_method_1_code 64 = .ok (.dup, 1) := by decide +kernel
theorem dX10_init_65 : decode prog_1_method_1_code 65 = .ok (.invokespecial 29, 3) := by decide +kernel
theorem dX10_init_68 : decode prog_1_method_1_code 68 = .ok (.putfield 30, 3) := by decide +kernel
theorem dX10_init_71 : decode prog_1_method_1_code 71 = .ok (.aload_n 0, 1) := by decide +kernel
theorem dX10_init_72 : decode prog_1_method_1_code 72 = .ok (.bipush 8, 2) := by decide +kernel
theorem dX10_init_74 : decode prog_1_method_1_code 74 = .ok (.newarray .int, 2) := by decide +kernel
theorem dX10_init_76 : decode prog_1_method_1_code 76 = .ok (.putfield 34, 3) := by decide +kernel
theorem dX10_init_79 : decode prog_1_method_1_code 79 = .ok (.aload_n 0, 1) := by decide +kernel
theorem dX10_init_80 : decode prog_1_method_1_code 80 = .ok (.new 38, 3) := by decide +kernel
theorem dX10_init_83 : decode prog_1_method_1_code 83 = .ok (.dup, 1) := by decide +kernel
theorem dX10_init_84 : decode prog_1_method_1_code 84 = .ok (.invokespecial 40, 3) := by decide +kernel
theorem dX10_init_87 : decode prog_1_method_1_code 87 = .ok (.putfield 41, 3) := by decide +kernel
theorem dX10_init_90 : decode prog_1_method_1_code 90 = .ok (.aload_n 0, 1) := by decide +kernel
theorem dX10_init_91 : decode prog_1_method_1_code 91 = .ok (.iconst 3, 1) := by decide +kernel
theorem dX10_init_92 : decode prog_1_method_1_code 92 = .ok (.anewarray 45, 3) := by decide +kernel
theorem dX10_init_95 : decode prog_1_method_1_code 95 = .ok (.putfield 47, 3) := by decide +kernel
theorem dX10_init_98 : decode prog_1_method_1_code 98 = .ok (.iconst 0, 1) := by decide +kernel
theorem dX10_init_99 : decode prog_1_method_1_code 99 = .ok (.istore_n 1, 1) := by decide +kernel
theorem dX10_init_100 : decode prog_1_method_1_code 100 = .ok (.iload_n 1, 1) := by decide +kernel
theorem dX10_init_101 : decode prog_1_method_1_code 101 = .ok (.iconst 3, 1) := by decide +kernel
theorem dX10_init_102 : decode prog_1_method_1_code 102 = .ok (.if_icmp .ge 22, 3) := by decide +kernel
theorem dX10_init_105 : decode prog_1_method_1_code 105 = .ok (.aload_n 0, 1) := by decide +kernel
theorem dX10_init_106 : decode prog_1_method_1_code 106 = .ok (.getfield 47, 3) := by decide +kernel
theorem dX10_init_109 : decode prog_1_method_1_code 109 = .ok (.iload_n 1, 1) := by decide +kernel
theorem dX10_init_110 : decode prog_1_method_1_code 110 = .ok (.new 45, 3) := by decide +kernel
theorem dX10_init_113 : decode prog_1_method_1_code 113 = .ok (.dup, 1) := by decide +kernel
theorem dX10_init_114 : decode prog_1_method_1_code 114 = .ok (.invokespecial 51, 3) := by decide +kernel
theorem dX10_init_117 : decode prog_1_method_1_code 117 = .ok (.aastore, 1) := by decide +kernel
theorem dX10_init_118 : decode prog_1_method_1_code 118 = .ok (.iinc 1 1, 3) := by decide +kernel
theorem dX10_init_121 : decode prog_1_method_1_code 121 = .ok (.goto (-21), 3) := by decide +kernel
theorem dX10_init_124 : decode prog_1_method_1_code 124 = .ok (.aload_n 0, 1) := by decide +kernel
theorem dX10_init_125 : decode prog_1_method_1_code 125 = .ok (.new 52, 3) := by decide +kernel
theorem dX10_init_128 : decode prog_1_method_1_code 128 = .ok (.dup, 1) := by decide +kernel
theorem dX10_init_129 : decode prog_1_method_1_code 129 = .ok (.invokespecial 54, 3) := by decide +kernel
theorem dX10_init_132 : decode prog_1_method_1_code 132 = .ok (.putfield 55, 3) := by decide +kernel
theorem dX10_init_135 : decode prog_1_method_1_code 135 = .ok (.aload_n 0, 1) := by decide +kernel
theorem dX10_init_136 : decode prog_1_method_1_code 136 = .ok (.new 59, 3) := by decide +kernel
theorem dX10_init_139 : decode prog_1_method_1_code 139 = .ok (.dup, 1) := by decide +kernel
theorem dX10_init_140 : decode prog_1_method_1_code 140 = .ok (.invokespecial 61, 3) := by decide +kernel
theorem dX10_init_143 : decode prog_1_method_1_code 143 = .ok (.putfield 62, 3) := by decide +kernel
theorem dX10_init_146 : decode prog_1_method_1_code 146 = .ok (.aload_n 0, 1) := by decide +kernel
theorem dX10_init_147 : decode prog_1_method_1_code 147 = .ok (.new 59, 3) := by decide +kernel
theorem dX10_init_150 : decode prog_1_method_1_code 150 = .ok (.dup, 1) := by decide +kernel
theorem dX10_init_151 : decode prog_1_method_1_code 151 = .ok (.invokespecial 61, 3) := by decide +kernel
theorem dX10_init_154 : decode prog_1_method_1_code 154 = .ok (.putfield 66, 3) := by decide +kernel
theorem dX10_init_157 : decode prog_1_method_1_code 157 = .ok (.aload_n 0, 1) := by decide +kernel
theorem dX10_init_158 : decode prog_1_method_1_code 158 = .ok (.new 69, 3) := by decide +kernel
theorem dX10_init_161 : decode prog_1_method_1_code 161 = .ok (.dup, 1) := by decide +kernel
theorem dX10_init_162 : decode prog_1_method_1_code 162 = .ok (.invokespecial 71, 3) := by decide +kernel
theorem dX10_init_165 : decode prog_1_method_1_code 165 = .ok (.putfield 72, 3) := by decide +kernel
theorem dX10_init_168 : decode prog_1_method_1_code 168 = .ok (.aload_n 0, 1) := by decide +kernel
theorem dX10_init_169 : decode prog_1_method_1_code 169 = .ok (.new 76, 3) := by decide +kernel
theorem dX10_init_172 : decode prog_1_method_1_code 172 = .ok (.dup, 1) := by decide +kernel
theorem dX10_init_173 : decode prog_1_method_1_code 173 = .ok (.invokespecial 78, 3) := by decide +kernel
theorem dX10_init_176 : decode prog_1_method_1_code 176 = .ok (.putfield 79, 3) := by decide +kernel
theorem dX10_init_179 : decode prog_1_method_1_code 179 = .ok (.aload_n 0, 1) := by decide +kernel
theorem dX10_init_180 : decode prog_1_method_1_code 180 = .ok (.new 83, 3) := by decide +kernel
theorem dX10_init_183 : decode prog_1_method_1_code 183 = .ok (.dup, 1) := by decide +kernel
theorem dX10_init_184 : decode prog_1_method_1_code 184 = .ok (.invokespecial 85, 3) := by decide +kernel
theorem dX10_init_187 : decode prog_1_method_1_code 187 = .ok (.putfield 86, 3) := by decide +kernel
theorem dX10_init_190 : decode prog_1_method_1_code 190 = .ok (.return_, 1) := by decide +kernel
set_option maxHeartbeats 4000000 in
theorem kX10 {cs : Nat → CDs} {Q : Nat → (Nat → CDs) → Prop} (hT0 : cs 0 = cO 10 (dfl 10)) (hq : ∀ cs', (∀ j, j < 0 → cs' j = cs j) → (∀ j, 0 ≤ j → j < 103 → cs' j = LW j) → Q 103 cs') : CtF 3 102 3916 mX10_init 0 1 cs Q := by
  refine CtF_of fX10_init rfl rfl (by decide) ?_
  have hX : ∀ j, j < 0 → cs j = cs j := fun _ _ => rfl
  have hW : ∀ j, 0 < j → j < 1 → j ≠ 0 → cs j = LW j := fun j h1 h2 _ => absurd h1 (by omega)
  refine F_aload 0 0 dX10_init_0 rfl rfl ?_
  show Fj 3 102 3916 mX10_init 1 [(0, vr 0)] [vr 0] 1 cs 0 0 Q
  refine F_objInit dX10_init_1 oi_X10 oi_im oi_cd (by decide) (Nat.le_of_ble_eq_true rfl) ?_
  show Fj 3 102 3916 mX10_init 4 [(0, vr 0)] [] 1 cs 0 0 Q
  refine F_aload 0 0 dX10_init_4 rfl rfl ?_
  show Fj 3 102 3916 mX10_init 5 [(0, vr 0)] [vr 0] 1 cs 0 0 Q
  refine F_iconst dX10_init_5 ?_
  show Fj 3 102 3916 mX10_init 6 [(0, vr 0)] [vi 4, vr 0] 1 cs 0 0 Q
  obtain ⟨cs1, hcs1⟩ : ∃ x, (cu cs 1 (cR 3 4 (fun _ => none))) = x := ⟨_, rfl⟩
  refine F_anewN (N := 4) dX10_init_6 cl_X10_9 (by decide) (by decide) (by decide) hcs1 ?_
  have hT0 : cs1 0 = cO 10 (dfl 10) := by rw [← hcs1, cu_ne (by decide)]; exact hT0
  have hT1 : cs1 1 = cR 3 4 (fun _ => none) := by rw [← hcs1, cu_self]
  have hW : ∀ j, 0 < j → j < 2 → j ≠ 0 → j ≠ 1 → cs1 j = LW j := by
    intro j hj0 hj h0 h1
    rw [← hcs1]
    rw [cu_ne (by omega)]
    exact hW j hj0 (by omega) (by omega)
  have hX : ∀ j, j < 0 → cs1 j = cs j := by
    intro j hj
    have e9 : cs1 j = cs j := by rw [← hcs1, cu_ne (by omega)]
    exact e9.trans (hX j hj)
  show Fj 3 102 3916 mX10_init 9 [(0, vr 0)] [vr 1, vr 0] 2 cs1 1 4 Q
  obtain ⟨cs2, hcs2⟩ : ∃ x, (cu cs1 0 (cO 10 (fu (dfl 10) 0 (Sum.inr (some 1))))) = x := ⟨_, rfl⟩
  refine F_putR (r := 1) (i := 0) dX10_init_9 pf_X10_11 (refAO _) (by decide) hT0 hcs2 ?_
  have hT0 : cs2 0 = cO 10 (fu (dfl 10) 0 (Sum.inr (some 1))) := by rw [← hcs2, cu_self]
  have hT1 : cs2 1 = cR 3 4 (fun _ => none) := by rw [← hcs2, cu_ne (by decide)]; exact hT1
  have hW : ∀ j, 0 < j → j < 2 → j ≠ 0 → j ≠ 1 → cs2 j = LW j := by
    intro j hj0 hj h0 h1
    rw [← hcs2]
    rw [cu_ne (by omega)]
    exact hW j hj0 (by omega) (by omega) (by omega)
  have hX : ∀ j, j < 0 → cs2 j = cs j := by
    intro j hj
    have e9 : cs2 j = cs1 j := by rw [← hcs2, cu_ne (by omega)]
    exact e9.trans (hX j hj)
  show Fj 3 102 3916 mX10_init 12 [(0, vr 0)] [] 2 cs2 1 4 Q
  refine F_iconst dX10_init_12 ?_
  show Fj 3 102 3916 mX10_init 13 [(0, vr 0)] [vi 0] 2 cs2 1 4 Q
  refine F_istore dX10_init_13 rfl (by decide) rfl ?_
  show Fj 3 102 3916 mX10_init 14 [(1, vi 0), (0, vr 0)] [] 2 cs2 1 4 Q
  refine F_iload 0 1 dX10_init_14 rfl rfl ?_
  show Fj 3 102 3916 mX10_init 15 [(1, vi 0), (0, vr 0)] [vi 0] 2 cs2 1 4 Q
  refine F_iconst dX10_init_15 ?_
  show Fj 3 102 3916 mX10_init 16 [(1, vi 0), (0, vr 0)] [vi 4, vi 0] 2 cs2 1 4 Q
  refine F_ge 38 dX10_init_16 rfl (rg_of rfl) (rg_of rfl) (fun hh => absurd hh (by decide)) (fun _ => ?_)
  show Fj 3 102 3916 mX10_init 19 [(1, vi 0), (0, vr 0)] [] 2 cs2 1 4 Q
  refine F_aload 1 0 dX10_init_19 rfl rfl ?_
  show Fj 3 102 3916 mX10_init 20 [(1, vi 0), (0, vr 0)] [vr 0] 2 cs2 1 4 Q
  refine F_getR (r := 1) (i := 0) dX10_init_20 FX10_11 (by decide) hT0 rfl ?_
  show Fj 3 102 3916 mX10_init 23 [(1, vi 0), (0, vr 0)] [vr 1] 2 cs2 1 4 Q
  refine F_iload 0 1 dX10_init_23 rfl rfl ?_
  show Fj 3 102 3916 mX10_init 24 [(1, vi 0), (0, vr 0)] [vi 0, vr 1] 2 cs2 1 4 Q
  obtain ⟨cs3, hcs3⟩ : ∃ x, (cu cs2 2 (cO 3 (dfl 3))) = x := ⟨_, rfl⟩
  refine F_new dX10_init_24 nw_X10_9 (by decide) (by decide) hcs3 ?_
  have hT0 : cs3 0 = cO 10 (fu (dfl 10) 0 (Sum.inr (some 1))) := by rw [← hcs3, cu_ne (by decide)]; exact hT0
  have hT1 : cs3 1 = cR 3 4 (fun _ => none) := by rw [← hcs3, cu_ne (by decide)]; exact hT1
  have hT2 : cs3 2 = cO 3 (dfl 3) := by rw [← hcs3, cu_self]
  have hW : ∀ j, 0 < j → j < 3 → j ≠ 0 → j ≠ 1 → j ≠ 2 → cs3 j = LW j := by
    intro j hj0 hj h0 h1 h2
    rw [← hcs3]
    rw [cu_ne (by omega)]
    exact hW j hj0 (by omega) (by omega) (by omega)
  have hX : ∀ j, j < 0 → cs3 j = cs j := by
    intro j hj
    have e9 : cs3 j = cs2 j := by rw [← hcs3, cu_ne (by omega)]
    exact e9.trans (hX j hj)
  show Fj 3 102 3916 mX10_init 27 [(1, vi 0), (0, vr 0)] [vr 2, vi 0, vr 1] 3 cs3 2 9 Q
  refine F_dup dX10_init_27 rfl ?_
  show Fj 3 102 3916 mX10_init 28 [(1, vi 0), (0, vr 0)] [vr 2, vr 2, vi 0, vr 1] 3 cs3 2 9 Q
  obtain ⟨cs4, hcs4⟩ : ∃ x, (cu (cu (cu (cu cs3 2 (cO 3 (fu (fu (fu (fu (fu (dfl 3) 0 (Sum.inl 2)) 1 (Sum.inl 0)) 2 (Sum.inr (some 3))) 3 (Sum.inr (some 4))) 4 (Sum.inr (some 5))))) 3 (cP 0 40 (fun _ => 0))) 4 (cP 0 40 (fun _ => 0))) 5 (cP 0 8 (fun _ => 0))) = x := ⟨_, rfl⟩
  refine F_callN (i := 2) dX10_init_28 fX3_init rfl rfl im_X3 nX10_15 (by decide) (Nat.le_of_ble_eq_true rfl) (by decide) (by decide) (kX3 (by decide) hT2 ?_)
  rw [hcs4]
  have hT0 : cs4 0 = cO 10 (fu (dfl 10) 0 (Sum.inr (some 1))) := by rw [← hcs4, cu_ne (by decide), cu_ne (by decide), cu_ne (by decide), cu_ne (by decide)]; exact hT0
  have hT1 : cs4 1 = cR 3 4 (fun _ => none) := by rw [← hcs4, cu_ne (by decide), cu_ne (by decide), cu_ne (by decide), cu_ne (by decide)]; exact hT1
  have hW : ∀ j, 0 < j → j < 6 → j ≠ 0 → j ≠ 1 → cs4 j = LW j := by
    intro j hj0 hj h0 h1
    rw [← hcs4]
    by_cases q3 : j = 5
    · subst q3; rw [cu_self]; rfl
    rw [cu_ne q3]
    by_cases q2 : j = 4
    · subst q2; rw [cu_self]; rfl
    rw [cu_ne q2]
    by_cases q1 : j = 3
    · subst q1; rw [cu_self]; rfl
    rw [cu_ne q1]
    by_cases q0 : j = 2
    · subst q0; rw [cu_self]; rfl
    rw [cu_ne q0]
    exact hW j hj0 (by omega) (by omega) (by omega) (by omega)
  have hX : ∀ j, j < 0 → cs4 j = cs j := by
    intro j hj
    have e9 : cs4 j = cs3 j := by rw [← hcs4, cu_ne (by omega), cu_ne (by omega), cu_ne (by omega), cu_ne (by omega)]
    exact e9.trans (hX j hj)
  show Fj 3 102 3916 mX10_init 31 [(1, vi 0), (0, vr 0)] [vr 2, vi 0, vr 1] 6 cs4 5 97 Q
  obtain ⟨cs5, hcs5⟩ : ∃ x, (cu cs4 1 (cR 3 4 (ru (fun _ => none) 0 2))) = x := ⟨_, rfl⟩
  refine F_aast (i := 1) (r := 2) (x := 0) dX10_init_31 (by decide) hT1 (by decide) ((hW 2 (by decide) (by decide) (by decide) (by decide)).trans (show LW 2 = cO 3 _ from rfl)) (fun _ => rfl) rfl (by decide) (by decide) hcs5 ?_
  have hT0 : cs5 0 = cO 10 (fu (dfl 10) 0 (Sum.inr (some 1))) := by rw [← hcs5, cu_ne (by decide)]; exact hT0
  have hT1 : cs5 1 = cR 3 4 (ru (fun _ => none) 0 2) := by rw [← hcs5, cu_self]
  have hW : ∀ j, 0 < j → j < 6 → j ≠ 0 → j ≠ 1 → cs5 j = LW j := by
    intro j hj0 hj h0 h1
    rw [← hcs5]
    rw [cu_ne (by omega)]
    exact hW j hj0 (by omega) (by omega) (by omega)
  have hX : ∀ j, j < 0 → cs5 j = cs j := by
    intro j hj
    have e9 : cs5 j = cs4 j := by rw [← hcs5, cu_ne (by omega)]
    exact e9.trans (hX j hj)
  show Fj 3 102 3916 mX10_init 32 [(1, vi 0), (0, vr 0)] [] 6 cs5 5 97 Q
  refine F_iinc (y := 1) 0 dX10_init_32 rfl (by decide) (by decide) rfl ?_
  show Fj 3 102 3916 mX10_init 35 [(1, vi 1), (0, vr 0)] [] 6 cs5 5 97 Q
  refine F_goto 14 dX10_init_35 rfl ?_
  show Fj 3 102 3916 mX10_init 14 [(1, vi 1), (0, vr 0)] [] 6 cs5 5 97 Q
  refine F_iload 0 1 dX10_init_14 rfl rfl ?_
  show Fj 3 102 3916 mX10_init 15 [(1, vi 1), (0, vr 0)] [vi 1] 6 cs5 5 97 Q
  refine F_iconst dX10_init_15 ?_
  show Fj 3 102 3916 mX10_init 16 [(1, vi 1), (0, vr 0)] [vi 4, vi 1] 6 cs5 5 97 Q
  refine F_ge 38 dX10_init_16 rfl (rg_of rfl) (rg_of rfl) (fun hh => absurd hh (by decide)) (fun _ => ?_)
  show Fj 3 102 3916 mX10_init 19 [(1, vi 1), (0, vr 0)] [] 6 cs5 5 97 Q
  refine F_aload 1 0 dX10_init_19 rfl rfl ?_
  show Fj 3 102 3916 mX10_init 20 [(1, vi 1), (0, vr 0)] [vr 0] 6 cs5 5 97 Q
  refine F_getR (r := 1) (i := 0) dX10_init_20 FX10_11 (by decide) hT0 rfl ?_
  show Fj 3 102 3916 mX10_init 23 [(1, vi 1), (0, vr 0)] [vr 1] 6 cs5 5 97 Q
  refine F_iload 0 1 dX10_init_23 rfl rfl ?_
  show Fj 3 102 3916 mX10_init 24 [(1, vi 1), (0, vr 0)] [vi 1, vr 1] 6 cs5 5 97 Q
  obtain ⟨cs6, hcs6⟩ : ∃ x, (cu cs5 6 (cO 3 (dfl 3))) = x := ⟨_, rfl⟩
  refine F_new dX10_init_24 nw_X10_9 (by decide) (by decide) hcs6 ?_
  have hT0 : cs6 0 = cO 10 (fu (dfl 10) 0 (Sum.inr (some 1))) := by rw [← hcs6, cu_ne (by decide)]; exact hT0
  have hT1 : cs6 1 = cR 3 4 (ru (fun _ => none) 0 2) := by rw [← hcs6, cu_ne (by decide)]; exact hT1
  have hT6 : cs6 6 = cO 3 (dfl 3) := by rw [← hcs6, cu_self]
  have hW : ∀ j, 0 < j → j < 7 → j ≠ 0 → j ≠ 1 → j ≠ 6 → cs6 j = LW j := by
    intro j hj0 hj h0 h1 h6
    rw [← hcs6]
    rw [cu_ne (by omega)]
    exact hW j hj0 (by omega) (by omega) (by omega)
  have hX : ∀ j, j < 0 → cs6 j = cs j := by
    intro j hj
    have e9 : cs6 j = cs5 j := by rw [← hcs6, cu_ne (by omega)]
    exact e9.trans (hX j hj)
  show Fj 3 102 3916 mX10_init 27 [(1, vi 1), (0, vr 0)] [vr 6, vi 1, vr 1] 7 cs6 6 102 Q
  refine F_dup dX10_init_27 rfl ?_
  show Fj 3 102 3916 mX10_init 28 [(1, vi 1), (0, vr 0)] [vr 6, vr 6, vi 1, vr 1] 7 cs6 6 102 Q
  obtain ⟨cs7, hcs7⟩ : ∃ x, (cu (cu (cu (cu cs6 6 (cO 3 (fu (fu (fu (fu (fu (dfl 3) 0 (Sum.inl 2)) 1 (Sum.inl 0)) 2 (Sum.inr (some 7))) 3 (Sum.inr (some 8))) 4 (Sum.inr (some 9))))) 7 (cP 0 40 (fun _ => 0))) 8 (cP 0 40 (fun _ => 0))) 9 (cP 0 8 (fun _ => 0))) = x := ⟨_, rfl⟩
  refine F_callN (i := 6) dX10_init_28 fX3_init rfl rfl im_X3 nX10_15 (by decide) (Nat.le_of_ble_eq_true rfl) (by decide) (by decide) (kX3 (by decide) hT6 ?_)
  rw [hcs7]
  have hT0 : cs7 0 = cO 10 (fu (dfl 10) 0 (Sum.inr (some 1))) := by rw [← hcs7, cu_ne (by decide), cu_ne (by decide), cu_ne (by decide), cu_ne (by decide)]; exact hT0
  have hT1 : cs7 1 = cR 3 4 (ru (fun _ => none) 0 2) := by rw [← hcs7, cu_ne (by decide), cu_ne (by decide), cu_ne (by decide), cu_ne (by decide)]; exact hT1
  have hW : ∀ j, 0 < j → j < 10 → j ≠ 0 → j ≠ 1 → cs7 j = LW j := by
    intro j hj0 hj h0 h1
    rw [← hcs7]
    by_cases q3 : j = 9
    · subst q3; rw [cu_self]; rfl
    rw [cu_ne q3]
    by_cases q2 : j = 8
    · subst q2; rw [cu_self]; rfl
    rw [cu_ne q2]
    by_cases q1 : j = 7
    · subst q1; rw [cu_self]; rfl
    rw [cu_ne q1]
    by_cases q0 : j = 6
    · subst q0; rw [cu_self]; rfl
    rw [cu_ne q0]
    exact hW j hj0 (by omega) (by omega) (by omega) (by omega)
  have hX : ∀ j, j < 0 → cs7 j = cs j := by
    intro j hj
    have e9 : cs7 j = cs6 j := by rw [← hcs7, cu_ne (by omega), cu_ne (by omega), cu_ne (by omega), cu_ne (by omega)]
    exact e9.trans (hX j hj)
  show Fj 3 102 3916 mX10_init 31 [(1, vi 1), (0, vr 0)] [vr 6, vi 1, vr 1] 10 cs7 9 190 Q
  obtain ⟨cs8, hcs8⟩ : ∃ x, (cu cs7 1 (cR 3 4 (ru (ru (fun _ => none) 0 2) 1 6))) = x := ⟨_, rfl⟩
  refine F_aast (i := 1) (r := 6) (x := 1) dX10_init_31 (by decide) hT1 (by decide) ((hW 6 (by decide) (by decide) (by decide) (by decide)).trans (show LW 6 = cO 3 _ from rfl)) (fun _ => rfl) rfl (by decide) (by decide) hcs8 ?_
  have hT0 : cs8 0 = cO 10 (fu (dfl 10) 0 (Sum.inr (some 1))) := by rw [← hcs8, cu_ne (by decide)]; exact hT0
  have hT1 : cs8 1 = cR 3 4 (ru (ru (fun _ => none) 0 2) 1 6) := by rw [← hcs8, cu_self]
  have hW : ∀ j, 0 < j → j < 10 → j ≠ 0 → j ≠ 1 → cs8 j = LW j := by
    intro j hj0 hj h0 h1
    rw [← hcs8]
    rw [cu_ne (by omega)]
    exact hW j hj0 (by omega) (by omega) (by omega)
  have hX : ∀ j, j < 0 → cs8 j = cs j := by
    intro j hj
    have e9 : cs8 j = cs7 j := by rw [← hcs8, cu_ne (by omega)]
    exact e9.trans (hX j hj)
  show Fj 3 102 3916 mX10_init 32 [(1, vi 1), (0, vr 0)] [] 10 cs8 9 190 Q
  refine F_iinc (y := 2) 0 dX10_init_32 rfl (by decide) (by decide) rfl ?_
  show Fj 3 102 3916 mX10_init 35 [(1, vi 2), (0, vr 0)] [] 10 cs8 9 190 Q
  refine F_goto 14 dX10_init_35 rfl ?_
  show Fj 3 102 3916 mX10_init 14 [(1, vi 2), (0, vr 0)] [] 10 cs8 9 190 Q
  refine F_iload 0 1 dX10_init_14 rfl rfl ?_
  show Fj 3 102 3916 mX10_init 15 [(1, vi 2), (0, vr 0)] [vi 2] 10 cs8 9 190 Q
  refine F_iconst dX10_init_15 ?_
  show Fj 3 102 3916 mX10_init 16 [(1, vi 2), (0, vr 0)] [vi 4, vi 2] 10 cs8 9 190 Q
  refine F_ge 38 dX10_init_16 rfl (rg_of rfl) (rg_of rfl) (fun hh => absurd hh (by decide)) (fun _ => ?_)
  show Fj 3 102 3916 mX10_init 19 [(1, vi 2), (0, vr 0)] [] 10 cs8 9 190 Q
  refine F_aload 1 0 dX10_init_19 rfl rfl ?_
  show Fj 3 102 3916 mX10_init 20 [(1, vi 2), (0, vr 0)] [vr 0] 10 cs8 9 190 Q
  refine F_getR (r := 1) (i := 0) dX10_init_20 FX10_11 (by decide) hT0 rfl ?_
  show Fj 3 102 3916 mX10_init 23 [(1, vi 2), (0, vr 0)] [vr 1] 10 cs8 9 190 Q
  refine F_iload 0 1 dX10_init_23 rfl rfl ?_
  show Fj 3 102 3916 mX10_init 24 [(1, vi 2), (0, vr 0)] [vi 2, vr 1] 10 cs8 9 190 Q
  obtain ⟨cs9, hcs9⟩ : ∃ x, (cu cs8 10 (cO 3 (dfl 3))) = x := ⟨_, rfl⟩
  refine F_new dX10_init_24 nw_X10_9 (by decide) (by decide) hcs9 ?_
  have hT0 : cs9 0 = cO 10 (fu (dfl 10) 0 (Sum.inr (some 1))) := by rw [← hcs9, cu_ne (by decide)]; exact hT0
  have hT1 : cs9 1 = cR 3 4 (ru (ru (fun _ => none) 0 2) 1 6) := by rw [← hcs9, cu_ne (by decide)]; exact hT1
  have hT10 : cs9 10 = cO 3 (dfl 3) := by rw [← hcs9, cu_self]
  have hW : ∀ j, 0 < j → j < 11 → j ≠ 0 → j ≠ 1 → j ≠ 10 → cs9 j = LW j := by
    intro j hj0 hj h0 h1 h10
    rw [← hcs9]
    rw [cu_ne (by omega)]
    exact hW j hj0 (by omega) (by omega) (by omega)
  have hX : ∀ j, j < 0 → cs9 j = cs j := by
    intro j hj
    have e9 : cs9 j = cs8 j := by rw [← hcs9, cu_ne (by omega)]
    exact e9.trans (hX j hj)
  show Fj 3 102 3916 mX10_init 27 [(1, vi 2), (0, vr 0)] [vr 10, vi 2, vr 1] 11 cs9 10 195 Q
  refine F_dup dX10_init_27 rfl ?_
  show Fj 3 102 3916 mX10_init 28 [(1, vi 2), (0, vr 0)] [vr 10, vr 10, vi 2, vr 1] 11 cs9 10 195 Q
  obtain ⟨cs10, hcs10⟩ : ∃ x, (cu (cu (cu (cu cs9 10 (cO 3 (fu (fu (fu (fu (fu (dfl 3) 0 (Sum.inl 2)) 1 (Sum.inl 0)) 2 (Sum.inr (some 11))) 3 (Sum.inr (some 12))) 4 (Sum.inr (some 13))))) 11 (cP 0 40 (fun _ => 0))) 12 (cP 0 40 (fun _ => 0))) 13 (cP 0 8 (fun _ => 0))) = x := ⟨_, rfl⟩
  refine F_callN (i := 10) dX10_init_28 fX3_init rfl rfl im_X3 nX10_15 (by decide) (Nat.le_of_ble_eq_true rfl) (by decide) (by decide) (kX3 (by decide) hT10 ?_)
  rw [hcs10]
  have hT0 : cs10 0 = cO 10 (fu (dfl 10) 0 (Sum.inr (some 1))) := by rw [← hcs10, cu_ne (by decide), cu_ne (by decide), cu_ne (by decide), cu_ne (by decide)]; exact hT0
  have hT1 : cs10 1 = cR 3 4 (ru (ru (fun _ => none) 0 2) 1 6) := by rw [← hcs10, cu_ne (by decide), cu_ne (by decide), cu_ne (by decide), cu_ne (by decide)]; exact hT1
  have hW : ∀ j, 0 < j → j < 14 → j ≠ 0 → j ≠ 1 → cs10 j = LW j := by
    intro j hj0 hj h0 h1
    rw [← hcs10]
    by_cases q3 : j = 13
    · subst q3; rw [cu_self]; rfl
    rw [cu_ne q3]
    by_cases q2 : j = 12
    · subst q2; rw [cu_self]; rfl
    rw [cu_ne q2]
    by_cases q1 : j = 11
    · subst q1; rw [cu_self]; rfl
    rw [cu_ne q1]
    by_cases q0 : j = 10
    · subst q0; rw [cu_self]; rfl
    rw [cu_ne q0]
    exact hW j hj0 (by omega) (by omega) (by omega) (by omega)
  have hX : ∀ j, j < 0 → cs10 j = cs j := by
    intro j hj
    have e9 : cs10 j = cs9 j := by rw [← hcs10, cu_ne (by omega), cu_ne (by omega), cu_ne (by omega), cu_ne (by omega)]
    exact e9.trans (hX j hj)
  show Fj 3 102 3916 mX10_init 31 [(1, vi 2), (0, vr 0)] [vr 10, vi 2, vr 1] 14 cs10 13 283 Q
  obtain ⟨cs11, hcs11⟩ : ∃ x, (cu cs10 1 (cR 3 4 (ru (ru (ru (fun _ => none) 0 2) 1 6) 2 10))) = x := ⟨_, rfl⟩
  refine F_aast (i := 1) (r := 10) (x := 2) dX10_init_31 (by decide) hT1 (by decide) ((hW 10 (by decide) (by decide) (by decide) (by decide)).trans (show LW 10 = cO 3 _ from rfl)) (fun _ => rfl) rfl (by decide) (by decide) hcs11 ?_
  have hT0 : cs11 0 = cO 10 (fu (dfl 10) 0 (Sum.inr (some 1))) := by rw [← hcs11, cu_ne (by decide)]; exact hT0
  have hT1 : cs11 1 = cR 3 4 (ru (ru (ru (fun _ => none) 0 2) 1 6) 2 10) := by rw [← hcs11, cu_self]
  have hW : ∀ j, 0 < j → j < 14 → j ≠ 0 → j ≠ 1 → cs11 j = LW j := by
    intro j hj0 hj h0 h1
    rw [← hcs11]
    rw [cu_ne (by omega)]
    exact hW j hj0 (by omega) (by omega) (by omega)
  have hX : ∀ j, j < 0 → cs11 j = cs j := by
    intro j hj
    have e9 : cs11 j = cs10 j := by rw [← hcs11, cu_ne (by omega)]
    exact e9.trans (hX j hj)
  show Fj 3 102 3916 mX10_init 32 [(1, vi 2), (0, vr 0)] [] 14 cs11 13 283 Q
  refine F_iinc (y := 3) 0 dX10_init_32 rfl (by decide) (by decide) rfl ?_
  show Fj 3 102 3916 mX10_init 35 [(1, vi 3), (0, vr 0)] [] 14 cs11 13 283 Q
  refine F_goto 14 dX10_init_35 rfl ?_
  show Fj 3 102 3916 mX10_init 14 [(1, vi 3), (0, vr 0)] [] 14 cs11 13 283 Q
  refine F_iload 0 1 dX10_init_14 rfl rfl ?_
  show Fj 3 102 3916 mX10_init 15 [(1, vi 3), (0, vr 0)] [vi 3] 14 cs11 13 283 Q
  refine F_iconst dX10_init_15 ?_
  show Fj 3 102 3916 mX10_init 16 [(1, vi 3), (0, vr 0)] [vi 4, vi 3] 14 cs11 13 283 Q
  refine F_ge 38 dX10_init_16 rfl (rg_of rfl) (rg_of rfl) (fun hh => absurd hh (by decide)) (fun _ => ?_)
  show Fj 3 102 3916 mX10_init 19 [(1, vi 3), (0, vr 0)] [] 14 cs11 13 283 Q
  refine F_aload 1 0 dX10_init_19 rfl rfl ?_
  show Fj 3 102 3916 mX10_init 20 [(1, vi 3), (0, vr 0)] [vr 0] 14 cs11 13 283 Q
  refine F_getR (r := 1) (i := 0) dX10_init_20 FX10_11 (by decide) hT0 rfl ?_
  show Fj 3 102 3916 mX10_init 23 [(1, vi 3), (0, vr 0)] [vr 1] 14 cs11 13 283 Q
  refine F_iload 0 1 dX10_init_23 rfl rfl ?_
  show Fj 3 102 3916 mX10_init 24 [(1, vi 3), (0, vr 0)] [vi 3, vr 1] 14 cs11 13 283 Q
  obtain ⟨cs12, hcs12⟩ : ∃ x, (cu cs11 14 (cO 3 (dfl 3))) = x := ⟨_, rfl⟩
  refine F_new dX10_init_24 nw_X10_9 (by decide) (by decide) hcs12 ?_
  have hT0 : cs12 0 = cO 10 (fu (dfl 10) 0 (Sum.inr (some 1))) := by rw [← hcs12, cu_ne (by decide)]; exact hT0
  have hT1 : cs12 1 = cR 3 4 (ru (ru (ru (fun _ => none) 0 2) 1 6) 2 10) := by rw [← hcs12, cu_ne (by decide)]; exact hT1
  have hT14 : cs12 14 = cO 3 (dfl 3) := by rw [← hcs12, cu_self]
  have hW : ∀ j, 0 < j → j < 15 → j ≠ 0 → j ≠ 1 → j ≠ 14 → cs12 j = LW j := by
    intro j hj0 hj h0 h1 h14
    rw [← hcs12]
    rw [cu_ne (by omega)]
    exact hW j hj0 (by omega) (by omega) (by omega)
  have hX : ∀ j, j < 0 → cs12 j = cs j := by
    intro j hj
    have e9 : cs12 j = cs11 j := by rw [← hcs12, cu_ne (by omega)]
    exact e9.trans (hX j hj)
  show Fj 3 102 3916 mX10_init 27 [(1, vi 3), (0, vr 0)] [vr 14, vi 3, vr 1] 15 cs12 14 288 Q
  refine F_dup dX10_init_27 rfl ?_
  show Fj 3 102 3916 mX10_init 28 [(1, vi 3), (0, vr 0)] [vr 14, vr 14, vi 3, vr 1] 15 cs12 14 288 Q
  obtain ⟨cs13, hcs13⟩ : ∃ x, (cu (cu (cu (cu cs12 14 (cO 3 (fu (fu (fu (fu (fu (dfl 3) 0 (Sum.inl 2)) 1 (Sum.inl 0)) 2 (Sum.inr (some 15))) 3 (Sum.inr (some 16))) 4 (Sum.inr (some 17))))) 15 (cP 0 40 (fun _ => 0))) 16 (cP 0 40 (fun _ => 0))) 17 (cP 0 8 (fun _ => 0))) = x := ⟨_, rfl⟩
  refine F_callN (i := 14) dX10_init_28 fX3_init rfl rfl im_X3 nX10_15 (by decide) (Nat.le_of_ble_eq_true rfl) (by decide) (by decide) (kX3 (by decide) hT14 ?_)
  rw [hcs13]
  have hT0 : cs13 0 = cO 10 (fu (dfl 10) 0 (Sum.inr (some 1))) := by rw [← hcs13, cu_ne (by decide), cu_ne (by decide), cu_ne (by decide), cu_ne (by decide)]; exact hT0
  have hT1 : cs13 1 = cR 3 4 (ru (ru (ru (fun _ => none) 0 2) 1 6) 2 10) := by rw [← hcs13, cu_ne (by decide), cu_ne (by decide), cu_ne (by decide), cu_ne (by decide)]; exact hT1
  have hW : ∀ j, 0 < j → j < 18 → j ≠ 0 → j ≠ 1 → cs13 j = LW j := by
    intro j hj0 hj h0 h1
    rw [← hcs13]
    by_cases q3 : j = 17
    · subst q3; rw [cu_self]; rfl
    rw [cu_ne q3]
    by_cases q2 : j = 16
    · subst q2; rw [cu_self]; rfl
    rw [cu_ne q2]
    by_cases q1 : j = 15
    · subst q1; rw [cu_self]; rfl
    rw [cu_ne q1]
    by_cases q0 : j = 14
    · subst q0; rw [cu_self]; rfl
    rw [cu_ne q0]
    exact hW j hj0 (by omega) (by omega) (by omega) (by omega)
  have hX : ∀ j, j < 0 → cs13 j = cs j := by
    intro j hj
    have e9 : cs13 j = cs12 j := by rw [← hcs13, cu_ne (by omega), cu_ne (by omega), cu_ne (by omega), cu_ne (by omega)]
    exact e9.trans (hX j hj)
  show Fj 3 102 3916 mX10_init 31 [(1, vi 3), (0, vr 0)] [vr 14, vi 3, vr 1] 18 cs13 17 376 Q
  obtain ⟨cs14, hcs14⟩ : ∃ x, (cu cs13 1 (cR 3 4 (ru (ru (ru (ru (fun _ => none) 0 2) 1 6) 2 10) 3 14))) = x := ⟨_, rfl⟩
  refine F_aast (i := 1) (r := 14) (x := 3) dX10_init_31 (by decide) hT1 (by decide) ((hW 14 (by decide) (by decide) (by decide) (by decide)).trans (show LW 14 = cO 3 _ from rfl)) (fun _ => rfl) rfl (by decide) (by decide) hcs14 ?_
  have hT0 : cs14 0 = cO 10 (fu (dfl 10) 0 (Sum.inr (some 1))) := by rw [← hcs14, cu_ne (by decide)]; exact hT0
  have hW : ∀ j, 0 < j → j < 18 → j ≠ 0 → cs14 j = LW j := by
    intro j hj0 hj h0
    rw [← hcs14]
    by_cases q0 : j = 1
    · subst q0; rw [cu_self]; rfl
    rw [cu_ne q0]
    exact hW j hj0 (by omega) (by omega) (by omega)
  have hX : ∀ j, j < 0 → cs14 j = cs j := by
    intro j hj
    have e9 : cs14 j = cs13 j := by rw [← hcs14, cu_ne (by omega)]
    exact e9.trans (hX j hj)
  show Fj 3 102 3916 mX10_init 32 [(1, vi 3), (0, vr 0)] [] 18 cs14 17 376 Q
  refine F_iinc (y := 4) 0 dX10_init_32 rfl (by decide) (by decide) rfl ?_
  show Fj 3 102 3916 mX10_init 35 [(1, vi 4), (0, vr 0)] [] 18 cs14 17 376 Q
  refine F_goto 14 dX10_init_35 rfl ?_
  show Fj 3 102 3916 mX10_init 14 [(1, vi 4), (0, vr 0)] [] 18 cs14 17 376 Q
  refine F_iload 0 1 dX10_init_14 rfl rfl ?_
  show Fj 3 102 3916 mX10_init 15 [(1, vi 4), (0, vr 0)] [vi 4] 18 cs14 17 376 Q
  refine F_iconst dX10_init_15 ?_
  show Fj 3 102 3916 mX10_init 16 [(1, vi 4), (0, vr 0)] [vi 4, vi 4] 18 cs14 17 376 Q
  refine F_ge 38 dX10_init_16 rfl (rg_of rfl) (rg_of rfl) (fun _ => ?_) (fun hh => absurd (by decide) hh)
  show Fj 3 102 3916 mX10_init 38 [(1, vi 4), (0, vr 0)] [] 18 cs14 17 376 Q
  refine F_aload 1 0 dX10_init_38 rfl rfl ?_
  show Fj 3 102 3916 mX10_init 39 [(1, vi 4), (0, vr 0)] [vr 0] 18 cs14 17 376 Q
  obtain ⟨cs15, hcs15⟩ : ∃ x, (cu cs14 18 (cO 3 (dfl 3))) = x := ⟨_, rfl⟩
  refine F_new dX10_init_39 nw_X10_9 (by decide) (by decide) hcs15 ?_
  have hT0 : cs15 0 = cO 10 (fu (dfl 10) 0 (Sum.inr (some 1))) := by rw [← hcs15, cu_ne (by decide)]; exact hT0
  have hT18 : cs15 18 = cO 3 (dfl 3) := by rw [← hcs15, cu_self]
  have hW : ∀ j, 0 < j → j < 19 → j ≠ 0 → j ≠ 18 → cs15 j = LW j := by
    intro j hj0 hj h0 h18
    rw [← hcs15]
    rw [cu_ne (by omega)]
    exact hW j hj0 (by omega) (by omega)
  have hX : ∀ j, j < 0 → cs15 j = cs j := by
    intro j hj
    have e9 : cs15 j = cs14 j := by rw [← hcs15, cu_ne (by omega)]
    exact e9.trans (hX j hj)
  show Fj 3 102 3916 mX10_init 42 [(1, vi 4), (0, vr 0)] [vr 18, vr 0] 19 cs15 18 381 Q
  refine F_dup dX10_init_42 rfl ?_
  show Fj 3 102 3916 mX10_init 43 [(1, vi 4), (0, vr 0)] [vr 18, vr 18, vr 0] 19 cs15 18 381 Q
  obtain ⟨cs16, hcs16⟩ : ∃ x, (cu (cu (cu (cu cs15 18 (cO 3 (fu (fu (fu (fu (fu (dfl 3) 0 (Sum.inl 2)) 1 (Sum.inl 0)) 2 (Sum.inr (some 19))) 3 (Sum.inr (some 20))) 4 (Sum.inr (some 21))))) 19 (cP 0 40 (fun _ => 0))) 20 (cP 0 40 (fun _ => 0))) 21 (cP 0 8 (fun _ => 0))) = x := ⟨_, rfl⟩
  refine F_callN (i := 18) dX10_init_43 fX3_init rfl rfl im_X3 nX10_15 (by decide) (Nat.le_of_ble_eq_true rfl) (by decide) (by decide) (kX3 (by decide) hT18 ?_)
  rw [hcs16]
  have hT0 : cs16 0 = cO 10 (fu (dfl 10) 0 (Sum.inr (some 1))) := by rw [← hcs16, cu_ne (by decide), cu_ne (by decide), cu_ne (by decide), cu_ne (by decide)]; exact hT0
  have hW : ∀ j, 0 < j → j < 22 → j ≠ 0 → cs16 j = LW j := by
    intro j hj0 hj h0
    rw [← hcs16]
    by_cases q3 : j = 21
    · subst q3; rw [cu_self]; rfl
    rw [cu_ne q3]
    by_cases q2 : j = 20
    · subst q2; rw [cu_self]; rfl
    rw [cu_ne q2]
    by_cases q1 : j = 19
    · subst q1; rw [cu_self]; rfl
    rw [cu_ne q1]
    by_cases q0 : j = 18
    · subst q0; rw [cu_self]; rfl
    rw [cu_ne q0]
    exact hW j hj0 (by omega) (by omega) (by omega)
  have hX : ∀ j, j < 0 → cs16 j = cs j := by
    intro j hj
    have e9 : cs16 j = cs15 j := by rw [← hcs16, cu_ne (by omega), cu_ne (by omega), cu_ne (by omega), cu_ne (by omega)]
    exact e9.trans (hX j hj)
  show Fj 3 102 3916 mX10_init 46 [(1, vi 4), (0, vr 0)] [vr 18, vr 0] 22 cs16 21 469 Q
  obtain ⟨cs17, hcs17⟩ : ∃ x, (cu cs16 0 (cO 10 (fu (fu (dfl 10) 0 (Sum.inr (some 1))) 1 (Sum.inr (some 18))))) = x := ⟨_, rfl⟩
  refine F_putR (r := 18) (i := 0) dX10_init_46 pf_X10_16 (refO _) (by decide) hT0 hcs17 ?_
  have hT0 : cs17 0 = cO 10 (fu (fu (dfl 10) 0 (Sum.inr (some 1))) 1 (Sum.inr (some 18))) := by rw [← hcs17, cu_self]
  have hW : ∀ j, 0 < j → j < 22 → j ≠ 0 → cs17 j = LW j := by
    intro j hj0 hj h0
    rw [← hcs17]
    rw [cu_ne (by omega)]
    exact hW j hj0 (by omega) (by omega)
  have hX : ∀ j, j < 0 → cs17 j = cs j := by
    intro j hj
    have e9 : cs17 j = cs16 j := by rw [← hcs17, cu_ne (by omega)]
    exact e9.trans (hX j hj)
  show Fj 3 102 3916 mX10_init 49 [(1, vi 4), (0, vr 0)] [] 22 cs17 21 469 Q
  refine F_aload 1 0 dX10_init_49 rfl rfl ?_
  show Fj 3 102 3916 mX10_init 50 [(1, vi 4), (0, vr 0)] [vr 0] 22 cs17 21 469 Q
  obtain ⟨cs18, hcs18⟩ : ∃ x, (cu cs17 22 (cO 2 (dfl 2))) = x := ⟨_, rfl⟩
  refine F_new dX10_init_50 nw_X10_20 (by decide) (by decide) hcs18 ?_
  have hT0 : cs18 0 = cO 10 (fu (fu (dfl 10) 0 (Sum.inr (some 1))) 1 (Sum.inr (some 18))) := by rw [← hcs18, cu_ne (by decide)]; exact hT0
  have hT22 : cs18 22 = cO 2 (dfl 2) := by rw [← hcs18, cu_self]
  have hW : ∀ j, 0 < j → j < 23 → j ≠ 0 → j ≠ 22 → cs18 j = LW j := by
    intro j hj0 hj h0 h22
    rw [← hcs18]
    rw [cu_ne (by omega)]
    exact hW j hj0 (by omega) (by omega)
  have hX : ∀ j, j < 0 → cs18 j = cs j := by
    intro j hj
    have e9 : cs18 j = cs17 j := by rw [← hcs18, cu_ne (by omega)]
    exact e9.trans (hX j hj)
  show Fj 3 102 3916 mX10_init 53 [(1, vi 4), (0, vr 0)] [vr 22, vr 0] 23 cs18 22 473 Q
  refine F_dup dX10_init_53 rfl ?_
  show Fj 3 102 3916 mX10_init 54 [(1, vi 4), (0, vr 0)] [vr 22, vr 22, vr 0] 23 cs18 22 473 Q
  refine F_callI (i := 22) dX10_init_54 fX2_init rfl rfl im_X2 lX10_22 (by decide) (Nat.le_of_ble_eq_true rfl) (by decide) (by decide) (kX2 hT22 (fun cs19 hO hN => ?_))
  have hT0 : cs19 0 = cO 10 (fu (fu (dfl 10) 0 (Sum.inr (some 1))) 1 (Sum.inr (some 18))) := by rw [hO 0 (by decide)]; exact hT0
  have hW : ∀ j, 0 < j → j < 73 → j ≠ 0 → cs19 j = LW j := by
    intro j hj0 hj h0
    by_cases q : j < 22
    · rw [hO j q]; exact hW j hj0 (by omega) (by omega) (by omega)
    · exact hN j (by omega) hj
  have hX : ∀ j, j < 0 → cs19 j = cs j := fun j hj => absurd hj (by omega)
  show Fj 3 102 3916 mX10_init 57 [(1, vi 4), (0, vr 0)] [vr 22, vr 0] 73 cs19 72 1613 Q
  obtain ⟨cs20, hcs20⟩ : ∃ x, (cu cs19 0 (cO 10 (fu (fu (fu (dfl 10) 0 (Sum.inr (some 1))) 1 (Sum.inr (some 18))) 2 (Sum.inr (some 22))))) = x := ⟨_, rfl⟩
  refine F_putR (r := 22) (i := 0) dX10_init_57 pf_X10_23 (refO _) (by decide) hT0 hcs20 ?_
  have hT0 : cs20 0 = cO 10 (fu (fu (fu (dfl 10) 0 (Sum.inr (some 1))) 1 (Sum.inr (some 18))) 2 (Sum.inr (some 22))) := by rw [← hcs20, cu_self]
  have hW : ∀ j, 0 < j → j < 73 → j ≠ 0 → cs20 j = LW j := by
    intro j hj0 hj h0
    rw [← hcs20]
    rw [cu_ne (by omega)]
    exact hW j hj0 (by omega) (by omega)
  have hX : ∀ j, j < 0 → cs20 j = cs j := by
    intro j hj
    have e9 : cs20 j = cs19 j := by rw [← hcs20, cu_ne (by omega)]
    exact e9.trans (hX j hj)
  show Fj 3 102 3916 mX10_init 60 [(1, vi 4), (0, vr 0)] [] 73 cs20 72 1613 Q
  refine F_aload 1 0 dX10_init_60 rfl rfl ?_
  show Fj 3 102 3916 mX10_init 61 [(1, vi 4), (0, vr 0)] [vr 0] 73 cs20 72 1613 Q
  obtain ⟨cs21, hcs21⟩ : ∃ x, (cu cs20 73 (cO 8 (dfl 8))) = x := ⟨_, rfl⟩
  refine F_new dX10_init_61 nw_X10_27 (by decide) (by decide) hcs21 ?_
  have hT0 : cs21 0 = cO 10 (fu (fu (fu (dfl 10) 0 (Sum.inr (some 1))) 1 (Sum.inr (some 18))) 2 (Sum.inr (some 22))) := by rw [← hcs21, cu_ne (by decide)]; exact hT0
  have hT73 : cs21 73 = cO 8 (dfl 8) := by rw [← hcs21, cu_self]
  have hW : ∀ j, 0 < j → j < 74 → j ≠ 0 → j ≠ 73 → cs21 j = LW j := by
    intro j hj0 hj h0 h73
    rw [← hcs21]
    rw [cu_ne (by omega)]
    exact hW j hj0 (by omega) (by omega)
  have hX : ∀ j, j < 0 → cs21 j = cs j := by
    intro j hj
    have e9 : cs21 j = cs20 j := by rw [← hcs21, cu_ne (by omega)]
    exact e9.trans (hX j hj)
  show Fj 3 102 3916 mX10_init 64 [(1, vi 4), (0, vr 0)] [vr 73, vr 0] 74 cs21 73 1615 Q
  refine F_dup dX10_init_64 rfl ?_
  show Fj 3 102 3916 mX10_init 65 [(1, vi 4), (0, vr 0)] [vr 73, vr 73, vr 0] 74 cs21 73 1615 Q
  obtain ⟨cs22, hcs22⟩ : ∃ x, (cu (cu cs21 73 (cO 8 (fu (fu (dfl 8) 0 (Sum.inr (some 74))) 1 (Sum.inl 0)))) 74 (cP 0 60 (fun _ => 0))) = x := ⟨_, rfl⟩
  refine F_callN (i := 73) dX10_init_65 fX8_init rfl rfl im_X8 nX10_29 (by decide) (Nat.le_of_ble_eq_true rfl) (by decide) (by decide) (kX8 (by decide) hT73 ?_)
  rw [hcs22]
  have hT0 : cs22 0 = cO 10 (fu (fu (fu (dfl 10) 0 (Sum.inr (some 1))) 1 (Sum.inr (some 18))) 2 (Sum.inr (some 22))) := by rw [← hcs22, cu_ne (by decide), cu_ne (by decide)]; exact hT0
  have hW : ∀ j, 0 < j → j < 75 → j ≠ 0 → cs22 j = LW j := by
    intro j hj0 hj h0
    rw [← hcs22]
    by_cases q1 : j = 74
    · subst q1; rw [cu_self]; rfl
    rw [cu_ne q1]
    by_cases q0 : j = 73
    · subst q0; rw [cu_self]; rfl
    rw [cu_ne q0]
    exact hW j hj0 (by omega) (by omega) (by omega)
  have hX : ∀ j, j < 0 → cs22 j = cs j := by
    intro j hj
    have e9 : cs22 j = cs21 j := by rw [← hcs22, cu_ne (by omega), cu_ne (by omega)]
    exact e9.trans (hX j hj)
  show Fj 3 102 3916 mX10_init 68 [(1, vi 4), (0, vr 0)] [vr 73, vr 0] 75 cs22 74 1675 Q
  obtain ⟨cs23, hcs23⟩ : ∃ x, (cu cs22 0 (cO 10 (fu (fu (fu (fu (dfl 10) 0 (Sum.inr (some 1))) 1 (Sum.inr (some 18))) 2 (Sum.inr (some 22))) 3 (Sum.inr (some 73))))) = x := ⟨_, rfl⟩
  refine F_putR (r := 73) (i := 0) dX10_init_68 pf_X10_30 (refO _) (by decide) hT0 hcs23 ?_
  have hT0 : cs23 0 = cO 10 (fu (fu (fu (fu (dfl 10) 0 (Sum.inr (some 1))) 1 (Sum.inr (some 18))) 2 (Sum.inr (some 22))) 3 (Sum.inr (some 73))) := by rw [← hcs23, cu_self]
  have hW : ∀ j, 0 < j → j < 75 → j ≠ 0 → cs23 j = LW j := by
    intro j hj0 hj h0
    rw [← hcs23]
    rw [cu_ne (by omega)]
    exact hW j hj0 (by omega) (by omega)
  have hX : ∀ j, j < 0 → cs23 j = cs j := by
    intro j hj
    have e9 : cs23 j = cs22 j := by rw [← hcs23, cu_ne (by omega)]
    exact e9.trans (hX j hj)
  show Fj 3 102 3916 mX10_init 71 [(1, vi 4), (0, vr 0)] [] 75 cs23 74 1675 Q
  refine F_aload 1 0 dX10_init_71 rfl rfl ?_
  show Fj 3 102 3916 mX10_init 72 [(1, vi 4), (0, vr 0)] [vr 0] 75 cs23 74 1675 Q
  refine F_bipush dX10_init_72 (by decide) ?_
  show Fj 3 102 3916 mX10_init 74 [(1, vi 4), (0, vr 0)] [vi 8, vr 0] 75 cs23 74 1675 Q
  obtain ⟨cs24, hcs24⟩ : ∃ x, (cu cs23 75 (cP 0 8 (fun _ => 0))) = x := ⟨_, rfl⟩
  refine F_newaI (N := 8) dX10_init_74 ac_int (by decide) (by decide) (by decide) hcs24 ?_
  have hT0 : cs24 0 = cO 10 (fu (fu (fu (fu (dfl 10) 0 (Sum.inr (some 1))) 1 (Sum.inr (some 18))) 2 (Sum.inr (some 22))) 3 (Sum.inr (some 73))) := by rw [← hcs24, cu_ne (by decide)]; exact hT0
  have hW : ∀ j, 0 < j → j < 76 → j ≠ 0 → cs24 j = LW j := by
    intro j hj0 hj h0
    rw [← hcs24]
    by_cases q0 : j = 75
    · subst q0; rw [cu_self]; rfl
    rw [cu_ne q0]
    exact hW j hj0 (by omega) (by omega)
  have hX : ∀ j, j < 0 → cs24 j = cs j := by
    intro j hj
    have e9 : cs24 j = cs23 j := by rw [← hcs24, cu_ne (by omega)]
    exact e9.trans (hX j hj)
  show Fj 3 102 3916 mX10_init 76 [(1, vi 4), (0, vr 0)] [vr 75, vr 0] 76 cs24 75 1683 Q
  obtain ⟨cs25, hcs25⟩ : ∃ x, (cu cs24 0 (cO 10 (fu (fu (fu (fu (fu (dfl 10) 0 (Sum.inr (some 1))) 1 (Sum.inr (some 18))) 2 (Sum.inr (some 22))) 3 (Sum.inr (some 73))) 4 (Sum.inr (some 75))))) = x := ⟨_, rfl⟩
  refine F_putR (r := 75) (i := 0) dX10_init_76 pf_X10_34 refAI (by decide) hT0 hcs25 ?_
  have hT0 : cs25 0 = cO 10 (fu (fu (fu (fu (fu (dfl 10) 0 (Sum.inr (some 1))) 1 (Sum.inr (some 18))) 2 (Sum.inr (some 22))) 3 (Sum.inr (some 73))) 4 (Sum.inr (some 75))) := by rw [← hcs25, cu_self]
  have hW : ∀ j, 0 < j → j < 76 → j ≠ 0 → cs25 j = LW j := by
    intro j hj0 hj h0
    rw [← hcs25]
    rw [cu_ne (by omega)]
    exact hW j hj0 (by omega) (by omega)
  have hX : ∀ j, j < 0 → cs25 j = cs j := by
    intro j hj
    have e9 : cs25 j = cs24 j := by rw [← hcs25, cu_ne (by omega)]
    exact e9.trans (hX j hj)
  show Fj 3 102 3916 mX10_init 79 [(1, vi 4), (0, vr 0)] [] 76 cs25 75 1683 Q
  refine F_aload 1 0 dX10_init_79 rfl rfl ?_
  show Fj 3 102 3916 mX10_init 80 [(1, vi 4), (0, vr 0)] [vr 0] 76 cs25 75 1683 Q
  obtain ⟨cs26, hcs26⟩ : ∃ x, (cu cs25 76 (cO 9 (dfl 9))) = x := ⟨_, rfl⟩
  refine F_new dX10_init_80 nw_X10_38 (by decide) (by decide) hcs26 ?_
  have hT0 : cs26 0 = cO 10 (fu (fu (fu (fu (fu (dfl 10) 0 (Sum.inr (some 1))) 1 (Sum.inr (some 18))) 2 (Sum.inr (some 22))) 3 (Sum.inr (some 73))) 4 (Sum.inr (some 75))) := by rw [← hcs26, cu_ne (by decide)]; exact hT0
  have hT76 : cs26 76 = cO 9 (dfl 9) := by rw [← hcs26, cu_self]
  have hW : ∀ j, 0 < j → j < 77 → j ≠ 0 → j ≠ 76 → cs26 j = LW j := by
    intro j hj0 hj h0 h76
    rw [← hcs26]
    rw [cu_ne (by omega)]
    exact hW j hj0 (by omega) (by omega)
  have hX : ∀ j, j < 0 → cs26 j = cs j := by
    intro j hj
    have e9 : cs26 j = cs25 j := by rw [← hcs26, cu_ne (by omega)]
    exact e9.trans (hX j hj)
  show Fj 3 102 3916 mX10_init 83 [(1, vi 4), (0, vr 0)] [vr 76, vr 0] 77 cs26 76 1687 Q
  refine F_dup dX10_init_83 rfl ?_
  show Fj 3 102 3916 mX10_init 84 [(1, vi 4), (0, vr 0)] [vr 76, vr 76, vr 0] 77 cs26 76 1687 Q
  obtain ⟨cs27, hcs27⟩ : ∃ x, (cu (cu (cu cs26 76 (cO 9 (fu (fu (fu (fu (dfl 9) 0 (Sum.inl 0)) 1 (Sum.inl 0)) 2 (Sum.inr (some 77))) 3 (Sum.inr (some 78))))) 77 (cP 0 8 (fun _ => 0))) 78 (cP 0 8 (fun _ => 0))) = x := ⟨_, rfl⟩
  refine F_callN (i := 76) dX10_init_84 fX9_init rfl rfl im_X9 nX10_40 (by decide) (Nat.le_of_ble_eq_true rfl) (by decide) (by decide) (kX9 (by decide) hT76 ?_)
  rw [hcs27]
  have hT0 : cs27 0 = cO 10 (fu (fu (fu (fu (fu (dfl 10) 0 (Sum.inr (some 1))) 1 (Sum.inr (some 18))) 2 (Sum.inr (some 22))) 3 (Sum.inr (some 73))) 4 (Sum.inr (some 75))) := by rw [← hcs27, cu_ne (by decide), cu_ne (by decide), cu_ne (by decide)]; exact hT0
  have hW : ∀ j, 0 < j → j < 79 → j ≠ 0 → cs27 j = LW j := by
    intro j hj0 hj h0
    rw [← hcs27]
    by_cases q2 : j = 78
    · subst q2; rw [cu_self]; rfl
    rw [cu_ne q2]
    by_cases q1 : j = 77
    · subst q1; rw [cu_self]; rfl
    rw [cu_ne q1]
    by_cases q0 : j = 76
    · subst q0; rw [cu_self]; rfl
    rw [cu_ne q0]
    exact hW j hj0 (by omega) (by omega) (by omega)
  have hX : ∀ j, j < 0 → cs27 j = cs j := by
    intro j hj
    have e9 : cs27 j = cs26 j := by rw [← hcs27, cu_ne (by omega), cu_ne (by omega), cu_ne (by omega)]
    exact e9.trans (hX j hj)
  show Fj 3 102 3916 mX10_init 87 [(1, vi 4), (0, vr 0)] [vr 76, vr 0] 79 cs27 78 1703 Q
  obtain ⟨cs28, hcs28⟩ : ∃ x, (cu cs27 0 (cO 10 (fu (fu (fu (fu (fu (fu (dfl 10) 0 (Sum.inr (some 1))) 1 (Sum.inr (some 18))) 2 (Sum.inr (some 22))) 3 (Sum.inr (some 73))) 4 (Sum.inr (some 75))) 5 (Sum.inr (some 76))))) = x := ⟨_, rfl⟩
  refine F_putR (r := 76) (i := 0) dX10_init_87 pf_X10_41 (refO _) (by decide) hT0 hcs28 ?_
  have hT0 : cs28 0 = cO 10 (fu (fu (fu (fu (fu (fu (dfl 10) 0 (Sum.inr (some 1))) 1 (Sum.inr (some 18))) 2 (Sum.inr (some 22))) 3 (Sum.inr (some 73))) 4 (Sum.inr (some 75))) 5 (Sum.inr (some 76))) := by rw [← hcs28, cu_self]
  have hW : ∀ j, 0 < j → j < 79 → j ≠ 0 → cs28 j = LW j := by
    intro j hj0 hj h0
    rw [← hcs28]
    rw [cu_ne (by omega)]
    exact hW j hj0 (by omega) (by omega)
  have hX : ∀ j, j < 0 → cs28 j = cs j := by
    intro j hj
    have e9 : cs28 j = cs27 j := by rw [← hcs28, cu_ne (by omega)]
    exact e9.trans (hX j hj)
  show Fj 3 102 3916 mX10_init 90 [(1, vi 4), (0, vr 0)] [] 79 cs28 78 1703 Q
  refine F_aload 1 0 dX10_init_90 rfl rfl ?_
  show Fj 3 102 3916 mX10_init 91 [(1, vi 4), (0, vr 0)] [vr 0] 79 cs28 78 1703 Q
  refine F_iconst dX10_init_91 ?_
  show Fj 3 102 3916 mX10_init 92 [(1, vi 4), (0, vr 0)] [vi 3, vr 0] 79 cs28 78 1703 Q
  obtain ⟨cs29, hcs29⟩ : ∃ x, (cu cs28 79 (cR 4 3 (fun _ => none))) = x := ⟨_, rfl⟩
  refine F_anewS (N := 3) dX10_init_92 cl_X10_45 (by decide) (by decide) (by decide) hcs29 ?_
  have hT0 : cs29 0 = cO 10 (fu (fu (fu (fu (fu (fu (dfl 10) 0 (Sum.inr (some 1))) 1 (Sum.inr (some 18))) 2 (Sum.inr (some 22))) 3 (Sum.inr (some 73))) 4 (Sum.inr (some 75))) 5 (Sum.inr (some 76))) := by rw [← hcs29, cu_ne (by decide)]; exact hT0
  have hT79 : cs29 79 = cR 4 3 (fun _ => none) := by rw [← hcs29, cu_self]
  have hW : ∀ j, 0 < j → j < 80 → j ≠ 0 → j ≠ 79 → cs29 j = LW j := by
    intro j hj0 hj h0 h79
    rw [← hcs29]
    rw [cu_ne (by omega)]
    exact hW j hj0 (by omega) (by omega)
  have hX : ∀ j, j < 0 → cs29 j = cs j := by
    intro j hj
    have e9 : cs29 j = cs28 j := by rw [← hcs29, cu_ne (by omega)]
    exact e9.trans (hX j hj)
  show Fj 3 102 3916 mX10_init 95 [(1, vi 4), (0, vr 0)] [vr 79, vr 0] 80 cs29 79 1706 Q
  obtain ⟨cs30, hcs30⟩ : ∃ x, (cu cs29 0 (cO 10 (fu (fu (fu (fu (fu (fu (fu (dfl 10) 0 (Sum.inr (some 1))) 1 (Sum.inr (some 18))) 2 (Sum.inr (some 22))) 3 (Sum.inr (some 73))) 4 (Sum.inr (some 75))) 5 (Sum.inr (some 76))) 6 (Sum.inr (some 79))))) = x := ⟨_, rfl⟩
  refine F_putR (r := 79) (i := 0) dX10_init_95 pf_X10_47 (refAO _) (by decide) hT0 hcs30 ?_
  have hT0 : cs30 0 = cO 10 (fu (fu (fu (fu (fu (fu (fu (dfl 10) 0 (Sum.inr (some 1))) 1 (Sum.inr (some 18))) 2 (Sum.inr (some 22))) 3 (Sum.inr (some 73))) 4 (Sum.inr (some 75))) 5 (Sum.inr (some 76))) 6 (Sum.inr (some 79))) := by rw [← hcs30, cu_self]
  have hT79 : cs30 79 = cR 4 3 (fun _ => none) := by rw [← hcs30, cu_ne (by decide)]; exact hT79
  have hW : ∀ j, 0 < j → j < 80 → j ≠ 0 → j ≠ 79 → cs30 j = LW j := by
    intro j hj0 hj h0 h79
    rw [← hcs30]
    rw [cu_ne (by omega)]
    exact hW j hj0 (by omega) (by omega) (by omega)
  have hX : ∀ j, j < 0 → cs30 j = cs j := by
    intro j hj
    have e9 : cs30 j = cs29 j := by rw [← hcs30, cu_ne (by omega)]
    exact e9.trans (hX j hj)
  show Fj 3 102 3916 mX10_init 98 [(1, vi 4), (0, vr 0)] [] 80 cs30 79 1706 Q
  refine F_iconst dX10_init_98 ?_
  show Fj 3 102 3916 mX10_init 99 [(1, vi 4), (0, vr 0)] [vi 0] 80 cs30 79 1706 Q
  refine F_istore dX10_init_99 rfl (by decide) rfl ?_
  show Fj 3 102 3916 mX10_init 100 [(1, vi 0), (0, vr 0)] [] 80 cs30 79 1706 Q
  refine F_iload 0 1 dX10_init_100 rfl rfl ?_
  show Fj 3 102 3916 mX10_init 101 [(1, vi 0), (0, vr 0)] [vi 0] 80 cs30 79 1706 Q
  refine F_iconst dX10_init_101 ?_
  show Fj 3 102 3916 mX10_init 102 [(1, vi 0), (0, vr 0)] [vi 3, vi 0] 80 cs30 79 1706 Q
  refine F_ge 124 dX10_init_102 rfl (rg_of rfl) (rg_of rfl) (fun hh => absurd hh (by decide)) (fun _ => ?_)
  show Fj 3 102 3916 mX10_init 105 [(1, vi 0), (0, vr 0)] [] 80 cs30 79 1706 Q
  refine F_aload 1 0 dX10_init_105 rfl rfl ?_
  show Fj 3 102 3916 mX10_init 106 [(1, vi 0), (0, vr 0)] [vr 0] 80 cs30 79 1706 Q
  refine F_getR (r := 79) (i := 0) dX10_init_106 FX10_47 (by decide) hT0 rfl ?_
  show Fj 3 102 3916 mX10_init 109 [(1, vi 0), (0, vr 0)] [vr 79] 80 cs30 79 1706 Q
  refine F_iload 0 1 dX10_init_109 rfl rfl ?_
  show Fj 3 102 3916 mX10_init 110 [(1, vi 0), (0, vr 0)] [vi 0, vr 79] 80 cs30 79 1706 Q
  obtain ⟨cs31, hcs31⟩ : ∃ x, (cu cs30 80 (cO 6 (dfl 6))) = x := ⟨_, rfl⟩
  refine F_new dX10_init_110 nw_X10_45 (by decide) (by decide) hcs31 ?_
  have hT0 : cs31 0 = cO 10 (fu (fu (fu (fu (fu (fu (fu (dfl 10) 0 (Sum.inr (some 1))) 1 (Sum.inr (some 18))) 2 (Sum.inr (some 22))) 3 (Sum.inr (some 73))) 4 (Sum.inr (some 75))) 5 (Sum.inr (some 76))) 6 (Sum.inr (some 79))) := by rw [← hcs31, cu_ne (by decide)]; exact hT0
  have hT79 : cs31 79 = cR 4 3 (fun _ => none) := by rw [← hcs31, cu_ne (by decide)]; exact hT79
  have hT80 : cs31 80 = cO 6 (dfl 6) := by rw [← hcs31, cu_self]
  have hW : ∀ j, 0 < j → j < 81 → j ≠ 0 → j ≠ 79 → j ≠ 80 → cs31 j = LW j := by
    intro j hj0 hj h0 h79 h80
    rw [← hcs31]
    rw [cu_ne (by omega)]
    exact hW j hj0 (by omega) (by omega) (by omega)
  have hX : ∀ j, j < 0 → cs31 j = cs j := by
    intro j hj
    have e9 : cs31 j = cs30 j := by rw [← hcs31, cu_ne (by omega)]
    exact e9.trans (hX j hj)
  show Fj 3 102 3916 mX10_init 113 [(1, vi 0), (0, vr 0)] [vr 80, vi 0, vr 79] 81 cs31 80 1709 Q
  refine F_dup dX10_init_113 rfl ?_
  show Fj 3 102 3916 mX10_init 114 [(1, vi 0), (0, vr 0)] [vr 80, vr 80, vi 0, vr 79] 81 cs31 80 1709 Q
  obtain ⟨cs32, hcs32⟩ : ∃ x, (cu cs31 80 (cO 6 (fu (fu (fu (dfl 6) 0 (Sum.inl (-1))) 1 (Sum.inl 0)) 2 (Sum.inl 0)))) = x := ⟨_, rfl⟩
  refine F_callN (i := 80) dX10_init_114 fX6_init rfl rfl im_X6 nX10_51 (by decide) (Nat.le_of_ble_eq_true rfl) (by decide) (by decide) (kX6 (by decide) hT80 ?_)
  rw [hcs32]
  have hT0 : cs32 0 = cO 10 (fu (fu (fu (fu (fu (fu (fu (dfl 10) 0 (Sum.inr (some 1))) 1 (Sum.inr (some 18))) 2 (Sum.inr (some 22))) 3 (Sum.inr (some 73))) 4 (Sum.inr (some 75))) 5 (Sum.inr (some 76))) 6 (Sum.inr (some 79))) := by rw [← hcs32, cu_ne (by decide)]; exact hT0
  have hT79 : cs32 79 = cR 4 3 (fun _ => none) := by rw [← hcs32, cu_ne (by decide)]; exact hT79
  have hW : ∀ j, 0 < j → j < 81 → j ≠ 0 → j ≠ 79 → cs32 j = LW j := by
    intro j hj0 hj h0 h79
    rw [← hcs32]
    by_cases q0 : j = 80
    · subst q0; rw [cu_self]; rfl
    rw [cu_ne q0]
    exact hW j hj0 (by omega) (by omega) (by omega) (by omega)
  have hX : ∀ j, j < 0 → cs32 j = cs j := by
    intro j hj
    have e9 : cs32 j = cs31 j := by rw [← hcs32, cu_ne (by omega)]
    exact e9.trans (hX j hj)
  show Fj 3 102 3916 mX10_init 117 [(1, vi 0), (0, vr 0)] [vr 80, vi 0, vr 79] 81 cs32 80 1709 Q
  obtain ⟨cs33, hcs33⟩ : ∃ x, (cu cs32 79 (cR 4 3 (ru (fun _ => none) 0 80))) = x := ⟨_, rfl⟩
  refine F_aast (i := 79) (r := 80) (x := 0) dX10_init_117 (by decide) hT79 (by decide) ((hW 80 (by decide) (by decide) (by decide) (by decide)).trans (show LW 80 = cO 6 _ from rfl)) (fun _ => rfl) rfl (by decide) (by decide) hcs33 ?_
  have hT0 : cs33 0 = cO 10 (fu (fu (fu (fu (fu (fu (fu (dfl 10) 0 (Sum.inr (some 1))) 1 (Sum.inr (some 18))) 2 (Sum.inr (some 22))) 3 (Sum.inr (some 73))) 4 (Sum.inr (some 75))) 5 (Sum.inr (some 76))) 6 (Sum.inr (some 79))) := by rw [← hcs33, cu_ne (by decide)]; exact hT0
  have hT79 : cs33 79 = cR 4 3 (ru (fun _ => none) 0 80) := by rw [← hcs33, cu_self]
  have hW : ∀ j, 0 < j → j < 81 → j ≠ 0 → j ≠ 79 → cs33 j = LW j := by
    intro j hj0 hj h0 h79
    rw [← hcs33]
    rw [cu_ne (by omega)]
    exact hW j hj0 (by omega) (by omega) (by omega)
  have hX : ∀ j, j < 0 → cs33 j = cs j := by
    intro j hj
    have e9 : cs33 j = cs32 j := by rw [← hcs33, cu_ne (by omega)]
    exact e9.trans (hX j hj)
  show Fj 3 102 3916 mX10_init 118 [(1, vi 0), (0, vr 0)] [] 81 cs33 80 1709 Q
  refine F_iinc (y := 1) 0 dX10_init_118 rfl (by decide) (by decide) rfl ?_
  show Fj 3 102 3916 mX10_init 121 [(1, vi 1), (0, vr 0)] [] 81 cs33 80 1709 Q
  refine F_goto 100 dX10_init_121 rfl ?_
  show Fj 3 102 3916 mX10_init 100 [(1, vi 1), (0, vr 0)] [] 81 cs33 80 1709 Q
  refine F_iload 0 1 dX10_init_100 rfl rfl ?_
  show Fj 3 102 3916 mX10_init 101 [(1, vi 1), (0, vr 0)] [vi 1] 81 cs33 80 1709 Q
  refine F_iconst dX10_init_101 ?_
  show Fj 3 102 3916 mX10_init 102 [(1, vi 1), (0, vr 0)] [vi 3, vi 1] 81 cs33 80 1709 Q
  refine F_ge 124 dX10_init_102 rfl (rg_of rfl) (rg_of rfl) (fun hh => absurd hh (by decide)) (fun _ => ?_)
  show Fj 3 102 3916 mX10_init 105 [(1, vi 1), (0, vr 0)] [] 81 cs33 80 1709 Q
  refine F_aload 1 0 dX10_init_105 rfl rfl ?_
  show Fj 3 102 3916 mX10_init 106 [(1, vi 1), (0, vr 0)] [vr 0] 81 cs33 80 1709 Q
  refine F_getR (r := 79) (i := 0) dX10_init_106 FX10_47 (by decide) hT0 rfl ?_
  show Fj 3 102 3916 mX10_init 109 [(1, vi 1), (0, vr 0)] [vr 79] 81 cs33 80 1709 Q
  refine F_iload 0 1 dX10_init_109 rfl rfl ?_
  show Fj 3 102 3916 mX10_init 110 [(1, vi 1), (0, vr 0)] [vi 1, vr 79] 81 cs33 80 1709 Q
  obtain ⟨cs34, hcs34⟩ : ∃ x, (cu cs33 81 (cO 6 (dfl 6))) = x := ⟨_, rfl⟩
  refine F_new dX10_init_110 nw_X10_45 (by decide) (by decide) hcs34 ?_
  have hT0 : cs34 0 = cO 10 (fu (fu (fu (fu (fu (fu (fu (dfl 10) 0 (Sum.inr (some 1))) 1 (Sum.inr (some 18))) 2 (Sum.inr (some 22))) 3 (Sum.inr (some 73))) 4 (Sum.inr (some 75))) 5 (Sum.inr (some 76))) 6 (Sum.inr (some 79))) := by rw [← hcs34, cu_ne (by decide)]; exact hT0
  have hT79 : cs34 79 = cR 4 3 (ru (fun _ => none) 0 80) := by rw [← hcs34, cu_ne (by decide)]; exact hT79
  have hT81 : cs34 81 = cO 6 (dfl 6) := by rw [← hcs34, cu_self]
  have hW : ∀ j, 0 < j → j < 82 → j ≠ 0 → j ≠ 79 → j ≠ 81 → cs34 j = LW j := by
    intro j hj0 hj h0 h79 h81
    rw [← hcs34]
    rw [cu_ne (by omega)]
    exact hW j hj0 (by omega) (by omega) (by omega)
  have hX : ∀ j, j < 0 → cs34 j = cs j := by
    intro j hj
    have e9 : cs34 j = cs33 j := by rw [← hcs34, cu_ne (by omega)]
    exact e9.trans (hX j hj)
  show Fj 3 102 3916 mX10_init 113 [(1, vi 1), (0, vr 0)] [vr 81, vi 1, vr 79] 82 cs34 81 1712 Q
  refine F_dup dX10_init_113 rfl ?_
  show Fj 3 102 3916 mX10_init 114 [(1, vi 1), (0, vr 0)] [vr 81, vr 81, vi 1, vr 79] 82 cs34 81 1712 Q
  obtain ⟨cs35, hcs35⟩ : ∃ x, (cu cs34 81 (cO 6 (fu (fu (fu (dfl 6) 0 (Sum.inl (-1))) 1 (Sum.inl 0)) 2 (Sum.inl 0)))) = x := ⟨_, rfl⟩
  refine F_callN (i := 81) dX10_init_114 fX6_init rfl rfl im_X6 nX10_51 (by decide) (Nat.le_of_ble_eq_true rfl) (by decide) (by decide) (kX6 (by decide) hT81 ?_)
  rw [hcs35]
  have hT0 : cs35 0 = cO 10 (fu (fu (fu (fu (fu (fu (fu (dfl 10) 0 (Sum.inr (some 1))) 1 (Sum.inr (some 18))) 2 (Sum.inr (some 22))) 3 (Sum.inr (some 73))) 4 (Sum.inr (some 75))) 5 (Sum.inr (some 76))) 6 (Sum.inr (some 79))) := by rw [← hcs35, cu_ne (by decide)]; exact hT0
  have hT79 : cs35 79 = cR 4 3 (ru (fun _ => none) 0 80) := by rw [← hcs35, cu_ne (by decide)]; exact hT79
  have hW : ∀ j, 0 < j → j < 82 → j ≠ 0 → j ≠ 79 → cs35 j = LW j := by
    intro j hj0 hj h0 h79
    rw [← hcs35]
    by_cases q0 : j = 81
    · subst q0; rw [cu_self]; rfl
    rw [cu_ne q0]
    exact hW j hj0 (by omega) (by omega) (by omega) (by omega)
  have hX : ∀ j, j < 0 → cs35 j = cs j := by
    intro j hj
    have e9 : cs35 j = cs34 j := by rw [← hcs35, cu_ne (by omega)]
    exact e9.trans (hX j hj)
  show Fj 3 102 3916 mX10_init 117 [(1, vi 1), (0, vr 0)] [vr 81, vi 1, vr 79] 82 cs35 81 1712 Q
  obtain ⟨cs36, hcs36⟩ : ∃ x, (cu cs35 79 (cR 4 3 (ru (ru (fun _ => none) 0 80) 1 81))) = x := ⟨_, rfl⟩
  refine F_aast (i := 79) (r := 81) (x := 1) dX10_init_117 (by decide) hT79 (by decide) ((hW 81 (by decide) (by decide) (by decide) (by decide)).trans (show LW 81 = cO 6 _ from rfl)) (fun _ => rfl) rfl (by decide) (by decide) hcs36 ?_
  have hT0 : cs36 0 = cO 10 (fu (fu (fu (fu (fu (fu (fu (dfl 10) 0 (Sum.inr (some 1))) 1 (Sum.inr (some 18))) 2 (Sum.inr (some 22))) 3 (Sum.inr (some 73))) 4 (Sum.inr (some 75))) 5 (Sum.inr (some 76))) 6 (Sum.inr (some 79))) := by rw [← hcs36, cu_ne (by decide)]; exact hT0
  have hT79 : cs36 79 = cR 4 3 (ru (ru (fun _ => none) 0 80) 1 81) := by rw [← hcs36, cu_self]
  have hW : ∀ j, 0 < j → j < 82 → j ≠ 0 → j ≠ 79 → cs36 j = LW j := by
    intro j hj0 hj h0 h79
    rw [← hcs36]
    rw [cu_ne (by omega)]
    exact hW j hj0 (by omega) (by omega) (by omega)
  have hX : ∀ j, j < 0 → cs36 j = cs j := by
    intro j hj
    have e9 : cs36 j = cs35 j := by rw [← hcs36, cu_ne (by omega)]
    exact e9.trans (hX j hj)
  show Fj 3 102 3916 mX10_init 118 [(1, vi 1), (0, vr 0)] [] 82 cs36 81 1712 Q
  refine F_iinc (y := 2) 0 dX10_init_118 rfl (by decide) (by decide) rfl ?_
  show Fj 3 102 3916 mX10_init 121 [(1, vi 2), (0, vr 0)] [] 82 cs36 81 1712 Q
  refine F_goto 100 dX10_init_121 rfl ?_
  show Fj 3 102 3916 mX10_init 100 [(1, vi 2), (0, vr 0)] [] 82 cs36 81 1712 Q
  refine F_iload 0 1 dX10_init_100 rfl rfl ?_
  show Fj 3 102 3916 mX10_init 101 [(1, vi 2), (0, vr 0)] [vi 2] 82 cs36 81 1712 Q
  refine F_iconst dX10_init_101 ?_
  show Fj 3 102 3916 mX10_init 102 [(1, vi 2), (0, vr 0)] [vi 3, vi 2] 82 cs36 81 1712 Q
  refine F_ge 124 dX10_init_102 rfl (rg_of rfl) (rg_of rfl) (fun hh => absurd hh (by decide)) (fun _ => ?_)
  show Fj 3 102 3916 mX10_init 105 [(1, vi 2), (0, vr 0)] [] 82 cs36 81 1712 Q
  refine F_aload 1 0 dX10_init_105 rfl rfl ?_
  show Fj 3 102 3916 mX10_init 106 [(1, vi 2), (0, vr 0)] [vr 0] 82 cs36 81 1712 Q
  refine F_getR (r := 79) (i := 0) dX10_init_106 FX10_47 (by decide) hT0 rfl ?_
  show Fj 3 102 3916 mX10_init 109 [(1, vi 2), (0, vr 0)] [vr 79] 82 cs36 81 1712 Q
  refine F_iload 0 1 dX10_init_109 rfl rfl ?_
  show Fj 3 102 3916 mX10_init 110 [(1, vi 2), (0, vr 0)] [vi 2, vr 79] 82 cs36 81 1712 Q
  obtain ⟨cs37, hcs37⟩ : ∃ x, (cu cs36 82 (cO 6 (dfl 6))) = x := ⟨_, rfl⟩
  refine F_new dX10_init_110 nw_X10_45 (by decide) (by decide) hcs37 ?_
  have hT0 : cs37 0 = cO 10 (fu (fu (fu (fu (fu (fu (fu (dfl 10) 0 (Sum.inr (some 1))) 1 (Sum.inr (some 18))) 2 (Sum.inr (some 22))) 3 (Sum.inr (some 73))) 4 (Sum.inr (some 75))) 5 (Sum.inr (some 76))) 6 (Sum.inr (some 79))) := by rw [← hcs37, cu_ne (by decide)]; exact hT0
  have hT79 : cs37 79 = cR 4 3 (ru (ru (fun _ => none) 0 80) 1 81) := by rw [← hcs37, cu_ne (by decide)]; exact hT79
  have hT82 : cs37 82 = cO 6 (dfl 6) := by rw [← hcs37, cu_self]
  have hW : ∀ j, 0 < j → j < 83 → j ≠ 0 → j ≠ 79 → j ≠ 82 → cs37 j = LW j := by
    intro j hj0 hj h0 h79 h82
    rw [← hcs37]
    rw [cu_ne (by omega)]
    exact hW j hj0 (by omega) (by omega) (by omega)
  have hX : ∀ j, j < 0 → cs37 j = cs j := by
    intro j hj
    have e9 : cs37 j = cs36 j := by rw [← hcs37, cu_ne (by omega)]
    exact e9.trans (hX j hj)
  show Fj 3 102 3916 mX10_init 113 [(1, vi 2), (0, vr 0)] [vr 82, vi 2, vr 79] 83 cs37 82 1715 Q
  refine F_dup dX10_init_113 rfl ?_
  show Fj 3 102 3916 mX10_init 114 [(1, vi 2), (0, vr 0)] [vr 82, vr 82, vi 2, vr 79] 83 cs37 82 1715 Q
  obtain ⟨cs38, hcs38⟩ : ∃ x, (cu cs37 82 (cO 6 (fu (fu (fu (dfl 6) 0 (Sum.inl (-1))) 1 (Sum.inl 0)) 2 (Sum.inl 0)))) = x := ⟨_, rfl⟩
  refine F_callN (i := 82) dX10_init_114 fX6_init rfl rfl im_X6 nX10_51 (by decide) (Nat.le_of_ble_eq_true rfl) (by decide) (by decide) (kX6 (by decide) hT82 ?_)
  rw [hcs38]
  have hT0 : cs38 0 = cO 10 (fu (fu (fu (fu (fu (fu (fu (dfl 10) 0 (Sum.inr (some 1))) 1 (Sum.inr (some 18))) 2 (Sum.inr (some 22))) 3 (Sum.inr (some 73))) 4 (Sum.inr (some 75))) 5 (Sum.inr (some 76))) 6 (Sum.inr (some 79))) := by rw [← hcs38, cu_ne (by decide)]; exact hT0
  have hT79 : cs38 79 = cR 4 3 (ru (ru (fun _ => none) 0 80) 1 81) := by rw [← hcs38, cu_ne (by decide)]; exact hT79
  have hW : ∀ j, 0 < j → j < 83 → j ≠ 0 → j ≠ 79 → cs38 j = LW j := by
    intro j hj0 hj h0 h79
    rw [← hcs38]
    by_cases q0 : j = 82
    · subst q0; rw [cu_self]; rfl
    rw [cu_ne q0]
    exact hW j hj0 (by omega) (by omega) (by omega) (by omega)
  have hX : ∀ j, j < 0 → cs38 j = cs j := by
    intro j hj
    have e9 : cs38 j = cs37 j := by rw [← hcs38, cu_ne (by omega)]
    exact e9.trans (hX j hj)
  show Fj 3 102 3916 mX10_init 117 [(1, vi 2), (0, vr 0)] [vr 82, vi 2, vr 79] 83 cs38 82 1715 Q
  obtain ⟨cs39, hcs39⟩ : ∃ x, (cu cs38 79 (cR 4 3 (ru (ru (ru (fun _ => none) 0 80) 1 81) 2 82))) = x := ⟨_, rfl⟩
  refine F_aast (i := 79) (r := 82) (x := 2) dX10_init_117 (by decide) hT79 (by decide) ((hW 82 (by decide) (by decide) (by decide) (by decide)).trans (show LW 82 = cO 6 _ from rfl)) (fun _ => rfl) rfl (by decide) (by decide) hcs39 ?_
  have hT0 : cs39 0 = cO 10 (fu (fu (fu (fu (fu (fu (fu (dfl 10) 0 (Sum.inr (some 1))) 1 (Sum.inr (some 18))) 2 (Sum.inr (some 22))) 3 (Sum.inr (some 73))) 4 (Sum.inr (some 75))) 5 (Sum.inr (some 76))) 6 (Sum.inr (some 79))) := by rw [← hcs39, cu_ne (by decide)]; exact hT0
  have hW : ∀ j, 0 < j → j < 83 → j ≠ 0 → cs39 j = LW j := by
    intro j hj0 hj h0
    rw [← hcs39]
    by_cases q0 : j = 79
    · subst q0; rw [cu_self]; rfl
    rw [cu_ne q0]
    exact hW j hj0 (by omega) (by omega) (by omega)
  have hX : ∀ j, j < 0 → cs39 j = cs j := by
    intro j hj
    have e9 : cs39 j = cs38 j := by rw [← hcs39, cu_ne (by omega)]
    exact e9.trans (hX j hj)
  show Fj 3 102 3916 mX10_init 118 [(1, vi 2), (0, vr 0)] [] 83 cs39 82 1715 Q
  refine F_iinc (y := 3) 0 dX10_init_118 rfl (by decide) (by decide) rfl ?_
  show Fj 3 102 3916 mX10_init 121 [(1, vi 3), (0, vr 0)] [] 83 cs39 82 1715 Q
  refine F_goto 100 dX10_init_121 rfl ?_
  show Fj 3 102 3916 mX10_init 100 [(1, vi 3), (0, vr 0)] [] 83 cs39 82 1715 Q
  refine F_iload 0 1 dX10_init_100 rfl rfl ?_
  show Fj 3 102 3916 mX10_init 101 [(1, vi 3), (0, vr 0)] [vi 3] 83 cs39 82 1715 Q
  refine F_iconst dX10_init_101 ?_
  show Fj 3 102 3916 mX10_init 102 [(1, vi 3), (0, vr 0)] [vi 3, vi 3] 83 cs39 82 1715 Q
  refine F_ge 124 dX10_init_102 rfl (rg_of rfl) (rg_of rfl) (fun _ => ?_) (fun hh => absurd (by decide) hh)
  show Fj 3 102 3916 mX10_init 124 [(1, vi 3), (0, vr 0)] [] 83 cs39 82 1715 Q
  refine F_aload 1 0 dX10_init_124 rfl rfl ?_
  show Fj 3 102 3916 mX10_init 125 [(1, vi 3), (0, vr 0)] [vr 0] 83 cs39 82 1715 Q
  obtain ⟨cs40, hcs40⟩ : ∃ x, (cu cs39 83 (cO 7 (dfl 7))) = x := ⟨_, rfl⟩
  refine F_new dX10_init_125 nw_X10_52 (by decide) (by decide) hcs40 ?_
  have hT0 : cs40 0 = cO 10 (fu (fu (fu (fu (fu (fu (fu (dfl 10) 0 (Sum.inr (some 1))) 1 (Sum.inr (some 18))) 2 (Sum.inr (some 22))) 3 (Sum.inr (some 73))) 4 (Sum.inr (some 75))) 5 (Sum.inr (some 76))) 6 (Sum.inr (some 79))) := by rw [← hcs40, cu_ne (by decide)]; exact hT0
  have hT83 : cs40 83 = cO 7 (dfl 7) := by rw [← hcs40, cu_self]
  have hW : ∀ j, 0 < j → j < 84 → j ≠ 0 → j ≠ 83 → cs40 j = LW j := by
    intro j hj0 hj h0 h83
    rw [← hcs40]
    rw [cu_ne (by omega)]
    exact hW j hj0 (by omega) (by omega)
  have hX : ∀ j, j < 0 → cs40 j = cs j := by
    intro j hj
    have e9 : cs40 j = cs39 j := by rw [← hcs40, cu_ne (by omega)]
    exact e9.trans (hX j hj)
  show Fj 3 102 3916 mX10_init 128 [(1, vi 3), (0, vr 0)] [vr 83, vr 0] 84 cs40 83 1718 Q
  refine F_dup dX10_init_128 rfl ?_
  show Fj 3 102 3916 mX10_init 129 [(1, vi 3), (0, vr 0)] [vr 83, vr 83, vr 0] 84 cs40 83 1718 Q
  obtain ⟨cs41, hcs41⟩ : ∃ x, (cu (cu cs40 83 (cO 7 (fu (fu (fu (dfl 7) 0 (Sum.inr (some 84))) 1 (Sum.inl 2)) 2 (Sum.inl 1)))) 84 (cP 2 32 (fun _ => 0))) = x := ⟨_, rfl⟩
  refine F_callN (i := 83) dX10_init_129 fX7_init rfl rfl im_X7 nX10_54 (by decide) (Nat.le_of_ble_eq_true rfl) (by decide) (by decide) (kX7 (by decide) hT83 ?_)
  rw [hcs41]
  have hT0 : cs41 0 = cO 10 (fu (fu (fu (fu (fu (fu (fu (dfl 10) 0 (Sum.inr (some 1))) 1 (Sum.inr (some 18))) 2 (Sum.inr (some 22))) 3 (Sum.inr (some 73))) 4 (Sum.inr (some 75))) 5 (Sum.inr (some 76))) 6 (Sum.inr (some 79))) := by rw [← hcs41, cu_ne (by decide), cu_ne (by decide)]; exact hT0
  have hW : ∀ j, 0 < j → j < 85 → j ≠ 0 → cs41 j = LW j := by
    intro j hj0 hj h0
    rw [← hcs41]
    by_cases q1 : j = 84
    · subst q1; rw [cu_self]; rfl
    rw [cu_ne q1]
    by_cases q0 : j = 83
    · subst q0; rw [cu_self]; rfl
    rw [cu_ne q0]
    exact hW j hj0 (by omega) (by omega) (by omega)
  have hX : ∀ j, j < 0 → cs41 j = cs j := by
    intro j hj
    have e9 : cs41 j = cs40 j := by rw [← hcs41, cu_ne (by omega), cu_ne (by omega)]
    exact e9.trans (hX j hj)
  show Fj 3 102 3916 mX10_init 132 [(1, vi 3), (0, vr 0)] [vr 83, vr 0] 85 cs41 84 1750 Q
  obtain ⟨cs42, hcs42⟩ : ∃ x, (cu cs41 0 (cO 10 (fu (fu (fu (fu (fu (fu (fu (fu (dfl 10) 0 (Sum.inr (some 1))) 1 (Sum.inr (some 18))) 2 (Sum.inr (some 22))) 3 (Sum.inr (some 73))) 4 (Sum.inr (some 75))) 5 (Sum.inr (some 76))) 6 (Sum.inr (some 79))) 7 (Sum.inr (some 83))))) = x := ⟨_, rfl⟩
  refine F_putR (r := 83) (i := 0) dX10_init_132 pf_X10_55 (refO _) (by decide) hT0 hcs42 ?_
  have hT0 : cs42 0 = cO 10 (fu (fu (fu (fu (fu (fu (fu (fu (dfl 10) 0 (Sum.inr (some 1))) 1 (Sum.inr (some 18))) 2 (Sum.inr (some 22))) 3 (Sum.inr (some 73))) 4 (Sum.inr (some 75))) 5 (Sum.inr (some 76))) 6 (Sum.inr (some 79))) 7 (Sum.inr (some 83))) := by rw [← hcs42, cu_self]
  have hW : ∀ j, 0 < j → j < 85 → j ≠ 0 → cs42 j = LW j := by
    intro j hj0 hj h0
    rw [← hcs42]
    rw [cu_ne (by omega)]
    exact hW j hj0 (by omega) (by omega)
  have hX : ∀ j, j < 0 → cs42 j = cs j := by
    intro j hj
    have e9 : cs42 j = cs41 j := by rw [← hcs42, cu_ne (by omega)]
    exact e9.trans (hX j hj)
  show Fj 3 102 3916 mX10_init 135 [(1, vi 3), (0, vr 0)] [] 85 cs42 84 1750 Q
  refine F_aload 1 0 dX10_init_135 rfl rfl ?_
  show Fj 3 102 3916 mX10_init 136 [(1, vi 3), (0, vr 0)] [vr 0] 85 cs42 84 1750 Q
  obtain ⟨cs43, hcs43⟩ : ∃ x, (cu cs42 85 (cO 4 (dfl 4))) = x := ⟨_, rfl⟩
  refine F_new dX10_init_136 nw_X10_59 (by decide) (by decide) hcs43 ?_
  have hT0 : cs43 0 = cO 10 (fu (fu (fu (fu (fu (fu (fu (fu (dfl 10) 0 (Sum.inr (some 1))) 1 (Sum.inr (some 18))) 2 (Sum.inr (some 22))) 3 (Sum.inr (some 73))) 4 (Sum.inr (some 75))) 5 (Sum.inr (some 76))) 6 (Sum.inr (some 79))) 7 (Sum.inr (some 83))) := by rw [← hcs43, cu_ne (by decide)]; exact hT0
  have hT85 : cs43 85 = cO 4 (dfl 4) := by rw [← hcs43, cu_self]
  have hW : ∀ j, 0 < j → j < 86 → j ≠ 0 → j ≠ 85 → cs43 j = LW j := by
    intro j hj0 hj h0 h85
    rw [← hcs43]
    rw [cu_ne (by omega)]
    exact hW j hj0 (by omega) (by omega)
  have hX : ∀ j, j < 0 → cs43 j = cs j := by
    intro j hj
    have e9 : cs43 j = cs42 j := by rw [← hcs43, cu_ne (by omega)]
    exact e9.trans (hX j hj)
  show Fj 3 102 3916 mX10_init 139 [(1, vi 3), (0, vr 0)] [vr 85, vr 0] 86 cs43 85 1754 Q
  refine F_dup dX10_init_139 rfl ?_
  show Fj 3 102 3916 mX10_init 140 [(1, vi 3), (0, vr 0)] [vr 85, vr 85, vr 0] 86 cs43 85 1754 Q
  obtain ⟨cs44, hcs44⟩ : ∃ x, (cu (cu (cu cs43 85 (cO 4 (fu (fu (fu (fu (dfl 4) 0 (Sum.inr (some 86))) 1 (Sum.inr (some 87))) 2 (Sum.inl 2)) 3 (Sum.inl 0)))) 86 (cP 1 256 (fun _ => 0))) 87 (cP 0 256 (fun _ => 0))) = x := ⟨_, rfl⟩
  refine F_callN (i := 85) dX10_init_140 fX4_init rfl rfl im_X4 nX10_61 (by decide) (Nat.le_of_ble_eq_true rfl) (by decide) (by decide) (kX4 (by decide) hT85 ?_)
  rw [hcs44]
  have hT0 : cs44 0 = cO 10 (fu (fu (fu (fu (fu (fu (fu (fu (dfl 10) 0 (Sum.inr (some 1))) 1 (Sum.inr (some 18))) 2 (Sum.inr (some 22))) 3 (Sum.inr (some 73))) 4 (Sum.inr (some 75))) 5 (Sum.inr (some 76))) 6 (Sum.inr (some 79))) 7 (Sum.inr (some 83))) := by rw [← hcs44, cu_ne (by decide), cu_ne (by decide), cu_ne (by decide)]; exact hT0
  have hW : ∀ j, 0 < j → j < 88 → j ≠ 0 → cs44 j = LW j := by
    intro j hj0 hj h0
    rw [← hcs44]
    by_cases q2 : j = 87
    · subst q2; rw [cu_self]; rfl
    rw [cu_ne q2]
    by_cases q1 : j = 86
    · subst q1; rw [cu_self]; rfl
    rw [cu_ne q1]
    by_cases q0 : j = 85
    · subst q0; rw [cu_self]; rfl
    rw [cu_ne q0]
    exact hW j hj0 (by omega) (by omega) (by omega)
  have hX : ∀ j, j < 0 → cs44 j = cs j := by
    intro j hj
    have e9 : cs44 j = cs43 j := by rw [← hcs44, cu_ne (by omega), cu_ne (by omega), cu_ne (by omega)]
    exact e9.trans (hX j hj)
  show Fj 3 102 3916 mX10_init 143 [(1, vi 3), (0, vr 0)] [vr 85, vr 0] 88 cs44 87 2266 Q
  obtain ⟨cs45, hcs45⟩ : ∃ x, (cu cs44 0 (cO 10 (fu (fu (fu (fu (fu (fu (fu (fu (fu (dfl 10) 0 (Sum.inr (some 1))) 1 (Sum.inr (some 18))) 2 (Sum.inr (some 22))) 3 (Sum.inr (some 73))) 4 (Sum.inr (some 75))) 5 (Sum.inr (some 76))) 6 (Sum.inr (some 79))) 7 (Sum.inr (some 83))) 8 (Sum.inr (some 85))))) = x := ⟨_, rfl⟩
  refine F_putR (r := 85) (i := 0) dX10_init_143 pf_X10_62 (refO _) (by decide) hT0 hcs45 ?_
  have hT0 : cs45 0 = cO 10 (fu (fu (fu (fu (fu (fu (fu (fu (fu (dfl 10) 0 (Sum.inr (some 1))) 1 (Sum.inr (some 18))) 2 (Sum.inr (some 22))) 3 (Sum.inr (some 73))) 4 (Sum.inr (some 75))) 5 (Sum.inr (some 76))) 6 (Sum.inr (some 79))) 7 (Sum.inr (some 83))) 8 (Sum.inr (some 85))) := by rw [← hcs45, cu_self]
  have hW : ∀ j, 0 < j → j < 88 → j ≠ 0 → cs45 j = LW j := by
    intro j hj0 hj h0
    rw [← hcs45]
    rw [cu_ne (by omega)]
    exact hW j hj0 (by omega) (by omega)
  have hX : ∀ j, j < 0 → cs45 j = cs j := by
    intro j hj
    have e9 : cs45 j = cs44 j := by rw [← hcs45, cu_ne (by omega)]
    exact e9.trans (hX j hj)
  show Fj 3 102 3916 mX10_init 146 [(1, vi 3), (0, vr 0)] [] 88 cs45 87 2266 Q
  refine F_aload 1 0 dX10_init_146 rfl rfl ?_
  show Fj 3 102 3916 mX10_init 147 [(1, vi 3), (0, vr 0)] [vr 0] 88 cs45 87 2266 Q
  obtain ⟨cs46, hcs46⟩ : ∃ x, (cu cs45 88 (cO 4 (dfl 4))) = x := ⟨_, rfl⟩
  refine F_new dX10_init_147 nw_X10_59 (by decide) (by decide) hcs46 ?_
  have hT0 : cs46 0 = cO 10 (fu (fu (fu (fu (fu (fu (fu (fu (fu (dfl 10) 0 (Sum.inr (some 1))) 1 (Sum.inr (some 18))) 2 (Sum.inr (some 22))) 3 (Sum.inr (some 73))) 4 (Sum.inr (some 75))) 5 (Sum.inr (some 76))) 6 (Sum.inr (some 79))) 7 (Sum.inr (some 83))) 8 (Sum.inr (some 85))) := by rw [← hcs46, cu_ne (by decide)]; exact hT0
  have hT88 : cs46 88 = cO 4 (dfl 4) := by rw [← hcs46, cu_self]
  have hW : ∀ j, 0 < j → j < 89 → j ≠ 0 → j ≠ 88 → cs46 j = LW j := by
    intro j hj0 hj h0 h88
    rw [← hcs46]
    rw [cu_ne (by omega)]
    exact hW j hj0 (by omega) (by omega)
  have hX : ∀ j, j < 0 → cs46 j = cs j := by
    intro j hj
    have e9 : cs46 j = cs45 j := by rw [← hcs46, cu_ne (by omega)]
    exact e9.trans (hX j hj)
  show Fj 3 102 3916 mX10_init 150 [(1, vi 3), (0, vr 0)] [vr 88, vr 0] 89 cs46 88 2270 Q
  refine F_dup dX10_init_150 rfl ?_
  show Fj 3 102 3916 mX10_init 151 [(1, vi 3), (0, vr 0)] [vr 88, vr 88, vr 0] 89 cs46 88 2270 Q
  obtain ⟨cs47, hcs47⟩ : ∃ x, (cu (cu (cu cs46 88 (cO 4 (fu (fu (fu (fu (dfl 4) 0 (Sum.inr (some 89))) 1 (Sum.inr (some 90))) 2 (Sum.inl 2)) 3 (Sum.inl 0)))) 89 (cP 1 256 (fun _ => 0))) 90 (cP 0 256 (fun _ => 0))) = x := ⟨_, rfl⟩
  refine F_callN (i := 88) dX10_init_151 fX4_init rfl rfl im_X4 nX10_61 (by decide) (Nat.le_of_ble_eq_true rfl) (by decide) (by decide) (kX4 (by decide) hT88 ?_)
  rw [hcs47]
  have hT0 : cs47 0 = cO 10 (fu (fu (fu (fu (fu (fu (fu (fu (fu (dfl 10) 0 (Sum.inr (some 1))) 1 (Sum.inr (some 18))) 2 (Sum.inr (some 22))) 3 (Sum.inr (some 73))) 4 (Sum.inr (some 75))) 5 (Sum.inr (some 76))) 6 (Sum.inr (some 79))) 7 (Sum.inr (some 83))) 8 (Sum.inr (some 85))) := by rw [← hcs47, cu_ne (by decide), cu_ne (by decide), cu_ne (by decide)]; exact hT0
  have hW : ∀ j, 0 < j → j < 91 → j ≠ 0 → cs47 j = LW j := by
    intro j hj0 hj h0
    rw [← hcs47]
    by_cases q2 : j = 90
    · subst q2; rw [cu_self]; rfl
    rw [cu_ne q2]
    by_cases q1 : j = 89
    · subst q1; rw [cu_self]; rfl
    rw [cu_ne q1]
    by_cases q0 : j = 88
    · subst q0; rw [cu_self]; rfl
    rw [cu_ne q0]
    exact hW j hj0 (by omega) (by omega) (by omega)
  have hX : ∀ j, j < 0 → cs47 j = cs j := by
    intro j hj
    have e9 : cs47 j = cs46 j := by rw [← hcs47, cu_ne (by omega), cu_ne (by omega), cu_ne (by omega)]
    exact e9.trans (hX j hj)
  show Fj 3 102 3916 mX10_init 154 [(1, vi 3), (0, vr 0)] [vr 88, vr 0] 91 cs47 90 2782 Q
  obtain ⟨cs48, hcs48⟩ : ∃ x, (cu cs47 0 (cO 10 (fu (fu (fu (fu (fu (fu (fu (fu (fu (fu (dfl 10) 0 (Sum.inr (some 1))) 1 (Sum.inr (some 18))) 2 (Sum.inr (some 22))) 3 (Sum.inr (some 73))) 4 (Sum.inr (some 75))) 5 (Sum.inr (some 76))) 6 (Sum.inr (some 79))) 7 (Sum.inr (some 83))) 8 (Sum.inr (some 85))) 9 (Sum.inr (some 88))))) = x := ⟨_, rfl⟩
  refine F_putR (r := 88) (i := 0) dX10_init_154 pf_X10_66 (refO _) (by decide) hT0 hcs48 ?_
  have hT0 : cs48 0 = cO 10 (fu (fu (fu (fu (fu (fu (fu (fu (fu (fu (dfl 10) 0 (Sum.inr (some 1))) 1 (Sum.inr (some 18))) 2 (Sum.inr (some 22))) 3 (Sum.inr (some 73))) 4 (Sum.inr (some 75))) 5 (Sum.inr (some 76))) 6 (Sum.inr (some 79))) 7 (Sum.inr (some 83))) 8 (Sum.inr (some 85))) 9 (Sum.inr (some 88))) := by rw [← hcs48, cu_self]
  have hW : ∀ j, 0 < j → j < 91 → j ≠ 0 → cs48 j = LW j := by
    intro j hj0 hj h0
    rw [← hcs48]
    rw [cu_ne (by omega)]
    exact hW j hj0 (by omega) (by omega)
  have hX : ∀ j, j < 0 → cs48 j = cs j := by
    intro j hj
    have e9 : cs48 j = cs47 j := by rw [← hcs48, cu_ne (by omega)]
    exact e9.trans (hX j hj)
  show Fj 3 102 3916 mX10_init 157 [(1, vi 3), (0, vr 0)] [] 91 cs48 90 2782 Q
  refine F_aload 1 0 dX10_init_157 rfl rfl ?_
  show Fj 3 102 3916 mX10_init 158 [(1, vi 3), (0, vr 0)] [vr 0] 91 cs48 90 2782 Q
  obtain ⟨cs49, hcs49⟩ : ∃ x, (cu cs48 91 (cO 1 (dfl 1))) = x := ⟨_, rfl⟩
  refine F_new dX10_init_158 nw_X10_69 (by decide) (by decide) hcs49 ?_
  have hT0 : cs49 0 = cO 10 (fu (fu (fu (fu (fu (fu (fu (fu (fu (fu (dfl 10) 0 (Sum.inr (some 1))) 1 (Sum.inr (some 18))) 2 (Sum.inr (some 22))) 3 (Sum.inr (some 73))) 4 (Sum.inr (some 75))) 5 (Sum.inr (some 76))) 6 (Sum.inr (some 79))) 7 (Sum.inr (some 83))) 8 (Sum.inr (some 85))) 9 (Sum.inr (some 88))) := by rw [← hcs49, cu_ne (by decide)]; exact hT0
  have hT91 : cs49 91 = cO 1 (dfl 1) := by rw [← hcs49, cu_self]
  have hW : ∀ j, 0 < j → j < 92 → j ≠ 0 → j ≠ 91 → cs49 j = LW j := by
    intro j hj0 hj h0 h91
    rw [← hcs49]
    rw [cu_ne (by omega)]
    exact hW j hj0 (by omega) (by omega)
  have hX : ∀ j, j < 0 → cs49 j = cs j := by
    intro j hj
    have e9 : cs49 j = cs48 j := by rw [← hcs49, cu_ne (by omega)]
    exact e9.trans (hX j hj)
  show Fj 3 102 3916 mX10_init 161 [(1, vi 3), (0, vr 0)] [vr 91, vr 0] 92 cs49 91 2788 Q
  refine F_dup dX10_init_161 rfl ?_
  show Fj 3 102 3916 mX10_init 162 [(1, vi 3), (0, vr 0)] [vr 91, vr 91, vr 0] 92 cs49 91 2788 Q
  obtain ⟨cs50, hcs50⟩ : ∃ x, (cu (cu (cu (cu (cu (cu cs49 91 (cO 1 (fu (fu (fu (fu (fu (fu (dfl 1) 0 (Sum.inr (some 92))) 1 (Sum.inr (some 93))) 2 (Sum.inr (some 94))) 3 (Sum.inl 0)) 4 (Sum.inr (some 95))) 5 (Sum.inr (some 96))))) 92 (cP 0 28 (fun _ => 0))) 93 (cP 0 28 (fun _ => 0))) 94 (cP 0 28 (fun _ => 0))) 95 (cP 0 256 (fun _ => 0))) 96 (cP 0 256 (fun _ => 0))) = x := ⟨_, rfl⟩
  refine F_callN (i := 91) dX10_init_162 fX1_init rfl rfl im_X1 nX10_71 (by decide) (Nat.le_of_ble_eq_true rfl) (by decide) (by decide) (kX1 (by decide) hT91 ?_)
  rw [hcs50]
  have hT0 : cs50 0 = cO 10 (fu (fu (fu (fu (fu (fu (fu (fu (fu (fu (dfl 10) 0 (Sum.inr (some 1))) 1 (Sum.inr (some 18))) 2 (Sum.inr (some 22))) 3 (Sum.inr (some 73))) 4 (Sum.inr (some 75))) 5 (Sum.inr (some 76))) 6 (Sum.inr (some 79))) 7 (Sum.inr (some 83))) 8 (Sum.inr (some 85))) 9 (Sum.inr (some 88))) := by rw [← hcs50, cu_ne (by decide), cu_ne (by decide), cu_ne (by decide), cu_ne (by decide), cu_ne (by decide), cu_ne (by decide)]; exact hT0
  have hW : ∀ j, 0 < j → j < 97 → j ≠ 0 → cs50 j = LW j := by
    intro j hj0 hj h0
    rw [← hcs50]
    by_cases q5 : j = 96
    · subst q5; rw [cu_self]; rfl
    rw [cu_ne q5]
    by_cases q4 : j = 95
    · subst q4; rw [cu_self]; rfl
    rw [cu_ne q4]
    by_cases q3 : j = 94
    · subst q3; rw [cu_self]; rfl
    rw [cu_ne q3]
    by_cases q2 : j = 93
    · subst q2; rw [cu_self]; rfl
    rw [cu_ne q2]
    by_cases q1 : j = 92
    · subst q1; rw [cu_self]; rfl
    rw [cu_ne q1]
    by_cases q0 : j = 91
    · subst q0; rw [cu_self]; rfl
    rw [cu_ne q0]
    exact hW j hj0 (by omega) (by omega) (by omega)
  have hX : ∀ j, j < 0 → cs50 j = cs j := by
    intro j hj
    have e9 : cs50 j = cs49 j := by rw [← hcs50, cu_ne (by omega), cu_ne (by omega), cu_ne (by omega), cu_ne (by omega), cu_ne (by omega), cu_ne (by omega)]
    exact e9.trans (hX j hj)
  show Fj 3 102 3916 mX10_init 165 [(1, vi 3), (0, vr 0)] [vr 91, vr 0] 97 cs50 96 3384 Q
  obtain ⟨cs51, hcs51⟩ : ∃ x, (cu cs50 0 (cO 10 (fu (fu (fu (fu (fu (fu (fu (fu (fu (fu (fu (dfl 10) 0 (Sum.inr (some 1))) 1 (Sum.inr (some 18))) 2 (Sum.inr (some 22))) 3 (Sum.inr (some 73))) 4 (Sum.inr (some 75))) 5 (Sum.inr (some 76))) 6 (Sum.inr (some 79))) 7 (Sum.inr (some 83))) 8 (Sum.inr (some 85))) 9 (Sum.inr (some 88))) 10 (Sum.inr (some 91))))) = x := ⟨_, rfl⟩
  refine F_putR (r := 91) (i := 0) dX10_init_165 pf_X10_72 (refO _) (by decide) hT0 hcs51 ?_
  have hT0 : cs51 0 = cO 10 (fu (fu (fu (fu (fu (fu (fu (fu (fu (fu (fu (dfl 10) 0 (Sum.inr (some 1))) 1 (Sum.inr (some 18))) 2 (Sum.inr (some 22))) 3 (Sum.inr (some 73))) 4 (Sum.inr (some 75))) 5 (Sum.inr (some 76))) 6 (Sum.inr (some 79))) 7 (Sum.inr (some 83))) 8 (Sum.inr (some 85))) 9 (Sum.inr (some 88))) 10 (Sum.inr (some 91))) := by rw [← hcs51, cu_self]
  have hW : ∀ j, 0 < j → j < 97 → j ≠ 0 → cs51 j = LW j := by
    intro j hj0 hj h0
    rw [← hcs51]
    rw [cu_ne (by omega)]
    exact hW j hj0 (by omega) (by omega)
  have hX : ∀ j, j < 0 → cs51 j = cs j := by
    intro j hj
    have e9 : cs51 j = cs50 j := by rw [← hcs51, cu_ne (by omega)]
    exact e9.trans (hX j hj)
  show Fj 3 102 3916 mX10_init 168 [(1, vi 3), (0, vr 0)] [] 97 cs51 96 3384 Q
  refine F_aload 1 0 dX10_init_168 rfl rfl ?_
  show Fj 3 102 3916 mX10_init 169 [(1, vi 3), (0, vr 0)] [vr 0] 97 cs51 96 3384 Q
  obtain ⟨cs52, hcs52⟩ : ∃ x, (cu cs51 97 (cO 0 (dfl 0))) = x := ⟨_, rfl⟩
  refine F_new dX10_init_169 nw_X10_76 (by decide) (by decide) hcs52 ?_
  have hT0 : cs52 0 = cO 10 (fu (fu (fu (fu (fu (fu (fu (fu (fu (fu (fu (dfl 10) 0 (Sum.inr (some 1))) 1 (Sum.inr (some 18))) 2 (Sum.inr (some 22))) 3 (Sum.inr (some 73))) 4 (Sum.inr (some 75))) 5 (Sum.inr (some 76))) 6 (Sum.inr (some 79))) 7 (Sum.inr (some 83))) 8 (Sum.inr (some 85))) 9 (Sum.inr (some 88))) 10 (Sum.inr (some 91))) := by rw [← hcs52, cu_ne (by decide)]; exact hT0
  have hT97 : cs52 97 = cO 0 (dfl 0) := by rw [← hcs52, cu_self]
  have hW : ∀ j, 0 < j → j < 98 → j ≠ 0 → j ≠ 97 → cs52 j = LW j := by
    intro j hj0 hj h0 h97
    rw [← hcs52]
    rw [cu_ne (by omega)]
    exact hW j hj0 (by omega) (by omega)
  have hX : ∀ j, j < 0 → cs52 j = cs j := by
    intro j hj
    have e9 : cs52 j = cs51 j := by rw [← hcs52, cu_ne (by omega)]
    exact e9.trans (hX j hj)
  show Fj 3 102 3916 mX10_init 172 [(1, vi 3), (0, vr 0)] [vr 97, vr 0] 98 cs52 97 3386 Q
  refine F_dup dX10_init_172 rfl ?_
  show Fj 3 102 3916 mX10_init 173 [(1, vi 3), (0, vr 0)] [vr 97, vr 97, vr 0] 98 cs52 97 3386 Q
  obtain ⟨cs53, hcs53⟩ : ∃ x, (cu (cu (cu cs52 97 (cO 0 (fu (fu (dfl 0) 0 (Sum.inr (some 98))) 1 (Sum.inr (some 99))))) 98 (cP 0 256 (fun _ => 0))) 99 (cP 2 256 (fun _ => 0))) = x := ⟨_, rfl⟩
  refine F_callN (i := 97) dX10_init_173 fX0_init rfl rfl im_X0 nX10_78 (by decide) (Nat.le_of_ble_eq_true rfl) (by decide) (by decide) (kX0 (by decide) hT97 ?_)
  rw [hcs53]
  have hT0 : cs53 0 = cO 10 (fu (fu (fu (fu (fu (fu (fu (fu (fu (fu (fu (dfl 10) 0 (Sum.inr (some 1))) 1 (Sum.inr (some 18))) 2 (Sum.inr (some 22))) 3 (Sum.inr (some 73))) 4 (Sum.inr (some 75))) 5 (Sum.inr (some 76))) 6 (Sum.inr (some 79))) 7 (Sum.inr (some 83))) 8 (Sum.inr (some 85))) 9 (Sum.inr (some 88))) 10 (Sum.inr (some 91))) := by rw [← hcs53, cu_ne (by decide), cu_ne (by decide), cu_ne (by decide)]; exact hT0
  have hW : ∀ j, 0 < j → j < 100 → j ≠ 0 → cs53 j = LW j := by
    intro j hj0 hj h0
    rw [← hcs53]
    by_cases q2 : j = 99
    · subst q2; rw [cu_self]; rfl
    rw [cu_ne q2]
    by_cases q1 : j = 98
    · subst q1; rw [cu_self]; rfl
    rw [cu_ne q1]
    by_cases q0 : j = 97
    · subst q0; rw [cu_self]; rfl
    rw [cu_ne q0]
    exact hW j hj0 (by omega) (by omega) (by omega)
  have hX : ∀ j, j < 0 → cs53 j = cs j := by
    intro j hj
    have e9 : cs53 j = cs52 j := by rw [← hcs53, cu_ne (by omega), cu_ne (by omega), cu_ne (by omega)]
    exact e9.trans (hX j hj)
  show Fj 3 102 3916 mX10_init 176 [(1, vi 3), (0, vr 0)] [vr 97, vr 0] 100 cs53 99 3898 Q
  obtain ⟨cs54, hcs54⟩ : ∃ x, (cu cs53 0 (cO 10 (fu (fu (fu (fu (fu (fu (fu (fu (fu (fu (fu (fu (dfl 10) 0 (Sum.inr (some 1))) 1 (Sum.inr (some 18))) 2 (Sum.inr (some 22))) 3 (Sum.inr (some 73))) 4 (Sum.inr (some 75))) 5 (Sum.inr (some 76))) 6 (Sum.inr (some 79))) 7 (Sum.inr (some 83))) 8 (Sum.inr (some 85))) 9 (Sum.inr (some 88))) 10 (Sum.inr (some 91))) 11 (Sum.inr (some 97))))) = x := ⟨_, rfl⟩
  refine F_putR (r := 97) (i := 0) dX10_init_176 pf_X10_79 (refO _) (by decide) hT0 hcs54 ?_
  have hT0 : cs54 0 = cO 10 (fu (fu (fu (fu (fu (fu (fu (fu (fu (fu (fu (fu (dfl 10) 0 (Sum.inr (some 1))) 1 (Sum.inr (some 18))) 2 (Sum.inr (some 22))) 3 (Sum.inr (some 73))) 4 (Sum.inr (some 75))) 5 (Sum.inr (some 76))) 6 (Sum.inr (some 79))) 7 (Sum.inr (some 83))) 8 (Sum.inr (some 85))) 9 (Sum.inr (some 88))) 10 (Sum.inr (some 91))) 11 (Sum.inr (some 97))) := by rw [← hcs54, cu_self]
  have hW : ∀ j, 0 < j → j < 100 → j ≠ 0 → cs54 j = LW j := by
    intro j hj0 hj h0
    rw [← hcs54]
    rw [cu_ne (by omega)]
    exact hW j hj0 (by omega) (by omega)
  have hX : ∀ j, j < 0 → cs54 j = cs j := by
    intro j hj
    have e9 : cs54 j = cs53 j := by rw [← hcs54, cu_ne (by omega)]
    exact e9.trans (hX j hj)
  show Fj 3 102 3916 mX10_init 179 [(1, vi 3), (0, vr 0)] [] 100 cs54 99 3898 Q
  refine F_aload 1 0 dX10_init_179 rfl rfl ?_
  show Fj 3 102 3916 mX10_init 180 [(1, vi 3), (0, vr 0)] [vr 0] 100 cs54 99 3898 Q
  obtain ⟨cs55, hcs55⟩ : ∃ x, (cu cs54 100 (cO 5 (dfl 5))) = x := ⟨_, rfl⟩
  refine F_new dX10_init_180 nw_X10_83 (by decide) (by decide) hcs55 ?_
  have hT0 : cs55 0 = cO 10 (fu (fu (fu (fu (fu (fu (fu (fu (fu (fu (fu (fu (dfl 10) 0 (Sum.inr (some 1))) 1 (Sum.inr (some 18))) 2 (Sum.inr (some 22))) 3 (Sum.inr (some 73))) 4 (Sum.inr (some 75))) 5 (Sum.inr (some 76))) 6 (Sum.inr (some 79))) 7 (Sum.inr (some 83))) 8 (Sum.inr (some 85))) 9 (Sum.inr (some 88))) 10 (Sum.inr (some 91))) 11 (Sum.inr (some 97))) := by rw [← hcs55, cu_ne (by decide)]; exact hT0
  have hT100 : cs55 100 = cO 5 (dfl 5) := by rw [← hcs55, cu_self]
  have hW : ∀ j, 0 < j → j < 101 → j ≠ 0 → j ≠ 100 → cs55 j = LW j := by
    intro j hj0 hj h0 h100
    rw [← hcs55]
    rw [cu_ne (by omega)]
    exact hW j hj0 (by omega) (by omega)
  have hX : ∀ j, j < 0 → cs55 j = cs j := by
    intro j hj
    have e9 : cs55 j = cs54 j := by rw [← hcs55, cu_ne (by omega)]
    exact e9.trans (hX j hj)
  show Fj 3 102 3916 mX10_init 183 [(1, vi 3), (0, vr 0)] [vr 100, vr 0] 101 cs55 100 3900 Q
  refine F_dup dX10_init_183 rfl ?_
  show Fj 3 102 3916 mX10_init 184 [(1, vi 3), (0, vr 0)] [vr 100, vr 100, vr 0] 101 cs55 100 3900 Q
  obtain ⟨cs56, hcs56⟩ : ∃ x, (cu (cu (cu cs55 100 (cO 5 (fu (fu (dfl 5) 0 (Sum.inr (some 101))) 1 (Sum.inr (some 102))))) 101 (cP 0 8 (fun _ => 0))) 102 (cP 0 8 (fun _ => 0))) = x := ⟨_, rfl⟩
  refine F_callN (i := 100) dX10_init_184 fX5_init rfl rfl im_X5 nX10_85 (by decide) (Nat.le_of_ble_eq_true rfl) (by decide) (by decide) (kX5 (by decide) hT100 ?_)
  rw [hcs56]
  have hT0 : cs56 0 = cO 10 (fu (fu (fu (fu (fu (fu (fu (fu (fu (fu (fu (fu (dfl 10) 0 (Sum.inr (some 1))) 1 (Sum.inr (some 18))) 2 (Sum.inr (some 22))) 3 (Sum.inr (some 73))) 4 (Sum.inr (some 75))) 5 (Sum.inr (some 76))) 6 (Sum.inr (some 79))) 7 (Sum.inr (some 83))) 8 (Sum.inr (some 85))) 9 (Sum.inr (some 88))) 10 (Sum.inr (some 91))) 11 (Sum.inr (some 97))) := by rw [← hcs56, cu_ne (by decide), cu_ne (by decide), cu_ne (by decide)]; exact hT0
  have hW : ∀ j, 0 < j → j < 103 → j ≠ 0 → cs56 j = LW j := by
    intro j hj0 hj h0
    rw [← hcs56]
    by_cases q2 : j = 102
    · subst q2; rw [cu_self]; rfl
    rw [cu_ne q2]
    by_cases q1 : j = 101
    · subst q1; rw [cu_self]; rfl
    rw [cu_ne q1]
    by_cases q0 : j = 100
    · subst q0; rw [cu_self]; rfl
    rw [cu_ne q0]
    exact hW j hj0 (by omega) (by omega) (by omega)
  have hX : ∀ j, j < 0 → cs56 j = cs j := by
    intro j hj
    have e9 : cs56 j = cs55 j := by rw [← hcs56, cu_ne (by omega), cu_ne (by omega), cu_ne (by omega)]
    exact e9.trans (hX j hj)
  show Fj 3 102 3916 mX10_init 187 [(1, vi 3), (0, vr 0)] [vr 100, vr 0] 103 cs56 102 3916 Q
  obtain ⟨cs57, hcs57⟩ : ∃ x, (cu cs56 0 (cO 10 (fu (fu (fu (fu (fu (fu (fu (fu (fu (fu (fu (fu (fu (dfl 10) 0 (Sum.inr (some 1))) 1 (Sum.inr (some 18))) 2 (Sum.inr (some 22))) 3 (Sum.inr (some 73))) 4 (Sum.inr (some 75))) 5 (Sum.inr (some 76))) 6 (Sum.inr (some 79))) 7 (Sum.inr (some 83))) 8 (Sum.inr (some 85))) 9 (Sum.inr (some 88))) 10 (Sum.inr (some 91))) 11 (Sum.inr (some 97))) 12 (Sum.inr (some 100))))) = x := ⟨_, rfl⟩
  refine F_putR (r := 100) (i := 0) dX10_init_187 pf_X10_86 (refO _) (by decide) hT0 hcs57 ?_
  have hT0 : cs57 0 = cO 10 (fu (fu (fu (fu (fu (fu (fu (fu (fu (fu (fu (fu (fu (dfl 10) 0 (Sum.inr (some 1))) 1 (Sum.inr (some 18))) 2 (Sum.inr (some 22))) 3 (Sum.inr (some 73))) 4 (Sum.inr (some 75))) 5 (Sum.inr (some 76))) 6 (Sum.inr (some 79))) 7 (Sum.inr (some 83))) 8 (Sum.inr (some 85))) 9 (Sum.inr (some 88))) 10 (Sum.inr (some 91))) 11 (Sum.inr (some 97))) 12 (Sum.inr (some 100))) := by rw [← hcs57, cu_self]
  have hW : ∀ j, 0 < j → j < 103 → j ≠ 0 → cs57 j = LW j := by
    intro j hj0 hj h0
    rw [← hcs57]
    rw [cu_ne (by omega)]
    exact hW j hj0 (by omega) (by omega)
  have hX : ∀ j, j < 0 → cs57 j = cs j := by
    intro j hj
    have e9 : cs57 j = cs56 j := by rw [← hcs57, cu_ne (by omega)]
    exact e9.trans (hX j hj)
  show Fj 3 102 3916 mX10_init 190 [(1, vi 3), (0, vr 0)] [] 103 cs57 102 3916 Q
  refine F_return dX10_init_190 rfl rfl ?_
  refine hq cs57 hX ?_
  · intro j h1 h2
    by_cases q : j = 0
    · subst q; rw [hT0]; rfl
    · exact hW j (by omega) h2 q
theorem dX11_init_0 : decode prog_13_method_1_code 0 = .ok (.aload_n 0, 1) := by decide +kernel
theorem dX11_init_1 : decode prog_13_method_1_code 1 = .ok (.invokespecial 3, 3) := by decide +kernel
theorem dX11_init_4 : decode prog_13_method_1_code 4 = .ok (.aload_n 0, 1) := by decide +kernel
theorem dX11_init_5 : decode prog_13_method_1_code 5 = .ok (.iconst 4, 1) := by decide +kernel
theorem dX11_init_6 : decode prog_13_method_1_code 6 = .ok (.newarray .int, 2) := by decide +kernel
theorem dX11_init_8 : decode prog_13_method_1_code 8 = .ok (.putfield 9, 3) := by decide +kernel
theorem dX11_init_11 : decode prog_13_method_1_code 11 = .ok (.aload_n 0, 1) := by decide +kernel
theorem dX11_init_12 : decode prog_13_method_1_code 12 = .ok (.iconst 4, 1) := by decide +kernel
theorem dX11_init_13 : decode prog_13_method_1_code 13 = .ok (.newarray .int, 2) := by decide +kernel
theorem dX11_init_15 : decode prog_13_method_1_code 15 = .ok (.putfield 13, 3) := by decide +kernel
theorem dX11_init_18 : decode prog_13_method_1_code 18 = .ok (.aload_n 0, 1) := by decide +kernel
theorem dX11_init_19 : decode prog_13_method_1_code 19 = .ok (.sipush 160, 3) := by decide +kernel
theorem dX11_init_22 : decode prog_13_method_1_code 22 = .ok (.newarray .int, 2) := by decide +kernel
theorem dX11_init_24 : decode prog_13_method_1_code 24 = .ok (.putfield 16, 3) := by decide +kernel
theorem dX11_init_27 : decode prog_13_method_1_code 27 = .ok (.aload_n 0, 1) := by decide +kernel
theorem dX11_init_28 : decode prog_13_method_1_code 28 = .ok (.sipush 160, 3) := by decide +kernel
theorem dX11_init_31 : decode prog_13_method_1_code 31 = .ok (.newarray .int, 2) := by decide +kernel
theorem dX11_init_33 : decode prog_13_method_1_code 33 = .ok (.putfield 19, 3) := by decide +kernel
theorem dX11_init_36 : decode prog_13_method_1_code 36 = .ok (.aload_n 0, 1) := by decide +kernel
theorem dX11_init_37 : decode prog_13_method_1_code 37 = .ok (.bipush 8, 2) := by decide +kernel
theorem dX11_init_39 : decode prog_13_method_1_code 39 = .ok (.newarray .int, 2) := by decide +kernel
theorem dX11_init_41 : decode prog_13_method_1_code 41 = .ok (.putfield 22, 3) := by decide +kernel
theorem dX11_init_44 : decode prog_13_method_1_code 44 = .ok (.aload_n 0, 1) := by decide +kernel
theorem dX11_init_45 : decode prog_13_method_1_code 45 = .ok (.bipush 8, 2) := by decide +kernel
theorem dX11_init_47 : decode prog_13_method_1_code 47 = .ok (.newarray .int, 2) := by decide +kernel
theorem dX11_init_49 : decode prog_13_method_1_code 49 = .ok (.putfield 25, 3) := by decide +kernel
theorem dX11_init_52 : decode prog_13_method_1_code 52 = .ok (.aload_n 0, 1) := by decide +kernel
theorem dX11_init_53 : decode prog_13_method_1_code 53 = .ok (.bipush 8, 2) := by decide +kernel
theorem dX11_init_55 : decode prog_13_method_1_code 55 = .ok (.newarray .int, 2) := by decide +kernel
theorem dX11_init_57 : decode prog_13_method_1_code 57 = .ok (.putfield 28, 3) := by decide +kernel
theorem dX11_init_60 : decode prog_13_method_1_code 60 = .ok (.aload_n 0, 1) := by decide +kernel
theorem dX11_init_61 : decode prog_13_method_1_code 61 = .ok (.bipush 60, 2) := by decide +kernel
theorem dX11_init_63 : decode prog_13_method_1_code 63 = .ok (.newarray .int, 2) := by decide +kernel
theorem dX11_init_65 : decode prog_13_method_1_code 65 = .ok (.putfield 31, 3) := by decide +kernel
theorem dX11_init_68 : decode prog_13_method_1_code 68 = .ok (.aload_n 0, 1) := by decide +kernel
theorem dX11_init_69 : decode prog_13_method_1_code 69 = .ok (.sipush 3936, 3) := by decide +kernel
theorem dX11_init_72 : decode prog_13_method_1_code 72 = .ok (.newarray .int, 2) := by decide +kernel
theorem dX11_init_74 : decode prog_13_method_1_code 74 = .ok (.putfield 34, 3) := by decide +kernel
theorem dX11_init_77 : decode prog_13_method_1_code 77 = .ok (.aload_n 0, 1) := by decide +kernel
theorem dX11_init_78 : decode prog_13_method_1_code 78 = .ok (.iconst 3, 1) := by decide +kernel
theorem dX11_init_79 : decode prog_13_method_1_code 79 = .ok (.newarray .int, 2) := by decide +kernel
theorem dX11_init_81 : decode prog_13_method_1_code 81 = .ok (.putfield 37, 3) := by decide +kernel
theorem dX11_init_84 : decode prog_13_method_1_code 84 = .ok (.aload_n 0, 1) := by decide +kernel
theorem dX11_init_85 : decode prog_13_method_1_code 85 = .ok (.iconst 3, 1) := by decide +kernel
theorem dX11_init_86 : decode prog_13_method_1_code 86 = .ok (.newarray .int, 2) := by decide +kernel
theorem dX11_init_88 : decode prog_13_method_1_code 88 = .ok (.putfield 40, 3) := by decide +kernel
theorem dX11_init_91 : decode prog_13_method_1_code 91 = .ok (.aload_n 0, 1) := by decide +kernel
theorem dX11_init_92 : decode prog_13_method_1_code 92 = .ok (.iconst 3, 1) := by decide +kernel
theorem dX11_init_93 : decode prog_13_method_1_code 93 = .ok (.newarray .int, 2) := by decide +kernel
theorem dX11_init_95 : decode prog_13_method_1_code 95 = .ok (.putfield 43, 3) := by decide +kernel
theorem dX11_init_98 : decode prog_13_method_1_code 98 = .ok (.aload_n 0, 1) := by decide +kernel
theorem dX11_init_99 : decode prog_13_method_1_code 99 = .ok (.bipush 40, 2) := by decide +kernel
theorem dX11_init_101 : decode prog_13_method_1_code 101 = .ok (.newarray .int, 2) := by decide +kernel
theorem dX11_init_103 : decode prog_13_method_1_code 103 = .ok (.putfield 46, 3) := by decide +kernel
theorem dX11_init_106 : decode prog_13_method_1_code 106 = .ok (.aload_n 0, 1) := by decide +kernel
theorem dX11_init_107 : decode prog_13_method_1_code 107 = .ok (.bipush 40, 2) := by decide +kernel
theorem dX11_init_109 : decode prog_13_method_1_code 109 = .ok (.newarray .int, 2) := by decide +kernel
theorem dX11_init_111 : decode prog_13_method_1_code 111 = .ok (.putfield 49, 3) := by decide +kernel
theorem dX11_init_114 : decode prog_13_method_1_code 114 = .ok (.aload_n 0, 1) := by decide +kernel
theorem dX11_init_115 : decode prog_13_method_1_code 115 = .ok (.bipush 40, 2) := by decide +kernel
theorem dX11_init_117 : decode prog_13_method_1_code 117 = .ok (.newarray .int, 2) := by decide +kernel
theorem dX11_init_119 : decode prog_13_method_1_code 119 = .ok (.putfield 52, 3) := by decide +kernel
theorem dX11_init_122 : decode prog_13_method_1_code 122 = .ok (.aload_n 0, 1) := by decide +kernel
theorem dX11_init_123 : decode prog_13_method_1_code 123 = .ok (.sipush 256, 3) := by decide +kernel
theorem dX11_init_126 : decode prog_13_method_1_code 126 = .ok (.newarray .boolean, 2) := by decide +kernel
theorem dX11_init_128 : decode prog_13_method_1_code 128 = .ok (.putfield 55, 3) := by decide +kernel
theorem dX11_init_131 : decode prog_13_method_1_code 131 = .ok (.aload_n 0, 1) := by decide +kernel
theorem dX11_init_132 : decode prog_13_method_1_code 132 = .ok (.sipush 256, 3) := by decide +kernel
theorem dX11_init_135 : decode prog_13_method_1_code 135 = .ok (.newarray .boolean, 2) := by decide +kernel
theorem dX11_init_137 : decode prog_13_method_1_code 137 = .ok (.putfield 59, 3) := by decide +kernel
theorem dX11_init_140 : decode prog_13_method_1_code 140 = .ok (.aload_n 0, 1) := by decide +kernel
theorem dX11_init_141 : decode prog_13_method_1_code 141 = .ok (.bipush 8, 2) := by decide +kernel
theorem dX11_init_143 : decode prog_13_method_1_code 143 = .ok (.newarray .int, 2) := by decide +kernel
theorem dX11_init_145 : decode prog_13_method_1_code 145 = .ok (.putfield 62, 3) := by decide +kernel
theorem dX11_init_148 : decode prog_13_method_1_code 148 = .ok (.aload_n 0, 1) := by decide +kernel
theorem dX11_init_149 : decode prog_13_method_1_code 149 = .ok (.bipush 8, 2) := by decide +kernel
theorem dX11_init_151 : decode prog_13_method_1_code 151 = .ok (.newarray .int, 2) := by decide +kernel
theorem dX11_init_153 : decode prog_13_method_1_code 153 = .ok (.putfield 65, 3) := by decide +kernel
theorem dX11_init_156 : decode prog_13_method_1_code 156 = .ok (.aload_n 0, 1) := by decide +kernel
theorem dX11_init_157 : decode prog_13_method_1_code 157 = .ok (.bipush 28, 2) := by decide +kernel
theorem dX11_init_159 : decode prog_13_method_1_code 159 = .ok (.newarray .int, 2) := by decide +kernel
theorem dX11_init_161 : decode prog_13_method_1_code 161 = .ok (.putfield 68, 3) := by decide +kernel
theorem dX11_init_164 : decode prog_13_method_1_code 164 = .ok (.aload_n 0, 1) := by decide +kernel
theorem dX11_init_165 : decode prog_13_method_1_code 165 = .ok (.sipush 256, 3) := by decide +kernel
theorem dX11_init_168 : decode prog_13_method_1_code 168 = .ok (.newarray .boolean, 2) := by decide +kernel
theorem dX11_init_170 : decode prog_13_method_1_code 170 = .ok (.putfield 71, 3) := by decide +kernel
theorem dX11_init_173 : decode prog_13_method_1_code 173 = .ok (.aload_n 0, 1) := by decide +kernel
theorem dX11_init_174 : decode prog_13_method_1_code 174 = .ok (.bipush 80, 2) := by decide +kernel
theorem dX11_init_176 : decode prog_13_method_1_code 176 = .ok (.newarray .int, 2) := by decide +kernel
theorem dX11_init_178 : decode prog_13_method_1_code 178 = .ok (.putfield 74, 3) := by decide +kernel
theorem dX11_init_181 : decode prog_13_method_1_code 181 = .ok (.aload_n 0, 1) := by decide +kernel
theorem dX11_init_182 : decode prog_13_method_1_code 182 = .ok (.bipush 80, 2) := by decide +kernel
theorem dX11_init_184 : decode prog_13_method_1_code 184 = .ok (.newarray .int, 2) := by decide +kernel
theorem dX11_init_186 : decode prog_13_method_1_code 186 = .ok (.putfield 77, 3) := by decide +kernel
theorem dX11_init_189 : decode prog_13_method_1_code 189 = .ok (.iconst 0, 1) := by decide +kernel
theorem dX11_init_190 : decode prog_13_method_1_code 190 = .ok (.istore_n 1, 1) := by decide +kernel
theorem dX11_init_191 : decode prog_13_method_1_code 191 = .ok (.iload_n 1, 1) := by decide +kernel
theorem dX11_init_192 : decode prog_13_method_1_code 192 = .ok (.iconst 4, 1) := by decide +kernel
theorem dX11_init_193 : decode prog_13_method_1_code 193 = .ok (.if_icmp .ge 16, 3) := by decide +kernel
theorem dX11_init_196 : decode prog_13_method_1_code 196 = .ok (.aload_n 0, 1) := by decide +kernel
theorem dX11_init_197 : decode prog_13_method_1_code 197 = .ok (.getfield 9, 3) := by decide +kernel
theorem dX11_init_200 : decode prog_13_method_1_code 200 = .ok (.iload_n 1, 1) := by decide +kernel
theorem dX11_init_201 : decode prog_13_method_1_code 201 = .ok (.iconst 2, 1) := by decide +kernel
theorem dX11_init_202 : decode prog_13_method_1_code 202 = .ok (.iastore, 1) := by decide +kernel
theorem dX11_init_203 : decode prog_13_method_1_code 203 = .ok (.iinc 1 1, 3) := by decide +kernel
theorem dX11_init_206 : decode prog_13_method_1_code 206 = .ok (.goto (-15), 3) := by decide +kernel
theorem dX11_init_209 : decode prog_13_method_1_code 209 = .ok (.iconst 0, 1) := by decide +kernel
theorem dX11_init_210 : decode prog_13_method_1_code 210 = .ok (.istore_n 1, 1) := by decide +kernel
theorem dX11_init_211 : decode prog_13_method_1_code 211 = .ok (.iload_n 1, 1) := by decide +kernel
theorem dX11_init_212 : decode prog_13_method_1_code 212 = .ok (.iconst 3, 1) := by decide +kernel
theorem dX11_init_213 : decode prog_13_method_1_code 213 = .ok (.if_icmp .ge 16, 3) := by decide +kernel
theorem dX11_init_216 : decode prog_13_method_1_code 216 = .ok (.aload_n 0, 1) := by decide +kernel
theorem dX11_init_217 : decode prog_13_method_1_code 217 = .ok (.getfield 37, 3) := by decide +kernel
theorem dX11_init_220 : decode prog_13_method_1_code 220 = .ok (.iload_n 1, 1) := by decide +kernel
theorem dX11_init_221 : decode prog_13_method_1_code 221 = .ok (.iconst (-1), 1) := by decide +kernel
theorem dX11_init_222 : decode prog_13_method_1_code 222 = .ok (.iastore, 1) := by decide +kernel
theorem dX11_init_223 : decode prog_13_method_1_code 223 = .ok (.iinc 1 1, 3) := by decide +kernel
theorem dX11_init_226 : decode prog_13_method_1_code 226 = .ok (.goto (-15), 3) := by decide +kernel
theorem dX11_init_229 : decode prog_13_method_1_code 229 = .ok (.return_, 1) := by decide +kernel
set_option maxHeartbeats 4000000 in
theorem kX11 {cs : Nat → CDs} {Q : Nat → (Nat → CDs) → Prop} (hT103 : cs 103 = cO 11 (dfl 11)) (hq : ∀ cs', (∀ j, j < 103 → cs' j = cs j) → (∀ j, 103 ≤ j → j < 127 → cs' j = LW j) → Q 127 cs') : CtF 1 23 5449 mX11_init 103 104 cs Q := by
  refine CtF_of fX11_init rfl rfl (by decide) ?_
  have hX : ∀ j, j < 103 → cs j = cs j := fun _ _ => rfl
  have hW : ∀ j, 103 < j → j < 104 → j ≠ 103 → cs j = LW j := fun j h1 h2 _ => absurd h1 (by omega)
  refine F_aload 0 0 dX11_init_0 rfl rfl ?_
  show Fj 1 23 5449 mX11_init 1 [(0, vr 103)] [vr 103] 104 cs 0 0 Q
  refine F_objInit dX11_init_1 oi_X11 oi_im oi_cd (by decide) (Nat.le_of_ble_eq_true rfl) ?_
  show Fj 1 23 5449 mX11_init 4 [(0, vr 103)] [] 104 cs 0 0 Q
  refine F_aload 0 0 dX11_init_4 rfl rfl ?_
  show Fj 1 23 5449 mX11_init 5 [(0, vr 103)] [vr 103] 104 cs 0 0 Q
  refine F_iconst dX11_init_5 ?_
  show Fj 1 23 5449 mX11_init 6 [(0, vr 103)] [vi 4, vr 103] 104 cs 0 0 Q
  obtain ⟨cs1, hcs1⟩ : ∃ x, (cu cs 104 (cP 0 4 (fun _ => 0))) = x := ⟨_, rfl⟩
  refine F_newaI (N := 4) dX11_init_6 ac_int (by decide) (by decide) (by decide) hcs1 ?_
  have hT103 : cs1 103 = cO 11 (dfl 11) := by rw [← hcs1, cu_ne (by decide)]; exact hT103
  have hT104 : cs1 104 = cP 0 4 (fun _ => 0) := by rw [← hcs1, cu_self]
  have hW : ∀ j, 103 < j → j < 105 → j ≠ 103 → j ≠ 104 → cs1 j = LW j := by
    intro j hj0 hj h103 h104
    rw [← hcs1]
    rw [cu_ne (by omega)]
    exact hW j hj0 (by omega) (by omega)
  have hX : ∀ j, j < 103 → cs1 j = cs j := by
    intro j hj
    have e9 : cs1 j = cs j := by rw [← hcs1, cu_ne (by omega)]
    exact e9.trans (hX j hj)
  show Fj 1 23 5449 mX11_init 8 [(0, vr 103)] [vr 104, vr 103] 105 cs1 1 4 Q
  obtain ⟨cs2, hcs2⟩ : ∃ x, (cu cs1 103 (cO 11 (fu (dfl 11) 0 (Sum.inr (some 104))))) = x := ⟨_, rfl⟩
  refine F_putR (r := 104) (i := 103) dX11_init_8 pf_X11_9 refAI (by decide) hT103 hcs2 ?_
  have hT103 : cs2 103 = cO 11 (fu (dfl 11) 0 (Sum.inr (some 104))) := by rw [← hcs2, cu_self]
  have hT104 : cs2 104 = cP 0 4 (fun _ => 0) := by rw [← hcs2, cu_ne (by decide)]; exact hT104
  have hW : ∀ j, 103 < j → j < 105 → j ≠ 103 → j ≠ 104 → cs2 j = LW j := by
    intro j hj0 hj h103 h104
    rw [← hcs2]
    rw [cu_ne (by omega)]
    exact hW j hj0 (by omega) (by omega) (by omega)
  have hX : ∀ j, j < 103 → cs2 j = cs j := by
    intro j hj
    have e9 : cs2 j = cs1 j := by rw [← hcs2, cu_ne (by omega)]
    exact e9.trans (hX j hj)
  show Fj 1 23 5449 mX11_init 11 [(0, vr 103)] [] 105 cs2 1 4 Q
  refine F_aload 0 0 dX11_init_11 rfl rfl ?_
  show Fj 1 23 5449 mX11_init 12 [(0, vr 103)] [vr 103] 105 cs2 1 4 Q
  refine F_iconst dX11_init_12 ?_
  show Fj 1 23 5449 mX11_init 13 [(0, vr 103)] [vi 4, vr 103] 105 cs2 1 4 Q
  obtain ⟨cs3, hcs3⟩ : ∃ x, (cu cs2 105 (cP 0 4 (fun _ => 0))) = x := ⟨_, rfl⟩
  refine F_newaI (N := 4) dX11_init_13 ac_int (by decide) (by decide) (by decide) hcs3 ?_
  have hT103 : cs3 103 = cO 11 (fu (dfl 11) 0 (Sum.inr (some 104))) := by rw [← hcs3, cu_ne (by decide)]; exact hT103
  have hT104 : cs3 104 = cP 0 4 (fun _ => 0) := by rw [← hcs3, cu_ne (by decide)]; exact hT104
  have hW : ∀ j, 103 < j → j < 106 → j ≠ 103 → j ≠ 104 → cs3 j = LW j := by
    intro j hj0 hj h103 h104
    rw [← hcs3]
    by_cases q0 : j = 105
    · subst q0; rw [cu_self]; rfl
    rw [cu_ne q0]
    exact hW j hj0 (by omega) (by omega) (by omega)
  have hX : ∀ j, j < 103 → cs3 j = cs j := by
    intro j hj
    have e9 : cs3 j = cs2 j := by rw [← hcs3, cu_ne (by omega)]
    exact e9.trans (hX j hj)
  show Fj 1 23 5449 mX11_init 15 [(0, vr 103)] [vr 105, vr 103] 106 cs3 2 8 Q
  obtain ⟨cs4, hcs4⟩ : ∃ x, (cu cs3 103 (cO 11 (fu (fu (dfl 11) 0 (Sum.inr (some 104))) 1 (Sum.inr (some 105))))) = x := ⟨_, rfl⟩
  refine F_putR (r := 105) (i := 103) dX11_init_15 pf_X11_13 refAI (by decide) hT103 hcs4 ?_
  have hT103 : cs4 103 = cO 11 (fu (fu (dfl 11) 0 (Sum.inr (some 104))) 1 (Sum.inr (some 105))) := by rw [← hcs4, cu_self]
  have hT104 : cs4 104 = cP 0 4 (fun _ => 0) := by rw [← hcs4, cu_ne (by decide)]; exact hT104
  have hW : ∀ j, 103 < j → j < 106 → j ≠ 103 → j ≠ 104 → cs4 j = LW j := by
    intro j hj0 hj h103 h104
    rw [← hcs4]
    rw [cu_ne (by omega)]
    exact hW j hj0 (by omega) (by omega) (by omega)
  have hX : ∀ j, j < 103 → cs4 j = cs j := by
    intro j hj
    have e9 : cs4 j = cs3 j := by rw [← hcs4, cu_ne (by omega)]
    exact e9.trans (hX j hj)
  show Fj 1 23 5449 mX11_init 18 [(0, vr 103)] [] 106 cs4 2 8 Q
  refine F_aload 0 0 dX11_init_18 rfl rfl ?_
  show Fj 1 23 5449 mX11_init 19 [(0, vr 103)] [vr 103] 106 cs4 2 8 Q
  refine F_sipush dX11_init_19 (by decide) ?_
  show Fj 1 23 5449 mX11_init 22 [(0, vr 103)] [vi 160, vr 103] 106 cs4 2 8 Q
  obtain ⟨cs5, hcs5⟩ : ∃ x, (cu cs4 106 (cP 0 160 (fun _ => 0))) = x := ⟨_, rfl⟩
  refine F_newaI (N := 160) dX11_init_22 ac_int (by decide) (by decide) (by decide) hcs5 ?_
  have hT103 : cs5 103 = cO 11 (fu (fu (dfl 11) 0 (Sum.inr (some 104))) 1 (Sum.inr (some 105))) := by rw [← hcs5, cu_ne (by decide)]; exact hT103
  have hT104 : cs5 104 = cP 0 4 (fun _ => 0) := by rw [← hcs5, cu_ne (by decide)]; exact hT104
  have hW : ∀ j, 103 < j → j < 107 → j ≠ 103 → j ≠ 104 → cs5 j = LW j := by
    intro j hj0 hj h103 h104
    rw [← hcs5]
    by_cases q0 : j = 106
    · subst q0; rw [cu_self]; rfl
    rw [cu_ne q0]
    exact hW j hj0 (by omega) (by omega) (by omega)
  have hX : ∀ j, j < 103 → cs5 j = cs j := by
    intro j hj
    have e9 : cs5 j = cs4 j := by rw [← hcs5, cu_ne (by omega)]
    exact e9.trans (hX j hj)
  show Fj 1 23 5449 mX11_init 24 [(0, vr 103)] [vr 106, vr 103] 107 cs5 3 168 Q
  obtain ⟨cs6, hcs6⟩ : ∃ x, (cu cs5 103 (cO 11 (fu (fu (fu (dfl 11) 0 (Sum.inr (some 104))) 1 (Sum.inr (some 105))) 2 (Sum.inr (some 106))))) = x := ⟨_, rfl⟩
  refine F_putR (r := 106) (i := 103) dX11_init_24 pf_X11_16 refAI (by decide) hT103 hcs6 ?_
  have hT103 : cs6 103 = cO 11 (fu (fu (fu (dfl 11) 0 (Sum.inr (some 104))) 1 (Sum.inr (some 105))) 2 (Sum.inr (some 106))) := by rw [← hcs6, cu_self]
  have hT104 : cs6 104 = cP 0 4 (fun _ => 0) := by rw [← hcs6, cu_ne (by decide)]; exact hT104
  have hW : ∀ j, 103 < j → j < 107 → j ≠ 103 → j ≠ 104 → cs6 j = LW j := by
    intro j hj0 hj h103 h104
    rw [← hcs6]
    rw [cu_ne (by omega)]
    exact hW j hj0 (by omega) (by omega) (by omega)
  have hX : ∀ j, j < 103 → cs6 j = cs j := by
    intro j hj
    have e9 : cs6 j = cs5 j := by rw [← hcs6, cu_ne (by omega)]
    exact e9.trans (hX j hj)
  show Fj 1 23 5449 mX11_init 27 [(0, vr 103)] [] 107 cs6 3 168 Q
  refine F_aload 0 0 dX11_init_27 rfl rfl ?_
  show Fj 1 23 5449 mX11_init 28 [(0, vr 103)] [vr 103] 107 cs6 3 168 Q
  refine F_sipush dX11_init_28 (by decide) ?_
  show Fj 1 23 5449 mX11_init 31 [(0, vr 103)] [vi 160, vr 103] 107 cs6 3 168 Q
  obtain ⟨cs7, hcs7⟩ : ∃ x, (cu cs6 107 (cP 0 160 (fun _ => 0))) = x := ⟨_, rfl⟩
  refine F_newaI (N := 160) dX11_init_31 ac_int (by decide) (by decide) (by decide) hcs7 ?_
  have hT103 : cs7 103 = cO 11 (fu (fu (fu (dfl 11) 0 (Sum.inr (some 104))) 1 (Sum.inr (some 105))) 2 (Sum.inr (some 106))) := by rw [← hcs7, cu_ne (by decide)]; exact hT103
  have hT104 : cs7 104 = cP 0 4 (fun _ => 0) := by rw [← hcs7, cu_ne (by decide)]; exact hT104
  have hW : ∀ j, 103 < j → j < 108 → j ≠ 103 → j ≠ 104 → cs7 j = LW j := by
    intro j hj0 hj h103 h104
    rw [← hcs7]
    by_cases q0 : j = 107
    · subst q0; rw [cu_self]; rfl
    rw [cu_ne q0]
    exact hW j hj0 (by omega) (by omega) (by omega)
  have hX : ∀ j, j < 103 → cs7 j = cs j := by
    intro j hj
    have e9 : cs7 j = cs6 j := by rw [← hcs7, cu_ne (by omega)]
    exact e9.trans (hX j hj)
  show Fj 1 23 5449 mX11_init 33 [(0, vr 103)] [vr 107, vr 103] 108 cs7 4 328 Q
  obtain ⟨cs8, hcs8⟩ : ∃ x, (cu cs7 103 (cO 11 (fu (fu (fu (fu (dfl 11) 0 (Sum.inr (some 104))) 1 (Sum.inr (some 105))) 2 (Sum.inr (some 106))) 3 (Sum.inr (some 107))))) = x := ⟨_, rfl⟩
  refine F_putR (r := 107) (i := 103) dX11_init_33 pf_X11_19 refAI (by decide) hT103 hcs8 ?_
  have hT103 : cs8 103 = cO 11 (fu (fu (fu (fu (dfl 11) 0 (Sum.inr (some 104))) 1 (Sum.inr (some 105))) 2 (Sum.inr (some 106))) 3 (Sum.inr (some 107))) := by rw [← hcs8, cu_self]
  have hT104 : cs8 104 = cP 0 4 (fun _ => 0) := by rw [← hcs8, cu_ne (by decide)]; exact hT104
  have hW : ∀ j, 103 < j → j < 108 → j ≠ 103 → j ≠ 104 → cs8 j = LW j := by
    intro j hj0 hj h103 h104
    rw [← hcs8]
    rw [cu_ne (by omega)]
    exact hW j hj0 (by omega) (by omega) (by omega)
  have hX : ∀ j, j < 103 → cs8 j = cs j := by
    intro j hj
    have e9 : cs8 j = cs7 j := by rw [← hcs8, cu_ne (by omega)]
    exact e9.trans (hX j hj)
  show Fj 1 23 5449 mX11_init 36 [(0, vr 103)] [] 108 cs8 4 328 Q
  refine F_aload 0 0 dX11_init_36 rfl rfl ?_
  show Fj 1 23 5449 mX11_init 37 [(0, vr 103)] [vr 103] 108 cs8 4 328 Q
  refine F_bipush dX11_init_37 (by decide) ?_
  show Fj 1 23 5449 mX11_init 39 [(0, vr 103)] [vi 8, vr 103] 108 cs8 4 328 Q
  obtain ⟨cs9, hcs9⟩ : ∃ x, (cu cs8 108 (cP 0 8 (fun _ => 0))) = x := ⟨_, rfl⟩
  refine F_newaI (N := 8) dX11_init_39 ac_int (by decide) (by decide) (by decide) hcs9 ?_
  have hT103 : cs9 103 = cO 11 (fu (fu (fu (fu (dfl 11) 0 (Sum.inr (some 104))) 1 (Sum.inr (some 105))) 2 (Sum.inr (some 106))) 3 (Sum.inr (some 107))) := by rw [← hcs9, cu_ne (by decide)]; exact hT103
  have hT104 : cs9 104 = cP 0 4 (fun _ => 0) := by rw [← hcs9, cu_ne (by decide)]; exact hT104
  have hW : ∀ j, 103 < j → j < 109 → j ≠ 103 → j ≠ 104 → cs9 j = LW j := by
    intro j hj0 hj h103 h104
    rw [← hcs9]
    by_cases q0 : j = 108
    · subst q0; rw [cu_self]; rfl
    rw [cu_ne q0]
    exact hW j hj0 (by omega) (by omega) (by omega)
  have hX : ∀ j, j < 103 → cs9 j = cs j := by
    intro j hj
    have e9 : cs9 j = cs8 j := by rw [← hcs9, cu_ne (by omega)]
    exact e9.trans (hX j hj)
  show Fj 1 23 5449 mX11_init 41 [(0, vr 103)] [vr 108, vr 103] 109 cs9 5 336 Q
  obtain ⟨cs10, hcs10⟩ : ∃ x, (cu cs9 103 (cO 11 (fu (fu (fu (fu (fu (dfl 11) 0 (Sum.inr (some 104))) 1 (Sum.inr (some 105))) 2 (Sum.inr (some 106))) 3 (Sum.inr (some 107))) 4 (Sum.inr (some 108))))) = x := ⟨_, rfl⟩
  refine F_putR (r := 108) (i := 103) dX11_init_41 pf_X11_22 refAI (by decide) hT103 hcs10 ?_
  have hT103 : cs10 103 = cO 11 (fu (fu (fu (fu (fu (dfl 11) 0 (Sum.inr (some 104))) 1 (Sum.inr (some 105))) 2 (Sum.inr (some 106))) 3 (Sum.inr (some 107))) 4 (Sum.inr (some 108))) := by rw [← hcs10, cu_self]
  have hT104 : cs10 104 = cP 0 4 (fun _ => 0) := by rw [← hcs10, cu_ne (by decide)]; exact hT104
  have hW : ∀ j, 103 < j → j < 109 → j ≠ 103 → j ≠ 104 → cs10 j = LW j := by
    intro j hj0 hj h103 h104
    rw [← hcs10]
    rw [cu_ne (by omega)]
    exact hW j hj0 (by omega) (by omega) (by omega)
  have hX : ∀ j, j < 103 → cs10 j = cs j := by
    intro j hj
    have e9 : cs10 j = cs9 j := by rw [← hcs10, cu_ne (by omega)]
    exact e9.trans (hX j hj)
  show Fj 1 23 5449 mX11_init 44 [(0, vr 103)] [] 109 cs10 5 336 Q
  refine F_aload 0 0 dX11_init_44 rfl rfl ?_
  show Fj 1 23 5449 mX11_init 45 [(0, vr 103)] [vr 103] 109 cs10 5 336 Q
  refine F_bipush dX11_init_45 (by decide) ?_
  show Fj 1 23 5449 mX11_init 47 [(0, vr 103)] [vi 8, vr 103] 109 cs10 5 336 Q
  obtain ⟨cs11, hcs11⟩ : ∃ x, (cu cs10 109 (cP 0 8 (fun _ => 0))) = x := ⟨_, rfl⟩
  refine F_newaI (N := 8) dX11_init_47 ac_int (by decide) (by decide) (by decide) hcs11 ?_
  have hT103 : cs11 103 = cO 11 (fu (fu (fu (fu (fu (dfl 11) 0 (Sum.inr (some 104))) 1 (Sum.inr (some 105))) 2 (Sum.inr (some 106))) 3 (Sum.inr (some 107))) 4 (Sum.inr (some 108))) := by rw [← hcs11, cu_ne (by decide)]; exact hT103
  have hT104 : cs11 104 = cP 0 4 (fun _ => 0) := by rw [← hcs11, cu_ne (by decide)]; exact hT104
  have hW : ∀ j, 103 < j → j < 110 → j ≠ 103 → j ≠ 104 → cs11 j = LW j := by
    intro j hj0 hj h103 h104
    rw [← hcs11]
    by_cases q0 : j = 109
    · subst q0; rw [cu_self]; rfl
    rw [cu_ne q0]
    exact hW j hj0 (by omega) (by omega) (by omega)
  have hX : ∀ j, j < 103 → cs11 j = cs j := by
    intro j hj
    have e9 : cs11 j = cs10 j := by rw [← hcs11, cu_ne (by omega)]
    exact e9.trans (hX j hj)
  show Fj 1 23 5449 mX11_init 49 [(0, vr 103)] [vr 109, vr 103] 110 cs11 6 344 Q
  obtain ⟨cs12, hcs12⟩ : ∃ x, (cu cs11 103 (cO 11 (fu (fu (fu (fu (fu (fu (dfl 11) 0 (Sum.inr (some 104))) 1 (Sum.inr (some 105))) 2 (Sum.inr (some 106))) 3 (Sum.inr (some 107))) 4 (Sum.inr (some 108))) 5 (Sum.inr (some 109))))) = x := ⟨_, rfl⟩
  refine F_putR (r := 109) (i := 103) dX11_init_49 pf_X11_25 refAI (by decide) hT103 hcs12 ?_
  have hT103 : cs12 103 = cO 11 (fu (fu (fu (fu (fu (fu (dfl 11) 0 (Sum.inr (some 104))) 1 (Sum.inr (some 105))) 2 (Sum.inr (some 106))) 3 (Sum.inr (some 107))) 4 (Sum.inr (some 108))) 5 (Sum.inr (some 109))) := by rw [← hcs12, cu_self]
  have hT104 : cs12 104 = cP 0 4 (fun _ => 0) := by rw [← hcs12, cu_ne (by decide)]; exact hT104
  have hW : ∀ j, 103 < j → j < 110 → j ≠ 103 → j ≠ 104 → cs12 j = LW j := by
    intro j hj0 hj h103 h104
    rw [← hcs12]
    rw [cu_ne (by omega)]
    exact hW j hj0 (by omega) (by omega) (by omega)
  have hX : ∀ j, j < 103 → cs12 j = cs j := by
    intro j hj
    have e9 : cs12 j = cs11 j := by rw [← hcs12, cu_ne (by omega)]
    exact e9.trans (hX j hj)
  show Fj 1 23 5449 mX11_init 52 [(0, vr 103)] [] 110 cs12 6 344 Q
  refine F_aload 0 0 dX11_init_52 rfl rfl ?_
  show Fj 1 23 5449 mX11_init 53 [(0, vr 103)] [vr 103] 110 cs12 6 344 Q
  refine F_bipush dX11_init_53 (by decide) ?_
  show Fj 1 23 5449 mX11_init 55 [(0, vr 103)] [vi 8, vr 103] 110 cs12 6 344 Q
  obtain ⟨cs13, hcs13⟩ : ∃ x, (cu cs12 110 (cP 0 8 (fun _ => 0))) = x := ⟨_, rfl⟩
  refine F_newaI (N := 8) dX11_init_55 ac_int (by decide) (by decide) (by decide) hcs13 ?_
  have hT103 : cs13 103 = cO 11 (fu (fu (fu (fu (fu (fu (dfl 11) 0 (Sum.inr (some 104))) 1 (Sum.inr (some 105))) 2 (Sum.inr (some 106))) 3 (Sum.inr (some 107))) 4 (Sum.inr (some 108))) 5 (Sum.inr (some 109))) := by rw [← hcs13, cu_ne (by decide)]; exact hT103
  have hT104 : cs13 104 = cP 0 4 (fun _ => 0) := by rw [← hcs13, cu_ne (by decide)]; exact hT104
  have hW : ∀ j, 103 < j → j < 111 → j ≠ 103 → j ≠ 104 → cs13 j = LW j := by
    intro j hj0 hj h103 h104
    rw [← hcs13]
    by_cases q0 : j = 110
    · subst q0; rw [cu_self]; rfl
    rw [cu_ne q0]
    exact hW j hj0 (by omega) (by omega) (by omega)
  have hX : ∀ j, j < 103 → cs13 j = cs j := by
    intro j hj
    have e9 : cs13 j = cs12 j := by rw [← hcs13, cu_ne (by omega)]
    exact e9.trans (hX j hj)
  show Fj 1 23 5449 mX11_init 57 [(0, vr 103)] [vr 110, vr 103] 111 cs13 7 352 Q
  obtain ⟨cs14, hcs14⟩ : ∃ x, (cu cs13 103 (cO 11 (fu (fu (fu (fu (fu (fu (fu (dfl 11) 0 (Sum.inr (some 104))) 1 (Sum.inr (some 105))) 2 (Sum.inr (some 106))) 3 (Sum.inr (some 107))) 4 (Sum.inr (some 108))) 5 (Sum.inr (some 109))) 6 (Sum.inr (some 110))))) = x := ⟨_, rfl⟩
  refine F_putR (r := 110) (i := 103) dX11_init_57 pf_X11_28 refAI (by decide) hT103 hcs14 ?_
  have hT103 : cs14 103 = cO 11 (fu (fu (fu (fu (fu (fu (fu (dfl 11) 0 (Sum.inr (some 104))) 1 (Sum.inr (some 105))) 2 (Sum.inr (some 106))) 3 (Sum.inr (some 107))) 4 (Sum.inr (some 108))) 5 (Sum.inr (some 109))) 6 (Sum.inr (some 110))) := by rw [← hcs14, cu_self]
  have hT104 : cs14 104 = cP 0 4 (fun _ => 0) := by rw [← hcs14, cu_ne (by decide)]; exact hT104
  have hW : ∀ j, 103 < j → j < 111 → j ≠ 103 → j ≠ 104 → cs14 j = LW j := by
    intro j hj0 hj h103 h104
    rw [← hcs14]
    rw [cu_ne (by omega)]
    exact hW j hj0 (by omega) (by omega) (by omega)
  have hX : ∀ j, j < 103 → cs14 j = cs j := by
    intro j hj
    have e9 : cs14 j = cs13 j := by rw [← hcs14, cu_ne (by omega)]
    exact e9.trans (hX j hj)
  show Fj 1 23 5449 mX11_init 60 [(0, vr 103)] [] 111 cs14 7 352 Q
  refine F_aload 0 0 dX11_init_60 rfl rfl ?_
  show Fj 1 23 5449 mX11_init 61 [(0, vr 103)] [vr 103] 111 cs14 7 352 Q
  refine F_bipush dX11_init_61 (by decide) ?_
  show Fj 1 23 5449 mX11_init 63 [(0, vr 103)] [vi 60, vr 103] 111 cs14 7 352 Q
  obtain ⟨cs15, hcs15⟩ : ∃ x, (cu cs14 111 (cP 0 60 (fun _ => 0))) = x := ⟨_, rfl⟩
  refine F_newaI (N := 60) dX11_init_63 ac_int (by decide) (by decide) (by decide) hcs15 ?_
  have hT103 : cs15 103 = cO 11 (fu (fu (fu (fu (fu (fu (fu (dfl 11) 0 (Sum.inr (some 104))) 1 (Sum.inr (some 105))) 2 (Sum.inr (some 106))) 3 (Sum.inr (some 107))) 4 (Sum.inr (some 108))) 5 (Sum.inr (some 109))) 6 (Sum.inr (some 110))) := by rw [← hcs15, cu_ne (by decide)]; exact hT103
  have hT104 : cs15 104 = cP 0 4 (fun _ => 0) := by rw [← hcs15, cu_ne (by decide)]; exact hT104
  have hW : ∀ j, 103 < j → j < 112 → j ≠ 103 → j ≠ 104 → cs15 j = LW j := by
    intro j hj0 hj h103 h104
    rw [← hcs15]
    by_cases q0 : j = 111
    · subst q0; rw [cu_self]; rfl
    rw [cu_ne q0]
    exact hW j hj0 (by omega) (by omega) (by omega)
  have hX : ∀ j, j < 103 → cs15 j = cs j := by
    intro j hj
    have e9 : cs15 j = cs14 j := by rw [← hcs15, cu_ne (by omega)]
    exact e9.trans (hX j hj)
  show Fj 1 23 5449 mX11_init 65 [(0, vr 103)] [vr 111, vr 103] 112 cs15 8 412 Q
  obtain ⟨cs16, hcs16⟩ : ∃ x, (cu cs15 103 (cO 11 (fu (fu (fu (fu (fu (fu (fu (fu (dfl 11) 0 (Sum.inr (some 104))) 1 (Sum.inr (some 105))) 2 (Sum.inr (some 106))) 3 (Sum.inr (some 107))) 4 (Sum.inr (some 108))) 5 (Sum.inr (some 109))) 6 (Sum.inr (some 110))) 8 (Sum.inr (some 111))))) = x := ⟨_, rfl⟩
  refine F_putR (r := 111) (i := 103) dX11_init_65 pf_X11_31 refAI (by decide) hT103 hcs16 ?_
  have hT103 : cs16 103 = cO 11 (fu (fu (fu (fu (fu (fu (fu (fu (dfl 11) 0 (Sum.inr (some 104))) 1 (Sum.inr (some 105))) 2 (Sum.inr (some 106))) 3 (Sum.inr (some 107))) 4 (Sum.inr (some 108))) 5 (Sum.inr (some 109))) 6 (Sum.inr (some 110))) 8 (Sum.inr (some 111))) := by rw [← hcs16, cu_self]
  have hT104 : cs16 104 = cP 0 4 (fun _ => 0) := by rw [← hcs16, cu_ne (by decide)]; exact hT104
  have hW : ∀ j, 103 < j → j < 112 → j ≠ 103 → j ≠ 104 → cs16 j = LW j := by
    intro j hj0 hj h103 h104
    rw [← hcs16]
    rw [cu_ne (by omega)]
    exact hW j hj0 (by omega) (by omega) (by omega)
  have hX : ∀ j, j < 103 → cs16 j = cs j := by
    intro j hj
    have e9 : cs16 j = cs15 j := by rw [← hcs16, cu_ne (by omega)]
    exact e9.trans (hX j hj)
  show Fj 1 23 5449 mX11_init 68 [(0, vr 103)] [] 112 cs16 8 412 Q
  refine F_aload 0 0 dX11_init_68 rfl rfl ?_
  show Fj 1 23 5449 mX11_init 69 [(0, vr 103)] [vr 103] 112 cs16 8 412 Q
  refine F_sipush dX11_init_69 (by decide) ?_
  show Fj 1 23 5449 mX11_init 72 [(0, vr 103)] [vi 3936, vr 103] 112 cs16 8 412 Q
  obtain ⟨cs17, hcs17⟩ : ∃ x, (cu cs16 112 (cP 0 3936 (fun _ => 0))) = x := ⟨_, rfl⟩
  refine F_newaI (N := 3936) dX11_init_72 ac_int (by decide) (by decide) (by decide) hcs17 ?_
  have hT103 : cs17 103 = cO 11 (fu (fu (fu (fu (fu (fu (fu (fu (dfl 11) 0 (Sum.inr (some 104))) 1 (Sum.inr (some 105))) 2 (Sum.inr (some 106))) 3 (Sum.inr (some 107))) 4 (Sum.inr (some 108))) 5 (Sum.inr (some 109))) 6 (Sum.inr (some 110))) 8 (Sum.inr (some 111))) := by rw [← hcs17, cu_ne (by decide)]; exact hT103
  have hT104 : cs17 104 = cP 0 4 (fun _ => 0) := by rw [← hcs17, cu_ne (by decide)]; exact hT104
  have hW : ∀ j, 103 < j → j < 113 → j ≠ 103 → j ≠ 104 → cs17 j = LW j := by
    intro j hj0 hj h103 h104
    rw [← hcs17]
    by_cases q0 : j = 112
    · subst q0; rw [cu_self]; rfl
    rw [cu_ne q0]
    exact hW j hj0 (by omega) (by omega) (by omega)
  have hX : ∀ j, j < 103 → cs17 j = cs j := by
    intro j hj
    have e9 : cs17 j = cs16 j := by rw [← hcs17, cu_ne (by omega)]
    exact e9.trans (hX j hj)
  show Fj 1 23 5449 mX11_init 74 [(0, vr 103)] [vr 112, vr 103] 113 cs17 9 4348 Q
  obtain ⟨cs18, hcs18⟩ : ∃ x, (cu cs17 103 (cO 11 (fu (fu (fu (fu (fu (fu (fu (fu (fu (dfl 11) 0 (Sum.inr (some 104))) 1 (Sum.inr (some 105))) 2 (Sum.inr (some 106))) 3 (Sum.inr (some 107))) 4 (Sum.inr (some 108))) 5 (Sum.inr (some 109))) 6 (Sum.inr (some 110))) 8 (Sum.inr (some 111))) 10 (Sum.inr (some 112))))) = x := ⟨_, rfl⟩
  refine F_putR (r := 112) (i := 103) dX11_init_74 pf_X11_34 refAI (by decide) hT103 hcs18 ?_
  have hT103 : cs18 103 = cO 11 (fu (fu (fu (fu (fu (fu (fu (fu (fu (dfl 11) 0 (Sum.inr (some 104))) 1 (Sum.inr (some 105))) 2 (Sum.inr (some 106))) 3 (Sum.inr (some 107))) 4 (Sum.inr (some 108))) 5 (Sum.inr (some 109))) 6 (Sum.inr (some 110))) 8 (Sum.inr (some 111))) 10 (Sum.inr (some 112))) := by rw [← hcs18, cu_self]
  have hT104 : cs18 104 = cP 0 4 (fun _ => 0) := by rw [← hcs18, cu_ne (by decide)]; exact hT104
  have hW : ∀ j, 103 < j → j < 113 → j ≠ 103 → j ≠ 104 → cs18 j = LW j := by
    intro j hj0 hj h103 h104
    rw [← hcs18]
    rw [cu_ne (by omega)]
    exact hW j hj0 (by omega) (by omega) (by omega)
  have hX : ∀ j, j < 103 → cs18 j = cs j := by
    intro j hj
    have e9 : cs18 j = cs17 j := by rw [← hcs18, cu_ne (by omega)]
    exact e9.trans (hX j hj)
  show Fj 1 23 5449 mX11_init 77 [(0, vr 103)] [] 113 cs18 9 4348 Q
  refine F_aload 0 0 dX11_init_77 rfl rfl ?_
  show Fj 1 23 5449 mX11_init 78 [(0, vr 103)] [vr 103] 113 cs18 9 4348 Q
  refine F_iconst dX11_init_78 ?_
  show Fj 1 23 5449 mX11_init 79 [(0, vr 103)] [vi 3, vr 103] 113 cs18 9 4348 Q
  obtain ⟨cs19, hcs19⟩ : ∃ x, (cu cs18 113 (cP 0 3 (fun _ => 0))) = x := ⟨_, rfl⟩
  refine F_newaI (N := 3) dX11_init_79 ac_int (by decide) (by decide) (by decide) hcs19 ?_
  have hT103 : cs19 103 = cO 11 (fu (fu (fu (fu (fu (fu (fu (fu (fu (dfl 11) 0 (Sum.inr (some 104))) 1 (Sum.inr (some 105))) 2 (Sum.inr (some 106))) 3 (Sum.inr (some 107))) 4 (Sum.inr (some 108))) 5 (Sum.inr (some 109))) 6 (Sum.inr (some 110))) 8 (Sum.inr (some 111))) 10 (Sum.inr (some 112))) := by rw [← hcs19, cu_ne (by decide)]; exact hT103
  have hT104 : cs19 104 = cP 0 4 (fun _ => 0) := by rw [← hcs19, cu_ne (by decide)]; exact hT104
  have hT113 : cs19 113 = cP 0 3 (fun _ => 0) := by rw [← hcs19, cu_self]
  have hW : ∀ j, 103 < j → j < 114 → j ≠ 103 → j ≠ 104 → j ≠ 113 → cs19 j = LW j := by
    intro j hj0 hj h103 h104 h113
    rw [← hcs19]
    rw [cu_ne (by omega)]
    exact hW j hj0 (by omega) (by omega) (by omega)
  have hX : ∀ j, j < 103 → cs19 j = cs j := by
    intro j hj
    have e9 : cs19 j = cs18 j := by rw [← hcs19, cu_ne (by omega)]
    exact e9.trans (hX j hj)
  show Fj 1 23 5449 mX11_init 81 [(0, vr 103)] [vr 113, vr 103] 114 cs19 10 4351 Q
  obtain ⟨cs20, hcs20⟩ : ∃ x, (cu cs19 103 (cO 11 (fu (fu (fu (fu (fu (fu (fu (fu (fu (fu (dfl 11) 0 (Sum.inr (some 104))) 1 (Sum.inr (some 105))) 2 (Sum.inr (some 106))) 3 (Sum.inr (some 107))) 4 (Sum.inr (some 108))) 5 (Sum.inr (some 109))) 6 (Sum.inr (some 110))) 8 (Sum.inr (some 111))) 10 (Sum.inr (some 112))) 12 (Sum.inr (some 113))))) = x := ⟨_, rfl⟩
  refine F_putR (r := 113) (i := 103) dX11_init_81 pf_X11_37 refAI (by decide) hT103 hcs20 ?_
  have hT103 : cs20 103 = cO 11 (fu (fu (fu (fu (fu (fu (fu (fu (fu (fu (dfl 11) 0 (Sum.inr (some 104))) 1 (Sum.inr (some 105))) 2 (Sum.inr (some 106))) 3 (Sum.inr (some 107))) 4 (Sum.inr (some 108))) 5 (Sum.inr (some 109))) 6 (Sum.inr (some 110))) 8 (Sum.inr (some 111))) 10 (Sum.inr (some 112))) 12 (Sum.inr (some 113))) := by rw [← hcs20, cu_self]
  have hT104 : cs20 104 = cP 0 4 (fun _ => 0) := by rw [← hcs20, cu_ne (by decide)]; exact hT104
  have hT113 : cs20 113 = cP 0 3 (fun _ => 0) := by rw [← hcs20, cu_ne (by decide)]; exact hT113
  have hW : ∀ j, 103 < j → j < 114 → j ≠ 103 → j ≠ 104 → j ≠ 113 → cs20 j = LW j := by
    intro j hj0 hj h103 h104 h113
    rw [← hcs20]
    rw [cu_ne (by omega)]
    exact hW j hj0 (by omega) (by omega) (by omega) (by omega)
  have hX : ∀ j, j < 103 → cs20 j = cs j := by
    intro j hj
    have e9 : cs20 j = cs19 j := by rw [← hcs20, cu_ne (by omega)]
    exact e9.trans (hX j hj)
  show Fj 1 23 5449 mX11_init 84 [(0, vr 103)] [] 114 cs20 10 4351 Q
  refine F_aload 0 0 dX11_init_84 rfl rfl ?_
  show Fj 1 23 5449 mX11_init 85 [(0, vr 103)] [vr 103] 114 cs20 10 4351 Q
  refine F_iconst dX11_init_85 ?_
  show Fj 1 23 5449 mX11_init 86 [(0, vr 103)] [vi 3, vr 103] 114 cs20 10 4351 Q
  obtain ⟨cs21, hcs21⟩ : ∃ x, (cu cs20 114 (cP 0 3 (fun _ => 0))) = x := ⟨_, rfl⟩
  refine F_newaI (N := 3) dX11_init_86 ac_int (by decide) (by decide) (by decide) hcs21 ?_
  have hT103 : cs21 103 = cO 11 (fu (fu (fu (fu (fu (fu (fu (fu (fu (fu (dfl 11) 0 (Sum.inr (some 104))) 1 (Sum.inr (some 105))) 2 (Sum.inr (some 106))) 3 (Sum.inr (some 107))) 4 (Sum.inr (some 108))) 5 (Sum.inr (some 109))) 6 (Sum.inr (some 110))) 8 (Sum.inr (some 111))) 10 (Sum.inr (some 112))) 12 (Sum.inr (some 113))) := by rw [← hcs21, cu_ne (by decide)]; exact hT103
  have hT104 : cs21 104 = cP 0 4 (fun _ => 0) := by rw [← hcs21, cu_ne (by decide)]; exact hT104
  have hT113 : cs21 113 = cP 0 3 (fun _ => 0) := by rw [← hcs21, cu_ne (by decide)]; exact hT113
  have hW : ∀ j, 103 < j → j < 115 → j ≠ 103 → j ≠ 104 → j ≠ 113 → cs21 j = LW j := by
    intro j hj0 hj h103 h104 h113
    rw [← hcs21]
    by_cases q0 : j = 114
    · subst q0; rw [cu_self]; rfl
    rw [cu_ne q0]
    exact hW j hj0 (by omega) (by omega) (by omega) (by omega)
  have hX : ∀ j, j < 103 → cs21 j = cs j := by
    intro j hj
    have e9 : cs21 j = cs20 j := by rw [← hcs21, cu_ne (by omega)]
    exact e9.trans (hX j hj)
  show Fj 1 23 5449 mX11_init 88 [(0, vr 103)] [vr 114, vr 103] 115 cs21 11 4354 Q
  obtain ⟨cs22, hcs22⟩ : ∃ x, (cu cs21 103 (cO 11 (fu (fu (fu (fu (fu (fu (fu (fu (fu (fu (fu (dfl 11) 0 (Sum.inr (some 104))) 1 (Sum.inr (some 105))) 2 (Sum.inr (some 106))) 3 (Sum.inr (some 107))) 4 (Sum.inr (some 108))) 5 (Sum.inr (some 109))) 6 (Sum.inr (some 110))) 8 (Sum.inr (some 111))) 10 (Sum.inr (some 112))) 12 (Sum.inr (some 113))) 13 (Sum.inr (some 114))))) = x := ⟨_, rfl⟩
  refine F_putR (r := 114) (i := 103) dX11_init_88 pf_X11_40 refAI (by decide) hT103 hcs22 ?_
  have hT103 : cs22 103 = cO 11 (fu (fu (fu (fu (fu (fu (fu (fu (fu (fu (fu (dfl 11) 0 (Sum.inr (some 104))) 1 (Sum.inr (some 105))) 2 (Sum.inr (some 106))) 3 (Sum.inr (some 107))) 4 (Sum.inr (some 108))) 5 (Sum.inr (some 109))) 6 (Sum.inr (some 110))) 8 (Sum.inr (some 111))) 10 (Sum.inr (some 112))) 12 (Sum.inr (some 113))) 13 (Sum.inr (some 114))) := by rw [← hcs22, cu_self]
  have hT104 : cs22 104 = cP 0 4 (fun _ => 0) := by rw [← hcs22, cu_ne (by decide)]; exact hT104
  have hT113 : cs22 113 = cP 0 3 (fun _ => 0) := by rw [← hcs22, cu_ne (by decide)]; exact hT113
  have hW : ∀ j, 103 < j → j < 115 → j ≠ 103 → j ≠ 104 → j ≠ 113 → cs22 j = LW j := by
    intro j hj0 hj h103 h104 h113
    rw [← hcs22]
    rw [cu_ne (by omega)]
    exact hW j hj0 (by omega) (by omega) (by omega) (by omega)
  have hX : ∀ j, j < 103 → cs22 j = cs j := by
    intro j hj
    have e9 : cs22 j = cs21 j := by rw [← hcs22, cu_ne (by omega)]
    exact e9.trans (hX j hj)
  show Fj 1 23 5449 mX11_init 91 [(0, vr 103)] [] 115 cs22 11 4354 Q
  refine F_aload 0 0 dX11_init_91 rfl rfl ?_
  show Fj 1 23 5449 mX11_init 92 [(0, vr 103)] [vr 103] 115 cs22 11 4354 Q
  refine F_iconst dX11_init_92 ?_
  show Fj 1 23 5449 mX11_init 93 [(0, vr 103)] [vi 3, vr 103] 115 cs22 11 4354 Q
  obtain ⟨cs23, hcs23⟩ : ∃ x, (cu cs22 115 (cP 0 3 (fun _ => 0))) = x := ⟨_, rfl⟩
  refine F_newaI (N := 3) dX11_init_93 ac_int (by decide) (by decide) (by decide) hcs23 ?_
  have hT103 : cs23 103 = cO 11 (fu (fu (fu (fu (fu (fu (fu (fu (fu (fu (fu (dfl 11) 0 (Sum.inr (some 104))) 1 (Sum.inr (some 105))) 2 (Sum.inr (some 106))) 3 (Sum.inr (some 107))) 4 (Sum.inr (some 108))) 5 (Sum.inr (some 109))) 6 (Sum.inr (some 110))) 8 (Sum.inr (some 111))) 10 (Sum.inr (some 112))) 12 (Sum.inr (some 113))) 13 (Sum.inr (some 114))) := by rw [← hcs23, cu_ne (by decide)]; exact hT103
  have hT104 : cs23 104 = cP 0 4 (fun _ => 0) := by rw [← hcs23, cu_ne (by decide)]; exact hT104
  have hT113 : cs23 113 = cP 0 3 (fun _ => 0) := by rw [← hcs23, cu_ne (by decide)]; exact hT113
  have hW : ∀ j, 103 < j → j < 116 → j ≠ 103 → j ≠ 104 → j ≠ 113 → cs23 j = LW j := by
    intro j hj0 hj h103 h104 h113
    rw [← hcs23]
    by_cases q0 : j = 115
    · subst q0; rw [cu_self]; rfl
    rw [cu_ne q0]
    exact hW j hj0 (by omega) (by omega) (by omega) (by omega)
  have hX : ∀ j, j < 103 → cs23 j = cs j := by
    intro j hj
    have e9 : cs23 j = cs22 j := by rw [← hcs23, cu_ne (by omega)]
    exact e9.trans (hX j hj)
  show Fj 1 23 5449 mX11_init 95 [(0, vr 103)] [vr 115, vr 103] 116 cs23 12 4357 Q
  obtain ⟨cs24, hcs24⟩ : ∃ x, (cu cs23 103 (cO 11 (fu (fu (fu (fu (fu (fu (fu (fu (fu (fu (fu (fu (dfl 11) 0 (Sum.inr (some 104))) 1 (Sum.inr (some 105))) 2 (Sum.inr (some 106))) 3 (Sum.inr (some 107))) 4 (Sum.inr (some 108))) 5 (Sum.inr (some 109))) 6 (Sum.inr (some 110))) 8 (Sum.inr (some 111))) 10 (Sum.inr (some 112))) 12 (Sum.inr (some 113))) 13 (Sum.inr (some 114))) 14 (Sum.inr (some 115))))) = x := ⟨_, rfl⟩
  refine F_putR (r := 115) (i := 103) dX11_init_95 pf_X11_43 refAI (by decide) hT103 hcs24 ?_
  have hT103 : cs24 103 = cO 11 (fu (fu (fu (fu (fu (fu (fu (fu (fu (fu (fu (fu (dfl 11) 0 (Sum.inr (some 104))) 1 (Sum.inr (some 105))) 2 (Sum.inr (some 106))) 3 (Sum.inr (some 107))) 4 (Sum.inr (some 108))) 5 (Sum.inr (some 109))) 6 (Sum.inr (some 110))) 8 (Sum.inr (some 111))) 10 (Sum.inr (some 112))) 12 (Sum.inr (some 113))) 13 (Sum.inr (some 114))) 14 (Sum.inr (some 115))) := by rw [← hcs24, cu_self]
  have hT104 : cs24 104 = cP 0 4 (fun _ => 0) := by rw [← hcs24, cu_ne (by decide)]; exact hT104
  have hT113 : cs24 113 = cP 0 3 (fun _ => 0) := by rw [← hcs24, cu_ne (by decide)]; exact hT113
  have hW : ∀ j, 103 < j → j < 116 → j ≠ 103 → j ≠ 104 → j ≠ 113 → cs24 j = LW j := by
    intro j hj0 hj h103 h104 h113
    rw [← hcs24]
    rw [cu_ne (by omega)]
    exact hW j hj0 (by omega) (by omega) (by omega) (by omega)
  have hX : ∀ j, j < 103 → cs24 j = cs j := by
    intro j hj
    have e9 : cs24 j = cs23 j := by rw [← hcs24, cu_ne (by omega)]
    exact e9.trans (hX j hj)
  show Fj 1 23 5449 mX11_init 98 [(0, vr 103)] [] 116 cs24 12 4357 Q
  refine F_aload 0 0 dX11_init_98 rfl rfl ?_
  show Fj 1 23 5449 mX11_init 99 [(0, vr 103)] [vr 103] 116 cs24 12 4357 Q
  refine F_bipush dX11_init_99 (by decide) ?_
  show Fj 1 23 5449 mX11_init 101 [(0, vr 103)] [vi 40, vr 103] 116 cs24 12 4357 Q
  obtain ⟨cs25, hcs25⟩ : ∃ x, (cu cs24 116 (cP 0 40 (fun _ => 0))) = x := ⟨_, rfl⟩
  refine F_newaI (N := 40) dX11_init_101 ac_int (by decide) (by decide) (by decide) hcs25 ?_
  have hT103 : cs25 103 = cO 11 (fu (fu (fu (fu (fu (fu (fu (fu (fu (fu (fu (fu (dfl 11) 0 (Sum.inr (some 104))) 1 (Sum.inr (some 105))) 2 (Sum.inr (some 106))) 3 (Sum.inr (some 107))) 4 (Sum.inr (some 108))) 5 (Sum.inr (some 109))) 6 (Sum.inr (some 110))) 8 (Sum.inr (some 111))) 10 (Sum.inr (some 112))) 12 (Sum.inr (some 113))) 13 (Sum.inr (some 114))) 14 (Sum.inr (some 115))) := by rw [← hcs25, cu_ne (by decide)]; exact hT103
  have hT104 : cs25 104 = cP 0 4 (fun _ => 0) := by rw [← hcs25, cu_ne (by decide)]; exact hT104
  have hT113 : cs25 113 = cP 0 3 (fun _ => 0) := by rw [← hcs25, cu_ne (by decide)]; exact hT113
  have hW : ∀ j, 103 < j → j < 117 → j ≠ 103 → j ≠ 104 → j ≠ 113 → cs25 j = LW j := by
    intro j hj0 hj h103 h104 h113
    rw [← hcs25]
    by_cases q0 : j = 116
    · subst q0; rw [cu_self]; rfl
    rw [cu_ne q0]
    exact hW j hj0 (by omega) (by omega) (by omega) (by omega)
  have hX : ∀ j, j < 103 → cs25 j = cs j := by
    intro j hj
    have e9 : cs25 j = cs24 j := by rw [← hcs25, cu_ne (by omega)]
    exact e9.trans (hX j hj)
  show Fj 1 23 5449 mX11_init 103 [(0, vr 103)] [vr 116, vr 103] 117 cs25 13 4397 Q
  obtain ⟨cs26, hcs26⟩ : ∃ x, (cu cs25 103 (cO 11 (fu (fu (fu (fu (fu (fu (fu (fu (fu (fu (fu (fu (fu (dfl 11) 0 (Sum.inr (some 104))) 1 (Sum.inr (some 105))) 2 (Sum.inr (some 106))) 3 (Sum.inr (some 107))) 4 (Sum.inr (some 108))) 5 (Sum.inr (some 109))) 6 (Sum.inr (some 110))) 8 (Sum.inr (some 111))) 10 (Sum.inr (some 112))) 12 (Sum.inr (some 113))) 13 (Sum.inr (some 114))) 14 (Sum.inr (some 115))) 15 (Sum.inr (some 116))))) = x := ⟨_, rfl⟩
  refine F_putR (r := 116) (i := 103) dX11_init_103 pf_X11_46 refAI (by decide) hT103 hcs26 ?_
  have hT103 : cs26 103 = cO 11 (fu (fu (fu (fu (fu (fu (fu (fu (fu (fu (fu (fu (fu (dfl 11) 0 (Sum.inr (some 104))) 1 (Sum.inr (some 105))) 2 (Sum.inr (some 106))) 3 (Sum.inr (some 107))) 4 (Sum.inr (some 108))) 5 (Sum.inr (some 109))) 6 (Sum.inr (some 110))) 8 (Sum.inr (some 111))) 10 (Sum.inr (some 112))) 12 (Sum.inr (some 113))) 13 (Sum.inr (some 114))) 14 (Sum.inr (some 115))) 15 (Sum.inr (some 116))) := by rw [← hcs26, cu_self]
  have hT104 : cs26 104 = cP 0 4 (fun _ => 0) := by rw [← hcs26, cu_ne (by decide)]; exact hT104
  have hT113 : cs26 113 = cP 0 3 (fun _ => 0) := by rw [← hcs26, cu_ne (by decide)]; exact hT113
  have hW : ∀ j, 103 < j → j < 117 → j ≠ 103 → j ≠ 104 → j ≠ 113 → cs26 j = LW j := by
    intro j hj0 hj h103 h104 h113
    rw [← hcs26]
    rw [cu_ne (by omega)]
    exact hW j hj0 (by omega) (by omega) (by omega) (by omega)
  have hX : ∀ j, j < 103 → cs26 j = cs j := by
    intro j hj
    have e9 : cs26 j = cs25 j := by rw [← hcs26, cu_ne (by omega)]
    exact e9.trans (hX j hj)
  show Fj 1 23 5449 mX11_init 106 [(0, vr 103)] [] 117 cs26 13 4397 Q
  refine F_aload 0 0 dX11_init_106 rfl rfl ?_
  show Fj 1 23 5449 mX11_init 107 [(0, vr 103)] [vr 103] 117 cs26 13 4397 Q
  refine F_bipush dX11_init_107 (by decide) ?_
  show Fj 1 23 5449 mX11_init 109 [(0, vr 103)] [vi 40, vr 103] 117 cs26 13 4397 Q
  obtain ⟨cs27, hcs27⟩ : ∃ x, (cu cs26 117 (cP 0 40 (fun _ => 0))) = x := ⟨_, rfl⟩
  refine F_newaI (N := 40) dX11_init_109 ac_int (by decide) (by decide) (by decide) hcs27 ?_
  have hT103 : cs27 103 = cO 11 (fu (fu (fu (fu (fu (fu (fu (fu (fu (fu (fu (fu (fu (dfl 11) 0 (Sum.inr (some 104))) 1 (Sum.inr (some 105))) 2 (Sum.inr (some 106))) 3 (Sum.inr (some 107))) 4 (Sum.inr (some 108))) 5 (Sum.inr (some 109))) 6 (Sum.inr (some 110))) 8 (Sum.inr (some 111))) 10 (Sum.inr (some 112))) 12 (Sum.inr (some 113))) 13 (Sum.inr (some 114))) 14 (Sum.inr (some 115))) 15 (Sum.inr (some 116))) := by rw [← hcs27, cu_ne (by decide)]; exact hT103
  have hT104 : cs27 104 = cP 0 4 (fun _ => 0) := by rw [← hcs27, cu_ne (by decide)]; exact hT104
  have hT113 : cs27 113 = cP 0 3 (fun _ => 0) := by rw [← hcs27, cu_ne (by decide)]; exact hT113
  have hW : ∀ j, 103 < j → j < 118 → j ≠ 103 → j ≠ 104 → j ≠ 113 → cs27 j = LW j := by
    intro j hj0 hj h103 h104 h113
    rw [← hcs27]
    by_cases q0 : j = 117
    · subst q0; rw [cu_self]; rfl
    rw [cu_ne q0]
    exact hW j hj0 (by omega) (by omega) (by omega) (by omega)
  have hX : ∀ j, j < 103 → cs27 j = cs j := by
    intro j hj
    have e9 : cs27 j = cs26 j := by rw [← hcs27, cu_ne (by omega)]
    exact e9.trans (hX j hj)
  show Fj 1 23 5449 mX11_init 111 [(0, vr 103)] [vr 117, vr 103] 118 cs27 14 4437 Q
  obtain ⟨cs28, hcs28⟩ : ∃ x, (cu cs27 103 (cO 11 (fu (fu (fu (fu (fu (fu (fu (fu (fu (fu (fu (fu (fu (fu (dfl 11) 0 (Sum.inr (some 104))) 1 (Sum.inr (some 105))) 2 (Sum.inr (some 106))) 3 (Sum.inr (some 107))) 4 (Sum.inr (some 108))) 5 (Sum.inr (some 109))) 6 (Sum.inr (some 110))) 8 (Sum.inr (some 111))) 10 (Sum.inr (some 112))) 12 (Sum.inr (some 113))) 13 (Sum.inr (some 114))) 14 (Sum.inr (some 115))) 15 (Sum.inr (some 116))) 16 (Sum.inr (some 117))))) = x := ⟨_, rfl⟩
  refine F_putR (r := 117) (i := 103) dX11_init_111 pf_X11_49 refAI (by decide) hT103 hcs28 ?_
  have hT103 : cs28 103 = cO 11 (fu (fu (fu (fu (fu (fu (fu (fu (fu (fu (fu (fu (fu (fu (dfl 11) 0 (Sum.inr (some 104))) 1 (Sum.inr (some 105))) 2 (Sum.inr (some 106))) 3 (Sum.inr (some 107))) 4 (Sum.inr (some 108))) 5 (Sum.inr (some 109))) 6 (Sum.inr (some 110))) 8 (Sum.inr (some 111))) 10 (Sum.inr (some 112))) 12 (Sum.inr (some 113))) 13 (Sum.inr (some 114))) 14 (Sum.inr (some 115))) 15 (Sum.inr (some 116))) 16 (Sum.inr (some 117))) := by rw [← hcs28, cu_self]
  have hT104 : cs28 104 = cP 0 4 (fun _ => 0) := by rw [← hcs28, cu_ne (by decide)]; exact hT104
  have hT113 : cs28 113 = cP 0 3 (fun _ => 0) := by rw [← hcs28, cu_ne (by decide)]; exact hT113
  have hW : ∀ j, 103 < j → j < 118 → j ≠ 103 → j ≠ 104 → j ≠ 113 → cs28 j = LW j := by
    intro j hj0 hj h103 h104 h113
    rw [← hcs28]
    rw [cu_ne (by omega)]
    exact hW j hj0 (by omega) (by omega) (by omega) (by omega)
  have hX : ∀ j, j < 103 → cs28 j = cs j := by
    intro j hj
    have e9 : cs28 j = cs27 j := by rw [← hcs28, cu_ne (by omega)]
    exact e9.trans (hX j hj)
  show Fj 1 23 5449 mX11_init 114 [(0, vr 103)] [] 118 cs28 14 4437 Q
  refine F_aload 0 0 dX11_init_114 rfl rfl ?_
  show Fj 1 23 5449 mX11_init 115 [(0, vr 103)] [vr 103] 118 cs28 14 4437 Q
  refine F_bipush dX11_init_115 (by decide) ?_
  show Fj 1 23 5449 mX11_init 117 [(0, vr 103)] [vi 40, vr 103] 118 cs28 14 4437 Q
  obtain ⟨cs29, hcs29⟩ : ∃ x, (cu cs28 118 (cP 0 40 (fun _ => 0))) = x := ⟨_, rfl⟩
  refine F_newaI (N := 40) dX11_init_117 ac_int (by decide) (by decide) (by decide) hcs29 ?_
  have hT103 : cs29 103 = cO 11 (fu (fu (fu (fu (fu (fu (fu (fu (fu (fu (fu (fu (fu (fu (dfl 11) 0 (Sum.inr (some 104))) 1 (Sum.inr (some 105))) 2 (Sum.inr (some 106))) 3 (Sum.inr (some 107))) 4 (Sum.inr (some 108))) 5 (Sum.inr (some 109))) 6 (Sum.inr (some 110))) 8 (Sum.inr (some 111))) 10 (Sum.inr (some 112))) 12 (Sum.inr (some 113))) 13 (Sum.inr (some 114))) 14 (Sum.inr (some 115))) 15 (Sum.inr (some 116))) 16 (Sum.inr (some 117))) := by rw [← hcs29, cu_ne (by decide)]; exact hT103
  have hT104 : cs29 104 = cP 0 4 (fun _ => 0) := by rw [← hcs29, cu_ne (by decide)]; exact hT104
  have hT113 : cs29 113 = cP 0 3 (fun _ => 0) := by rw [← hcs29, cu_ne (by decide)]; exact hT113
  have hW : ∀ j, 103 < j → j < 119 → j ≠ 103 → j ≠ 104 → j ≠ 113 → cs29 j = LW j := by
    intro j hj0 hj h103 h104 h113
    rw [← hcs29]
    by_cases q0 : j = 118
    · subst q0; rw [cu_self]; rfl
    rw [cu_ne q0]
    exact hW j hj0 (by omega) (by omega) (by omega) (by omega)
  have hX : ∀ j, j < 103 → cs29 j = cs j := by
    intro j hj
    have e9 : cs29 j = cs28 j := by rw [← hcs29, cu_ne (by omega)]
    exact e9.trans (hX j hj)
  show Fj 1 23 5449 mX11_init 119 [(0, vr 103)] [vr 118, vr 103] 119 cs29 15 4477 Q
  obtain ⟨cs30, hcs30⟩ : ∃ x, (cu cs29 103 (cO 11 (fu (fu (fu (fu (fu (fu (fu (fu (fu (fu (fu (fu (fu (fu (fu (dfl 11) 0 (Sum.inr (some 104))) 1 (Sum.inr (some 105))) 2 (Sum.inr (some 106))) 3 (Sum.inr (some 107))) 4 (Sum.inr (some 108))) 5 (Sum.inr (some 109))) 6 (Sum.inr (some 110))) 8 (Sum.inr (some 111))) 10 (Sum.inr (some 112))) 12 (Sum.inr (some 113))) 13 (Sum.inr (some 114))) 14 (Sum.inr (some 115))) 15 (Sum.inr (some 116))) 16 (Sum.inr (some 117))) 17 (Sum.inr (some 118))))) = x := ⟨_, rfl⟩
  refine F_putR (r := 118) (i := 103) dX11_init_119 pf_X11_52 refAI (by decide) hT103 hcs30 ?_
  have hT103 : cs30 103 = cO 11 (fu (fu (fu (fu (fu (fu (fu (fu (fu (fu (fu (fu (fu (fu (fu (dfl 11) 0 (Sum.inr (some 104))) 1 (Sum.inr (some 105))) 2 (Sum.inr (some 106))) 3 (Sum.inr (some 107))) 4 (Sum.inr (some 108))) 5 (Sum.inr (some 109))) 6 (Sum.inr (some 110))) 8 (Sum.inr (some 111))) 10 (Sum.inr (some 112))) 12 (Sum.inr (some 113))) 13 (Sum.inr (some 114))) 14 (Sum.inr (some 115))) 15 (Sum.inr (some 116))) 16 (Sum.inr (some 117))) 17 (Sum.inr (some 118))) := by rw [← hcs30, cu_self]
  have hT104 : cs30 104 = cP 0 4 (fun _ => 0) := by rw [← hcs30, cu_ne (by decide)]; exact hT104
  have hT113 : cs30 113 = cP 0 3 (fun _ => 0) := by rw [← hcs30, cu_ne (by decide)]; exact hT113
  have hW : ∀ j, 103 < j → j < 119 → j ≠ 103 → j ≠ 104 → j ≠ 113 → cs30 j = LW j := by
    intro j hj0 hj h103 h104 h113
    rw [← hcs30]
    rw [cu_ne (by omega)]
    exact hW j hj0 (by omega) (by omega) (by omega) (by omega)
  have hX : ∀ j, j < 103 → cs30 j = cs j := by
    intro j hj
    have e9 : cs30 j = cs29 j := by rw [← hcs30, cu_ne (by omega)]
    exact e9.trans (hX j hj)
  show Fj 1 23 5449 mX11_init 122 [(0, vr 103)] [] 119 cs30 15 4477 Q
  refine F_aload 0 0 dX11_init_122 rfl rfl ?_
  show Fj 1 23 5449 mX11_init 123 [(0, vr 103)] [vr 103] 119 cs30 15 4477 Q
  refine F_sipush dX11_init_123 (by decide) ?_
  show Fj 1 23 5449 mX11_init 126 [(0, vr 103)] [vi 256, vr 103] 119 cs30 15 4477 Q
  obtain ⟨cs31, hcs31⟩ : ∃ x, (cu cs30 119 (cP 1 256 (fun _ => 0))) = x := ⟨_, rfl⟩
  refine F_newaZ (N := 256) dX11_init_126 ac_boolean (by decide) (by decide) (by decide) hcs31 ?_
  have hT103 : cs31 103 = cO 11 (fu (fu (fu (fu (fu (fu (fu (fu (fu (fu (fu (fu (fu (fu (fu (dfl 11) 0 (Sum.inr (some 104))) 1 (Sum.inr (some 105))) 2 (Sum.inr (some 106))) 3 (Sum.inr (some 107))) 4 (Sum.inr (some 108))) 5 (Sum.inr (some 109))) 6 (Sum.inr (some 110))) 8 (Sum.inr (some 111))) 10 (Sum.inr (some 112))) 12 (Sum.inr (some 113))) 13 (Sum.inr (some 114))) 14 (Sum.inr (some 115))) 15 (Sum.inr (some 116))) 16 (Sum.inr (some 117))) 17 (Sum.inr (some 118))) := by rw [← hcs31, cu_ne (by decide)]; exact hT103
  have hT104 : cs31 104 = cP 0 4 (fun _ => 0) := by rw [← hcs31, cu_ne (by decide)]; exact hT104
  have hT113 : cs31 113 = cP 0 3 (fun _ => 0) := by rw [← hcs31, cu_ne (by decide)]; exact hT113
  have hW : ∀ j, 103 < j → j < 120 → j ≠ 103 → j ≠ 104 → j ≠ 113 → cs31 j = LW j := by
    intro j hj0 hj h103 h104 h113
    rw [← hcs31]
    by_cases q0 : j = 119
    · subst q0; rw [cu_self]; rfl
    rw [cu_ne q0]
    exact hW j hj0 (by omega) (by omega) (by omega) (by omega)
  have hX : ∀ j, j < 103 → cs31 j = cs j := by
    intro j hj
    have e9 : cs31 j = cs30 j := by rw [← hcs31, cu_ne (by omega)]
    exact e9.trans (hX j hj)
  show Fj 1 23 5449 mX11_init 128 [(0, vr 103)] [vr 119, vr 103] 120 cs31 16 4733 Q
  obtain ⟨cs32, hcs32⟩ : ∃ x, (cu cs31 103 (cO 11 (fu (fu (fu (fu (fu (fu (fu (fu (fu (fu (fu (fu (fu (fu (fu (fu (dfl 11) 0 (Sum.inr (some 104))) 1 (Sum.inr (some 105))) 2 (Sum.inr (some 106))) 3 (Sum.inr (some 107))) 4 (Sum.inr (some 108))) 5 (Sum.inr (some 109))) 6 (Sum.inr (some 110))) 8 (Sum.inr (some 111))) 10 (Sum.inr (some 112))) 12 (Sum.inr (some 113))) 13 (Sum.inr (some 114))) 14 (Sum.inr (some 115))) 15 (Sum.inr (some 116))) 16 (Sum.inr (some 117))) 17 (Sum.inr (some 118))) 21 (Sum.inr (some 119))))) = x := ⟨_, rfl⟩
  refine F_putR (r := 119) (i := 103) dX11_init_128 pf_X11_55 refAZ (by decide) hT103 hcs32 ?_
  have hT103 : cs32 103 = cO 11 (fu (fu (fu (fu (fu (fu (fu (fu (fu (fu (fu (fu (fu (fu (fu (fu (dfl 11) 0 (Sum.inr (some 104))) 1 (Sum.inr (some 105))) 2 (Sum.inr (some 106))) 3 (Sum.inr (some 107))) 4 (Sum.inr (some 108))) 5 (Sum.inr (some 109))) 6 (Sum.inr (some 110))) 8 (Sum.inr (some 111))) 10 (Sum.inr (some 112))) 12 (Sum.inr (some 113))) 13 (Sum.inr (some 114))) 14 (Sum.inr (some 115))) 15 (Sum.inr (some 116))) 16 (Sum.inr (some 117))) 17 (Sum.inr (some 118))) 21 (Sum.inr (some 119))) := by rw [← hcs32, cu_self]
  have hT104 : cs32 104 = cP 0 4 (fun _ => 0) := by rw [← hcs32, cu_ne (by decide)]; exact hT104
  have hT113 : cs32 113 = cP 0 3 (fun _ => 0) := by rw [← hcs32, cu_ne (by decide)]; exact hT113
  have hW : ∀ j, 103 < j → j < 120 → j ≠ 103 → j ≠ 104 → j ≠ 113 → cs32 j = LW j := by
    intro j hj0 hj h103 h104 h113
    rw [← hcs32]
    rw [cu_ne (by omega)]
    exact hW j hj0 (by omega) (by omega) (by omega) (by omega)
  have hX : ∀ j, j < 103 → cs32 j = cs j := by
    intro j hj
    have e9 : cs32 j = cs31 j := by rw [← hcs32, cu_ne (by omega)]
    exact e9.trans (hX j hj)
  show Fj 1 23 5449 mX11_init 131 [(0, vr 103)] [] 120 cs32 16 4733 Q
  refine F_aload 0 0 dX11_init_131 rfl rfl ?_
  show Fj 1 23 5449 mX11_init 132 [(0, vr 103)] [vr 103] 120 cs32 16 4733 Q
  refine F_sipush dX11_init_132 (by decide) ?_
  show Fj 1 23 5449 mX11_init 135 [(0, vr 103)] [vi 256, vr 103] 120 cs32 16 4733 Q
  obtain ⟨cs33, hcs33⟩ : ∃ x, (cu cs32 120 (cP 1 256 (fun _ => 0))) = x := ⟨_, rfl⟩
  refine F_newaZ (N := 256) dX11_init_135 ac_boolean (by decide) (by decide) (by decide) hcs33 ?_
  have hT103 : cs33 103 = cO 11 (fu (fu (fu (fu (fu (fu (fu (fu (fu (fu (fu (fu (fu (fu (fu (fu (dfl 11) 0 (Sum.inr (some 104))) 1 (Sum.inr (some 105))) 2 (Sum.inr (some 106))) 3 (Sum.inr (some 107))) 4 (Sum.inr (some 108))) 5 (Sum.inr (some 109))) 6 (Sum.inr (some 110))) 8 (Sum.inr (some 111))) 10 (Sum.inr (some 112))) 12 (Sum.inr (some 113))) 13 (Sum.inr (some 114))) 14 (Sum.inr (some 115))) 15 (Sum.inr (some 116))) 16 (Sum.inr (some 117))) 17 (Sum.inr (some 118))) 21 (Sum.inr (some 119))) := by rw [← hcs33, cu_ne (by decide)]; exact hT103
  have hT104 : cs33 104 = cP 0 4 (fun _ => 0) := by rw [← hcs33, cu_ne (by decide)]; exact hT104
  have hT113 : cs33 113 = cP 0 3 (fun _ => 0) := by rw [← hcs33, cu_ne (by decide)]; exact hT113
  have hW : ∀ j, 103 < j → j < 121 → j ≠ 103 → j ≠ 104 → j ≠ 113 → cs33 j = LW j := by
    intro j hj0 hj h103 h104 h113
    rw [← hcs33]
    by_cases q0 : j = 120
    · subst q0; rw [cu_self]; rfl
    rw [cu_ne q0]
    exact hW j hj0 (by omega) (by omega) (by omega) (by omega)
  have hX : ∀ j, j < 103 → cs33 j = cs j := by
    intro j hj
    have e9 : cs33 j = cs32 j := by rw [← hcs33, cu_ne (by omega)]
    exact e9.trans (hX j hj)
  show Fj 1 23 5449 mX11_init 137 [(0, vr 103)] [vr 120, vr 103] 121 cs33 17 4989 Q
  obtain ⟨cs34, hcs34⟩ : ∃ x, (cu cs33 103 (cO 11 (fu (fu (fu (fu (fu (fu (fu (fu (fu (fu (fu (fu (fu (fu (fu (fu (fu (dfl 11) 0 (Sum.inr (some 104))) 1 (Sum.inr (some 105))) 2 (Sum.inr (some 106))) 3 (Sum.inr (some 107))) 4 (Sum.inr (some 108))) 5 (Sum.inr (some 109))) 6 (Sum.inr (some 110))) 8 (Sum.inr (some 111))) 10 (Sum.inr (some 112))) 12 (Sum.inr (some 113))) 13 (Sum.inr (some 114))) 14 (Sum.inr (some 115))) 15 (Sum.inr (some 116))) 16 (Sum.inr (some 117))) 17 (Sum.inr (some 118))) 21 (Sum.inr (some 119))) 22 (Sum.inr (some 120))))) = x := ⟨_, rfl⟩
  refine F_putR (r := 120) (i := 103) dX11_init_137 pf_X11_59 refAZ (by decide) hT103 hcs34 ?_
  have hT103 : cs34 103 = cO 11 (fu (fu (fu (fu (fu (fu (fu (fu (fu (fu (fu (fu (fu (fu (fu (fu (fu (dfl 11) 0 (Sum.inr (some 104))) 1 (Sum.inr (some 105))) 2 (Sum.inr (some 106))) 3 (Sum.inr (some 107))) 4 (Sum.inr (some 108))) 5 (Sum.inr (some 109))) 6 (Sum.inr (some 110))) 8 (Sum.inr (some 111))) 10 (Sum.inr (some 112))) 12 (Sum.inr (some 113))) 13 (Sum.inr (some 114))) 14 (Sum.inr (some 115))) 15 (Sum.inr (some 116))) 16 (Sum.inr (some 117))) 17 (Sum.inr (some 118))) 21 (Sum.inr (some 119))) 22 (Sum.inr (some 120))) := by rw [← hcs34, cu_self]
  have hT104 : cs34 104 = cP 0 4 (fun _ => 0) := by rw [← hcs34, cu_ne (by decide)]; exact hT104
  have hT113 : cs34 113 = cP 0 3 (fun _ => 0) := by rw [← hcs34, cu_ne (by decide)]; exact hT113
  have hW : ∀ j, 103 < j → j < 121 → j ≠ 103 → j ≠ 104 → j ≠ 113 → cs34 j = LW j := by
    intro j hj0 hj h103 h104 h113
    rw [← hcs34]
    rw [cu_ne (by omega)]
    exact hW j hj0 (by omega) (by omega) (by omega) (by omega)
  have hX : ∀ j, j < 103 → cs34 j = cs j := by
    intro j hj
    have e9 : cs34 j = cs33 j := by rw [← hcs34, cu_ne (by omega)]
    exact e9.trans (hX j hj)
  show Fj 1 23 5449 mX11_init 140 [(0, vr 103)] [] 121 cs34 17 4989 Q
  refine F_aload 0 0 dX11_init_140 rfl rfl ?_
  show Fj 1 23 5449 mX11_init 141 [(0, vr 103)] [vr 103] 121 cs34 17 4989 Q
  refine F_bipush dX11_init_141 (by decide) ?_
  show Fj 1 23 5449 mX11_init 143 [(0, vr 103)] [vi 8, vr 103] 121 cs34 17 4989 Q
  obtain ⟨cs35, hcs35⟩ : ∃ x, (cu cs34 121 (cP 0 8 (fun _ => 0))) = x := ⟨_, rfl⟩
  refine F_newaI (N := 8) dX11_init_143 ac_int (by decide) (by decide) (by decide) hcs35 ?_
  have hT103 : cs35 103 = cO 11 (fu (fu (fu (fu (fu (fu (fu (fu (fu (fu (fu (fu (fu (fu (fu (fu (fu (dfl 11) 0 (Sum.inr (some 104))) 1 (Sum.inr (some 105))) 2 (Sum.inr (some 106))) 3 (Sum.inr (some 107))) 4 (Sum.inr (some 108))) 5 (Sum.inr (some 109))) 6 (Sum.inr (some 110))) 8 (Sum.inr (some 111))) 10 (Sum.inr (some 112))) 12 (Sum.inr (some 113))) 13 (Sum.inr (some 114))) 14 (Sum.inr (some 115))) 15 (Sum.inr (some 116))) 16 (Sum.inr (some 117))) 17 (Sum.inr (some 118))) 21 (Sum.inr (some 119))) 22 (Sum.inr (some 120))) := by rw [← hcs35, cu_ne (by decide)]; exact hT103
  have hT104 : cs35 104 = cP 0 4 (fun _ => 0) := by rw [← hcs35, cu_ne (by decide)]; exact hT104
  have hT113 : cs35 113 = cP 0 3 (fun _ => 0) := by rw [← hcs35, cu_ne (by decide)]; exact hT113
  have hW : ∀ j, 103 < j → j < 122 → j ≠ 103 → j ≠ 104 → j ≠ 113 → cs35 j = LW j := by
    intro j hj0 hj h103 h104 h113
    rw [← hcs35]
    by_cases q0 : j = 121
    · subst q0; rw [cu_self]; rfl
    rw [cu_ne q0]
    exact hW j hj0 (by omega) (by omega) (by omega) (by omega)
  have hX : ∀ j, j < 103 → cs35 j = cs j := by
    intro j hj
    have e9 : cs35 j = cs34 j := by rw [← hcs35, cu_ne (by omega)]
    exact e9.trans (hX j hj)
  show Fj 1 23 5449 mX11_init 145 [(0, vr 103)] [vr 121, vr 103] 122 cs35 18 4997 Q
  obtain ⟨cs36, hcs36⟩ : ∃ x, (cu cs35 103 (cO 11 (fu (fu (fu (fu (fu (fu (fu (fu (fu (fu (fu (fu (fu (fu (fu (fu (fu (fu (dfl 11) 0 (Sum.inr (some 104))) 1 (Sum.inr (some 105))) 2 (Sum.inr (some 106))) 3 (Sum.inr (some 107))) 4 (Sum.inr (some 108))) 5 (Sum.inr (some 109))) 6 (Sum.inr (some 110))) 8 (Sum.inr (some 111))) 10 (Sum.inr (some 112))) 12 (Sum.inr (some 113))) 13 (Sum.inr (some 114))) 14 (Sum.inr (some 115))) 15 (Sum.inr (some 116))) 16 (Sum.inr (some 117))) 17 (Sum.inr (some 118))) 21 (Sum.inr (some 119))) 22 (Sum.inr (some 120))) 23 (Sum.inr (some 121))))) = x := ⟨_, rfl⟩
  refine F_putR (r := 121) (i := 103) dX11_init_145 pf_X11_62 refAI (by decide) hT103 hcs36 ?_
  have hT103 : cs36 103 = cO 11 (fu (fu (fu (fu (fu (fu (fu (fu (fu (fu (fu (fu (fu (fu (fu (fu (fu (fu (dfl 11) 0 (Sum.inr (some 104))) 1 (Sum.inr (some 105))) 2 (Sum.inr (some 106))) 3 (Sum.inr (some 107))) 4 (Sum.inr (some 108))) 5 (Sum.inr (some 109))) 6 (Sum.inr (some 110))) 8 (Sum.inr (some 111))) 10 (Sum.inr (some 112))) 12 (Sum.inr (some 113))) 13 (Sum.inr (some 114))) 14 (Sum.inr (some 115))) 15 (Sum.inr (some 116))) 16 (Sum.inr (some 117))) 17 (Sum.inr (some 118))) 21 (Sum.inr (some 119))) 22 (Sum.inr (some 120))) 23 (Sum.inr (some 121))) := by rw [← hcs36, cu_self]
  have hT104 : cs36 104 = cP 0 4 (fun _ => 0) := by rw [← hcs36, cu_ne (by decide)]; exact hT104
  have hT113 : cs36 113 = cP 0 3 (fun _ => 0) := by rw [← hcs36, cu_ne (by decide)]; exact hT113
  have hW : ∀ j, 103 < j → j < 122 → j ≠ 103 → j ≠ 104 → j ≠ 113 → cs36 j = LW j := by
    intro j hj0 hj h103 h104 h113
    rw [← hcs36]
    rw [cu_ne (by omega)]
    exact hW j hj0 (by omega) (by omega) (by omega) (by omega)
  have hX : ∀ j, j < 103 → cs36 j = cs j := by
    intro j hj
    have e9 : cs36 j = cs35 j := by rw [← hcs36, cu_ne (by omega)]
    exact e9.trans (hX j hj)
  show Fj 1 23 5449 mX11_init 148 [(0, vr 103)] [] 122 cs36 18 4997 Q
  refine F_aload 0 0 dX11_init_148 rfl rfl ?_
  show Fj 1 23 5449 mX11_init 149 [(0, vr 103)] [vr 103] 122 cs36 18 4997 Q
  refine F_bipush dX11_init_149 (by decide) ?_
  show Fj 1 23 5449 mX11_init 151 [(0, vr 103)] [vi 8, vr 103] 122 cs36 18 4997 Q
  obtain ⟨cs37, hcs37⟩ : ∃ x, (cu cs36 122 (cP 0 8 (fun _ => 0))) = x := ⟨_, rfl⟩
  refine F_newaI (N := 8) dX11_init_151 ac_int (by decide) (by decide) (by decide) hcs37 ?_
  have hT103 : cs37 103 = cO 11 (fu (fu (fu (fu (fu (fu (fu (fu (fu (fu (fu (fu (fu (fu (fu (fu (fu (fu (dfl 11) 0 (Sum.inr (some 104))) 1 (Sum.inr (some 105))) 2 (Sum.inr (some 106))) 3 (Sum.inr (some 107))) 4 (Sum.inr (some 108))) 5 (Sum.inr (some 109))) 6 (Sum.inr (some 110))) 8 (Sum.inr (some 111))) 10 (Sum.inr (some 112))) 12 (Sum.inr (some 113))) 13 (Sum.inr (some 114))) 14 (Sum.inr (some 115))) 15 (Sum.inr (some 116))) 16 (Sum.inr (some 117))) 17 (Sum.inr (some 118))) 21 (Sum.inr (some 119))) 22 (Sum.inr (some 120))) 23 (Sum.inr (some 121))) := by rw [← hcs37, cu_ne (by decide)]; exact hT103
  have hT104 : cs37 104 = cP 0 4 (fun _ => 0) := by rw [← hcs37, cu_ne (by decide)]; exact hT104
  have hT113 : cs37 113 = cP 0 3 (fun _ => 0) := by rw [← hcs37, cu_ne (by decide)]; exact hT113
  have hW : ∀ j, 103 < j → j < 123 → j ≠ 103 → j ≠ 104 → j ≠ 113 → cs37 j = LW j := by
    intro j hj0 hj h103 h104 h113
    rw [← hcs37]
    by_cases q0 : j = 122
    · subst q0; rw [cu_self]; rfl
    rw [cu_ne q0]
    exact hW j hj0 (by omega) (by omega) (by omega) (by omega)
  have hX : ∀ j, j < 103 → cs37 j = cs j := by
    intro j hj
    have e9 : cs37 j = cs36 j := by rw [← hcs37, cu_ne (by omega)]
    exact e9.trans (hX j hj)
  show Fj 1 23 5449 mX11_init 153 [(0, vr 103)] [vr 122, vr 103] 123 cs37 19 5005 Q
  obtain ⟨cs38, hcs38⟩ : ∃ x, (cu cs37 103 (cO 11 (fu (fu (fu (fu (fu (fu (fu (fu (fu (fu (fu (fu (fu (fu (fu (fu (fu (fu (fu (dfl 11) 0 (Sum.inr (some 104))) 1 (Sum.inr (some 105))) 2 (Sum.inr (some 106))) 3 (Sum.inr (some 107))) 4 (Sum.inr (some 108))) 5 (Sum.inr (some 109))) 6 (Sum.inr (some 110))) 8 (Sum.inr (some 111))) 10 (Sum.inr (some 112))) 12 (Sum.inr (some 113))) 13 (Sum.inr (some 114))) 14 (Sum.inr (some 115))) 15 (Sum.inr (some 116))) 16 (Sum.inr (some 117))) 17 (Sum.inr (some 118))) 21 (Sum.inr (some 119))) 22 (Sum.inr (some 120))) 23 (Sum.inr (some 121))) 24 (Sum.inr (some 122))))) = x := ⟨_, rfl⟩
  refine F_putR (r := 122) (i := 103) dX11_init_153 pf_X11_65 refAI (by decide) hT103 hcs38 ?_
  have hT103 : cs38 103 = cO 11 (fu (fu (fu (fu (fu (fu (fu (fu (fu (fu (fu (fu (fu (fu (fu (fu (fu (fu (fu (dfl 11) 0 (Sum.inr (some 104))) 1 (Sum.inr (some 105))) 2 (Sum.inr (some 106))) 3 (Sum.inr (some 107))) 4 (Sum.inr (some 108))) 5 (Sum.inr (some 109))) 6 (Sum.inr (some 110))) 8 (Sum.inr (some 111))) 10 (Sum.inr (some 112))) 12 (Sum.inr (some 113))) 13 (Sum.inr (some 114))) 14 (Sum.inr (some 115))) 15 (Sum.inr (some 116))) 16 (Sum.inr (some 117))) 17 (Sum.inr (some 118))) 21 (Sum.inr (some 119))) 22 (Sum.inr (some 120))) 23 (Sum.inr (some 121))) 24 (Sum.inr (some 122))) := by rw [← hcs38, cu_self]
  have hT104 : cs38 104 = cP 0 4 (fun _ => 0) := by rw [← hcs38, cu_ne (by decide)]; exact hT104
  have hT113 : cs38 113 = cP 0 3 (fun _ => 0) := by rw [← hcs38, cu_ne (by decide)]; exact hT113
  have hW : ∀ j, 103 < j → j < 123 → j ≠ 103 → j ≠ 104 → j ≠ 113 → cs38 j = LW j := by
    intro j hj0 hj h103 h104 h113
    rw [← hcs38]
    rw [cu_ne (by omega)]
    exact hW j hj0 (by omega) (by omega) (by omega) (by omega)
  have hX : ∀ j, j < 103 → cs38 j = cs j := by
    intro j hj
    have e9 : cs38 j = cs37 j := by rw [← hcs38, cu_ne (by omega)]
    exact e9.trans (hX j hj)
  show Fj 1 23 5449 mX11_init 156 [(0, vr 103)] [] 123 cs38 19 5005 Q
  refine F_aload 0 0 dX11_init_156 rfl rfl ?_
  show Fj 1 23 5449 mX11_init 157 [(0, vr 103)] [vr 103] 123 cs38 19 5005 Q
  refine F_bipush dX11_init_157 (by decide) ?_
  show Fj 1 23 5449 mX11_init 159 [(0, vr 103)] [vi 28, vr 103] 123 cs38 19 5005 Q
  obtain ⟨cs39, hcs39⟩ : ∃ x, (cu cs38 123 (cP 0 28 (fun _ => 0))) = x := ⟨_, rfl⟩
  refine F_newaI (N := 28) dX11_init_159 ac_int (by decide) (by decide) (by decide) hcs39 ?_
  have hT103 : cs39 103 = cO 11 (fu (fu (fu (fu (fu (fu (fu (fu (fu (fu (fu (fu (fu (fu (fu (fu (fu (fu (fu (dfl 11) 0 (Sum.inr (some 104))) 1 (Sum.inr (some 105))) 2 (Sum.inr (some 106))) 3 (Sum.inr (some 107))) 4 (Sum.inr (some 108))) 5 (Sum.inr (some 109))) 6 (Sum.inr (some 110))) 8 (Sum.inr (some 111))) 10 (Sum.inr (some 112))) 12 (Sum.inr (some 113))) 13 (Sum.inr (some 114))) 14 (Sum.inr (some 115))) 15 (Sum.inr (some 116))) 16 (Sum.inr (some 117))) 17 (Sum.inr (some 118))) 21 (Sum.inr (some 119))) 22 (Sum.inr (some 120))) 23 (Sum.inr (some 121))) 24 (Sum.inr (some 122))) := by rw [← hcs39, cu_ne (by decide)]; exact hT103
  have hT104 : cs39 104 = cP 0 4 (fun _ => 0) := by rw [← hcs39, cu_ne (by decide)]; exact hT104
  have hT113 : cs39 113 = cP 0 3 (fun _ => 0) := by rw [← hcs39, cu_ne (by decide)]; exact hT113
  have hW : ∀ j, 103 < j → j < 124 → j ≠ 103 → j ≠ 104 → j ≠ 113 → cs39 j = LW j := by
    intro j hj0 hj h103 h104 h113
    rw [← hcs39]
    by_cases q0 : j = 123
    · subst q0; rw [cu_self]; rfl
    rw [cu_ne q0]
    exact hW j hj0 (by omega) (by omega) (by omega) (by omega)
  have hX : ∀ j, j < 103 → cs39 j = cs j := by
    intro j hj
    have e9 : cs39 j = cs38 j := by rw [← hcs39, cu_ne (by omega)]
    exact e9.trans (hX j hj)
  show Fj 1 23 5449 mX11_init 161 [(0, vr 103)] [vr 123, vr 103] 124 cs39 20 5033 Q
  obtain ⟨cs40, hcs40⟩ : ∃ x, (cu cs39 103 (cO 11 (fu (fu (fu (fu (fu (fu (fu (fu (fu (fu (fu (fu (fu (fu (fu (fu (fu (fu (fu (fu (dfl 11) 0 (Sum.inr (some 104))) 1 (Sum.inr (some 105))) 2 (Sum.inr (some 106))) 3 (Sum.inr (some 107))) 4 (Sum.inr (some 108))) 5 (Sum.inr (some 109))) 6 (Sum.inr (some 110))) 8 (Sum.inr (some 111))) 10 (Sum.inr (some 112))) 12 (Sum.inr (some 113))) 13 (Sum.inr (some 114))) 14 (Sum.inr (some 115))) 15 (Sum.inr (some 116))) 16 (Sum.inr (some 117))) 17 (Sum.inr (some 118))) 21 (Sum.inr (some 119))) 22 (Sum.inr (some 120))) 23 (Sum.inr (some 121))) 24 (Sum.inr (some 122))) 29 (Sum.inr (some 123))))) = x := ⟨_, rfl⟩
  refine F_putR (r := 123) (i := 103) dX11_init_161 pf_X11_68 refAI (by decide) hT103 hcs40 ?_
  have hT103 : cs40 103 = cO 11 (fu (fu (fu (fu (fu (fu (fu (fu (fu (fu (fu (fu (fu (fu (fu (fu (fu (fu (fu (fu (dfl 11) 0 (Sum.inr (some 104))) 1 (Sum.inr (some 105))) 2 (Sum.inr (some 106))) 3 (Sum.inr (some 107))) 4 (Sum.inr (some 108))) 5 (Sum.inr (some 109))) 6 (Sum.inr (some 110))) 8 (Sum.inr (some 111))) 10 (Sum.inr (some 112))) 12 (Sum.inr (some 113))) 13 (Sum.inr (some 114))) 14 (Sum.inr (some 115))) 15 (Sum.inr (some 116))) 16 (Sum.inr (some 117))) 17 (Sum.inr (some 118))) 21 (Sum.inr (some 119))) 22 (Sum.inr (some 120))) 23 (Sum.inr (some 121))) 24 (Sum.inr (some 122))) 29 (Sum.inr (some 123))) := by rw [← hcs40, cu_self]
  have hT104 : cs40 104 = cP 0 4 (fun _ => 0) := by rw [← hcs40, cu_ne (by decide)]; exact hT104
  have hT113 : cs40 113 = cP 0 3 (fun _ => 0) := by rw [← hcs40, cu_ne (by decide)]; exact hT113
  have hW : ∀ j, 103 < j → j < 124 → j ≠ 103 → j ≠ 104 → j ≠ 113 → cs40 j = LW j := by
    intro j hj0 hj h103 h104 h113
    rw [← hcs40]
    rw [cu_ne (by omega)]
    exact hW j hj0 (by omega) (by omega) (by omega) (by omega)
  have hX : ∀ j, j < 103 → cs40 j = cs j := by
    intro j hj
    have e9 : cs40 j = cs39 j := by rw [← hcs40, cu_ne (by omega)]
    exact e9.trans (hX j hj)
  show Fj 1 23 5449 mX11_init 164 [(0, vr 103)] [] 124 cs40 20 5033 Q
  refine F_aload 0 0 dX11_init_164 rfl rfl ?_
  show Fj 1 23 5449 mX11_init 165 [(0, vr 103)] [vr 103] 124 cs40 20 5033 Q
  refine F_sipush dX11_init_165 (by decide) ?_
  show Fj 1 23 5449 mX11_init 168 [(0, vr 103)] [vi 256, vr 103] 124 cs40 20 5033 Q
  obtain ⟨cs41, hcs41⟩ : ∃ x, (cu cs40 124 (cP 1 256 (fun _ => 0))) = x := ⟨_, rfl⟩
  refine F_newaZ (N := 256) dX11_init_168 ac_boolean (by decide) (by decide) (by decide) hcs41 ?_
  have hT103 : cs41 103 = cO 11 (fu (fu (fu (fu (fu (fu (fu (fu (fu (fu (fu (fu (fu (fu (fu (fu (fu (fu (fu (fu (dfl 11) 0 (Sum.inr (some 104))) 1 (Sum.inr (some 105))) 2 (Sum.inr (some 106))) 3 (Sum.inr (some 107))) 4 (Sum.inr (some 108))) 5 (Sum.inr (some 109))) 6 (Sum.inr (some 110))) 8 (Sum.inr (some 111))) 10 (Sum.inr (some 112))) 12 (Sum.inr (some 113))) 13 (Sum.inr (some 114))) 14 (Sum.inr (some 115))) 15 (Sum.inr (some 116))) 16 (Sum.inr (some 117))) 17 (Sum.inr (some 118))) 21 (Sum.inr (some 119))) 22 (Sum.inr (some 120))) 23 (Sum.inr (some 121))) 24 (Sum.inr (some 122))) 29 (Sum.inr (some 123))) := by rw [← hcs41, cu_ne (by decide)]; exact hT103
  have hT104 : cs41 104 = cP 0 4 (fun _ => 0) := by rw [← hcs41, cu_ne (by decide)]; exact hT104
  have hT113 : cs41 113 = cP 0 3 (fun _ => 0) := by rw [← hcs41, cu_ne (by decide)]; exact hT113
  have hW : ∀ j, 103 < j → j < 125 → j ≠ 103 → j ≠ 104 → j ≠ 113 → cs41 j = LW j := by
    intro j hj0 hj h103 h104 h113
    rw [← hcs41]
    by_cases q0 : j = 124
    · subst q0; rw [cu_self]; rfl
    rw [cu_ne q0]
    exact hW j hj0 (by omega) (by omega) (by omega) (by omega)
  have hX : ∀ j, j < 103 → cs41 j = cs j := by
    intro j hj
    have e9 : cs41 j = cs40 j := by rw [← hcs41, cu_ne (by omega)]
    exact e9.trans (hX j hj)
  show Fj 1 23 5449 mX11_init 170 [(0, vr 103)] [vr 124, vr 103] 125 cs41 21 5289 Q
  obtain ⟨cs42, hcs42⟩ : ∃ x, (cu cs41 103 (cO 11 (fu (fu (fu (fu (fu (fu (fu (fu (fu (fu (fu (fu (fu (fu (fu (fu (fu (fu (fu (fu (fu (dfl 11) 0 (Sum.inr (some 104))) 1 (Sum.inr (some 105))) 2 (Sum.inr (some 106))) 3 (Sum.inr (some 107))) 4 (Sum.inr (some 108))) 5 (Sum.inr (some 109))) 6 (Sum.inr (some 110))) 8 (Sum.inr (some 111))) 10 (Sum.inr (some 112))) 12 (Sum.inr (some 113))) 13 (Sum.inr (some 114))) 14 (Sum.inr (some 115))) 15 (Sum.inr (some 116))) 16 (Sum.inr (some 117))) 17 (Sum.inr (some 118))) 21 (Sum.inr (some 119))) 22 (Sum.inr (some 120))) 23 (Sum.inr (some 121))) 24 (Sum.inr (some 122))) 29 (Sum.inr (some 123))) 30 (Sum.inr (some 124))))) = x := ⟨_, rfl⟩
  refine F_putR (r := 124) (i := 103) dX11_init_170 pf_X11_71 refAZ (by decide) hT103 hcs42 ?_
  have hT103 : cs42 103 = cO 11 (fu (fu (fu (fu (fu (fu (fu (fu (fu (fu (fu (fu (fu (fu (fu (fu (fu (fu (fu (fu (fu (dfl 11) 0 (Sum.inr (some 104))) 1 (Sum.inr (some 105))) 2 (Sum.inr (some 106))) 3 (Sum.inr (some 107))) 4 (Sum.inr (some 108))) 5 (Sum.inr (some 109))) 6 (Sum.inr (some 110))) 8 (Sum.inr (some 111))) 10 (Sum.inr (some 112))) 12 (Sum.inr (some 113))) 13 (Sum.inr (some 114))) 14 (Sum.inr (some 115))) 15 (Sum.inr (some 116))) 16 (Sum.inr (some 117))) 17 (Sum.inr (some 118))) 21 (Sum.inr (some 119))) 22 (Sum.inr (some 120))) 23 (Sum.inr (some 121))) 24 (Sum.inr (some 122))) 29 (Sum.inr (some 123))) 30 (Sum.inr (some 124))) := by rw [← hcs42, cu_self]
  have hT104 : cs42 104 = cP 0 4 (fun _ => 0) := by rw [← hcs42, cu_ne (by decide)]; exact hT104
  have hT113 : cs42 113 = cP 0 3 (fun _ => 0) := by rw [← hcs42, cu_ne (by decide)]; exact hT113
  have hW : ∀ j, 103 < j → j < 125 → j ≠ 103 → j ≠ 104 → j ≠ 113 → cs42 j = LW j := by
    intro j hj0 hj h103 h104 h113
    rw [← hcs42]
    rw [cu_ne (by omega)]
    exact hW j hj0 (by omega) (by omega) (by omega) (by omega)
  have hX : ∀ j, j < 103 → cs42 j = cs j := by
    intro j hj
    have e9 : cs42 j = cs41 j := by rw [← hcs42, cu_ne (by omega)]
    exact e9.trans (hX j hj)
  show Fj 1 23 5449 mX11_init 173 [(0, vr 103)] [] 125 cs42 21 5289 Q
  refine F_aload 0 0 dX11_init_173 rfl rfl ?_
  show Fj 1 23 5449 mX11_init 174 [(0, vr 103)] [vr 103] 125 cs42 21 5289 Q
  refine F_bipush dX11_init_174 (by decide) ?_
  show Fj 1 23 5449 mX11_init 176 [(0, vr 103)] [vi 80, vr 103] 125 cs42 21 5289 Q
  obtain ⟨cs43, hcs43⟩ : ∃ x, (cu cs42 125 (cP 0 80 (fun _ => 0))) = x := ⟨_, rfl⟩
  refine F_newaI (N := 80) dX11_init_176 ac_int (by decide) (by decide) (by decide) hcs43 ?_
  have hT103 : cs43 103 = cO 11 (fu (fu (fu (fu (fu (fu (fu (fu (fu (fu (fu (fu (fu (fu (fu (fu (fu (fu (fu (fu (fu (dfl 11) 0 (Sum.inr (some 104))) 1 (Sum.inr (some 105))) 2 (Sum.inr (some 106))) 3 (Sum.inr (some 107))) 4 (Sum.inr (some 108))) 5 (Sum.inr (some 109))) 6 (Sum.inr (some 110))) 8 (Sum.inr (some 111))) 10 (Sum.inr (some 112))) 12 (Sum.inr (some 113))) 13 (Sum.inr (some 114))) 14 (Sum.inr (some 115))) 15 (Sum.inr (some 116))) 16 (Sum.inr (some 117))) 17 (Sum.inr (some 118))) 21 (Sum.inr (some 119))) 22 (Sum.inr (some 120))) 23 (Sum.inr (some 121))) 24 (Sum.inr (some 122))) 29 (Sum.inr (some 123))) 30 (Sum.inr (some 124))) := by rw [← hcs43, cu_ne (by decide)]; exact hT103
  have hT104 : cs43 104 = cP 0 4 (fun _ => 0) := by rw [← hcs43, cu_ne (by decide)]; exact hT104
  have hT113 : cs43 113 = cP 0 3 (fun _ => 0) := by rw [← hcs43, cu_ne (by decide)]; exact hT113
  have hW : ∀ j, 103 < j → j < 126 → j ≠ 103 → j ≠ 104 → j ≠ 113 → cs43 j = LW j := by
    intro j hj0 hj h103 h104 h113
    rw [← hcs43]
    by_cases q0 : j = 125
    · subst q0; rw [cu_self]; rfl
    rw [cu_ne q0]
    exact hW j hj0 (by omega) (by omega) (by omega) (by omega)
  have hX : ∀ j, j < 103 → cs43 j = cs j := by
    intro j hj
    have e9 : cs43 j = cs42 j := by rw [← hcs43, cu_ne (by omega)]
    exact e9.trans (hX j hj)
  show Fj 1 23 5449 mX11_init 178 [(0, vr 103)] [vr 125, vr 103] 126 cs43 22 5369 Q
  obtain ⟨cs44, hcs44⟩ : ∃ x, (cu cs43 103 (cO 11 (fu (fu (fu (fu (fu (fu (fu (fu (fu (fu (fu (fu (fu (fu (fu (fu (fu (fu (fu (fu (fu (fu (dfl 11) 0 (Sum.inr (some 104))) 1 (Sum.inr (some 105))) 2 (Sum.inr (some 106))) 3 (Sum.inr (some 107))) 4 (Sum.inr (some 108))) 5 (Sum.inr (some 109))) 6 (Sum.inr (some 110))) 8 (Sum.inr (some 111))) 10 (Sum.inr (some 112))) 12 (Sum.inr (some 113))) 13 (Sum.inr (some 114))) 14 (Sum.inr (some 115))) 15 (Sum.inr (some 116))) 16 (Sum.inr (some 117))) 17 (Sum.inr (some 118))) 21 (Sum.inr (some 119))) 22 (Sum.inr (some 120))) 23 (Sum.inr (some 121))) 24 (Sum.inr (some 122))) 29 (Sum.inr (some 123))) 30 (Sum.inr (some 124))) 31 (Sum.inr (some 125))))) = x := ⟨_, rfl⟩
  refine F_putR (r := 125) (i := 103) dX11_init_178 pf_X11_74 refAI (by decide) hT103 hcs44 ?_
  have hT103 : cs44 103 = cO 11 (fu (fu (fu (fu (fu (fu (fu (fu (fu (fu (fu (fu (fu (fu (fu (fu (fu (fu (fu (fu (fu (fu (dfl 11) 0 (Sum.inr (some 104))) 1 (Sum.inr (some 105))) 2 (Sum.inr (some 106))) 3 (Sum.inr (some 107))) 4 (Sum.inr (some 108))) 5 (Sum.inr (some 109))) 6 (Sum.inr (some 110))) 8 (Sum.inr (some 111))) 10 (Sum.inr (some 112))) 12 (Sum.inr (some 113))) 13 (Sum.inr (some 114))) 14 (Sum.inr (some 115))) 15 (Sum.inr (some 116))) 16 (Sum.inr (some 117))) 17 (Sum.inr (some 118))) 21 (Sum.inr (some 119))) 22 (Sum.inr (some 120))) 23 (Sum.inr (some 121))) 24 (Sum.inr (some 122))) 29 (Sum.inr (some 123))) 30 (Sum.inr (some 124))) 31 (Sum.inr (some 125))) := by rw [← hcs44, cu_self]
  have hT104 : cs44 104 = cP 0 4 (fun _ => 0) := by rw [← hcs44, cu_ne (by decide)]; exact hT104
  have hT113 : cs44 113 = cP 0 3 (fun _ => 0) := by rw [← hcs44, cu_ne (by decide)]; exact hT113
  have hW : ∀ j, 103 < j → j < 126 → j ≠ 103 → j ≠ 104 → j ≠ 113 → cs44 j = LW j := by
    intro j hj0 hj h103 h104 h113
    rw [← hcs44]
    rw [cu_ne (by omega)]
    exact hW j hj0 (by omega) (by omega) (by omega) (by omega)
  have hX : ∀ j, j < 103 → cs44 j = cs j := by
    intro j hj
    have e9 : cs44 j = cs43 j := by rw [← hcs44, cu_ne (by omega)]
    exact e9.trans (hX j hj)
  show Fj 1 23 5449 mX11_init 181 [(0, vr 103)] [] 126 cs44 22 5369 Q
  refine F_aload 0 0 dX11_init_181 rfl rfl ?_
  show Fj 1 23 5449 mX11_init 182 [(0, vr 103)] [vr 103] 126 cs44 22 5369 Q
  refine F_bipush dX11_init_182 (by decide) ?_
  show Fj 1 23 5449 mX11_init 184 [(0, vr 103)] [vi 80, vr 103] 126 cs44 22 5369 Q
  obtain ⟨cs45, hcs45⟩ : ∃ x, (cu cs44 126 (cP 0 80 (fun _ => 0))) = x := ⟨_, rfl⟩
  refine F_newaI (N := 80) dX11_init_184 ac_int (by decide) (by decide) (by decide) hcs45 ?_
  have hT103 : cs45 103 = cO 11 (fu (fu (fu (fu (fu (fu (fu (fu (fu (fu (fu (fu (fu (fu (fu (fu (fu (fu (fu (fu (fu (fu (dfl 11) 0 (Sum.inr (some 104))) 1 (Sum.inr (some 105))) 2 (Sum.inr (some 106))) 3 (Sum.inr (some 107))) 4 (Sum.inr (some 108))) 5 (Sum.inr (some 109))) 6 (Sum.inr (some 110))) 8 (Sum.inr (some 111))) 10 (Sum.inr (some 112))) 12 (Sum.inr (some 113))) 13 (Sum.inr (some 114))) 14 (Sum.inr (some 115))) 15 (Sum.inr (some 116))) 16 (Sum.inr (some 117))) 17 (Sum.inr (some 118))) 21 (Sum.inr (some 119))) 22 (Sum.inr (some 120))) 23 (Sum.inr (some 121))) 24 (Sum.inr (some 122))) 29 (Sum.inr (some 123))) 30 (Sum.inr (some 124))) 31 (Sum.inr (some 125))) := by rw [← hcs45, cu_ne (by decide)]; exact hT103
  have hT104 : cs45 104 = cP 0 4 (fun _ => 0) := by rw [← hcs45, cu_ne (by decide)]; exact hT104
  have hT113 : cs45 113 = cP 0 3 (fun _ => 0) := by rw [← hcs45, cu_ne (by decide)]; exact hT113
  have hW : ∀ j, 103 < j → j < 127 → j ≠ 103 → j ≠ 104 → j ≠ 113 → cs45 j = LW j := by
    intro j hj0 hj h103 h104 h113
    rw [← hcs45]
    by_cases q0 : j = 126
    · subst q0; rw [cu_self]; rfl
    rw [cu_ne q0]
    exact hW j hj0 (by omega) (by omega) (by omega) (by omega)
  have hX : ∀ j, j < 103 → cs45 j = cs j := by
    intro j hj
    have e9 : cs45 j = cs44 j := by rw [← hcs45, cu_ne (by omega)]
    exact e9.trans (hX j hj)
  show Fj 1 23 5449 mX11_init 186 [(0, vr 103)] [vr 126, vr 103] 127 cs45 23 5449 Q
  obtain ⟨cs46, hcs46⟩ : ∃ x, (cu cs45 103 (cO 11 (fu (fu (fu (fu (fu (fu (fu (fu (fu (fu (fu (fu (fu (fu (fu (fu (fu (fu (fu (fu (fu (fu (fu (dfl 11) 0 (Sum.inr (some 104))) 1 (Sum.inr (some 105))) 2 (Sum.inr (some 106))) 3 (Sum.inr (some 107))) 4 (Sum.inr (some 108))) 5 (Sum.inr (some 109))) 6 (Sum.inr (some 110))) 8 (Sum.inr (some 111))) 10 (Sum.inr (some 112))) 12 (Sum.inr (some 113))) 13 (Sum.inr (some 114))) 14 (Sum.inr (some 115))) 15 (Sum.inr (some 116))) 16 (Sum.inr (some 117))) 17 (Sum.inr (some 118))) 21 (Sum.inr (some 119))) 22 (Sum.inr (some 120))) 23 (Sum.inr (some 121))) 24 (Sum.inr (some 122))) 29 (Sum.inr (some 123))) 30 (Sum.inr (some 124))) 31 (Sum.inr (some 125))) 32 (Sum.inr (some 126))))) = x := ⟨_, rfl⟩
  refine F_putR (r := 126) (i := 103) dX11_init_186 pf_X11_77 refAI (by decide) hT103 hcs46 ?_
  have hT103 : cs46 103 = cO 11 (fu (fu (fu (fu (fu (fu (fu (fu (fu (fu (fu (fu (fu (fu (fu (fu (fu (fu (fu (fu (fu (fu (fu (dfl 11) 0 (Sum.inr (some 104))) 1 (Sum.inr (some 105))) 2 (Sum.inr (some 106))) 3 (Sum.inr (some 107))) 4 (Sum.inr (some 108))) 5 (Sum.inr (some 109))) 6 (Sum.inr (some 110))) 8 (Sum.inr (some 111))) 10 (Sum.inr (some 112))) 12 (Sum.inr (some 113))) 13 (Sum.inr (some 114))) 14 (Sum.inr (some 115))) 15 (Sum.inr (some 116))) 16 (Sum.inr (some 117))) 17 (Sum.inr (some 118))) 21 (Sum.inr (some 119))) 22 (Sum.inr (some 120))) 23 (Sum.inr (some 121))) 24 (Sum.inr (some 122))) 29 (Sum.inr (some 123))) 30 (Sum.inr (some 124))) 31 (Sum.inr (some 125))) 32 (Sum.inr (some 126))) := by rw [← hcs46, cu_self]
  have hT104 : cs46 104 = cP 0 4 (fun _ => 0) := by rw [← hcs46, cu_ne (by decide)]; exact hT104
  have hT113 : cs46 113 = cP 0 3 (fun _ => 0) := by rw [← hcs46, cu_ne (by decide)]; exact hT113
  have hW : ∀ j, 103 < j → j < 127 → j ≠ 103 → j ≠ 104 → j ≠ 113 → cs46 j = LW j := by
    intro j hj0 hj h103 h104 h113
    rw [← hcs46]
    rw [cu_ne (by omega)]
    exact hW j hj0 (by omega) (by omega) (by omega) (by omega)
  have hX : ∀ j, j < 103 → cs46 j = cs j := by
    intro j hj
    have e9 : cs46 j = cs45 j := by rw [← hcs46, cu_ne (by omega)]
    exact e9.trans (hX j hj)
  show Fj 1 23 5449 mX11_init 189 [(0, vr 103)] [] 127 cs46 23 5449 Q
  refine F_iconst dX11_init_189 ?_
  show Fj 1 23 5449 mX11_init 190 [(0, vr 103)] [vi 0] 127 cs46 23 5449 Q
  refine F_istore dX11_init_190 rfl (by decide) rfl ?_
  show Fj 1 23 5449 mX11_init 191 [(1, vi 0), (0, vr 103)] [] 127 cs46 23 5449 Q
  refine F_iload 0 1 dX11_init_191 rfl rfl ?_
  show Fj 1 23 5449 mX11_init 192 [(1, vi 0), (0, vr 103)] [vi 0] 127 cs46 23 5449 Q
  refine F_iconst dX11_init_192 ?_
  show Fj 1 23 5449 mX11_init 193 [(1, vi 0), (0, vr 103)] [vi 4, vi 0] 127 cs46 23 5449 Q
  refine F_ge 209 dX11_init_193 rfl (rg_of rfl) (rg_of rfl) (fun hh => absurd hh (by decide)) (fun _ => ?_)
  show Fj 1 23 5449 mX11_init 196 [(1, vi 0), (0, vr 103)] [] 127 cs46 23 5449 Q
  refine F_aload 1 0 dX11_init_196 rfl rfl ?_
  show Fj 1 23 5449 mX11_init 197 [(1, vi 0), (0, vr 103)] [vr 103] 127 cs46 23 5449 Q
  refine F_getR (r := 104) (i := 103) dX11_init_197 FX11_9 (by decide) hT103 rfl ?_
  show Fj 1 23 5449 mX11_init 200 [(1, vi 0), (0, vr 103)] [vr 104] 127 cs46 23 5449 Q
  refine F_iload 0 1 dX11_init_200 rfl rfl ?_
  show Fj 1 23 5449 mX11_init 201 [(1, vi 0), (0, vr 103)] [vi 0, vr 104] 127 cs46 23 5449 Q
  refine F_iconst dX11_init_201 ?_
  show Fj 1 23 5449 mX11_init 202 [(1, vi 0), (0, vr 103)] [vi 2, vi 0, vr 104] 127 cs46 23 5449 Q
  obtain ⟨cs47, hcs47⟩ : ∃ x, (cu cs46 104 (cP 0 4 (iu (fun _ => 0) 0 2))) = x := ⟨_, rfl⟩
  refine F_iast (i := 104) (x := 0) dX11_init_202 (by decide) hT104 (by decide) (by decide) hcs47 ?_
  have hT103 : cs47 103 = cO 11 (fu (fu (fu (fu (fu (fu (fu (fu (fu (fu (fu (fu (fu (fu (fu (fu (fu (fu (fu (fu (fu (fu (fu (dfl 11) 0 (Sum.inr (some 104))) 1 (Sum.inr (some 105))) 2 (Sum.inr (some 106))) 3 (Sum.inr (some 107))) 4 (Sum.inr (some 108))) 5 (Sum.inr (some 109))) 6 (Sum.inr (some 110))) 8 (Sum.inr (some 111))) 10 (Sum.inr (some 112))) 12 (Sum.inr (some 113))) 13 (Sum.inr (some 114))) 14 (Sum.inr (some 115))) 15 (Sum.inr (some 116))) 16 (Sum.inr (some 117))) 17 (Sum.inr (some 118))) 21 (Sum.inr (some 119))) 22 (Sum.inr (some 120))) 23 (Sum.inr (some 121))) 24 (Sum.inr (some 122))) 29 (Sum.inr (some 123))) 30 (Sum.inr (some 124))) 31 (Sum.inr (some 125))) 32 (Sum.inr (some 126))) := by rw [← hcs47, cu_ne (by decide)]; exact hT103
  have hT104 : cs47 104 = cP 0 4 (iu (fun _ => 0) 0 2) := by rw [← hcs47, cu_self]
  have hT113 : cs47 113 = cP 0 3 (fun _ => 0) := by rw [← hcs47, cu_ne (by decide)]; exact hT113
  have hW : ∀ j, 103 < j → j < 127 → j ≠ 103 → j ≠ 104 → j ≠ 113 → cs47 j = LW j := by
    intro j hj0 hj h103 h104 h113
    rw [← hcs47]
    rw [cu_ne (by omega)]
    exact hW j hj0 (by omega) (by omega) (by omega) (by omega)
  have hX : ∀ j, j < 103 → cs47 j = cs j := by
    intro j hj
    have e9 : cs47 j = cs46 j := by rw [← hcs47, cu_ne (by omega)]
    exact e9.trans (hX j hj)
  show Fj 1 23 5449 mX11_init 203 [(1, vi 0), (0, vr 103)] [] 127 cs47 23 5449 Q
  refine F_iinc (y := 1) 0 dX11_init_203 rfl (by decide) (by decide) rfl ?_
  show Fj 1 23 5449 mX11_init 206 [(1, vi 1), (0, vr 103)] [] 127 cs47 23 5449 Q
  refine F_goto 191 dX11_init_206 rfl ?_
  show Fj 1 23 5449 mX11_init 191 [(1, vi 1), (0, vr 103)] [] 127 cs47 23 5449 Q
  refine F_iload 0 1 dX11_init_191 rfl rfl ?_
  show Fj 1 23 5449 mX11_init 192 [(1, vi 1), (0, vr 103)] [vi 1] 127 cs47 23 5449 Q
  refine F_iconst dX11_init_192 ?_
  show Fj 1 23 5449 mX11_init 193 [(1, vi 1), (0, vr 103)] [vi 4, vi 1] 127 cs47 23 5449 Q
  refine F_ge 209 dX11_init_193 rfl (rg_of rfl) (rg_of rfl) (fun hh => absurd hh (by decide)) (fun _ => ?_)
  show Fj 1 23 5449 mX11_init 196 [(1, vi 1), (0, vr 103)] [] 127 cs47 23 5449 Q
  refine F_aload 1 0 dX11_init_196 rfl rfl ?_
  show Fj 1 23 5449 mX11_init 197 [(1, vi 1), (0, vr 103)] [vr 103] 127 cs47 23 5449 Q
  refine F_getR (r := 104) (i := 103) dX11_init_197 FX11_9 (by decide) hT103 rfl ?_
  show Fj 1 23 5449 mX11_init 200 [(1, vi 1), (0, vr 103)] [vr 104] 127 cs47 23 5449 Q
  refine F_iload 0 1 dX11_init_200 rfl rfl ?_
  show Fj 1 23 5449 mX11_init 201 [(1, vi 1), (0, vr 103)] [vi 1, vr 104] 127 cs47 23 5449 Q
  refine F_iconst dX11_init_201 ?_
  show Fj 1 23 5449 mX11_init 202 [(1, vi 1), (0, vr 103)] [vi 2, vi 1, vr 104] 127 cs47 23 5449 Q
  obtain ⟨cs48, hcs48⟩ : ∃ x, (cu cs47 104 (cP 0 4 (iu (iu (fun _ => 0) 0 2) 1 2))) = x := ⟨_, rfl⟩
  refine F_iast (i := 104) (x := 1) dX11_init_202 (by decide) hT104 (by decide) (by decide) hcs48 ?_
  have hT103 : cs48 103 = cO 11 (fu (fu (fu (fu (fu (fu (fu (fu (fu (fu (fu (fu (fu (fu (fu (fu (fu (fu (fu (fu (fu (fu (fu (dfl 11) 0 (Sum.inr (some 104))) 1 (Sum.inr (some 105))) 2 (Sum.inr (some 106))) 3 (Sum.inr (some 107))) 4 (Sum.inr (some 108))) 5 (Sum.inr (some 109))) 6 (Sum.inr (some 110))) 8 (Sum.inr (some 111))) 10 (Sum.inr (some 112))) 12 (Sum.inr (some 113))) 13 (Sum.inr (some 114))) 14 (Sum.inr (some 115))) 15 (Sum.inr (some 116))) 16 (Sum.inr (some 117))) 17 (Sum.inr (some 118))) 21 (Sum.inr (some 119))) 22 (Sum.inr (some 120))) 23 (Sum.inr (some 121))) 24 (Sum.inr (some 122))) 29 (Sum.inr (some 123))) 30 (Sum.inr (some 124))) 31 (Sum.inr (some 125))) 32 (Sum.inr (some 126))) := by rw [← hcs48, cu_ne (by decide)]; exact hT103
  have hT104 : cs48 104 = cP 0 4 (iu (iu (fun _ => 0) 0 2) 1 2) := by rw [← hcs48, cu_self]
  have hT113 : cs48 113 = cP 0 3 (fun _ => 0) := by rw [← hcs48, cu_ne (by decide)]; exact hT113
  have hW : ∀ j, 103 < j → j < 127 → j ≠ 103 → j ≠ 104 → j ≠ 113 → cs48 j = LW j := by
    intro j hj0 hj h103 h104 h113
    rw [← hcs48]
    rw [cu_ne (by omega)]
    exact hW j hj0 (by omega) (by omega) (by omega) (by omega)
  have hX : ∀ j, j < 103 → cs48 j = cs j := by
    intro j hj
    have e9 : cs48 j = cs47 j := by rw [← hcs48, cu_ne (by omega)]
    exact e9.trans (hX j hj)
  show Fj 1 23 5449 mX11_init 203 [(1, vi 1), (0, vr 103)] [] 127 cs48 23 5449 Q
  refine F_iinc (y := 2) 0 dX11_init_203 rfl (by decide) (by decide) rfl ?_
  show Fj 1 23 5449 mX11_init 206 [(1, vi 2), (0, vr 103)] [] 127 cs48 23 5449 Q
  refine F_goto 191 dX11_init_206 rfl ?_
  show Fj 1 23 5449 mX11_init 191 [(1, vi 2), (0, vr 103)] [] 127 cs48 23 5449 Q
  refine F_iload 0 1 dX11_init_191 rfl rfl ?_
  show Fj 1 23 5449 mX11_init 192 [(1, vi 2), (0, vr 103)] [vi 2] 127 cs48 23 5449 Q
  refine F_iconst dX11_init_192 ?_
  show Fj 1 23 5449 mX11_init 193 [(1, vi 2), (0, vr 103)] [vi 4, vi 2] 127 cs48 23 5449 Q
  refine F_ge 209 dX11_init_193 rfl (rg_of rfl) (rg_of rfl) (fun hh => absurd hh (by decide)) (fun _ => ?_)
  show Fj 1 23 5449 mX11_init 196 [(1, vi 2), (0, vr 103)] [] 127 cs48 23 5449 Q
  refine F_aload 1 0 dX11_init_196 rfl rfl ?_
  show Fj 1 23 5449 mX11_init 197 [(1, vi 2), (0, vr 103)] [vr 103] 127 cs48 23 5449 Q
  refine F_getR (r := 104) (i := 103) dX11_init_197 FX11_9 (by decide) hT103 rfl ?_
  show Fj 1 23 5449 mX11_init 200 [(1, vi 2), (0, vr 103)] [vr 104] 127 cs48 23 5449 Q
  refine F_iload 0 1 dX11_init_200 rfl rfl ?_
  show Fj 1 23 5449 mX11_init 201 [(1, vi 2), (0, vr 103)] [vi 2, vr 104] 127 cs48 23 5449 Q
  refine F_iconst dX11_init_201 ?_
  show Fj 1 23 5449 mX11_init 202 [(1, vi 2), (0, vr 103)] [vi 2, vi 2, vr 104] 127 cs48 23 5449 Q
  obtain ⟨cs49, hcs49⟩ : ∃ x, (cu cs48 104 (cP 0 4 (iu (iu (iu (fun _ => 0) 0 2) 1 2) 2 2))) = x := ⟨_, rfl⟩
  refine F_iast (i := 104) (x := 2) dX11_init_202 (by decide) hT104 (by decide) (by decide) hcs49 ?_
  have hT103 : cs49 103 = cO 11 (fu (fu (fu (fu (fu (fu (fu (fu (fu (fu (fu (fu (fu (fu (fu (fu (fu (fu (fu (fu (fu (fu (fu (dfl 11) 0 (Sum.inr (some 104))) 1 (Sum.inr (some 105))) 2 (Sum.inr (some 106))) 3 (Sum.inr (some 107))) 4 (Sum.inr (some 108))) 5 (Sum.inr (some 109))) 6 (Sum.inr (some 110))) 8 (Sum.inr (some 111))) 10 (Sum.inr (some 112))) 12 (Sum.inr (some 113))) 13 (Sum.inr (some 114))) 14 (Sum.inr (some 115))) 15 (Sum.inr (some 116))) 16 (Sum.inr (some 117))) 17 (Sum.inr (some 118))) 21 (Sum.inr (some 119))) 22 (Sum.inr (some 120))) 23 (Sum.inr (some 121))) 24 (Sum.inr (some 122))) 29 (Sum.inr (some 123))) 30 (Sum.inr (some 124))) 31 (Sum.inr (some 125))) 32 (Sum.inr (some 126))) := by rw [← hcs49, cu_ne (by decide)]; exact hT103
  have hT104 : cs49 104 = cP 0 4 (iu (iu (iu (fun _ => 0) 0 2) 1 2) 2 2) := by rw [← hcs49, cu_self]
  have hT113 : cs49 113 = cP 0 3 (fun _ => 0) := by rw [← hcs49, cu_ne (by decide)]; exact hT113
  have hW : ∀ j, 103 < j → j < 127 → j ≠ 103 → j ≠ 104 → j ≠ 113 → cs49 j = LW j := by
    intro j hj0 hj h103 h104 h113
    rw [← hcs49]
    rw [cu_ne (by omega)]
    exact hW j hj0 (by omega) (by omega) (by omega) (by omega)
  have hX : ∀ j, j < 103 → cs49 j = cs j := by
    intro j hj
    have e9 : cs49 j = cs48 j := by rw [← hcs49, cu_ne (by omega)]
    exact e9.trans (hX j hj)
  show Fj 1 23 5449 mX11_init 203 [(1, vi 2), (0, vr 103)] [] 127 cs49 23 5449 Q
  refine F_iinc (y := 3) 0 dX11_init_203 rfl (by decide) (by decide) rfl ?_
  show Fj 1 23 5449 mX11_init 206 [(1, vi 3), (0, vr 103)] [] 127 cs49 23 5449 Q
  refine F_goto 191 dX11_init_206 rfl ?_
  show Fj 1 23 5449 mX11_init 191 [(1, vi 3), (0, vr 103)] [] 127 cs49 23 5449 Q
  refine F_iload 0 1 dX11_init_191 rfl rfl ?_
  show Fj 1 23 5449 mX11_init 192 [(1, vi 3), (0, vr 103)] [vi 3] 127 cs49 23 5449 Q
  refine F_iconst dX11_init_192 ?_
  show Fj 1 23 5449 mX11_init 193 [(1, vi 3), (0, vr 103)] [vi 4, vi 3] 127 cs49 23 5449 Q
  refine F_ge 209 dX11_init_193 rfl (rg_of rfl) (rg_of rfl) (fun hh => absurd hh (by decide)) (fun _ => ?_)
  show Fj 1 23 5449 mX11_init 196 [(1, vi 3), (0, vr 103)] [] 127 cs49 23 5449 Q
  refine F_aload 1 0 dX11_init_196 rfl rfl ?_
  show Fj 1 23 5449 mX11_init 197 [(1, vi 3), (0, vr 103)] [vr 103] 127 cs49 23 5449 Q
  refine F_getR (r := 104) (i := 103) dX11_init_197 FX11_9 (by decide) hT103 rfl ?_
  show Fj 1 23 5449 mX11_init 200 [(1, vi 3), (0, vr 103)] [vr 104] 127 cs49 23 5449 Q
  refine F_iload 0 1 dX11_init_200 rfl rfl ?_
  show Fj 1 23 5449 mX11_init 201 [(1, vi 3), (0, vr 103)] [vi 3, vr 104] 127 cs49 23 5449 Q
  refine F_iconst dX11_init_201 ?_
  show Fj 1 23 5449 mX11_init 202 [(1, vi 3), (0, vr 103)] [vi 2, vi 3, vr 104] 127 cs49 23 5449 Q
  obtain ⟨cs50, hcs50⟩ : ∃ x, (cu cs49 104 (cP 0 4 (iu (iu (iu (iu (fun _ => 0) 0 2) 1 2) 2 2) 3 2))) = x := ⟨_, rfl⟩
  refine F_iast (i := 104) (x := 3) dX11_init_202 (by decide) hT104 (by decide) (by decide) hcs50 ?_
  have hT103 : cs50 103 = cO 11 (fu (fu (fu (fu (fu (fu (fu (fu (fu (fu (fu (fu (fu (fu (fu (fu (fu (fu (fu (fu (fu (fu (fu (dfl 11) 0 (Sum.inr (some 104))) 1 (Sum.inr (some 105))) 2 (Sum.inr (some 106))) 3 (Sum.inr (some 107))) 4 (Sum.inr (some 108))) 5 (Sum.inr (some 109))) 6 (Sum.inr (some 110))) 8 (Sum.inr (some 111))) 10 (Sum.inr (some 112))) 12 (Sum.inr (some 113))) 13 (Sum.inr (some 114))) 14 (Sum.inr (some 115))) 15 (Sum.inr (some 116))) 16 (Sum.inr (some 117))) 17 (Sum.inr (some 118))) 21 (Sum.inr (some 119))) 22 (Sum.inr (some 120))) 23 (Sum.inr (some 121))) 24 (Sum.inr (some 122))) 29 (Sum.inr (some 123))) 30 (Sum.inr (some 124))) 31 (Sum.inr (some 125))) 32 (Sum.inr (some 126))) := by rw [← hcs50, cu_ne (by decide)]; exact hT103
  have hT113 : cs50 113 = cP 0 3 (fun _ => 0) := by rw [← hcs50, cu_ne (by decide)]; exact hT113
  have hW : ∀ j, 103 < j → j < 127 → j ≠ 103 → j ≠ 113 → cs50 j = LW j := by
    intro j hj0 hj h103 h113
    rw [← hcs50]
    by_cases q0 : j = 104
    · subst q0; rw [cu_self]; rfl
    rw [cu_ne q0]
    exact hW j hj0 (by omega) (by omega) (by omega) (by omega)
  have hX : ∀ j, j < 103 → cs50 j = cs j := by
    intro j hj
    have e9 : cs50 j = cs49 j := by rw [← hcs50, cu_ne (by omega)]
    exact e9.trans (hX j hj)
  show Fj 1 23 5449 mX11_init 203 [(1, vi 3), (0, vr 103)] [] 127 cs50 23 5449 Q
  refine F_iinc (y := 4) 0 dX11_init_203 rfl (by decide) (by decide) rfl ?_
  show Fj 1 23 5449 mX11_init 206 [(1, vi 4), (0, vr 103)] [] 127 cs50 23 5449 Q
  refine F_goto 191 dX11_init_206 rfl ?_
  show Fj 1 23 5449 mX11_init 191 [(1, vi 4), (0, vr 103)] [] 127 cs50 23 5449 Q
  refine F_iload 0 1 dX11_init_191 rfl rfl ?_
  show Fj 1 23 5449 mX11_init 192 [(1, vi 4), (0, vr 103)] [vi 4] 127 cs50 23 5449 Q
  refine F_iconst dX11_init_192 ?_
  show Fj 1 23 5449 mX11_init 193 [(1, vi 4), (0, vr 103)] [vi 4, vi 4] 127 cs50 23 5449 Q
  refine F_ge 209 dX11_init_193 rfl (rg_of rfl) (rg_of rfl) (fun _ => ?_) (fun hh => absurd (by decide) hh)
  show Fj 1 23 5449 mX11_init 209 [(1, vi 4), (0, vr 103)] [] 127 cs50 23 5449 Q
  refine F_iconst dX11_init_209 ?_
  show Fj 1 23 5449 mX11_init 210 [(1, vi 4), (0, vr 103)] [vi 0] 127 cs50 23 5449 Q
  refine F_istore dX11_init_210 rfl (by decide) rfl ?_
  show Fj 1 23 5449 mX11_init 211 [(1, vi 0), (0, vr 103)] [] 127 cs50 23 5449 Q
  refine F_iload 0 1 dX11_init_211 rfl rfl ?_
  show Fj 1 23 5449 mX11_init 212 [(1, vi 0), (0, vr 103)] [vi 0] 127 cs50 23 5449 Q
  refine F_iconst dX11_init_212 ?_
  show Fj 1 23 5449 mX11_init 213 [(1, vi 0), (0, vr 103)] [vi 3, vi 0] 127 cs50 23 5449 Q
  refine F_ge 229 dX11_init_213 rfl (rg_of rfl) (rg_of rfl) (fun hh => absurd hh (by decide)) (fun _ => ?_)
  show Fj 1 23 5449 mX11_init 216 [(1, vi 0), (0, vr 103)] [] 127 cs50 23 5449 Q
  refine F_aload 1 0 dX11_init_216 rfl rfl ?_
  show Fj 1 23 5449 mX11_init 217 [(1, vi 0), (0, vr 103)] [vr 103] 127 cs50 23 5449 Q
  refine F_getR (r := 113) (i := 103) dX11_init_217 FX11_37 (by decide) hT103 rfl ?_
  show Fj 1 23 5449 mX11_init 220 [(1, vi 0), (0, vr 103)] [vr 113] 127 cs50 23 5449 Q
  refine F_iload 0 1 dX11_init_220 rfl rfl ?_
  show Fj 1 23 5449 mX11_init 221 [(1, vi 0), (0, vr 103)] [vi 0, vr 113] 127 cs50 23 5449 Q
  refine F_iconst dX11_init_221 ?_
  show Fj 1 23 5449 mX11_init 222 [(1, vi 0), (0, vr 103)] [vi (-1), vi 0, vr 113] 127 cs50 23 5449 Q
  obtain ⟨cs51, hcs51⟩ : ∃ x, (cu cs50 113 (cP 0 3 (iu (fun _ => 0) 0 (-1)))) = x := ⟨_, rfl⟩
  refine F_iast (i := 113) (x := 0) dX11_init_222 (by decide) hT113 (by decide) (by decide) hcs51 ?_
  have hT103 : cs51 103 = cO 11 (fu (fu (fu (fu (fu (fu (fu (fu (fu (fu (fu (fu (fu (fu (fu (fu (fu (fu (fu (fu (fu (fu (fu (dfl 11) 0 (Sum.inr (some 104))) 1 (Sum.inr (some 105))) 2 (Sum.inr (some 106))) 3 (Sum.inr (some 107))) 4 (Sum.inr (some 108))) 5 (Sum.inr (some 109))) 6 (Sum.inr (some 110))) 8 (Sum.inr (some 111))) 10 (Sum.inr (some 112))) 12 (Sum.inr (some 113))) 13 (Sum.inr (some 114))) 14 (Sum.inr (some 115))) 15 (Sum.inr (some 116))) 16 (Sum.inr (some 117))) 17 (Sum.inr (some 118))) 21 (Sum.inr (some 119))) 22 (Sum.inr (some 120))) 23 (Sum.inr (some 121))) 24 (Sum.inr (some 122))) 29 (Sum.inr (some 123))) 30 (Sum.inr (some 124))) 31 (Sum.inr (some 125))) 32 (Sum.inr (some 126))) := by rw [← hcs51, cu_ne (by decide)]; exact hT103
  have hT113 : cs51 113 = cP 0 3 (iu (fun _ => 0) 0 (-1)) := by rw [← hcs51, cu_self]
  have hW : ∀ j, 103 < j → j < 127 → j ≠ 103 → j ≠ 113 → cs51 j = LW j := by
    intro j hj0 hj h103 h113
    rw [← hcs51]
    rw [cu_ne (by omega)]
    exact hW j hj0 (by omega) (by omega) (by omega)
  have hX : ∀ j, j < 103 → cs51 j = cs j := by
    intro j hj
    have e9 : cs51 j = cs50 j := by rw [← hcs51, cu_ne (by omega)]
    exact e9.trans (hX j hj)
  show Fj 1 23 5449 mX11_init 223 [(1, vi 0), (0, vr 103)] [] 127 cs51 23 5449 Q
  refine F_iinc (y := 1) 0 dX11_init_223 rfl (by decide) (by decide) rfl ?_
  show Fj 1 23 5449 mX11_init 226 [(1, vi 1), (0, vr 103)] [] 127 cs51 23 5449 Q
  refine F_goto 211 dX11_init_226 rfl ?_
  show Fj 1 23 5449 mX11_init 211 [(1, vi 1), (0, vr 103)] [] 127 cs51 23 5449 Q
  refine F_iload 0 1 dX11_init_211 rfl rfl ?_
  show Fj 1 23 5449 mX11_init 212 [(1, vi 1), (0, vr 103)] [vi 1] 127 cs51 23 5449 Q
  refine F_iconst dX11_init_212 ?_
  show Fj 1 23 5449 mX11_init 213 [(1, vi 1), (0, vr 103)] [vi 3, vi 1] 127 cs51 23 5449 Q
  refine F_ge 229 dX11_init_213 rfl (rg_of rfl) (rg_of rfl) (fun hh => absurd hh (by decide)) (fun _ => ?_)
  show Fj 1 23 5449 mX11_init 216 [(1, vi 1), (0, vr 103)] [] 127 cs51 23 5449 Q
  refine F_aload 1 0 dX11_init_216 rfl rfl ?_
  show Fj 1 23 5449 mX11_init 217 [(1, vi 1), (0, vr 103)] [vr 103] 127 cs51 23 5449 Q
  refine F_getR (r := 113) (i := 103) dX11_init_217 FX11_37 (by decide) hT103 rfl ?_
  show Fj 1 23 5449 mX11_init 220 [(1, vi 1), (0, vr 103)] [vr 113] 127 cs51 23 5449 Q
  refine F_iload 0 1 dX11_init_220 rfl rfl ?_
  show Fj 1 23 5449 mX11_init 221 [(1, vi 1), (0, vr 103)] [vi 1, vr 113] 127 cs51 23 5449 Q
  refine F_iconst dX11_init_221 ?_
  show Fj 1 23 5449 mX11_init 222 [(1, vi 1), (0, vr 103)] [vi (-1), vi 1, vr 113] 127 cs51 23 5449 Q
  obtain ⟨cs52, hcs52⟩ : ∃ x, (cu cs51 113 (cP 0 3 (iu (iu (fun _ => 0) 0 (-1)) 1 (-1)))) = x := ⟨_, rfl⟩
  refine F_iast (i := 113) (x := 1) dX11_init_222 (by decide) hT113 (by decide) (by decide) hcs52 ?_
  have hT103 : cs52 103 = cO 11 (fu (fu (fu (fu (fu (fu (fu (fu (fu (fu (fu (fu (fu (fu (fu (fu (fu (fu (fu (fu (fu (fu (fu (dfl 11) 0 (Sum.inr (some 104))) 1 (Sum.inr (some 105))) 2 (Sum.inr (some 106))) 3 (Sum.inr (some 107))) 4 (Sum.inr (some 108))) 5 (Sum.inr (some 109))) 6 (Sum.inr (some 110))) 8 (Sum.inr (some 111))) 10 (Sum.inr (some 112))) 12 (Sum.inr (some 113))) 13 (Sum.inr (some 114))) 14 (Sum.inr (some 115))) 15 (Sum.inr (some 116))) 16 (Sum.inr (some 117))) 17 (Sum.inr (some 118))) 21 (Sum.inr (some 119))) 22 (Sum.inr (some 120))) 23 (Sum.inr (some 121))) 24 (Sum.inr (some 122))) 29 (Sum.inr (some 123))) 30 (Sum.inr (some 124))) 31 (Sum.inr (some 125))) 32 (Sum.inr (some 126))) := by rw [← hcs52, cu_ne (by decide)]; exact hT103
  have hT113 : cs52 113 = cP 0 3 (iu (iu (fun _ => 0) 0 (-1)) 1 (-1)) := by rw [← hcs52, cu_self]
  have hW : ∀ j, 103 < j → j < 127 → j ≠ 103 → j ≠ 113 → cs52 j = LW j := by
    intro j hj0 hj h103 h113
    rw [← hcs52]
    rw [cu_ne (by omega)]
    exact hW j hj0 (by omega) (by omega) (by omega)
  have hX : ∀ j, j < 103 → cs52 j = cs j := by
    intro j hj
    have e9 : cs52 j = cs51 j := by rw [← hcs52, cu_ne (by omega)]
    exact e9.trans (hX j hj)
  show Fj 1 23 5449 mX11_init 223 [(1, vi 1), (0, vr 103)] [] 127 cs52 23 5449 Q
  refine F_iinc (y := 2) 0 dX11_init_223 rfl (by decide) (by decide) rfl ?_
  show Fj 1 23 5449 mX11_init 226 [(1, vi 2), (0, vr 103)] [] 127 cs52 23 5449 Q
  refine F_goto 211 dX11_init_226 rfl ?_
  show Fj 1 23 5449 mX11_init 211 [(1, vi 2), (0, vr 103)] [] 127 cs52 23 5449 Q
  refine F_iload 0 1 dX11_init_211 rfl rfl ?_
  show Fj 1 23 5449 mX11_init 212 [(1, vi 2), (0, vr 103)] [vi 2] 127 cs52 23 5449 Q
  refine F_iconst dX11_init_212 ?_
  show Fj 1 23 5449 mX11_init 213 [(1, vi 2), (0, vr 103)] [vi 3, vi 2] 127 cs52 23 5449 Q
  refine F_ge 229 dX11_init_213 rfl (rg_of rfl) (rg_of rfl) (fun hh => absurd hh (by decide)) (fun _ => ?_)
  show Fj 1 23 5449 mX11_init 216 [(1, vi 2), (0, vr 103)] [] 127 cs52 23 5449 Q
  refine F_aload 1 0 dX11_init_216 rfl rfl ?_
  show Fj 1 23 5449 mX11_init 217 [(1, vi 2), (0, vr 103)] [vr 103] 127 cs52 23 5449 Q
  refine F_getR (r := 113) (i := 103) dX11_init_217 FX11_37 (by decide) hT103 rfl ?_
  show Fj 1 23 5449 mX11_init 220 [(1, vi 2), (0, vr 103)] [vr 113] 127 cs52 23 5449 Q
  refine F_iload 0 1 dX11_init_220 rfl rfl ?_
  show Fj 1 23 5449 mX11_init 221 [(1, vi 2), (0, vr 103)] [vi 2, vr 113] 127 cs52 23 5449 Q
  refine F_iconst dX11_init_221 ?_
  show Fj 1 23 5449 mX11_init 222 [(1, vi 2), (0, vr 103)] [vi (-1), vi 2, vr 113] 127 cs52 23 5449 Q
  obtain ⟨cs53, hcs53⟩ : ∃ x, (cu cs52 113 (cP 0 3 (iu (iu (iu (fun _ => 0) 0 (-1)) 1 (-1)) 2 (-1)))) = x := ⟨_, rfl⟩
  refine F_iast (i := 113) (x := 2) dX11_init_222 (by decide) hT113 (by decide) (by decide) hcs53 ?_
  have hT103 : cs53 103 = cO 11 (fu (fu (fu (fu (fu (fu (fu (fu (fu (fu (fu (fu (fu (fu (fu (fu (fu (fu (fu (fu (fu (fu (fu (dfl 11) 0 (Sum.inr (some 104))) 1 (Sum.inr (some 105))) 2 (Sum.inr (some 106))) 3 (Sum.inr (some 107))) 4 (Sum.inr (some 108))) 5 (Sum.inr (some 109))) 6 (Sum.inr (some 110))) 8 (Sum.inr (some 111))) 10 (Sum.inr (some 112))) 12 (Sum.inr (some 113))) 13 (Sum.inr (some 114))) 14 (Sum.inr (some 115))) 15 (Sum.inr (some 116))) 16 (Sum.inr (some 117))) 17 (Sum.inr (some 118))) 21 (Sum.inr (some 119))) 22 (Sum.inr (some 120))) 23 (Sum.inr (some 121))) 24 (Sum.inr (some 122))) 29 (Sum.inr (some 123))) 30 (Sum.inr (some 124))) 31 (Sum.inr (some 125))) 32 (Sum.inr (some 126))) := by rw [← hcs53, cu_ne (by decide)]; exact hT103
  have hW : ∀ j, 103 < j → j < 127 → j ≠ 103 → cs53 j = LW j := by
    intro j hj0 hj h103
    rw [← hcs53]
    by_cases q0 : j = 113
    · subst q0; rw [cu_self]; rfl
    rw [cu_ne q0]
    exact hW j hj0 (by omega) (by omega) (by omega)
  have hX : ∀ j, j < 103 → cs53 j = cs j := by
    intro j hj
    have e9 : cs53 j = cs52 j := by rw [← hcs53, cu_ne (by omega)]
    exact e9.trans (hX j hj)
  show Fj 1 23 5449 mX11_init 223 [(1, vi 2), (0, vr 103)] [] 127 cs53 23 5449 Q
  refine F_iinc (y := 3) 0 dX11_init_223 rfl (by decide) (by decide) rfl ?_
  show Fj 1 23 5449 mX11_init 226 [(1, vi 3), (0, vr 103)] [] 127 cs53 23 5449 Q
  refine F_goto 211 dX11_init_226 rfl ?_
  show Fj 1 23 5449 mX11_init 211 [(1, vi 3), (0, vr 103)] [] 127 cs53 23 5449 Q
  refine F_iload 0 1 dX11_init_211 rfl rfl ?_
  show Fj 1 23 5449 mX11_init 212 [(1, vi 3), (0, vr 103)] [vi 3] 127 cs53 23 5449 Q
  refine F_iconst dX11_init_212 ?_
  show Fj 1 23 5449 mX11_init 213 [(1, vi 3), (0, vr 103)] [vi 3, vi 3] 127 cs53 23 5449 Q
  refine F_ge 229 dX11_init_213 rfl (rg_of rfl) (rg_of rfl) (fun _ => ?_) (fun hh => absurd (by decide) hh)
  show Fj 1 23 5449 mX11_init 229 [(1, vi 3), (0, vr 103)] [] 127 cs53 23 5449 Q
  refine F_return dX11_init_229 rfl rfl ?_
  refine hq cs53 hX ?_
  · intro j h1 h2
    by_cases q : j = 103
    · subst q; rw [hT103]; rfl
    · exact hW j (by omega) h2 q
