set_option maxRecDepth 20000 in
theorem nm_Y : ∀ a, a < 5 → ∀ b, b < 5 → a ≠ b → (ft_Y a).2.1 ≠ (ft_Y b).2.1 := by decide +kernel
set_option maxRecDepth 20000 in
theorem tk_Y : ∀ k, k < 5 → parseFieldDescriptor (ft_Y k).2.2.1 = some (ty_Y k) := by decide +kernel
set_option maxRecDepth 20000 in
theorem tz_Y : aw_ty ft_Y 5 ty_Y := ⟨tk_Y, nm_Y⟩
set_option maxRecDepth 20000 in
theorem wu_Y : ∀ w ∈ u_ws "ArcTape$Layout" ft_Y 5, w ∈ wsAll := List.forall_mem_cons.mpr ⟨(wl_in 72 rfl rfl), List.forall_mem_cons.mpr ⟨(wl_in 74 rfl rfl), List.forall_mem_cons.mpr ⟨(wl_in 76 rfl rfl), List.forall_mem_cons.mpr ⟨(wl_in 78 rfl rfl), List.forall_mem_cons.mpr ⟨(wl_in 80 rfl rfl), fun _ h => absurd h List.not_mem_nil⟩⟩⟩⟩⟩
set_option maxRecDepth 20000 in
theorem nm_K : ∀ a, a < 7 → ∀ b, b < 7 → a ≠ b → (ft_K a).2.1 ≠ (ft_K b).2.1 := by decide +kernel
set_option maxRecDepth 20000 in
theorem tk_K : ∀ k, k < 7 → parseFieldDescriptor (ft_K k).2.2.1 = some (ty_K k) := by decide +kernel
set_option maxRecDepth 20000 in
theorem tz_K : aw_ty ft_K 7 ty_K := ⟨tk_K, nm_K⟩
set_option maxRecDepth 20000 in
theorem wu_K : ∀ w ∈ u_ws "ArcTape$Packer" ft_K 7, w ∈ wsAll := List.forall_mem_cons.mpr ⟨(wl_in 96 rfl rfl), List.forall_mem_cons.mpr ⟨(wl_in 98 rfl rfl), List.forall_mem_cons.mpr ⟨(wl_in 100 rfl rfl), List.forall_mem_cons.mpr ⟨(wl_in 102 rfl rfl), List.forall_mem_cons.mpr ⟨(wl_in 104 rfl rfl), List.forall_mem_cons.mpr ⟨(wl_in 106 rfl rfl), List.forall_mem_cons.mpr ⟨(wl_in 108 rfl rfl), fun _ h => absurd h List.not_mem_nil⟩⟩⟩⟩⟩⟩⟩
set_option maxRecDepth 20000 in
theorem nm_S : ∀ a, a < 3 → ∀ b, b < 3 → a ≠ b → (ft_S a).2.1 ≠ (ft_S b).2.1 := by decide +kernel
set_option maxRecDepth 20000 in
theorem tk_S : ∀ k, k < 3 → parseFieldDescriptor (ft_S k).2.2.1 = some (ty_S k) := by decide +kernel
set_option maxRecDepth 20000 in
theorem tz_S : aw_ty ft_S 3 ty_S := ⟨tk_S, nm_S⟩
set_option maxRecDepth 20000 in
theorem wu_S : ∀ w ∈ u_ws "ArcTape$Parts" ft_S 3, w ∈ wsAll := List.forall_mem_cons.mpr ⟨(wl_in 173 rfl rfl), List.forall_mem_cons.mpr ⟨(wl_in 175 rfl rfl), List.forall_mem_cons.mpr ⟨(wl_in 177 rfl rfl), fun _ h => absurd h List.not_mem_nil⟩⟩⟩
set_option maxRecDepth 20000 in
theorem nm_D : ∀ a, a < 14 → ∀ b, b < 14 → a ≠ b → (ft_D a).2.1 ≠ (ft_D b).2.1 := by decide +kernel
set_option maxRecDepth 20000 in
theorem tk_D : ∀ k, k < 14 → parseFieldDescriptor (ft_D k).2.2.1 = some (ty_D k) := by decide +kernel
set_option maxRecDepth 20000 in
theorem tz_D : aw_ty ft_D 14 ty_D := ⟨tk_D, nm_D⟩
set_option maxRecDepth 20000 in
theorem wu_D : ∀ w ∈ u_ws "ArcTape$Reader" ft_D 14, w ∈ wsAll := List.forall_mem_cons.mpr ⟨(wl_in 134 rfl rfl), List.forall_mem_cons.mpr ⟨(wl_in 136 rfl rfl), List.forall_mem_cons.mpr ⟨(wl_in 138 rfl rfl), List.forall_mem_cons.mpr ⟨(wl_in 140 rfl rfl), List.forall_mem_cons.mpr ⟨(wl_in 142 rfl rfl), List.forall_mem_cons.mpr ⟨(wl_in 144 rfl rfl), List.forall_mem_cons.mpr ⟨(wl_in 146 rfl rfl), List.forall_mem_cons.mpr ⟨(wl_in 148 rfl rfl), List.forall_mem_cons.mpr ⟨(wl_in 150 rfl rfl), List.forall_mem_cons.mpr ⟨(wl_in 152 rfl rfl), List.forall_mem_cons.mpr ⟨(wl_in 154 rfl rfl), List.forall_mem_cons.mpr ⟨(wl_in 156 rfl rfl), List.forall_mem_cons.mpr ⟨(wl_in 158 rfl rfl), List.forall_mem_cons.mpr ⟨(wl_in 160 rfl rfl), fun _ h => absurd h List.not_mem_nil⟩⟩⟩⟩⟩⟩⟩⟩⟩⟩⟩⟩⟩⟩
set_option maxRecDepth 20000 in
theorem nm_O : ∀ a, a < 8 → ∀ b, b < 8 → a ≠ b → (ft_O a).2.1 ≠ (ft_O b).2.1 := by decide +kernel
set_option maxRecDepth 20000 in
theorem tk_O : ∀ k, k < 8 → parseFieldDescriptor (ft_O k).2.2.1 = some (ty_O k) := by decide +kernel
set_option maxRecDepth 20000 in
theorem tz_O : aw_ty ft_O 8 ty_O := ⟨tk_O, nm_O⟩
set_option maxRecDepth 20000 in
theorem wu_O : ∀ w ∈ u_ws "ArcTape$Scores" ft_O 8, w ∈ wsAll := List.forall_mem_cons.mpr ⟨(wl_in 198 rfl rfl), List.forall_mem_cons.mpr ⟨(wl_in 200 rfl rfl), List.forall_mem_cons.mpr ⟨(wl_in 202 rfl rfl), List.forall_mem_cons.mpr ⟨(wl_in 204 rfl rfl), List.forall_mem_cons.mpr ⟨(wl_in 206 rfl rfl), List.forall_mem_cons.mpr ⟨(wl_in 208 rfl rfl), List.forall_mem_cons.mpr ⟨(wl_in 210 rfl rfl), List.forall_mem_cons.mpr ⟨(wl_in 212 rfl rfl), fun _ h => absurd h List.not_mem_nil⟩⟩⟩⟩⟩⟩⟩⟩
set_option maxRecDepth 20000 in
theorem nm_T : ∀ a, a < 2 → ∀ b, b < 2 → a ≠ b → (ft_T a).2.1 ≠ (ft_T b).2.1 := by decide +kernel
set_option maxRecDepth 20000 in
theorem tk_T : ∀ k, k < 2 → parseFieldDescriptor (ft_T k).2.2.1 = some (ty_T k) := by decide +kernel
set_option maxRecDepth 20000 in
theorem tz_T : aw_ty ft_T 2 ty_T := ⟨tk_T, nm_T⟩
set_option maxRecDepth 20000 in
theorem wu_T : ∀ w ∈ u_ws "ArcTape$Tape" ft_T 2, w ∈ wsAll := List.forall_mem_cons.mpr ⟨(wl_in 39 rfl rfl), List.forall_mem_cons.mpr ⟨(wl_in 41 rfl rfl), fun _ h => absurd h List.not_mem_nil⟩⟩
set_option maxRecDepth 20000 in
theorem nm_A : ∀ a, a < 8 → ∀ b, b < 8 → a ≠ b → (ft_A a).2.1 ≠ (ft_A b).2.1 := by decide +kernel
set_option maxRecDepth 20000 in
theorem tk_A : ∀ k, k < 8 → parseFieldDescriptor (ft_A k).2.2.1 = some (ty_A k) := by decide +kernel
set_option maxRecDepth 20000 in
theorem tz_A : aw_ty ft_A 8 ty_A := ⟨tk_A, nm_A⟩
set_option maxRecDepth 20000 in
theorem wu_A : ∀ w ∈ u_ws "ArcTape" ft_A 8, w ∈ wsAll := List.forall_mem_cons.mpr ⟨(wl_in 363 rfl rfl), List.forall_mem_cons.mpr ⟨(wl_in 365 rfl rfl), List.forall_mem_cons.mpr ⟨(wl_in 367 rfl rfl), List.forall_mem_cons.mpr ⟨(wl_in 369 rfl rfl), List.forall_mem_cons.mpr ⟨(wl_in 371 rfl rfl), List.forall_mem_cons.mpr ⟨(wl_in 373 rfl rfl), List.forall_mem_cons.mpr ⟨(wl_in 375 rfl rfl), List.forall_mem_cons.mpr ⟨(wl_in 377 rfl rfl), fun _ h => absurd h List.not_mem_nil⟩⟩⟩⟩⟩⟩⟩⟩
set_option maxRecDepth 20000 in
theorem nm_M : ∀ a, a < 29 → ∀ b, b < 29 → a ≠ b → (ft_M a).2.1 ≠ (ft_M b).2.1 := by decide +kernel
set_option maxRecDepth 20000 in
theorem tk_M : ∀ k, k < 29 → parseFieldDescriptor (ft_M k).2.2.1 = some (ty_M k) := by decide +kernel
set_option maxRecDepth 20000 in
theorem tz_M : aw_ty ft_M 29 ty_M := ⟨tk_M, nm_M⟩
set_option maxRecDepth 20000 in
theorem wu_M : ∀ w ∈ u_ws "ArcTapeModel" ft_M 29, w ∈ wsAll := List.forall_mem_cons.mpr ⟨(wl_in 625 rfl rfl), List.forall_mem_cons.mpr ⟨(wl_in 627 rfl rfl), List.forall_mem_cons.mpr ⟨(wl_in 629 rfl rfl), List.forall_mem_cons.mpr ⟨(wl_in 631 rfl rfl), List.forall_mem_cons.mpr ⟨(wl_in 633 rfl rfl), List.forall_mem_cons.mpr ⟨(wl_in 635 rfl rfl), List.forall_mem_cons.mpr ⟨(wl_in 637 rfl rfl), List.forall_mem_cons.mpr ⟨(wl_in 639 rfl rfl), List.forall_mem_cons.mpr ⟨(wl_in 641 rfl rfl), List.forall_mem_cons.mpr ⟨(wl_in 643 rfl rfl), List.forall_mem_cons.mpr ⟨(wl_in 645 rfl rfl), List.forall_mem_cons.mpr ⟨(wl_in 647 rfl rfl), List.forall_mem_cons.mpr ⟨(wl_in 649 rfl rfl), List.forall_mem_cons.mpr ⟨(wl_in 651 rfl rfl), List.forall_mem_cons.mpr ⟨(wl_in 653 rfl rfl), List.forall_mem_cons.mpr ⟨(wl_in 655 rfl rfl), List.forall_mem_cons.mpr ⟨(wl_in 657 rfl rfl), List.forall_mem_cons.mpr ⟨(wl_in 659 rfl rfl), List.forall_mem_cons.mpr ⟨(wl_in 661 rfl rfl), List.forall_mem_cons.mpr ⟨(wl_in 663 rfl rfl), List.forall_mem_cons.mpr ⟨(wl_in 665 rfl rfl), List.forall_mem_cons.mpr ⟨(wl_in 667 rfl rfl), List.forall_mem_cons.mpr ⟨(wl_in 669 rfl rfl), List.forall_mem_cons.mpr ⟨(wl_in 671 rfl rfl), List.forall_mem_cons.mpr ⟨(wl_in 673 rfl rfl), List.forall_mem_cons.mpr ⟨(wl_in 675 rfl rfl), List.forall_mem_cons.mpr ⟨(wl_in 677 rfl rfl), List.forall_mem_cons.mpr ⟨(wl_in 679 rfl rfl), List.forall_mem_cons.mpr ⟨(wl_in 681 rfl rfl), fun _ h => absurd h List.not_mem_nil⟩⟩⟩⟩⟩⟩⟩⟩⟩⟩⟩⟩⟩⟩⟩⟩⟩⟩⟩⟩⟩⟩⟩⟩⟩⟩⟩⟩⟩
set_option maxRecDepth 20000 in
theorem wa_I : Cond.arrayClass .int ∈ wsAll := (wl_in 44 rfl rfl)
set_option maxRecDepth 20000 in
theorem wa_B : Cond.arrayClass .byte ∈ wsAll := (wl_in 45 rfl rfl)
set_option maxRecDepth 20000 in
theorem wa_J : Cond.arrayClass .long ∈ wsAll := (wl_in 215 rfl rfl)
set_option maxRecDepth 20000 in
theorem fl_Y_13 : aw_fl "ArcTape$Layout" 13 0 1 "ArcTape$Layout" ft_Y 5 := ⟨rfl, wu_Y, by decide, (wl_in 56 rfl rfl)⟩
set_option maxRecDepth 20000 in
theorem fl_Y_16 : aw_fl "ArcTape$Layout" 16 0 2 "ArcTape$Layout" ft_Y 5 := ⟨rfl, wu_Y, by decide, (wl_in 60 rfl rfl)⟩
set_option maxRecDepth 20000 in
theorem fl_Y_19 : aw_fl "ArcTape$Layout" 19 0 3 "ArcTape$Layout" ft_Y 5 := ⟨rfl, wu_Y, by decide, (wl_in 64 rfl rfl)⟩
set_option maxRecDepth 20000 in
theorem fl_Y_22 : aw_fl "ArcTape$Layout" 22 0 4 "ArcTape$Layout" ft_Y 5 := ⟨rfl, wu_Y, by decide, (wl_in 68 rfl rfl)⟩
set_option maxRecDepth 20000 in
theorem fl_Y_7 : aw_fl "ArcTape$Layout" 7 0 0 "ArcTape$Layout" ft_Y 5 := ⟨rfl, wu_Y, by decide, (wl_in 52 rfl rfl)⟩
set_option maxRecDepth 20000 in
theorem fl_K_104 : aw_fl "ArcTape$Packer" 104 0 3 "ArcTape$Layout" ft_Y 5 := ⟨rfl, wu_Y, by decide, (wl_in 66 rfl rfl)⟩
set_option maxRecDepth 20000 in
theorem fl_K_15 : aw_fl "ArcTape$Packer" 15 1 5 "ArcTape$Packer" ft_K 7 := ⟨rfl, wu_K, by decide, (wl_in 94 rfl rfl)⟩
set_option maxRecDepth 20000 in
theorem fl_K_18 : aw_fl "ArcTape$Packer" 18 1 6 "ArcTape$Packer" ft_K 7 := ⟨rfl, wu_K, by decide, (wl_in 95 rfl rfl)⟩
set_option maxRecDepth 20000 in
theorem fl_K_21 : aw_fl "ArcTape$Packer" 21 1 0 "ArcTape$Packer" ft_K 7 := ⟨rfl, wu_K, by decide, (wl_in 89 rfl rfl)⟩
set_option maxRecDepth 20000 in
theorem fl_K_24 : aw_fl "ArcTape$Packer" 24 1 1 "ArcTape$Packer" ft_K 7 := ⟨rfl, wu_K, by decide, (wl_in 90 rfl rfl)⟩
set_option maxRecDepth 20000 in
theorem fl_K_28 : aw_fl "ArcTape$Packer" 28 1 2 "ArcTape$Packer" ft_K 7 := ⟨rfl, wu_K, by decide, (wl_in 91 rfl rfl)⟩
set_option maxRecDepth 20000 in
theorem fl_K_32 : aw_fl "ArcTape$Packer" 32 1 3 "ArcTape$Packer" ft_K 7 := ⟨rfl, wu_K, by decide, (wl_in 92 rfl rfl)⟩
set_option maxRecDepth 20000 in
theorem fl_K_35 : aw_fl "ArcTape$Packer" 35 5 1 "ArcTape$Tape" ft_T 2 := ⟨rfl, wu_T, by decide, (wl_in 36 rfl rfl)⟩
set_option maxRecDepth 20000 in
theorem fl_K_41 : aw_fl "ArcTape$Packer" 41 0 4 "ArcTape$Layout" ft_Y 5 := ⟨rfl, wu_Y, by decide, (wl_in 70 rfl rfl)⟩
set_option maxRecDepth 20000 in
theorem fl_K_54 : aw_fl "ArcTape$Packer" 54 0 0 "ArcTape$Layout" ft_Y 5 := ⟨rfl, wu_Y, by decide, (wl_in 53 rfl rfl)⟩
set_option maxRecDepth 20000 in
theorem fl_K_67 : aw_fl "ArcTape$Packer" 67 0 1 "ArcTape$Layout" ft_Y 5 := ⟨rfl, wu_Y, by decide, (wl_in 57 rfl rfl)⟩
set_option maxRecDepth 20000 in
theorem fl_K_85 : aw_fl "ArcTape$Packer" 85 0 2 "ArcTape$Layout" ft_Y 5 := ⟨rfl, wu_Y, by decide, (wl_in 63 rfl rfl)⟩
set_option maxRecDepth 20000 in
theorem fl_K_9 : aw_fl "ArcTape$Packer" 9 1 4 "ArcTape$Packer" ft_K 7 := ⟨rfl, wu_K, by decide, (wl_in 93 rfl rfl)⟩
set_option maxRecDepth 20000 in
theorem fl_S_13 : aw_fl "ArcTape$Parts" 13 2 0 "ArcTape$Parts" ft_S 3 := ⟨rfl, wu_S, by decide, (wl_in 169 rfl rfl)⟩
set_option maxRecDepth 20000 in
theorem fl_S_16 : aw_fl "ArcTape$Parts" 16 2 2 "ArcTape$Parts" ft_S 3 := ⟨rfl, wu_S, by decide, (wl_in 172 rfl rfl)⟩
set_option maxRecDepth 20000 in
theorem fl_S_7 : aw_fl "ArcTape$Parts" 7 2 1 "ArcTape$Parts" ft_S 3 := ⟨rfl, wu_S, by decide, (wl_in 171 rfl rfl)⟩
set_option maxRecDepth 20000 in
theorem fl_D_128 : aw_fl "ArcTape$Reader" 128 5 1 "ArcTape$Tape" ft_T 2 := ⟨rfl, wu_T, by decide, (wl_in 38 rfl rfl)⟩
set_option maxRecDepth 20000 in
theorem fl_D_13 : aw_fl "ArcTape$Reader" 13 3 5 "ArcTape$Reader" ft_D 14 := ⟨rfl, wu_D, by decide, (wl_in 125 rfl rfl)⟩
set_option maxRecDepth 20000 in
theorem fl_D_131 : aw_fl "ArcTape$Reader" 131 5 0 "ArcTape$Tape" ft_T 2 := ⟨rfl, wu_T, by decide, (wl_in 34 rfl rfl)⟩
set_option maxRecDepth 20000 in
theorem fl_D_141 : aw_fl "ArcTape$Reader" 141 0 3 "ArcTape$Layout" ft_Y 5 := ⟨rfl, wu_Y, by decide, (wl_in 67 rfl rfl)⟩
set_option maxRecDepth 20000 in
theorem fl_D_17 : aw_fl "ArcTape$Reader" 17 3 6 "ArcTape$Reader" ft_D 14 := ⟨rfl, wu_D, by decide, (wl_in 126 rfl rfl)⟩
set_option maxRecDepth 20000 in
theorem fl_D_21 : aw_fl "ArcTape$Reader" 21 3 0 "ArcTape$Reader" ft_D 14 := ⟨rfl, wu_D, by decide, (wl_in 117 rfl rfl)⟩
set_option maxRecDepth 20000 in
theorem fl_D_25 : aw_fl "ArcTape$Reader" 25 3 1 "ArcTape$Reader" ft_D 14 := ⟨rfl, wu_D, by decide, (wl_in 119 rfl rfl)⟩
set_option maxRecDepth 20000 in
theorem fl_D_28 : aw_fl "ArcTape$Reader" 28 3 2 "ArcTape$Reader" ft_D 14 := ⟨rfl, wu_D, by decide, (wl_in 121 rfl rfl)⟩
set_option maxRecDepth 20000 in
theorem fl_D_31 : aw_fl "ArcTape$Reader" 31 3 3 "ArcTape$Reader" ft_D 14 := ⟨rfl, wu_D, by decide, (wl_in 123 rfl rfl)⟩
set_option maxRecDepth 20000 in
theorem fl_D_34 : aw_fl "ArcTape$Reader" 34 3 7 "ArcTape$Reader" ft_D 14 := ⟨rfl, wu_D, by decide, (wl_in 127 rfl rfl)⟩
set_option maxRecDepth 20000 in
theorem fl_D_37 : aw_fl "ArcTape$Reader" 37 0 4 "ArcTape$Layout" ft_Y 5 := ⟨rfl, wu_Y, by decide, (wl_in 69 rfl rfl)⟩
set_option maxRecDepth 20000 in
theorem fl_D_42 : aw_fl "ArcTape$Reader" 42 3 8 "ArcTape$Reader" ft_D 14 := ⟨rfl, wu_D, by decide, (wl_in 128 rfl rfl)⟩
set_option maxRecDepth 20000 in
theorem fl_D_45 : aw_fl "ArcTape$Reader" 45 3 9 "ArcTape$Reader" ft_D 14 := ⟨rfl, wu_D, by decide, (wl_in 129 rfl rfl)⟩
set_option maxRecDepth 20000 in
theorem fl_D_48 : aw_fl "ArcTape$Reader" 48 3 10 "ArcTape$Reader" ft_D 14 := ⟨rfl, wu_D, by decide, (wl_in 130 rfl rfl)⟩
set_option maxRecDepth 20000 in
theorem fl_D_51 : aw_fl "ArcTape$Reader" 51 3 11 "ArcTape$Reader" ft_D 14 := ⟨rfl, wu_D, by decide, (wl_in 131 rfl rfl)⟩
set_option maxRecDepth 20000 in
theorem fl_D_54 : aw_fl "ArcTape$Reader" 54 3 13 "ArcTape$Reader" ft_D 14 := ⟨rfl, wu_D, by decide, (wl_in 133 rfl rfl)⟩
set_option maxRecDepth 20000 in
theorem fl_D_65 : aw_fl "ArcTape$Reader" 65 3 12 "ArcTape$Reader" ft_D 14 := ⟨rfl, wu_D, by decide, (wl_in 132 rfl rfl)⟩
set_option maxRecDepth 20000 in
theorem fl_D_7 : aw_fl "ArcTape$Reader" 7 3 4 "ArcTape$Reader" ft_D 14 := ⟨rfl, wu_D, by decide, (wl_in 124 rfl rfl)⟩
set_option maxRecDepth 20000 in
theorem fl_D_76 : aw_fl "ArcTape$Reader" 76 0 0 "ArcTape$Layout" ft_Y 5 := ⟨rfl, wu_Y, by decide, (wl_in 54 rfl rfl)⟩
set_option maxRecDepth 20000 in
theorem fl_D_86 : aw_fl "ArcTape$Reader" 86 0 2 "ArcTape$Layout" ft_Y 5 := ⟨rfl, wu_Y, by decide, (wl_in 61 rfl rfl)⟩
set_option maxRecDepth 20000 in
theorem fl_D_98 : aw_fl "ArcTape$Reader" 98 0 1 "ArcTape$Layout" ft_Y 5 := ⟨rfl, wu_Y, by decide, (wl_in 59 rfl rfl)⟩
set_option maxRecDepth 20000 in
theorem fl_O_15 : aw_fl "ArcTape$Scores" 15 4 0 "ArcTape$Scores" ft_O 8 := ⟨rfl, wu_O, by decide, (wl_in 186 rfl rfl)⟩
set_option maxRecDepth 20000 in
theorem fl_O_19 : aw_fl "ArcTape$Scores" 19 4 1 "ArcTape$Scores" ft_O 8 := ⟨rfl, wu_O, by decide, (wl_in 188 rfl rfl)⟩
set_option maxRecDepth 20000 in
theorem fl_O_22 : aw_fl "ArcTape$Scores" 22 4 5 "ArcTape$Scores" ft_O 8 := ⟨rfl, wu_O, by decide, (wl_in 195 rfl rfl)⟩
set_option maxRecDepth 20000 in
theorem fl_O_25 : aw_fl "ArcTape$Scores" 25 4 2 "ArcTape$Scores" ft_O 8 := ⟨rfl, wu_O, by decide, (wl_in 190 rfl rfl)⟩
set_option maxRecDepth 20000 in
theorem fl_O_28 : aw_fl "ArcTape$Scores" 28 4 6 "ArcTape$Scores" ft_O 8 := ⟨rfl, wu_O, by decide, (wl_in 196 rfl rfl)⟩
set_option maxRecDepth 20000 in
theorem fl_O_32 : aw_fl "ArcTape$Scores" 32 4 7 "ArcTape$Scores" ft_O 8 := ⟨rfl, wu_O, by decide, (wl_in 197 rfl rfl)⟩
set_option maxRecDepth 20000 in
theorem fl_O_35 : aw_fl "ArcTape$Scores" 35 4 3 "ArcTape$Scores" ft_O 8 := ⟨rfl, wu_O, by decide, (wl_in 192 rfl rfl)⟩
set_option maxRecDepth 20000 in
theorem fl_O_9 : aw_fl "ArcTape$Scores" 9 4 4 "ArcTape$Scores" ft_O 8 := ⟨rfl, wu_O, by decide, (wl_in 194 rfl rfl)⟩
set_option maxRecDepth 20000 in
theorem fl_T_13 : aw_fl "ArcTape$Tape" 13 5 1 "ArcTape$Tape" ft_T 2 := ⟨rfl, wu_T, by decide, (wl_in 35 rfl rfl)⟩
set_option maxRecDepth 20000 in
theorem fl_T_9 : aw_fl "ArcTape$Tape" 9 5 0 "ArcTape$Tape" ft_T 2 := ⟨rfl, wu_T, by decide, (wl_in 32 rfl rfl)⟩
set_option maxRecDepth 20000 in
theorem fl_A_101 : aw_fl "ArcTape" 101 0 0 "ArcTape$Layout" ft_Y 5 := ⟨rfl, wu_Y, by decide, (wl_in 55 rfl rfl)⟩
set_option maxRecDepth 20000 in
theorem fl_A_104 : aw_fl "ArcTape" 104 0 1 "ArcTape$Layout" ft_Y 5 := ⟨rfl, wu_Y, by decide, (wl_in 58 rfl rfl)⟩
set_option maxRecDepth 20000 in
theorem fl_A_107 : aw_fl "ArcTape" 107 0 2 "ArcTape$Layout" ft_Y 5 := ⟨rfl, wu_Y, by decide, (wl_in 62 rfl rfl)⟩
set_option maxRecDepth 20000 in
theorem fl_A_110 : aw_fl "ArcTape" 110 0 3 "ArcTape$Layout" ft_Y 5 := ⟨rfl, wu_Y, by decide, (wl_in 65 rfl rfl)⟩
set_option maxRecDepth 20000 in
theorem fl_A_113 : aw_fl "ArcTape" 113 5 1 "ArcTape$Tape" ft_T 2 := ⟨rfl, wu_T, by decide, (wl_in 37 rfl rfl)⟩
set_option maxRecDepth 20000 in
theorem fl_A_116 : aw_fl "ArcTape" 116 0 4 "ArcTape$Layout" ft_Y 5 := ⟨rfl, wu_Y, by decide, (wl_in 71 rfl rfl)⟩
set_option maxRecDepth 20000 in
theorem fl_A_122 : aw_fl "ArcTape" 122 5 0 "ArcTape$Tape" ft_T 2 := ⟨rfl, wu_T, by decide, (wl_in 33 rfl rfl)⟩
set_option maxRecDepth 20000 in
theorem fl_A_126 : aw_fl "ArcTape" 126 3 1 "ArcTape$Reader" ft_D 14 := ⟨rfl, wu_D, by decide, (wl_in 120 rfl rfl)⟩
set_option maxRecDepth 20000 in
theorem fl_A_135 : aw_fl "ArcTape" 135 3 2 "ArcTape$Reader" ft_D 14 := ⟨rfl, wu_D, by decide, (wl_in 122 rfl rfl)⟩
set_option maxRecDepth 20000 in
theorem fl_A_142 : aw_fl "ArcTape" 142 2 0 "ArcTape$Parts" ft_S 3 := ⟨rfl, wu_S, by decide, (wl_in 170 rfl rfl)⟩
set_option maxRecDepth 20000 in
theorem fl_A_148 : aw_fl "ArcTape" 148 4 2 "ArcTape$Scores" ft_O 8 := ⟨rfl, wu_O, by decide, (wl_in 191 rfl rfl)⟩
set_option maxRecDepth 20000 in
theorem fl_A_154 : aw_fl "ArcTape" 154 4 0 "ArcTape$Scores" ft_O 8 := ⟨rfl, wu_O, by decide, (wl_in 187 rfl rfl)⟩
set_option maxRecDepth 20000 in
theorem fl_A_159 : aw_fl "ArcTape" 159 4 1 "ArcTape$Scores" ft_O 8 := ⟨rfl, wu_O, by decide, (wl_in 189 rfl rfl)⟩
set_option maxRecDepth 20000 in
theorem fl_A_165 : aw_fl "ArcTape" 165 4 3 "ArcTape$Scores" ft_O 8 := ⟨rfl, wu_O, by decide, (wl_in 193 rfl rfl)⟩
set_option maxRecDepth 20000 in
theorem fl_A_18 : aw_fl "ArcTape" 18 6 0 "ArcTape" ft_A 8 := ⟨rfl, wu_A, by decide, (wl_in 355 rfl rfl)⟩
set_option maxRecDepth 20000 in
theorem fl_A_22 : aw_fl "ArcTape" 22 6 1 "ArcTape" ft_A 8 := ⟨rfl, wu_A, by decide, (wl_in 356 rfl rfl)⟩
set_option maxRecDepth 20000 in
theorem fl_A_29 : aw_fl "ArcTape" 29 6 2 "ArcTape" ft_A 8 := ⟨rfl, wu_A, by decide, (wl_in 357 rfl rfl)⟩
set_option maxRecDepth 20000 in
theorem fl_A_38 : aw_fl "ArcTape" 38 6 3 "ArcTape" ft_A 8 := ⟨rfl, wu_A, by decide, (wl_in 358 rfl rfl)⟩
set_option maxRecDepth 20000 in
theorem fl_A_47 : aw_fl "ArcTape" 47 6 4 "ArcTape" ft_A 8 := ⟨rfl, wu_A, by decide, (wl_in 359 rfl rfl)⟩
set_option maxRecDepth 20000 in
theorem fl_A_56 : aw_fl "ArcTape" 56 6 5 "ArcTape" ft_A 8 := ⟨rfl, wu_A, by decide, (wl_in 360 rfl rfl)⟩
set_option maxRecDepth 20000 in
theorem fl_A_62 : aw_fl "ArcTape" 62 3 0 "ArcTape$Reader" ft_D 14 := ⟨rfl, wu_D, by decide, (wl_in 118 rfl rfl)⟩
set_option maxRecDepth 20000 in
theorem fl_A_68 : aw_fl "ArcTape" 68 6 6 "ArcTape" ft_A 8 := ⟨rfl, wu_A, by decide, (wl_in 361 rfl rfl)⟩
set_option maxRecDepth 20000 in
theorem fl_A_75 : aw_fl "ArcTape" 75 6 7 "ArcTape" ft_A 8 := ⟨rfl, wu_A, by decide, (wl_in 362 rfl rfl)⟩
set_option maxRecDepth 20000 in
theorem fl_M_109 : aw_fl "ArcTapeModel" 109 7 5 "ArcTapeModel" ft_M 29 := ⟨rfl, wu_M, by decide, (wl_in 601 rfl rfl)⟩
set_option maxRecDepth 20000 in
theorem fl_M_118 : aw_fl "ArcTapeModel" 118 7 6 "ArcTapeModel" ft_M 29 := ⟨rfl, wu_M, by decide, (wl_in 602 rfl rfl)⟩
set_option maxRecDepth 20000 in
theorem fl_M_125 : aw_fl "ArcTapeModel" 125 7 12 "ArcTapeModel" ft_M 29 := ⟨rfl, wu_M, by decide, (wl_in 608 rfl rfl)⟩
set_option maxRecDepth 20000 in
theorem fl_M_128 : aw_fl "ArcTapeModel" 128 7 11 "ArcTapeModel" ft_M 29 := ⟨rfl, wu_M, by decide, (wl_in 607 rfl rfl)⟩
set_option maxRecDepth 20000 in
theorem fl_M_13 : aw_fl "ArcTapeModel" 13 7 2 "ArcTapeModel" ft_M 29 := ⟨rfl, wu_M, by decide, (wl_in 598 rfl rfl)⟩
set_option maxRecDepth 20000 in
theorem fl_M_141 : aw_fl "ArcTapeModel" 141 7 14 "ArcTapeModel" ft_M 29 := ⟨rfl, wu_M, by decide, (wl_in 610 rfl rfl)⟩
set_option maxRecDepth 20000 in
theorem fl_M_145 : aw_fl "ArcTapeModel" 145 7 13 "ArcTapeModel" ft_M 29 := ⟨rfl, wu_M, by decide, (wl_in 609 rfl rfl)⟩
set_option maxRecDepth 20000 in
theorem fl_M_16 : aw_fl "ArcTapeModel" 16 7 4 "ArcTapeModel" ft_M 29 := ⟨rfl, wu_M, by decide, (wl_in 600 rfl rfl)⟩
set_option maxRecDepth 20000 in
theorem fl_M_176 : aw_fl "ArcTapeModel" 176 7 28 "ArcTapeModel" ft_M 29 := ⟨rfl, wu_M, by decide, (wl_in 624 rfl rfl)⟩
set_option maxRecDepth 20000 in
theorem fl_M_19 : aw_fl "ArcTapeModel" 19 7 9 "ArcTapeModel" ft_M 29 := ⟨rfl, wu_M, by decide, (wl_in 605 rfl rfl)⟩
set_option maxRecDepth 20000 in
theorem fl_M_191 : aw_fl "ArcTapeModel" 191 7 20 "ArcTapeModel" ft_M 29 := ⟨rfl, wu_M, by decide, (wl_in 616 rfl rfl)⟩
set_option maxRecDepth 20000 in
theorem fl_M_194 : aw_fl "ArcTapeModel" 194 7 21 "ArcTapeModel" ft_M 29 := ⟨rfl, wu_M, by decide, (wl_in 617 rfl rfl)⟩
set_option maxRecDepth 20000 in
theorem fl_M_197 : aw_fl "ArcTapeModel" 197 7 25 "ArcTapeModel" ft_M 29 := ⟨rfl, wu_M, by decide, (wl_in 621 rfl rfl)⟩
set_option maxRecDepth 20000 in
theorem fl_M_22 : aw_fl "ArcTapeModel" 22 7 10 "ArcTapeModel" ft_M 29 := ⟨rfl, wu_M, by decide, (wl_in 606 rfl rfl)⟩
set_option maxRecDepth 20000 in
theorem fl_M_25 : aw_fl "ArcTapeModel" 25 7 15 "ArcTapeModel" ft_M 29 := ⟨rfl, wu_M, by decide, (wl_in 611 rfl rfl)⟩
set_option maxRecDepth 20000 in
theorem fl_M_28 : aw_fl "ArcTapeModel" 28 7 16 "ArcTapeModel" ft_M 29 := ⟨rfl, wu_M, by decide, (wl_in 612 rfl rfl)⟩
set_option maxRecDepth 20000 in
theorem fl_M_31 : aw_fl "ArcTapeModel" 31 7 17 "ArcTapeModel" ft_M 29 := ⟨rfl, wu_M, by decide, (wl_in 613 rfl rfl)⟩
set_option maxRecDepth 20000 in
theorem fl_M_34 : aw_fl "ArcTapeModel" 34 7 18 "ArcTapeModel" ft_M 29 := ⟨rfl, wu_M, by decide, (wl_in 614 rfl rfl)⟩
set_option maxRecDepth 20000 in
theorem fl_M_37 : aw_fl "ArcTapeModel" 37 7 19 "ArcTapeModel" ft_M 29 := ⟨rfl, wu_M, by decide, (wl_in 615 rfl rfl)⟩
set_option maxRecDepth 20000 in
theorem fl_M_40 : aw_fl "ArcTapeModel" 40 7 22 "ArcTapeModel" ft_M 29 := ⟨rfl, wu_M, by decide, (wl_in 618 rfl rfl)⟩
set_option maxRecDepth 20000 in
theorem fl_M_44 : aw_fl "ArcTapeModel" 44 7 23 "ArcTapeModel" ft_M 29 := ⟨rfl, wu_M, by decide, (wl_in 619 rfl rfl)⟩
set_option maxRecDepth 20000 in
theorem fl_M_47 : aw_fl "ArcTapeModel" 47 7 24 "ArcTapeModel" ft_M 29 := ⟨rfl, wu_M, by decide, (wl_in 620 rfl rfl)⟩
set_option maxRecDepth 20000 in
theorem fl_M_50 : aw_fl "ArcTapeModel" 50 7 26 "ArcTapeModel" ft_M 29 := ⟨rfl, wu_M, by decide, (wl_in 622 rfl rfl)⟩
set_option maxRecDepth 20000 in
theorem fl_M_53 : aw_fl "ArcTapeModel" 53 7 27 "ArcTapeModel" ft_M 29 := ⟨rfl, wu_M, by decide, (wl_in 623 rfl rfl)⟩
set_option maxRecDepth 20000 in
theorem fl_M_56 : aw_fl "ArcTapeModel" 56 7 0 "ArcTapeModel" ft_M 29 := ⟨rfl, wu_M, by decide, (wl_in 596 rfl rfl)⟩
set_option maxRecDepth 20000 in
theorem fl_M_7 : aw_fl "ArcTapeModel" 7 7 1 "ArcTapeModel" ft_M 29 := ⟨rfl, wu_M, by decide, (wl_in 597 rfl rfl)⟩
set_option maxRecDepth 20000 in
theorem fl_M_72 : aw_fl "ArcTapeModel" 72 7 3 "ArcTapeModel" ft_M 29 := ⟨rfl, wu_M, by decide, (wl_in 599 rfl rfl)⟩
set_option maxRecDepth 20000 in
theorem fl_M_86 : aw_fl "ArcTapeModel" 86 7 8 "ArcTapeModel" ft_M 29 := ⟨rfl, wu_M, by decide, (wl_in 604 rfl rfl)⟩
set_option maxRecDepth 20000 in
theorem fl_M_92 : aw_fl "ArcTapeModel" 92 7 7 "ArcTapeModel" ft_M 29 := ⟨rfl, wu_M, by decide, (wl_in 603 rfl rfl)⟩
set_option maxRecDepth 20000 in
theorem wk_O_39 : Cond.constantLong "ArcTape$Scores" 39 (1000000 : Int64) ∈ wsAll := (wl_in 350 rfl rfl)
set_option maxRecDepth 20000 in
theorem wk_O_41 : Cond.constantLong "ArcTape$Scores" 41 (1000000000000 : Int64) ∈ wsAll := (wl_in 351 rfl rfl)
set_option maxRecDepth 20000 in
theorem wk_O_82 : Cond.constantLong "ArcTape$Scores" 82 (1000000000 : Int64) ∈ wsAll := (wl_in 490 rfl rfl)
set_option maxRecDepth 20000 in
theorem wk_O_84 : Cond.constantLong "ArcTape$Scores" 84 (1000 : Int64) ∈ wsAll := (wl_in 491 rfl rfl)
set_option maxRecDepth 20000 in
theorem wk_A_157 : Cond.constantLong "ArcTape" 157 (-1 : Int64) ∈ wsAll := (wl_in 517 rfl rfl)
set_option maxRecDepth 20000 in
theorem wk_M_121 : Cond.constant "ArcTapeModel" 121 (1048576 : Int32) ∈ wsAll := (wl_in 547 rfl rfl)
set_option maxRecDepth 20000 in
theorem wk_M_201 : Cond.constantLong "ArcTapeModel" 201 (1000000 : Int64) ∈ wsAll := (wl_in 594 rfl rfl)
set_option maxRecDepth 20000 in
theorem wk_M_203 : Cond.constantLong "ArcTapeModel" 203 (1000000000000 : Int64) ∈ wsAll := (wl_in 595 rfl rfl)
set_option maxRecDepth 20000 in
theorem wk_M_208 : Cond.constantLong "ArcTapeModel" 208 (1000000000 : Int64) ∈ wsAll := (wl_in 809 rfl rfl)
set_option maxRecDepth 20000 in
theorem wk_M_210 : Cond.constantLong "ArcTapeModel" 210 (1000 : Int64) ∈ wsAll := (wl_in 810 rfl rfl)
set_option maxRecDepth 20000 in
theorem wk_M_228 : Cond.constantLong "ArcTapeModel" 228 (-1 : Int64) ∈ wsAll := (wl_in 831 rfl rfl)
set_option maxRecDepth 20000 in
theorem wk_J_265 : Cond.constant "java/lang/Integer" 265 (1431655765 : Int32) ∈ wsAll := (wl_in 236 rfl rfl)
set_option maxRecDepth 20000 in
theorem wk_J_266 : Cond.constant "java/lang/Integer" 266 (858993459 : Int32) ∈ wsAll := (wl_in 237 rfl rfl)
set_option maxRecDepth 20000 in
theorem wk_J_267 : Cond.constant "java/lang/Integer" 267 (252645135 : Int32) ∈ wsAll := (wl_in 238 rfl rfl)
set_option maxRecDepth 20000 in
theorem fp_Y_13 : aw_fp "ArcTape$Layout" 13 0 1 "ArcTape$Layout" ft_Y 5 .int := ⟨fl_Y_13, ⟨ty_Y, tz_Y⟩, rfl, tk_Y 1 (by decide)⟩
set_option maxRecDepth 20000 in
theorem fp_Y_16 : aw_fp "ArcTape$Layout" 16 0 2 "ArcTape$Layout" ft_Y 5 .int := ⟨fl_Y_16, ⟨ty_Y, tz_Y⟩, rfl, tk_Y 2 (by decide)⟩
set_option maxRecDepth 20000 in
theorem fp_Y_19 : aw_fp "ArcTape$Layout" 19 0 3 "ArcTape$Layout" ft_Y 5 .int := ⟨fl_Y_19, ⟨ty_Y, tz_Y⟩, rfl, tk_Y 3 (by decide)⟩
set_option maxRecDepth 20000 in
theorem fp_Y_7 : aw_fp "ArcTape$Layout" 7 0 0 "ArcTape$Layout" ft_Y 5 .int := ⟨fl_Y_7, ⟨ty_Y, tz_Y⟩, rfl, tk_Y 0 (by decide)⟩
set_option maxRecDepth 20000 in
theorem fp_K_35 : aw_fp "ArcTape$Packer" 35 5 1 "ArcTape$Tape" ft_T 2 .int := ⟨fl_K_35, ⟨ty_T, tz_T⟩, rfl, tk_T 1 (by decide)⟩
set_option maxRecDepth 20000 in
theorem fp_D_34 : aw_fp "ArcTape$Reader" 34 3 7 "ArcTape$Reader" ft_D 14 .int := ⟨fl_D_34, ⟨ty_D, tz_D⟩, rfl, tk_D 7 (by decide)⟩
set_option maxRecDepth 20000 in
theorem fp_D_42 : aw_fp "ArcTape$Reader" 42 3 8 "ArcTape$Reader" ft_D 14 .int := ⟨fl_D_42, ⟨ty_D, tz_D⟩, rfl, tk_D 8 (by decide)⟩
set_option maxRecDepth 20000 in
theorem fp_D_45 : aw_fp "ArcTape$Reader" 45 3 9 "ArcTape$Reader" ft_D 14 .int := ⟨fl_D_45, ⟨ty_D, tz_D⟩, rfl, tk_D 9 (by decide)⟩
set_option maxRecDepth 20000 in
theorem fp_D_48 : aw_fp "ArcTape$Reader" 48 3 10 "ArcTape$Reader" ft_D 14 .int := ⟨fl_D_48, ⟨ty_D, tz_D⟩, rfl, tk_D 10 (by decide)⟩
set_option maxRecDepth 20000 in
theorem fp_D_51 : aw_fp "ArcTape$Reader" 51 3 11 "ArcTape$Reader" ft_D 14 .int := ⟨fl_D_51, ⟨ty_D, tz_D⟩, rfl, tk_D 11 (by decide)⟩
set_option maxRecDepth 20000 in
theorem fp_D_54 : aw_fp "ArcTape$Reader" 54 3 13 "ArcTape$Reader" ft_D 14 .boolean := ⟨fl_D_54, ⟨ty_D, tz_D⟩, rfl, tk_D 13 (by decide)⟩
set_option maxRecDepth 20000 in
theorem fp_D_65 : aw_fp "ArcTape$Reader" 65 3 12 "ArcTape$Reader" ft_D 14 .int := ⟨fl_D_65, ⟨ty_D, tz_D⟩, rfl, tk_D 12 (by decide)⟩
set_option maxRecDepth 20000 in
theorem fp_O_28 : aw_fp "ArcTape$Scores" 28 4 6 "ArcTape$Scores" ft_O 8 .int := ⟨fl_O_28, ⟨ty_O, tz_O⟩, rfl, tk_O 6 (by decide)⟩
set_option maxRecDepth 20000 in
theorem fp_O_32 : aw_fp "ArcTape$Scores" 32 4 7 "ArcTape$Scores" ft_O 8 .int := ⟨fl_O_32, ⟨ty_O, tz_O⟩, rfl, tk_O 7 (by decide)⟩
set_option maxRecDepth 20000 in
theorem fp_O_35 : aw_fp "ArcTape$Scores" 35 4 3 "ArcTape$Scores" ft_O 8 .long := ⟨fl_O_35, ⟨ty_O, tz_O⟩, rfl, tk_O 3 (by decide)⟩
set_option maxRecDepth 20000 in
theorem fp_T_13 : aw_fp "ArcTape$Tape" 13 5 1 "ArcTape$Tape" ft_T 2 .int := ⟨fl_T_13, ⟨ty_T, tz_T⟩, rfl, tk_T 1 (by decide)⟩
set_option maxRecDepth 20000 in
theorem fp_A_101 : aw_fp "ArcTape" 101 0 0 "ArcTape$Layout" ft_Y 5 .int := ⟨fl_A_101, ⟨ty_Y, tz_Y⟩, rfl, tk_Y 0 (by decide)⟩
set_option maxRecDepth 20000 in
theorem fp_A_104 : aw_fp "ArcTape" 104 0 1 "ArcTape$Layout" ft_Y 5 .int := ⟨fl_A_104, ⟨ty_Y, tz_Y⟩, rfl, tk_Y 1 (by decide)⟩
set_option maxRecDepth 20000 in
theorem fp_A_107 : aw_fp "ArcTape" 107 0 2 "ArcTape$Layout" ft_Y 5 .int := ⟨fl_A_107, ⟨ty_Y, tz_Y⟩, rfl, tk_Y 2 (by decide)⟩
set_option maxRecDepth 20000 in
theorem fp_A_110 : aw_fp "ArcTape" 110 0 3 "ArcTape$Layout" ft_Y 5 .int := ⟨fl_A_110, ⟨ty_Y, tz_Y⟩, rfl, tk_Y 3 (by decide)⟩
set_option maxRecDepth 20000 in
theorem fp_M_109 : aw_fp "ArcTapeModel" 109 7 5 "ArcTapeModel" ft_M 29 .int := ⟨fl_M_109, ⟨ty_M, tz_M⟩, rfl, tk_M 5 (by decide)⟩
set_option maxRecDepth 20000 in
theorem fp_M_118 : aw_fp "ArcTapeModel" 118 7 6 "ArcTapeModel" ft_M 29 .int := ⟨fl_M_118, ⟨ty_M, tz_M⟩, rfl, tk_M 6 (by decide)⟩
set_option maxRecDepth 20000 in
theorem fp_M_125 : aw_fp "ArcTapeModel" 125 7 12 "ArcTapeModel" ft_M 29 .int := ⟨fl_M_125, ⟨ty_M, tz_M⟩, rfl, tk_M 12 (by decide)⟩
set_option maxRecDepth 20000 in
theorem fp_M_128 : aw_fp "ArcTapeModel" 128 7 11 "ArcTapeModel" ft_M 29 .int := ⟨fl_M_128, ⟨ty_M, tz_M⟩, rfl, tk_M 11 (by decide)⟩
set_option maxRecDepth 20000 in
theorem fp_M_13 : aw_fp "ArcTapeModel" 13 7 2 "ArcTapeModel" ft_M 29 (.array .int) := ⟨fl_M_13, ⟨ty_M, tz_M⟩, rfl, tk_M 2 (by decide)⟩
set_option maxRecDepth 20000 in
theorem fp_M_141 : aw_fp "ArcTapeModel" 141 7 14 "ArcTapeModel" ft_M 29 .boolean := ⟨fl_M_141, ⟨ty_M, tz_M⟩, rfl, tk_M 14 (by decide)⟩
set_option maxRecDepth 20000 in
theorem fp_M_145 : aw_fp "ArcTapeModel" 145 7 13 "ArcTapeModel" ft_M 29 .int := ⟨fl_M_145, ⟨ty_M, tz_M⟩, rfl, tk_M 13 (by decide)⟩
set_option maxRecDepth 20000 in
theorem fp_M_16 : aw_fp "ArcTapeModel" 16 7 4 "ArcTapeModel" ft_M 29 (.array .int) := ⟨fl_M_16, ⟨ty_M, tz_M⟩, rfl, tk_M 4 (by decide)⟩
set_option maxRecDepth 20000 in
theorem fp_M_176 : aw_fp "ArcTapeModel" 176 7 28 "ArcTapeModel" ft_M 29 .int := ⟨fl_M_176, ⟨ty_M, tz_M⟩, rfl, tk_M 28 (by decide)⟩
set_option maxRecDepth 20000 in
theorem fp_M_19 : aw_fp "ArcTapeModel" 19 7 9 "ArcTapeModel" ft_M 29 (.array .int) := ⟨fl_M_19, ⟨ty_M, tz_M⟩, rfl, tk_M 9 (by decide)⟩
set_option maxRecDepth 20000 in
theorem fp_M_191 : aw_fp "ArcTapeModel" 191 7 20 "ArcTapeModel" ft_M 29 .int := ⟨fl_M_191, ⟨ty_M, tz_M⟩, rfl, tk_M 20 (by decide)⟩
set_option maxRecDepth 20000 in
theorem fp_M_194 : aw_fp "ArcTapeModel" 194 7 21 "ArcTapeModel" ft_M 29 .int := ⟨fl_M_194, ⟨ty_M, tz_M⟩, rfl, tk_M 21 (by decide)⟩
set_option maxRecDepth 20000 in
theorem fp_M_197 : aw_fp "ArcTapeModel" 197 7 25 "ArcTapeModel" ft_M 29 .long := ⟨fl_M_197, ⟨ty_M, tz_M⟩, rfl, tk_M 25 (by decide)⟩
set_option maxRecDepth 20000 in
theorem fp_M_22 : aw_fp "ArcTapeModel" 22 7 10 "ArcTapeModel" ft_M 29 (.array .int) := ⟨fl_M_22, ⟨ty_M, tz_M⟩, rfl, tk_M 10 (by decide)⟩
set_option maxRecDepth 20000 in
theorem fp_M_25 : aw_fp "ArcTapeModel" 25 7 15 "ArcTapeModel" ft_M 29 (.array .int) := ⟨fl_M_25, ⟨ty_M, tz_M⟩, rfl, tk_M 15 (by decide)⟩
set_option maxRecDepth 20000 in
theorem fp_M_28 : aw_fp "ArcTapeModel" 28 7 16 "ArcTapeModel" ft_M 29 (.array .int) := ⟨fl_M_28, ⟨ty_M, tz_M⟩, rfl, tk_M 16 (by decide)⟩
set_option maxRecDepth 20000 in
theorem fp_M_31 : aw_fp "ArcTapeModel" 31 7 17 "ArcTapeModel" ft_M 29 (.array .int) := ⟨fl_M_31, ⟨ty_M, tz_M⟩, rfl, tk_M 17 (by decide)⟩
set_option maxRecDepth 20000 in
theorem fp_M_34 : aw_fp "ArcTapeModel" 34 7 18 "ArcTapeModel" ft_M 29 (.array .int) := ⟨fl_M_34, ⟨ty_M, tz_M⟩, rfl, tk_M 18 (by decide)⟩
set_option maxRecDepth 20000 in
theorem fp_M_37 : aw_fp "ArcTapeModel" 37 7 19 "ArcTapeModel" ft_M 29 (.array .int) := ⟨fl_M_37, ⟨ty_M, tz_M⟩, rfl, tk_M 19 (by decide)⟩
set_option maxRecDepth 20000 in
theorem fp_M_40 : aw_fp "ArcTapeModel" 40 7 22 "ArcTapeModel" ft_M 29 (.array .long) := ⟨fl_M_40, ⟨ty_M, tz_M⟩, rfl, tk_M 22 (by decide)⟩
set_option maxRecDepth 20000 in
theorem fp_M_44 : aw_fp "ArcTapeModel" 44 7 23 "ArcTapeModel" ft_M 29 (.array .long) := ⟨fl_M_44, ⟨ty_M, tz_M⟩, rfl, tk_M 23 (by decide)⟩
set_option maxRecDepth 20000 in
theorem fp_M_47 : aw_fp "ArcTapeModel" 47 7 24 "ArcTapeModel" ft_M 29 (.array .long) := ⟨fl_M_47, ⟨ty_M, tz_M⟩, rfl, tk_M 24 (by decide)⟩
set_option maxRecDepth 20000 in
theorem fp_M_50 : aw_fp "ArcTapeModel" 50 7 26 "ArcTapeModel" ft_M 29 (.array .int) := ⟨fl_M_50, ⟨ty_M, tz_M⟩, rfl, tk_M 26 (by decide)⟩
set_option maxRecDepth 20000 in
theorem fp_M_53 : aw_fp "ArcTapeModel" 53 7 27 "ArcTapeModel" ft_M 29 (.array .int) := ⟨fl_M_53, ⟨ty_M, tz_M⟩, rfl, tk_M 27 (by decide)⟩
set_option maxRecDepth 20000 in
theorem fp_M_56 : aw_fp "ArcTapeModel" 56 7 0 "ArcTapeModel" ft_M 29 .int := ⟨fl_M_56, ⟨ty_M, tz_M⟩, rfl, tk_M 0 (by decide)⟩
set_option maxRecDepth 20000 in
theorem fp_M_7 : aw_fp "ArcTapeModel" 7 7 1 "ArcTapeModel" ft_M 29 (.array .int) := ⟨fl_M_7, ⟨ty_M, tz_M⟩, rfl, tk_M 1 (by decide)⟩
set_option maxRecDepth 20000 in
theorem fp_M_72 : aw_fp "ArcTapeModel" 72 7 3 "ArcTapeModel" ft_M 29 .int := ⟨fl_M_72, ⟨ty_M, tz_M⟩, rfl, tk_M 3 (by decide)⟩
set_option maxRecDepth 20000 in
theorem fp_M_86 : aw_fp "ArcTapeModel" 86 7 8 "ArcTapeModel" ft_M 29 .int := ⟨fl_M_86, ⟨ty_M, tz_M⟩, rfl, tk_M 8 (by decide)⟩
set_option maxRecDepth 20000 in
theorem fp_M_92 : aw_fp "ArcTapeModel" 92 7 7 "ArcTapeModel" ft_M 29 .int := ⟨fl_M_92, ⟨ty_M, tz_M⟩, rfl, tk_M 7 (by decide)⟩
set_option maxRecDepth 20000 in
theorem fp_Y_22 : aw_fpF "ArcTape$Layout" 22 0 4 "ArcTape$Layout" ft_Y 5 (.array .int) := ⟨fl_Y_22, ⟨ty_Y, tz_Y⟩, rfl, rfl, tk_Y 4 (by decide)⟩
set_option maxRecDepth 20000 in
theorem fp_K_15 : aw_fpF "ArcTape$Packer" 15 1 5 "ArcTape$Packer" ft_K 7 (.array .int) := ⟨fl_K_15, ⟨ty_K, tz_K⟩, rfl, rfl, tk_K 5 (by decide)⟩
set_option maxRecDepth 20000 in
theorem fp_K_18 : aw_fpF "ArcTape$Packer" 18 1 6 "ArcTape$Packer" ft_K 7 (.array .int) := ⟨fl_K_18, ⟨ty_K, tz_K⟩, rfl, rfl, tk_K 6 (by decide)⟩
set_option maxRecDepth 20000 in
theorem fp_K_21 : aw_fpF "ArcTape$Packer" 21 1 0 "ArcTape$Packer" ft_K 7 (.array .int) := ⟨fl_K_21, ⟨ty_K, tz_K⟩, rfl, rfl, tk_K 0 (by decide)⟩
set_option maxRecDepth 20000 in
theorem fp_K_24 : aw_fpF "ArcTape$Packer" 24 1 1 "ArcTape$Packer" ft_K 7 (.object "ArcTape$Layout") := ⟨fl_K_24, ⟨ty_K, tz_K⟩, rfl, rfl, tk_K 1 (by decide)⟩
set_option maxRecDepth 20000 in
theorem fp_K_28 : aw_fpF "ArcTape$Packer" 28 1 2 "ArcTape$Packer" ft_K 7 (.object "ArcTape$Tape") := ⟨fl_K_28, ⟨ty_K, tz_K⟩, rfl, rfl, tk_K 2 (by decide)⟩
set_option maxRecDepth 20000 in
theorem fp_K_32 : aw_fpF "ArcTape$Packer" 32 1 3 "ArcTape$Packer" ft_K 7 (.array .int) := ⟨fl_K_32, ⟨ty_K, tz_K⟩, rfl, rfl, tk_K 3 (by decide)⟩
set_option maxRecDepth 20000 in
theorem fp_K_9 : aw_fpF "ArcTape$Packer" 9 1 4 "ArcTape$Packer" ft_K 7 (.array .int) := ⟨fl_K_9, ⟨ty_K, tz_K⟩, rfl, rfl, tk_K 4 (by decide)⟩
set_option maxRecDepth 20000 in
theorem fp_S_13 : aw_fpF "ArcTape$Parts" 13 2 0 "ArcTape$Parts" ft_S 3 (.array .int) := ⟨fl_S_13, ⟨ty_S, tz_S⟩, rfl, rfl, tk_S 0 (by decide)⟩
set_option maxRecDepth 20000 in
theorem fp_S_16 : aw_fpF "ArcTape$Parts" 16 2 2 "ArcTape$Parts" ft_S 3 (.array .int) := ⟨fl_S_16, ⟨ty_S, tz_S⟩, rfl, rfl, tk_S 2 (by decide)⟩
set_option maxRecDepth 20000 in
theorem fp_S_7 : aw_fpF "ArcTape$Parts" 7 2 1 "ArcTape$Parts" ft_S 3 (.array .int) := ⟨fl_S_7, ⟨ty_S, tz_S⟩, rfl, rfl, tk_S 1 (by decide)⟩
set_option maxRecDepth 20000 in
theorem fp_D_13 : aw_fpF "ArcTape$Reader" 13 3 5 "ArcTape$Reader" ft_D 14 (.object "ArcTape$Layout") := ⟨fl_D_13, ⟨ty_D, tz_D⟩, rfl, rfl, tk_D 5 (by decide)⟩
set_option maxRecDepth 20000 in
theorem fp_D_17 : aw_fpF "ArcTape$Reader" 17 3 6 "ArcTape$Reader" ft_D 14 (.object "ArcTape$Tape") := ⟨fl_D_17, ⟨ty_D, tz_D⟩, rfl, rfl, tk_D 6 (by decide)⟩
set_option maxRecDepth 20000 in
theorem fp_D_21 : aw_fpF "ArcTape$Reader" 21 3 0 "ArcTape$Reader" ft_D 14 (.array .int) := ⟨fl_D_21, ⟨ty_D, tz_D⟩, rfl, rfl, tk_D 0 (by decide)⟩
set_option maxRecDepth 20000 in
theorem fp_D_25 : aw_fpF "ArcTape$Reader" 25 3 1 "ArcTape$Reader" ft_D 14 (.array .int) := ⟨fl_D_25, ⟨ty_D, tz_D⟩, rfl, rfl, tk_D 1 (by decide)⟩
set_option maxRecDepth 20000 in
theorem fp_D_28 : aw_fpF "ArcTape$Reader" 28 3 2 "ArcTape$Reader" ft_D 14 (.array .int) := ⟨fl_D_28, ⟨ty_D, tz_D⟩, rfl, rfl, tk_D 2 (by decide)⟩
set_option maxRecDepth 20000 in
theorem fp_D_31 : aw_fpF "ArcTape$Reader" 31 3 3 "ArcTape$Reader" ft_D 14 (.array .int) := ⟨fl_D_31, ⟨ty_D, tz_D⟩, rfl, rfl, tk_D 3 (by decide)⟩
set_option maxRecDepth 20000 in
theorem fp_D_7 : aw_fpF "ArcTape$Reader" 7 3 4 "ArcTape$Reader" ft_D 14 .int := ⟨fl_D_7, ⟨ty_D, tz_D⟩, rfl, rfl, tk_D 4 (by decide)⟩
set_option maxRecDepth 20000 in
theorem fp_O_15 : aw_fpF "ArcTape$Scores" 15 4 0 "ArcTape$Scores" ft_O 8 (.array .long) := ⟨fl_O_15, ⟨ty_O, tz_O⟩, rfl, rfl, tk_O 0 (by decide)⟩
set_option maxRecDepth 20000 in
theorem fp_O_19 : aw_fpF "ArcTape$Scores" 19 4 1 "ArcTape$Scores" ft_O 8 (.array .long) := ⟨fl_O_19, ⟨ty_O, tz_O⟩, rfl, rfl, tk_O 1 (by decide)⟩
set_option maxRecDepth 20000 in
theorem fp_O_22 : aw_fpF "ArcTape$Scores" 22 4 5 "ArcTape$Scores" ft_O 8 (.array .long) := ⟨fl_O_22, ⟨ty_O, tz_O⟩, rfl, rfl, tk_O 5 (by decide)⟩
set_option maxRecDepth 20000 in
theorem fp_O_25 : aw_fpF "ArcTape$Scores" 25 4 2 "ArcTape$Scores" ft_O 8 (.array .int) := ⟨fl_O_25, ⟨ty_O, tz_O⟩, rfl, rfl, tk_O 2 (by decide)⟩
set_option maxRecDepth 20000 in
theorem fp_O_9 : aw_fpF "ArcTape$Scores" 9 4 4 "ArcTape$Scores" ft_O 8 (.array .int) := ⟨fl_O_9, ⟨ty_O, tz_O⟩, rfl, rfl, tk_O 4 (by decide)⟩
set_option maxRecDepth 20000 in
theorem fp_T_9 : aw_fpF "ArcTape$Tape" 9 5 0 "ArcTape$Tape" ft_T 2 (.array .byte) := ⟨fl_T_9, ⟨ty_T, tz_T⟩, rfl, rfl, tk_T 0 (by decide)⟩
set_option maxRecDepth 20000 in
theorem fp_A_18 : aw_fpF "ArcTape" 18 6 0 "ArcTape" ft_A 8 .int := ⟨fl_A_18, ⟨ty_A, tz_A⟩, rfl, rfl, tk_A 0 (by decide)⟩
set_option maxRecDepth 20000 in
theorem fp_A_22 : aw_fpF "ArcTape" 22 6 1 "ArcTape" ft_A 8 (.array .int) := ⟨fl_A_22, ⟨ty_A, tz_A⟩, rfl, rfl, tk_A 1 (by decide)⟩
set_option maxRecDepth 20000 in
theorem fp_A_29 : aw_fpF "ArcTape" 29 6 2 "ArcTape" ft_A 8 (.object "ArcTape$Tape") := ⟨fl_A_29, ⟨ty_A, tz_A⟩, rfl, rfl, tk_A 2 (by decide)⟩
set_option maxRecDepth 20000 in
theorem fp_A_38 : aw_fpF "ArcTape" 38 6 3 "ArcTape" ft_A 8 (.object "ArcTape$Layout") := ⟨fl_A_38, ⟨ty_A, tz_A⟩, rfl, rfl, tk_A 3 (by decide)⟩
set_option maxRecDepth 20000 in
theorem fp_A_47 : aw_fpF "ArcTape" 47 6 4 "ArcTape" ft_A 8 (.object "ArcTape$Packer") := ⟨fl_A_47, ⟨ty_A, tz_A⟩, rfl, rfl, tk_A 4 (by decide)⟩
set_option maxRecDepth 20000 in
theorem fp_A_56 : aw_fpF "ArcTape" 56 6 5 "ArcTape" ft_A 8 (.object "ArcTape$Reader") := ⟨fl_A_56, ⟨ty_A, tz_A⟩, rfl, rfl, tk_A 5 (by decide)⟩
set_option maxRecDepth 20000 in
theorem fp_A_68 : aw_fpF "ArcTape" 68 6 6 "ArcTape" ft_A 8 (.object "ArcTape$Parts") := ⟨fl_A_68, ⟨ty_A, tz_A⟩, rfl, rfl, tk_A 6 (by decide)⟩
set_option maxRecDepth 20000 in
theorem fp_A_75 : aw_fpF "ArcTape" 75 6 7 "ArcTape" ft_A 8 (.object "ArcTape$Scores") := ⟨fl_A_75, ⟨ty_A, tz_A⟩, rfl, rfl, tk_A 7 (by decide)⟩
set_option maxRecDepth 20000 in
theorem wc_K_101 : aw_wS "ArcTape$Packer" 101 y_T_withoutSign c_T_withoutSign 1 (some .int) 1 := ⟨(wl_in 271 rfl rfl), (wl_in 3 rfl rfl), (wl_in 269 rfl rfl), (wl_in 270 rfl rfl), ⟨by decide, by decide, by decide +kernel⟩, by decide⟩
set_option maxRecDepth 20000 in
theorem wc_K_107 : aw_wV "ArcTape$Packer" 107 y_T_putZeta c_T_putZeta 5 none 2 5 "ArcTape$Tape" ft_T 2 := ⟨(wl_in 279 rfl rfl), (wl_in 3 rfl rfl), (wl_in 276 rfl rfl), (wl_in 277 rfl rfl), (wl_in 278 rfl rfl), rfl, ⟨by decide, by decide, by decide +kernel⟩, by decide⟩
set_option maxRecDepth 20000 in
theorem wc_K_46 : aw_wV "ArcTape$Packer" 46 y_K_bestReference c_K_bestReference 7 (some .int) 1 1 "ArcTape$Packer" ft_K 7 := ⟨(wl_in 223 rfl rfl), (wl_in 5 rfl rfl), (wl_in 220 rfl rfl), (wl_in 222 rfl rfl), (wl_se 0 rfl rfl), rfl, ⟨by decide, by decide, by decide +kernel⟩, by decide⟩
set_option maxRecDepth 20000 in
theorem wc_K_50 : aw_wV "ArcTape$Packer" 50 y_K_writeRecord c_K_writeRecord 4 none 2 1 "ArcTape$Packer" ft_K 7 := ⟨(wl_in 232 rfl rfl), (wl_in 5 rfl rfl), (wl_in 229 rfl rfl), (wl_in 231 rfl rfl), (wl_se 2 rfl rfl), rfl, ⟨by decide, by decide, by decide +kernel⟩, by decide⟩
set_option maxRecDepth 20000 in
theorem wc_K_63 : aw_wV "ArcTape$Packer" 63 y_K_mayBeReferredTo c_K_mayBeReferredTo 2 (some .boolean) 1 1 "ArcTape$Packer" ft_K 7 := ⟨(wl_in 228 rfl rfl), (wl_in 5 rfl rfl), (wl_in 225 rfl rfl), (wl_in 227 rfl rfl), (wl_se 1 rfl rfl), rfl, ⟨by decide, by decide, by decide +kernel⟩, by decide⟩
set_option maxRecDepth 20000 in
theorem wc_K_70 : aw_wS "ArcTape$Packer" 70 y_J_bitCount c_J_bitCount 1 (some .int) 1 := ⟨(wl_in 235 rfl rfl), (wl_in 9 rfl rfl), (wl_in 233 rfl rfl), (wl_in 234 rfl rfl), ⟨by decide, by decide, by decide +kernel⟩, by decide⟩
set_option maxRecDepth 20000 in
theorem wc_K_75 : aw_wV "ArcTape$Packer" 75 y_T_putGamma c_T_putGamma 2 none 1 5 "ArcTape$Tape" ft_T 2 := ⟨(wl_in 242 rfl rfl), (wl_in 3 rfl rfl), (wl_in 239 rfl rfl), (wl_in 240 rfl rfl), (wl_in 241 rfl rfl), rfl, ⟨by decide, by decide, by decide +kernel⟩, by decide⟩
set_option maxRecDepth 20000 in
theorem wc_K_79 : aw_wV "ArcTape$Packer" 79 y_T_putUnary c_T_putUnary 2 none 1 5 "ArcTape$Tape" ft_T 2 := ⟨(wl_in 253 rfl rfl), (wl_in 3 rfl rfl), (wl_in 250 rfl rfl), (wl_in 251 rfl rfl), (wl_in 252 rfl rfl), rfl, ⟨by decide, by decide, by decide +kernel⟩, by decide⟩
set_option maxRecDepth 20000 in
theorem wc_K_82 : aw_wV "ArcTape$Packer" 82 y_K_writeRuns c_K_writeRuns 6 none 2 1 "ArcTape$Packer" ft_K 7 := ⟨(wl_in 257 rfl rfl), (wl_in 5 rfl rfl), (wl_in 254 rfl rfl), (wl_in 256 rfl rfl), (wl_se 3 rfl rfl), rfl, ⟨by decide, by decide, by decide +kernel⟩, by decide⟩
set_option maxRecDepth 20000 in
theorem wc_K_88 : aw_wV "ArcTape$Packer" 88 y_K_writeIntervals c_K_writeIntervals 7 (some .int) 2 1 "ArcTape$Packer" ft_K 7 := ⟨(wl_in 264 rfl rfl), (wl_in 5 rfl rfl), (wl_in 261 rfl rfl), (wl_in 263 rfl rfl), (wl_se 4 rfl rfl), rfl, ⟨by decide, by decide, by decide +kernel⟩, by decide⟩
set_option maxRecDepth 20000 in
theorem wc_K_91 : aw_wV "ArcTape$Packer" 91 y_K_writeSingles c_K_writeSingles 5 none 2 1 "ArcTape$Packer" ft_K 7 := ⟨(wl_in 275 rfl rfl), (wl_in 5 rfl rfl), (wl_in 272 rfl rfl), (wl_in 274 rfl rfl), (wl_se 6 rfl rfl), rfl, ⟨by decide, by decide, by decide +kernel⟩, by decide⟩
set_option maxRecDepth 20000 in
theorem wc_K_94 : aw_wN "ArcTape$Packer" 94 y_A_holds c_A_holds 2 (some .boolean) 2 "ArcTape" := ⟨(wl_in 260 rfl rfl), (wl_in 1 rfl rfl), List.mem_of_getElem? (i := 1) rfl, (wl_in 259 rfl rfl), ⟨by decide, by decide, by decide +kernel⟩, by decide⟩
set_option maxRecDepth 20000 in
theorem wc_K_98 : aw_wV "ArcTape$Packer" 98 y_K_rowLength c_K_rowLength 4 (some .int) 2 1 "ArcTape$Packer" ft_K 7 := ⟨(wl_in 268 rfl rfl), (wl_in 5 rfl rfl), (wl_in 265 rfl rfl), (wl_in 267 rfl rfl), (wl_se 5 rfl rfl), rfl, ⟨by decide, by decide, by decide +kernel⟩, by decide⟩
set_option maxRecDepth 20000 in
theorem wc_S_19 : aw_wV "ArcTape$Parts" 19 y_S_findReached c_S_findReached 3 none 0 2 "ArcTape$Parts" ft_S 3 := ⟨(wl_in 438 rfl rfl), (wl_in 7 rfl rfl), (wl_in 435 rfl rfl), (wl_in 437 rfl rfl), (wl_se 22 rfl rfl), rfl, ⟨by decide, by decide, by decide +kernel⟩, by decide⟩
set_option maxRecDepth 20000 in
theorem wc_S_22 : aw_wV "ArcTape$Parts" 22 y_S_nextReady c_S_nextReady 3 (some .int) 1 2 "ArcTape$Parts" ft_S 3 := ⟨(wl_in 443 rfl rfl), (wl_in 7 rfl rfl), (wl_in 440 rfl rfl), (wl_in 442 rfl rfl), (wl_se 23 rfl rfl), rfl, ⟨by decide, by decide, by decide +kernel⟩, by decide⟩
set_option maxRecDepth 20000 in
theorem wc_S_26 : aw_wV "ArcTape$Parts" 26 y_S_partOf c_S_partOf 4 (some .int) 1 2 "ArcTape$Parts" ft_S 3 := ⟨(wl_in 447 rfl rfl), (wl_in 7 rfl rfl), (wl_in 444 rfl rfl), (wl_in 446 rfl rfl), (wl_se 24 rfl rfl), rfl, ⟨by decide, by decide, by decide +kernel⟩, by decide⟩
set_option maxRecDepth 20000 in
theorem wc_S_29 : aw_wN "ArcTape$Parts" 29 y_A_holds c_A_holds 2 (some .boolean) 2 "ArcTape" := ⟨(wl_in 260 rfl rfl), (wl_in 1 rfl rfl), List.mem_of_getElem? (i := 3) rfl, (wl_in 259 rfl rfl), ⟨by decide, by decide, by decide +kernel⟩, by decide⟩
set_option maxRecDepth 20000 in
theorem wc_D_101 : aw_wS "ArcTape$Reader" 101 y_J_bitCount c_J_bitCount 1 (some .int) 1 := ⟨(wl_in 235 rfl rfl), (wl_in 9 rfl rfl), (wl_in 320 rfl rfl), (wl_in 234 rfl rfl), ⟨by decide, by decide, by decide +kernel⟩, by decide⟩
set_option maxRecDepth 20000 in
theorem wc_D_107 : aw_wS "ArcTape$Reader" 107 y_D_lowest c_D_lowest 4 (some .int) 2 := ⟨(wl_in 323 rfl rfl), (wl_in 6 rfl rfl), (wl_in 321 rfl rfl), (wl_in 322 rfl rfl), ⟨by decide, by decide, by decide +kernel⟩, by decide⟩
set_option maxRecDepth 20000 in
theorem wc_D_111 : aw_wV "ArcTape$Reader" 111 y_D_take c_D_take 2 none 1 3 "ArcTape$Reader" ft_D 14 := ⟨(wl_in 327 rfl rfl), (wl_in 6 rfl rfl), (wl_in 324 rfl rfl), (wl_in 326 rfl rfl), (wl_se 16 rfl rfl), rfl, ⟨by decide, by decide, by decide +kernel⟩, by decide⟩
set_option maxRecDepth 20000 in
theorem wc_D_114 : aw_wS "ArcTape$Reader" 114 y_T_withSign c_T_withSign 1 (some .int) 1 := ⟨(wl_in 334 rfl rfl), (wl_in 3 rfl rfl), (wl_in 332 rfl rfl), (wl_in 333 rfl rfl), ⟨by decide, by decide, by decide +kernel⟩, by decide⟩
set_option maxRecDepth 20000 in
theorem wc_D_119 : aw_wN "ArcTape$Reader" 119 y_A_within c_A_within 3 (some .boolean) 3 "ArcTape" := ⟨(wl_in 337 rfl rfl), (wl_in 1 rfl rfl), List.mem_of_getElem? (i := 2) rfl, (wl_in 336 rfl rfl), ⟨by decide, by decide, by decide +kernel⟩, by decide⟩
set_option maxRecDepth 20000 in
theorem wc_D_125 : aw_wV "ArcTape$Reader" 125 y_D_nextZeta c_D_nextZeta 4 (some .int) 0 3 "ArcTape$Reader" ft_D 14 := ⟨(wl_in 345 rfl rfl), (wl_in 6 rfl rfl), (wl_in 342 rfl rfl), (wl_in 344 rfl rfl), (wl_se 19 rfl rfl), rfl, ⟨by decide, by decide, by decide +kernel⟩, by decide⟩
set_option maxRecDepth 20000 in
theorem wc_D_135 : aw_wV "ArcTape$Reader" 135 y_D_nextBit c_D_nextBit 1 (some .int) 0 3 "ArcTape$Reader" ft_D 14 := ⟨(wl_in 299 rfl rfl), (wl_in 6 rfl rfl), (wl_in 296 rfl rfl), (wl_in 298 rfl rfl), (wl_se 10 rfl rfl), rfl, ⟨by decide, by decide, by decide +kernel⟩, by decide⟩
set_option maxRecDepth 20000 in
theorem wc_D_138 : aw_wV "ArcTape$Reader" 138 y_D_nextNumber c_D_nextNumber 5 (some .int) 2 3 "ArcTape$Reader" ft_D 14 := ⟨(wl_in 307 rfl rfl), (wl_in 6 rfl rfl), (wl_in 304 rfl rfl), (wl_in 306 rfl rfl), (wl_se 12 rfl rfl), rfl, ⟨by decide, by decide, by decide +kernel⟩, by decide⟩
set_option maxRecDepth 20000 in
theorem wc_D_58 : aw_wV "ArcTape$Reader" 58 y_D_readRecord c_D_readRecord 1 none 0 3 "ArcTape$Reader" ft_D 14 := ⟨(wl_in 287 rfl rfl), (wl_in 6 rfl rfl), (wl_in 284 rfl rfl), (wl_in 286 rfl rfl), (wl_se 7 rfl rfl), rfl, ⟨by decide, by decide, by decide +kernel⟩, by decide⟩
set_option maxRecDepth 20000 in
theorem wc_D_61 : aw_wV "ArcTape$Reader" 61 y_D_nextGamma c_D_nextGamma 1 (some .int) 0 3 "ArcTape$Reader" ft_D 14 := ⟨(wl_in 291 rfl rfl), (wl_in 6 rfl rfl), (wl_in 288 rfl rfl), (wl_in 290 rfl rfl), (wl_se 8 rfl rfl), rfl, ⟨by decide, by decide, by decide +kernel⟩, by decide⟩
set_option maxRecDepth 20000 in
theorem wc_D_68 : aw_wV "ArcTape$Reader" 68 y_D_failIf c_D_failIf 3 none 2 3 "ArcTape$Reader" ft_D 14 := ⟨(wl_in 303 rfl rfl), (wl_in 6 rfl rfl), (wl_in 300 rfl rfl), (wl_in 302 rfl rfl), (wl_se 11 rfl rfl), rfl, ⟨by decide, by decide, by decide +kernel⟩, by decide⟩
set_option maxRecDepth 20000 in
theorem wc_D_72 : aw_wV "ArcTape$Reader" 72 y_D_goesOn c_D_goesOn 1 (some .boolean) 0 3 "ArcTape$Reader" ft_D 14 := ⟨(wl_in 311 rfl rfl), (wl_in 6 rfl rfl), (wl_in 308 rfl rfl), (wl_in 310 rfl rfl), (wl_se 13 rfl rfl), rfl, ⟨by decide, by decide, by decide +kernel⟩, by decide⟩
set_option maxRecDepth 20000 in
theorem wc_D_79 : aw_wV "ArcTape$Reader" 79 y_D_readReference c_D_readReference 2 none 0 3 "ArcTape$Reader" ft_D 14 := ⟨(wl_in 315 rfl rfl), (wl_in 6 rfl rfl), (wl_in 312 rfl rfl), (wl_in 314 rfl rfl), (wl_se 14 rfl rfl), rfl, ⟨by decide, by decide, by decide +kernel⟩, by decide⟩
set_option maxRecDepth 20000 in
theorem wc_D_82 : aw_wV "ArcTape$Reader" 82 y_D_readRuns c_D_readRuns 8 none 1 3 "ArcTape$Reader" ft_D 14 := ⟨(wl_in 319 rfl rfl), (wl_in 6 rfl rfl), (wl_in 316 rfl rfl), (wl_in 318 rfl rfl), (wl_se 15 rfl rfl), rfl, ⟨by decide, by decide, by decide +kernel⟩, by decide⟩
set_option maxRecDepth 20000 in
theorem wc_D_89 : aw_wV "ArcTape$Reader" 89 y_D_readIntervals c_D_readIntervals 6 none 0 3 "ArcTape$Reader" ft_D 14 := ⟨(wl_in 331 rfl rfl), (wl_in 6 rfl rfl), (wl_in 328 rfl rfl), (wl_in 330 rfl rfl), (wl_se 17 rfl rfl), rfl, ⟨by decide, by decide, by decide +kernel⟩, by decide⟩
set_option maxRecDepth 20000 in
theorem wc_D_92 : aw_wV "ArcTape$Reader" 92 y_D_readSingles c_D_readSingles 4 none 0 3 "ArcTape$Reader" ft_D 14 := ⟨(wl_in 341 rfl rfl), (wl_in 6 rfl rfl), (wl_in 338 rfl rfl), (wl_in 340 rfl rfl), (wl_se 18 rfl rfl), rfl, ⟨by decide, by decide, by decide +kernel⟩, by decide⟩
set_option maxRecDepth 20000 in
theorem wc_D_95 : aw_wV "ArcTape$Reader" 95 y_D_nextUnary c_D_nextUnary 2 (some .int) 0 3 "ArcTape$Reader" ft_D 14 := ⟨(wl_in 295 rfl rfl), (wl_in 6 rfl rfl), (wl_in 292 rfl rfl), (wl_in 294 rfl rfl), (wl_se 9 rfl rfl), rfl, ⟨by decide, by decide, by decide +kernel⟩, by decide⟩
set_option maxRecDepth 20000 in
theorem wc_O_43 : aw_wS "ArcTape$Scores" 43 y_O_quotient c_O_quotient 4 (some .long) 2 := ⟨(wl_in 354 rfl rfl), (wl_in 8 rfl rfl), (wl_in 352 rfl rfl), (wl_in 353 rfl rfl), ⟨by decide, by decide, by decide +kernel⟩, by decide⟩
set_option maxRecDepth 20000 in
theorem wc_O_47 : aw_wV "ArcTape$Scores" 47 y_O_stepOnce c_O_stepOnce 2 none 0 4 "ArcTape$Scores" ft_O 8 := ⟨(wl_in 475 rfl rfl), (wl_in 8 rfl rfl), (wl_in 472 rfl rfl), (wl_in 474 rfl rfl), (wl_se 25 rfl rfl), rfl, ⟨by decide, by decide, by decide +kernel⟩, by decide⟩
set_option maxRecDepth 20000 in
theorem wc_O_56 : aw_wV "ArcTape$Scores" 56 y_O_stepByRank c_O_stepByRank 10 none 0 4 "ArcTape$Scores" ft_O 8 := ⟨(wl_in 482 rfl rfl), (wl_in 8 rfl rfl), (wl_in 479 rfl rfl), (wl_in 481 rfl rfl), (wl_se 26 rfl rfl), rfl, ⟨by decide, by decide, by decide +kernel⟩, by decide⟩
set_option maxRecDepth 20000 in
theorem wc_O_59 : aw_wV "ArcTape$Scores" 59 y_O_stepByGreatest c_O_stepByGreatest 3 none 0 4 "ArcTape$Scores" ft_O 8 := ⟨(wl_in 495 rfl rfl), (wl_in 8 rfl rfl), (wl_in 492 rfl rfl), (wl_in 494 rfl rfl), (wl_se 28 rfl rfl), rfl, ⟨by decide, by decide, by decide +kernel⟩, by decide⟩
set_option maxRecDepth 20000 in
theorem wc_O_62 : aw_wV "ArcTape$Scores" 62 y_O_stepByShares c_O_stepByShares 3 none 0 4 "ArcTape$Scores" ft_O 8 := ⟨(wl_in 505 rfl rfl), (wl_in 8 rfl rfl), (wl_in 502 rfl rfl), (wl_in 504 rfl rfl), (wl_se 29 rfl rfl), rfl, ⟨by decide, by decide, by decide +kernel⟩, by decide⟩
set_option maxRecDepth 20000 in
theorem wc_O_71 : aw_wV "ArcTape$Scores" 71 y_O_weightOfOthers c_O_weightOfOthers 4 (some .int) 1 4 "ArcTape$Scores" ft_O 8 := ⟨(wl_in 459 rfl rfl), (wl_in 8 rfl rfl), (wl_in 483 rfl rfl), (wl_in 457 rfl rfl), (wl_in 458 rfl rfl), rfl, ⟨by decide, by decide, by decide +kernel⟩, by decide⟩
set_option maxRecDepth 20000 in
theorem wc_O_75 : aw_wN "ArcTape$Scores" 75 y_A_holds c_A_holds 2 (some .boolean) 2 "ArcTape" := ⟨(wl_in 260 rfl rfl), (wl_in 1 rfl rfl), List.mem_of_getElem? (i := 4) rfl, (wl_in 259 rfl rfl), ⟨by decide, by decide, by decide +kernel⟩, by decide⟩
set_option maxRecDepth 20000 in
theorem wc_O_79 : aw_wV "ArcTape$Scores" 79 y_O_linksFrom c_O_linksFrom 2 (some .int) 1 4 "ArcTape$Scores" ft_O 8 := ⟨(wl_in 488 rfl rfl), (wl_in 8 rfl rfl), (wl_in 485 rfl rfl), (wl_in 487 rfl rfl), (wl_se 27 rfl rfl), rfl, ⟨by decide, by decide, by decide +kernel⟩, by decide⟩
set_option maxRecDepth 20000 in
theorem wc_O_86 : aw_wS "ArcTape$Scores" 86 y_O_bringToGreatest c_O_bringToGreatest 4 none 1 := ⟨(wl_in 498 rfl rfl), (wl_in 8 rfl rfl), (wl_in 496 rfl rfl), (wl_in 497 rfl rfl), ⟨by decide, by decide, by decide +kernel⟩, by decide⟩
set_option maxRecDepth 20000 in
theorem wc_O_93 : aw_wV "ArcTape$Scores" 93 y_O_linksTo c_O_linksTo 4 (some .int) 1 4 "ArcTape$Scores" ft_O 8 := ⟨(wl_in 509 rfl rfl), (wl_in 8 rfl rfl), (wl_in 506 rfl rfl), (wl_in 508 rfl rfl), (wl_se 30 rfl rfl), rfl, ⟨by decide, by decide, by decide +kernel⟩, by decide⟩
set_option maxRecDepth 20000 in
theorem wc_O_96 : aw_wS "ArcTape$Scores" 96 y_J_bitCount c_J_bitCount 1 (some .int) 1 := ⟨(wl_in 235 rfl rfl), (wl_in 9 rfl rfl), (wl_in 489 rfl rfl), (wl_in 234 rfl rfl), ⟨by decide, by decide, by decide +kernel⟩, by decide⟩
set_option maxRecDepth 20000 in
theorem wc_T_17 : aw_wV "ArcTape$Tape" 17 y_T_putNumber c_T_putNumber 4 none 2 5 "ArcTape$Tape" ft_T 2 := ⟨(wl_in 249 rfl rfl), (wl_in 3 rfl rfl), (wl_in 246 rfl rfl), (wl_in 247 rfl rfl), (wl_in 248 rfl rfl), rfl, ⟨by decide, by decide, by decide +kernel⟩, by decide⟩
set_option maxRecDepth 20000 in
theorem wc_T_21 : aw_wS "ArcTape$Tape" 21 y_T_exponent c_T_exponent 2 (some .int) 1 := ⟨(wl_in 245 rfl rfl), (wl_in 3 rfl rfl), (wl_in 243 rfl rfl), (wl_in 244 rfl rfl), ⟨by decide, by decide, by decide +kernel⟩, by decide⟩
set_option maxRecDepth 20000 in
theorem wc_A_119 : aw_wV "ArcTape" 119 y_A_isPlace c_A_isPlace 2 (some .boolean) 1 6 "ArcTape" ft_A 8 := ⟨(wl_in 409 rfl rfl), (wl_in 1 rfl rfl), (wl_in 406 rfl rfl), (wl_in 408 rfl rfl), (wl_se 21 rfl rfl), rfl, ⟨by decide, by decide, by decide +kernel⟩, by decide⟩
set_option maxRecDepth 20000 in
theorem wc_A_129 : aw_wS "ArcTape" 129 y_J_bitCount c_J_bitCount 1 (some .int) 1 := ⟨(wl_in 235 rfl rfl), (wl_in 9 rfl rfl), (wl_in 418 rfl rfl), (wl_in 234 rfl rfl), ⟨by decide, by decide, by decide +kernel⟩, by decide⟩
set_option maxRecDepth 20000 in
theorem wc_A_138 : aw_wV "ArcTape" 138 y_S_numberAll c_S_numberAll 6 (some .int) 0 2 "ArcTape$Parts" ft_S 3 := ⟨(wl_in 434 rfl rfl), (wl_in 7 rfl rfl), (wl_in 431 rfl rfl), (wl_in 432 rfl rfl), (wl_in 433 rfl rfl), rfl, ⟨by decide, by decide, by decide +kernel⟩, by decide⟩
set_option maxRecDepth 20000 in
theorem wc_A_145 : aw_wV "ArcTape" 145 y_O_weightOfOthers c_O_weightOfOthers 4 (some .int) 1 4 "ArcTape$Scores" ft_O 8 := ⟨(wl_in 459 rfl rfl), (wl_in 8 rfl rfl), (wl_in 456 rfl rfl), (wl_in 457 rfl rfl), (wl_in 458 rfl rfl), rfl, ⟨by decide, by decide, by decide +kernel⟩, by decide⟩
set_option maxRecDepth 20000 in
theorem wc_A_151 : aw_wV "ArcTape" 151 y_O_advance c_O_advance 3 (some .int) 1 4 "ArcTape$Scores" ft_O 8 := ⟨(wl_in 471 rfl rfl), (wl_in 8 rfl rfl), (wl_in 468 rfl rfl), (wl_in 469 rfl rfl), (wl_in 470 rfl rfl), rfl, ⟨by decide, by decide, by decide +kernel⟩, by decide⟩
set_option maxRecDepth 20000 in
theorem wc_A_162 : aw_wV "ArcTape" 162 y_O_placeOf c_O_placeOf 4 (some .int) 1 4 "ArcTape$Scores" ft_O 8 := ⟨(wl_in 529 rfl rfl), (wl_in 8 rfl rfl), (wl_in 526 rfl rfl), (wl_in 527 rfl rfl), (wl_in 528 rfl rfl), rfl, ⟨by decide, by decide, by decide +kernel⟩, by decide⟩
set_option maxRecDepth 20000 in
theorem wc_A_28 : aw_wJ "ArcTape" 28 y_T_init c_T_init 1 0 "ArcTape" := ⟨(wl_in 30 rfl rfl), (wl_in 3 rfl rfl), List.mem_of_getElem? (i := 0) rfl, (wl_in 29 rfl rfl), rfl, ⟨by decide, by decide, by decide +kernel⟩, by decide⟩
set_option maxRecDepth 20000 in
theorem wc_A_35 : aw_wI "ArcTape" 35 y_Y_init c_Y_init 2 1 := ⟨(wl_in 50 rfl rfl), (wl_in 4 rfl rfl), (wl_in 48 rfl rfl), (wl_in 49 rfl rfl), rfl, ⟨by decide, by decide, by decide +kernel⟩, by decide⟩
set_option maxRecDepth 20000 in
theorem wc_A_44 : aw_wI "ArcTape" 44 y_K_init c_K_init 4 3 := ⟨(wl_in 87 rfl rfl), (wl_in 5 rfl rfl), (wl_in 85 rfl rfl), (wl_in 86 rfl rfl), rfl, ⟨by decide, by decide, by decide +kernel⟩, by decide⟩
set_option maxRecDepth 20000 in
theorem wc_A_53 : aw_wI "ArcTape" 53 y_D_init c_D_init 4 3 := ⟨(wl_in 115 rfl rfl), (wl_in 6 rfl rfl), (wl_in 113 rfl rfl), (wl_in 114 rfl rfl), rfl, ⟨by decide, by decide, by decide +kernel⟩, by decide⟩
set_option maxRecDepth 20000 in
theorem wc_A_65 : aw_wI "ArcTape" 65 y_S_init c_S_init 2 1 := ⟨(wl_in 167 rfl rfl), (wl_in 7 rfl rfl), (wl_in 165 rfl rfl), (wl_in 166 rfl rfl), rfl, ⟨by decide, by decide, by decide +kernel⟩, by decide⟩
set_option maxRecDepth 20000 in
theorem wc_A_74 : aw_wI "ArcTape" 74 y_O_init c_O_init 3 1 := ⟨(wl_in 184 rfl rfl), (wl_in 8 rfl rfl), (wl_in 182 rfl rfl), (wl_in 183 rfl rfl), rfl, ⟨by decide, by decide, by decide +kernel⟩, by decide⟩
set_option maxRecDepth 20000 in
theorem wc_A_79 : aw_wV "ArcTape" 79 y_K_writeAll c_K_writeAll 3 none 0 1 "ArcTape$Packer" ft_K 7 := ⟨(wl_in 219 rfl rfl), (wl_in 5 rfl rfl), (wl_in 216 rfl rfl), (wl_in 217 rfl rfl), (wl_in 218 rfl rfl), rfl, ⟨by decide, by decide, by decide +kernel⟩, by decide⟩
set_option maxRecDepth 20000 in
theorem wc_A_82 : aw_wV "ArcTape" 82 y_D_readAll c_D_readAll 2 none 0 3 "ArcTape$Reader" ft_D 14 := ⟨(wl_in 283 rfl rfl), (wl_in 6 rfl rfl), (wl_in 280 rfl rfl), (wl_in 281 rfl rfl), (wl_in 282 rfl rfl), rfl, ⟨by decide, by decide, by decide +kernel⟩, by decide⟩
set_option maxRecDepth 20000 in
theorem wc_A_85 : aw_wV "ArcTape" 85 y_O_begin c_O_begin 4 none 2 4 "ArcTape$Scores" ft_O 8 := ⟨(wl_in 349 rfl rfl), (wl_in 8 rfl rfl), (wl_in 346 rfl rfl), (wl_in 347 rfl rfl), (wl_in 348 rfl rfl), rfl, ⟨by decide, by decide, by decide +kernel⟩, by decide⟩
set_option maxRecDepth 20000 in
theorem wc_A_89 : aw_wV "ArcTape" 89 y_A_isNode c_A_isNode 2 (some .boolean) 1 6 "ArcTape" ft_A 8 := ⟨(wl_in 387 rfl rfl), (wl_in 1 rfl rfl), (wl_in 384 rfl rfl), (wl_in 386 rfl rfl), (wl_se 20 rfl rfl), rfl, ⟨by decide, by decide, by decide +kernel⟩, by decide⟩
set_option maxRecDepth 20000 in
theorem wc_A_93 : aw_wS "ArcTape" 93 y_A_holds c_A_holds 2 (some .boolean) 2 := ⟨(wl_in 260 rfl rfl), (wl_in 1 rfl rfl), (wl_in 389 rfl rfl), (wl_in 259 rfl rfl), ⟨by decide, by decide, by decide +kernel⟩, by decide⟩
set_option maxRecDepth 20000 in
theorem wc_A_97 : aw_wS "ArcTape" 97 y_A_within c_A_within 3 (some .boolean) 3 := ⟨(wl_in 337 rfl rfl), (wl_in 1 rfl rfl), (wl_in 388 rfl rfl), (wl_in 336 rfl rfl), ⟨by decide, by decide, by decide +kernel⟩, by decide⟩
set_option maxRecDepth 20000 in
theorem wc_L_100 : aw_wV "ArcTapeLaw" 100 y_M_change c_M_change 1 (some .long) 0 7 "ArcTapeModel" ft_M 29 := ⟨(wl_in 843 rfl rfl), (wl_in 10 rfl rfl), (wl_in 840 rfl rfl), (wl_in 841 rfl rfl), (wl_in 842 rfl rfl), rfl, ⟨by decide, by decide, by decide +kernel⟩, by decide⟩
set_option maxRecDepth 20000 in
theorem wc_L_15 : aw_wI "ArcTapeLaw" 15 y_A_init c_A_init 2 1 := ⟨(wl_in 16 rfl rfl), (wl_in 1 rfl rfl), (wl_in 14 rfl rfl), (wl_in 15 rfl rfl), rfl, ⟨by decide, by decide, by decide +kernel⟩, by decide⟩
set_option maxRecDepth 20000 in
theorem wc_L_20 : aw_wI "ArcTapeLaw" 20 y_M_init c_M_init 3 1 := ⟨(wl_in 541 rfl rfl), (wl_in 10 rfl rfl), (wl_in 539 rfl rfl), (wl_in 540 rfl rfl), rfl, ⟨by decide, by decide, by decide +kernel⟩, by decide⟩
set_option maxRecDepth 20000 in
theorem wc_L_21 : aw_wV "ArcTapeLaw" 21 y_A_add c_A_add 3 (some .boolean) 2 6 "ArcTape" ft_A 8 := ⟨(wl_in 383 rfl rfl), (wl_in 1 rfl rfl), (wl_in 380 rfl rfl), (wl_in 381 rfl rfl), (wl_in 382 rfl rfl), rfl, ⟨by decide, by decide, by decide +kernel⟩, by decide⟩
set_option maxRecDepth 20000 in
theorem wc_L_25 : aw_wV "ArcTapeLaw" 25 y_M_add c_M_add 3 (some .boolean) 2 7 "ArcTapeModel" ft_M 29 := ⟨(wl_in 687 rfl rfl), (wl_in 10 rfl rfl), (wl_in 684 rfl rfl), (wl_in 685 rfl rfl), (wl_in 686 rfl rfl), rfl, ⟨by decide, by decide, by decide +kernel⟩, by decide⟩
set_option maxRecDepth 20000 in
theorem wc_L_26 : aw_wV "ArcTapeLaw" 26 y_A_drop c_A_drop 3 (some .boolean) 2 6 "ArcTape" ft_A 8 := ⟨(wl_in 393 rfl rfl), (wl_in 1 rfl rfl), (wl_in 390 rfl rfl), (wl_in 391 rfl rfl), (wl_in 392 rfl rfl), rfl, ⟨by decide, by decide, by decide +kernel⟩, by decide⟩
set_option maxRecDepth 20000 in
theorem wc_L_29 : aw_wV "ArcTapeLaw" 29 y_M_drop c_M_drop 3 (some .boolean) 2 7 "ArcTapeModel" ft_M 29 := ⟨(wl_in 695 rfl rfl), (wl_in 10 rfl rfl), (wl_in 692 rfl rfl), (wl_in 693 rfl rfl), (wl_in 694 rfl rfl), rfl, ⟨by decide, by decide, by decide +kernel⟩, by decide⟩
set_option maxRecDepth 20000 in
theorem wc_L_30 : aw_wV "ArcTapeLaw" 30 y_A_pack c_A_pack 5 (some .int) 4 6 "ArcTape" ft_A 8 := ⟨(wl_in 397 rfl rfl), (wl_in 1 rfl rfl), (wl_in 394 rfl rfl), (wl_in 395 rfl rfl), (wl_in 396 rfl rfl), rfl, ⟨by decide, by decide, by decide +kernel⟩, by decide⟩
set_option maxRecDepth 20000 in
theorem wc_L_34 : aw_wV "ArcTapeLaw" 34 y_M_pack c_M_pack 10 (some .int) 4 7 "ArcTapeModel" ft_M 29 := ⟨(wl_in 546 rfl rfl), (wl_in 10 rfl rfl), (wl_in 696 rfl rfl), (wl_in 544 rfl rfl), (wl_in 545 rfl rfl), rfl, ⟨by decide, by decide, by decide +kernel⟩, by decide⟩
set_option maxRecDepth 20000 in
theorem wc_L_35 : aw_wV "ArcTapeLaw" 35 y_A_offset c_A_offset 2 (some .int) 1 6 "ArcTape" ft_A 8 := ⟨(wl_in 401 rfl rfl), (wl_in 1 rfl rfl), (wl_in 398 rfl rfl), (wl_in 399 rfl rfl), (wl_in 400 rfl rfl), rfl, ⟨by decide, by decide, by decide +kernel⟩, by decide⟩
set_option maxRecDepth 20000 in
theorem wc_L_39 : aw_wV "ArcTapeLaw" 39 y_M_offset c_M_offset 2 (some .int) 1 7 "ArcTapeModel" ft_M 29 := ⟨(wl_in 700 rfl rfl), (wl_in 10 rfl rfl), (wl_in 697 rfl rfl), (wl_in 698 rfl rfl), (wl_in 699 rfl rfl), rfl, ⟨by decide, by decide, by decide +kernel⟩, by decide⟩
set_option maxRecDepth 20000 in
theorem wc_L_40 : aw_wV "ArcTapeLaw" 40 y_A_bit c_A_bit 2 (some .int) 1 6 "ArcTape" ft_A 8 := ⟨(wl_in 405 rfl rfl), (wl_in 1 rfl rfl), (wl_in 402 rfl rfl), (wl_in 403 rfl rfl), (wl_in 404 rfl rfl), rfl, ⟨by decide, by decide, by decide +kernel⟩, by decide⟩
set_option maxRecDepth 20000 in
theorem wc_L_43 : aw_wV "ArcTapeLaw" 43 y_M_bit c_M_bit 2 (some .int) 1 7 "ArcTapeModel" ft_M 29 := ⟨(wl_in 704 rfl rfl), (wl_in 10 rfl rfl), (wl_in 701 rfl rfl), (wl_in 702 rfl rfl), (wl_in 703 rfl rfl), rfl, ⟨by decide, by decide, by decide +kernel⟩, by decide⟩
set_option maxRecDepth 20000 in
theorem wc_L_44 : aw_wV "ArcTapeLaw" 44 y_A_flip c_A_flip 2 (some .boolean) 1 6 "ArcTape" ft_A 8 := ⟨(wl_in 413 rfl rfl), (wl_in 1 rfl rfl), (wl_in 410 rfl rfl), (wl_in 411 rfl rfl), (wl_in 412 rfl rfl), rfl, ⟨by decide, by decide, by decide +kernel⟩, by decide⟩
set_option maxRecDepth 20000 in
theorem wc_L_48 : aw_wV "ArcTapeLaw" 48 y_M_flip c_M_flip 2 (some .boolean) 1 7 "ArcTapeModel" ft_M 29 := ⟨(wl_in 708 rfl rfl), (wl_in 10 rfl rfl), (wl_in 705 rfl rfl), (wl_in 706 rfl rfl), (wl_in 707 rfl rfl), rfl, ⟨by decide, by decide, by decide +kernel⟩, by decide⟩
set_option maxRecDepth 20000 in
theorem wc_L_49 : aw_wV "ArcTapeLaw" 49 y_A_degree c_A_degree 2 (some .int) 1 6 "ArcTape" ft_A 8 := ⟨(wl_in 417 rfl rfl), (wl_in 1 rfl rfl), (wl_in 414 rfl rfl), (wl_in 415 rfl rfl), (wl_in 416 rfl rfl), rfl, ⟨by decide, by decide, by decide +kernel⟩, by decide⟩
set_option maxRecDepth 20000 in
theorem wc_L_52 : aw_wV "ArcTapeLaw" 52 y_M_degree c_M_degree 2 (some .int) 1 7 "ArcTapeModel" ft_M 29 := ⟨(wl_in 712 rfl rfl), (wl_in 10 rfl rfl), (wl_in 709 rfl rfl), (wl_in 710 rfl rfl), (wl_in 711 rfl rfl), rfl, ⟨by decide, by decide, by decide +kernel⟩, by decide⟩
set_option maxRecDepth 20000 in
theorem wc_L_53 : aw_wV "ArcTapeLaw" 53 y_A_successor c_A_successor 5 (some .int) 2 6 "ArcTape" ft_A 8 := ⟨(wl_in 422 rfl rfl), (wl_in 1 rfl rfl), (wl_in 419 rfl rfl), (wl_in 420 rfl rfl), (wl_in 421 rfl rfl), rfl, ⟨by decide, by decide, by decide +kernel⟩, by decide⟩
set_option maxRecDepth 20000 in
theorem wc_L_57 : aw_wV "ArcTapeLaw" 57 y_M_successor c_M_successor 5 (some .int) 2 7 "ArcTapeModel" ft_M 29 := ⟨(wl_in 763 rfl rfl), (wl_in 10 rfl rfl), (wl_in 760 rfl rfl), (wl_in 761 rfl rfl), (wl_in 762 rfl rfl), rfl, ⟨by decide, by decide, by decide +kernel⟩, by decide⟩
set_option maxRecDepth 20000 in
theorem wc_L_58 : aw_wV "ArcTapeLaw" 58 y_A_reference c_A_reference 2 (some .int) 1 6 "ArcTape" ft_A 8 := ⟨(wl_in 426 rfl rfl), (wl_in 1 rfl rfl), (wl_in 423 rfl rfl), (wl_in 424 rfl rfl), (wl_in 425 rfl rfl), rfl, ⟨by decide, by decide, by decide +kernel⟩, by decide⟩
set_option maxRecDepth 20000 in
theorem wc_L_61 : aw_wV "ArcTapeLaw" 61 y_M_reference c_M_reference 2 (some .int) 1 7 "ArcTapeModel" ft_M 29 := ⟨(wl_in 767 rfl rfl), (wl_in 10 rfl rfl), (wl_in 764 rfl rfl), (wl_in 765 rfl rfl), (wl_in 766 rfl rfl), rfl, ⟨by decide, by decide, by decide +kernel⟩, by decide⟩
set_option maxRecDepth 20000 in
theorem wc_L_62 : aw_wV "ArcTapeLaw" 62 y_A_components c_A_components 1 (some .int) 0 6 "ArcTape" ft_A 8 := ⟨(wl_in 430 rfl rfl), (wl_in 1 rfl rfl), (wl_in 427 rfl rfl), (wl_in 428 rfl rfl), (wl_in 429 rfl rfl), rfl, ⟨by decide, by decide, by decide +kernel⟩, by decide⟩
set_option maxRecDepth 20000 in
theorem wc_L_66 : aw_wV "ArcTapeLaw" 66 y_M_components c_M_components 1 (some .int) 0 7 "ArcTapeModel" ft_M 29 := ⟨(wl_in 771 rfl rfl), (wl_in 10 rfl rfl), (wl_in 768 rfl rfl), (wl_in 769 rfl rfl), (wl_in 770 rfl rfl), rfl, ⟨by decide, by decide, by decide +kernel⟩, by decide⟩
set_option maxRecDepth 20000 in
theorem wc_L_67 : aw_wV "ArcTapeLaw" 67 y_A_component c_A_component 2 (some .int) 1 6 "ArcTape" ft_A 8 := ⟨(wl_in 451 rfl rfl), (wl_in 1 rfl rfl), (wl_in 448 rfl rfl), (wl_in 449 rfl rfl), (wl_in 450 rfl rfl), rfl, ⟨by decide, by decide, by decide +kernel⟩, by decide⟩
set_option maxRecDepth 20000 in
theorem wc_L_70 : aw_wV "ArcTapeLaw" 70 y_M_component c_M_component 2 (some .int) 1 7 "ArcTapeModel" ft_M 29 := ⟨(wl_in 787 rfl rfl), (wl_in 10 rfl rfl), (wl_in 784 rfl rfl), (wl_in 785 rfl rfl), (wl_in 786 rfl rfl), rfl, ⟨by decide, by decide, by decide +kernel⟩, by decide⟩
set_option maxRecDepth 20000 in
theorem wc_L_71 : aw_wV "ArcTapeLaw" 71 y_A_prefer c_A_prefer 3 (some .boolean) 2 6 "ArcTape" ft_A 8 := ⟨(wl_in 455 rfl rfl), (wl_in 1 rfl rfl), (wl_in 452 rfl rfl), (wl_in 453 rfl rfl), (wl_in 454 rfl rfl), rfl, ⟨by decide, by decide, by decide +kernel⟩, by decide⟩
set_option maxRecDepth 20000 in
theorem wc_L_74 : aw_wV "ArcTapeLaw" 74 y_M_prefer c_M_prefer 3 (some .boolean) 2 7 "ArcTapeModel" ft_M 29 := ⟨(wl_in 791 rfl rfl), (wl_in 10 rfl rfl), (wl_in 788 rfl rfl), (wl_in 789 rfl rfl), (wl_in 790 rfl rfl), rfl, ⟨by decide, by decide, by decide +kernel⟩, by decide⟩
set_option maxRecDepth 20000 in
theorem wc_L_75 : aw_wV "ArcTapeLaw" 75 y_A_start c_A_start 3 (some .boolean) 2 6 "ArcTape" ft_A 8 := ⟨(wl_in 463 rfl rfl), (wl_in 1 rfl rfl), (wl_in 460 rfl rfl), (wl_in 461 rfl rfl), (wl_in 462 rfl rfl), rfl, ⟨by decide, by decide, by decide +kernel⟩, by decide⟩
set_option maxRecDepth 20000 in
theorem wc_L_78 : aw_wV "ArcTapeLaw" 78 y_M_start c_M_start 4 (some .boolean) 2 7 "ArcTapeModel" ft_M 29 := ⟨(wl_in 593 rfl rfl), (wl_in 10 rfl rfl), (wl_in 796 rfl rfl), (wl_in 591 rfl rfl), (wl_in 592 rfl rfl), rfl, ⟨by decide, by decide, by decide +kernel⟩, by decide⟩
set_option maxRecDepth 20000 in
theorem wc_L_79 : aw_wV "ArcTapeLaw" 79 y_A_step c_A_step 2 (some .int) 1 6 "ArcTape" ft_A 8 := ⟨(wl_in 467 rfl rfl), (wl_in 1 rfl rfl), (wl_in 464 rfl rfl), (wl_in 465 rfl rfl), (wl_in 466 rfl rfl), rfl, ⟨by decide, by decide, by decide +kernel⟩, by decide⟩
set_option maxRecDepth 20000 in
theorem wc_L_82 : aw_wV "ArcTapeLaw" 82 y_M_step c_M_step 4 (some .int) 1 7 "ArcTapeModel" ft_M 29 := ⟨(wl_in 800 rfl rfl), (wl_in 10 rfl rfl), (wl_in 797 rfl rfl), (wl_in 798 rfl rfl), (wl_in 799 rfl rfl), rfl, ⟨by decide, by decide, by decide +kernel⟩, by decide⟩
set_option maxRecDepth 20000 in
theorem wc_L_83 : aw_wV "ArcTapeLaw" 83 y_A_score c_A_score 2 (some .long) 1 6 "ArcTape" ft_A 8 := ⟨(wl_in 516 rfl rfl), (wl_in 1 rfl rfl), (wl_in 513 rfl rfl), (wl_in 514 rfl rfl), (wl_in 515 rfl rfl), rfl, ⟨by decide, by decide, by decide +kernel⟩, by decide⟩
set_option maxRecDepth 20000 in
theorem wc_L_87 : aw_wV "ArcTapeLaw" 87 y_M_score c_M_score 2 (some .long) 1 7 "ArcTapeModel" ft_M 29 := ⟨(wl_in 830 rfl rfl), (wl_in 10 rfl rfl), (wl_in 827 rfl rfl), (wl_in 828 rfl rfl), (wl_in 829 rfl rfl), rfl, ⟨by decide, by decide, by decide +kernel⟩, by decide⟩
set_option maxRecDepth 20000 in
theorem wc_L_88 : aw_wV "ArcTapeLaw" 88 y_A_hub c_A_hub 2 (some .long) 1 6 "ArcTape" ft_A 8 := ⟨(wl_in 521 rfl rfl), (wl_in 1 rfl rfl), (wl_in 518 rfl rfl), (wl_in 519 rfl rfl), (wl_in 520 rfl rfl), rfl, ⟨by decide, by decide, by decide +kernel⟩, by decide⟩
set_option maxRecDepth 20000 in
theorem wc_L_91 : aw_wV "ArcTapeLaw" 91 y_M_hub c_M_hub 2 (some .long) 1 7 "ArcTapeModel" ft_M 29 := ⟨(wl_in 835 rfl rfl), (wl_in 10 rfl rfl), (wl_in 832 rfl rfl), (wl_in 833 rfl rfl), (wl_in 834 rfl rfl), rfl, ⟨by decide, by decide, by decide +kernel⟩, by decide⟩
set_option maxRecDepth 20000 in
theorem wc_L_92 : aw_wV "ArcTapeLaw" 92 y_A_top c_A_top 3 (some .int) 1 6 "ArcTape" ft_A 8 := ⟨(wl_in 525 rfl rfl), (wl_in 1 rfl rfl), (wl_in 522 rfl rfl), (wl_in 523 rfl rfl), (wl_in 524 rfl rfl), rfl, ⟨by decide, by decide, by decide +kernel⟩, by decide⟩
set_option maxRecDepth 20000 in
theorem wc_L_95 : aw_wV "ArcTapeLaw" 95 y_M_top c_M_top 5 (some .int) 1 7 "ArcTapeModel" ft_M 29 := ⟨(wl_in 839 rfl rfl), (wl_in 10 rfl rfl), (wl_in 836 rfl rfl), (wl_in 837 rfl rfl), (wl_in 838 rfl rfl), rfl, ⟨by decide, by decide, by decide +kernel⟩, by decide⟩
set_option maxRecDepth 20000 in
theorem wc_L_96 : aw_wV "ArcTapeLaw" 96 y_A_change c_A_change 1 (some .long) 0 6 "ArcTape" ft_A 8 := ⟨(wl_in 533 rfl rfl), (wl_in 1 rfl rfl), (wl_in 530 rfl rfl), (wl_in 531 rfl rfl), (wl_in 532 rfl rfl), rfl, ⟨by decide, by decide, by decide +kernel⟩, by decide⟩
set_option maxRecDepth 20000 in
theorem wc_M_103 : aw_wV "ArcTapeModel" 103 y_M_putZeta c_M_putZeta 4 none 1 7 "ArcTapeModel" ft_M 29 := ⟨(wl_in 589 rfl rfl), (wl_in 10 rfl rfl), (wl_in 586 rfl rfl), (wl_in 588 rfl rfl), (wl_se 39 rfl rfl), rfl, ⟨by decide, by decide, by decide +kernel⟩, by decide⟩
set_option maxRecDepth 20000 in
theorem wc_M_106 : aw_wS "ArcTapeModel" 106 y_M_ones c_M_ones 3 (some .int) 1 := ⟨(wl_in 554 rfl rfl), (wl_in 10 rfl rfl), (wl_in 552 rfl rfl), (wl_in 553 rfl rfl), ⟨by decide, by decide, by decide +kernel⟩, by decide⟩
set_option maxRecDepth 20000 in
theorem wc_M_112 : aw_wV "ArcTapeModel" 112 y_M_putRuns c_M_putRuns 7 none 2 7 "ArcTapeModel" ft_M 29 := ⟨(wl_in 574 rfl rfl), (wl_in 10 rfl rfl), (wl_in 571 rfl rfl), (wl_in 573 rfl rfl), (wl_se 36 rfl rfl), rfl, ⟨by decide, by decide, by decide +kernel⟩, by decide⟩
set_option maxRecDepth 20000 in
theorem wc_M_115 : aw_wV "ArcTapeModel" 115 y_M_putRest c_M_putRest 8 none 2 7 "ArcTapeModel" ft_M 29 := ⟨(wl_in 578 rfl rfl), (wl_in 10 rfl rfl), (wl_in 575 rfl rfl), (wl_in 577 rfl rfl), (wl_se 37 rfl rfl), rfl, ⟨by decide, by decide, by decide +kernel⟩, by decide⟩
set_option maxRecDepth 20000 in
theorem wc_M_122 : aw_wV "ArcTapeModel" 122 y_M_putRecord c_M_putRecord 5 none 2 7 "ArcTapeModel" ft_M 29 := ⟨(wl_in 551 rfl rfl), (wl_in 10 rfl rfl), (wl_in 548 rfl rfl), (wl_in 550 rfl rfl), (wl_se 31 rfl rfl), rfl, ⟨by decide, by decide, by decide +kernel⟩, by decide⟩
set_option maxRecDepth 20000 in
theorem wc_M_131 : aw_wV "ArcTapeModel" 131 y_M_next c_M_next 1 (some .int) 0 7 "ArcTapeModel" ft_M 29 := ⟨(wl_in 728 rfl rfl), (wl_in 10 rfl rfl), (wl_in 725 rfl rfl), (wl_in 727 rfl rfl), (wl_se 44 rfl rfl), rfl, ⟨by decide, by decide, by decide +kernel⟩, by decide⟩
set_option maxRecDepth 20000 in
theorem wc_M_135 : aw_wV "ArcTapeModel" 135 y_M_nextUnary c_M_nextUnary 2 (some .int) 0 7 "ArcTapeModel" ft_M 29 := ⟨(wl_in 724 rfl rfl), (wl_in 10 rfl rfl), (wl_in 721 rfl rfl), (wl_in 723 rfl rfl), (wl_se 43 rfl rfl), rfl, ⟨by decide, by decide, by decide +kernel⟩, by decide⟩
set_option maxRecDepth 20000 in
theorem wc_M_138 : aw_wV "ArcTapeModel" 138 y_M_nextNumber c_M_nextNumber 4 (some .int) 1 7 "ArcTapeModel" ft_M 29 := ⟨(wl_in 732 rfl rfl), (wl_in 10 rfl rfl), (wl_in 729 rfl rfl), (wl_in 731 rfl rfl), (wl_se 45 rfl rfl), rfl, ⟨by decide, by decide, by decide +kernel⟩, by decide⟩
set_option maxRecDepth 20000 in
theorem wc_M_148 : aw_wV "ArcTapeModel" 148 y_M_nextGamma c_M_nextGamma 3 (some .int) 0 7 "ArcTapeModel" ft_M 29 := ⟨(wl_in 720 rfl rfl), (wl_in 10 rfl rfl), (wl_in 717 rfl rfl), (wl_in 719 rfl rfl), (wl_se 42 rfl rfl), rfl, ⟨by decide, by decide, by decide +kernel⟩, by decide⟩
set_option maxRecDepth 20000 in
theorem wc_M_151 : aw_wV "ArcTapeModel" 151 y_M_copy c_M_copy 6 none 3 7 "ArcTapeModel" ft_M 29 := ⟨(wl_in 744 rfl rfl), (wl_in 10 rfl rfl), (wl_in 741 rfl rfl), (wl_in 743 rfl rfl), (wl_se 48 rfl rfl), rfl, ⟨by decide, by decide, by decide +kernel⟩, by decide⟩
set_option maxRecDepth 20000 in
theorem wc_M_155 : aw_wV "ArcTapeModel" 155 y_M_take c_M_take 2 none 1 7 "ArcTapeModel" ft_M 29 := ⟨(wl_in 748 rfl rfl), (wl_in 10 rfl rfl), (wl_in 745 rfl rfl), (wl_in 747 rfl rfl), (wl_se 49 rfl rfl), rfl, ⟨by decide, by decide, by decide +kernel⟩, by decide⟩
set_option maxRecDepth 20000 in
theorem wc_M_158 : aw_wS "ArcTapeModel" 158 y_M_whole c_M_whole 1 (some .int) 1 := ⟨(wl_in 755 rfl rfl), (wl_in 10 rfl rfl), (wl_in 753 rfl rfl), (wl_in 754 rfl rfl), ⟨by decide, by decide, by decide +kernel⟩, by decide⟩
set_option maxRecDepth 20000 in
theorem wc_M_161 : aw_wV "ArcTapeModel" 161 y_M_readRuns c_M_readRuns 8 none 2 7 "ArcTapeModel" ft_M 29 := ⟨(wl_in 740 rfl rfl), (wl_in 10 rfl rfl), (wl_in 737 rfl rfl), (wl_in 739 rfl rfl), (wl_se 47 rfl rfl), rfl, ⟨by decide, by decide, by decide +kernel⟩, by decide⟩
set_option maxRecDepth 20000 in
theorem wc_M_164 : aw_wV "ArcTapeModel" 164 y_M_readIntervals c_M_readIntervals 11 (some .int) 2 7 "ArcTapeModel" ft_M 29 := ⟨(wl_in 752 rfl rfl), (wl_in 10 rfl rfl), (wl_in 749 rfl rfl), (wl_in 751 rfl rfl), (wl_se 50 rfl rfl), rfl, ⟨by decide, by decide, by decide +kernel⟩, by decide⟩
set_option maxRecDepth 20000 in
theorem wc_M_167 : aw_wV "ArcTapeModel" 167 y_M_nextZeta c_M_nextZeta 5 (some .int) 0 7 "ArcTapeModel" ft_M 29 := ⟨(wl_in 759 rfl rfl), (wl_in 10 rfl rfl), (wl_in 756 rfl rfl), (wl_in 758 rfl rfl), (wl_se 51 rfl rfl), rfl, ⟨by decide, by decide, by decide +kernel⟩, by decide⟩
set_option maxRecDepth 20000 in
theorem wc_M_170 : aw_wV "ArcTapeModel" 170 y_M_readParts c_M_readParts 10 none 2 7 "ArcTapeModel" ft_M 29 := ⟨(wl_in 736 rfl rfl), (wl_in 10 rfl rfl), (wl_in 733 rfl rfl), (wl_in 735 rfl rfl), (wl_se 46 rfl rfl), rfl, ⟨by decide, by decide, by decide +kernel⟩, by decide⟩
set_option maxRecDepth 20000 in
theorem wc_M_173 : aw_wV "ArcTapeModel" 173 y_M_read c_M_read 3 none 0 7 "ArcTapeModel" ft_M 29 := ⟨(wl_in 716 rfl rfl), (wl_in 10 rfl rfl), (wl_in 713 rfl rfl), (wl_in 715 rfl rfl), (wl_se 41 rfl rfl), rfl, ⟨by decide, by decide, by decide +kernel⟩, by decide⟩
set_option maxRecDepth 20000 in
theorem wc_M_179 : aw_wV "ArcTapeModel" 179 y_M_firstReady c_M_firstReady 6 (some .int) 1 7 "ArcTapeModel" ft_M 29 := ⟨(wl_in 779 rfl rfl), (wl_in 10 rfl rfl), (wl_in 776 rfl rfl), (wl_in 778 rfl rfl), (wl_se 53 rfl rfl), rfl, ⟨by decide, by decide, by decide +kernel⟩, by decide⟩
set_option maxRecDepth 20000 in
theorem wc_M_182 : aw_wV "ArcTapeModel" 182 y_M_together c_M_together 4 (some .int) 1 7 "ArcTapeModel" ft_M 29 := ⟨(wl_in 783 rfl rfl), (wl_in 10 rfl rfl), (wl_in 780 rfl rfl), (wl_in 782 rfl rfl), (wl_se 54 rfl rfl), rfl, ⟨by decide, by decide, by decide +kernel⟩, by decide⟩
set_option maxRecDepth 20000 in
theorem wc_M_185 : aw_wV "ArcTapeModel" 185 y_M_count c_M_count 6 none 0 7 "ArcTapeModel" ft_M 29 := ⟨(wl_in 775 rfl rfl), (wl_in 10 rfl rfl), (wl_in 772 rfl rfl), (wl_in 774 rfl rfl), (wl_se 52 rfl rfl), rfl, ⟨by decide, by decide, by decide +kernel⟩, by decide⟩
set_option maxRecDepth 20000 in
theorem wc_M_188 : aw_wV "ArcTapeModel" 188 y_M_total c_M_total 3 (some .int) 0 7 "ArcTapeModel" ft_M 29 := ⟨(wl_in 795 rfl rfl), (wl_in 10 rfl rfl), (wl_in 792 rfl rfl), (wl_in 794 rfl rfl), (wl_se 55 rfl rfl), rfl, ⟨by decide, by decide, by decide +kernel⟩, by decide⟩
set_option maxRecDepth 20000 in
theorem wc_M_205 : aw_wV "ArcTapeModel" 205 y_M_links c_M_links 3 (some .boolean) 2 7 "ArcTapeModel" ft_M 29 := ⟨(wl_in 808 rfl rfl), (wl_in 10 rfl rfl), (wl_in 805 rfl rfl), (wl_in 807 rfl rfl), (wl_se 57 rfl rfl), rfl, ⟨by decide, by decide, by decide +kernel⟩, by decide⟩
set_option maxRecDepth 20000 in
theorem wc_M_212 : aw_wV "ArcTapeModel" 212 y_M_bring c_M_bring 7 none 1 7 "ArcTapeModel" ft_M 29 := ⟨(wl_in 818 rfl rfl), (wl_in 10 rfl rfl), (wl_in 815 rfl rfl), (wl_in 817 rfl rfl), (wl_se 59 rfl rfl), rfl, ⟨by decide, by decide, by decide +kernel⟩, by decide⟩
set_option maxRecDepth 20000 in
theorem wc_M_216 : aw_wV "ArcTapeModel" 216 y_M_into c_M_into 4 (some .int) 1 7 "ArcTapeModel" ft_M 29 := ⟨(wl_in 826 rfl rfl), (wl_in 10 rfl rfl), (wl_in 823 rfl rfl), (wl_in 825 rfl rfl), (wl_se 61 rfl rfl), rfl, ⟨by decide, by decide, by decide +kernel⟩, by decide⟩
set_option maxRecDepth 20000 in
theorem wc_M_219 : aw_wV "ArcTapeModel" 219 y_M_stepRank c_M_stepRank 9 none 0 7 "ArcTapeModel" ft_M 29 := ⟨(wl_in 804 rfl rfl), (wl_in 10 rfl rfl), (wl_in 801 rfl rfl), (wl_in 803 rfl rfl), (wl_se 56 rfl rfl), rfl, ⟨by decide, by decide, by decide +kernel⟩, by decide⟩
set_option maxRecDepth 20000 in
theorem wc_M_222 : aw_wV "ArcTapeModel" 222 y_M_stepHubs c_M_stepHubs 3 none 0 7 "ArcTapeModel" ft_M 29 := ⟨(wl_in 814 rfl rfl), (wl_in 10 rfl rfl), (wl_in 811 rfl rfl), (wl_in 813 rfl rfl), (wl_se 58 rfl rfl), rfl, ⟨by decide, by decide, by decide +kernel⟩, by decide⟩
set_option maxRecDepth 20000 in
theorem wc_M_225 : aw_wV "ArcTapeModel" 225 y_M_stepShares c_M_stepShares 3 none 0 7 "ArcTapeModel" ft_M 29 := ⟨(wl_in 822 rfl rfl), (wl_in 10 rfl rfl), (wl_in 819 rfl rfl), (wl_in 821 rfl rfl), (wl_se 60 rfl rfl), rfl, ⟨by decide, by decide, by decide +kernel⟩, by decide⟩
set_option maxRecDepth 20000 in
theorem wc_M_60 : aw_wV "ArcTapeModel" 60 y_M_pack c_M_pack 10 (some .int) 4 7 "ArcTapeModel" ft_M 29 := ⟨(wl_in 546 rfl rfl), (wl_in 10 rfl rfl), (wl_in 543 rfl rfl), (wl_in 544 rfl rfl), (wl_in 545 rfl rfl), rfl, ⟨by decide, by decide, by decide +kernel⟩, by decide⟩
set_option maxRecDepth 20000 in
theorem wc_M_64 : aw_wV "ArcTapeModel" 64 y_M_start c_M_start 4 (some .boolean) 2 7 "ArcTapeModel" ft_M 29 := ⟨(wl_in 593 rfl rfl), (wl_in 10 rfl rfl), (wl_in 590 rfl rfl), (wl_in 591 rfl rfl), (wl_in 592 rfl rfl), rfl, ⟨by decide, by decide, by decide +kernel⟩, by decide⟩
set_option maxRecDepth 20000 in
theorem wc_M_68 : aw_wV "ArcTapeModel" 68 y_M_node c_M_node 2 (some .boolean) 1 7 "ArcTapeModel" ft_M 29 := ⟨(wl_in 691 rfl rfl), (wl_in 10 rfl rfl), (wl_in 688 rfl rfl), (wl_in 690 rfl rfl), (wl_se 40 rfl rfl), rfl, ⟨by decide, by decide, by decide +kernel⟩, by decide⟩
set_option maxRecDepth 20000 in
theorem wc_M_75 : aw_wV "ArcTapeModel" 75 y_M_put c_M_put 2 none 1 7 "ArcTapeModel" ft_M 29 := ⟨(wl_in 566 rfl rfl), (wl_in 10 rfl rfl), (wl_in 563 rfl rfl), (wl_in 565 rfl rfl), (wl_se 34 rfl rfl), rfl, ⟨by decide, by decide, by decide +kernel⟩, by decide⟩
set_option maxRecDepth 20000 in
theorem wc_M_79 : aw_wV "ArcTapeModel" 79 y_M_putUnary c_M_putUnary 3 none 1 7 "ArcTapeModel" ft_M 29 := ⟨(wl_in 562 rfl rfl), (wl_in 10 rfl rfl), (wl_in 559 rfl rfl), (wl_in 561 rfl rfl), (wl_se 33 rfl rfl), rfl, ⟨by decide, by decide, by decide +kernel⟩, by decide⟩
set_option maxRecDepth 20000 in
theorem wc_M_82 : aw_wV "ArcTapeModel" 82 y_M_putNumber c_M_putNumber 4 none 2 7 "ArcTapeModel" ft_M 29 := ⟨(wl_in 570 rfl rfl), (wl_in 10 rfl rfl), (wl_in 567 rfl rfl), (wl_in 569 rfl rfl), (wl_se 35 rfl rfl), rfl, ⟨by decide, by decide, by decide +kernel⟩, by decide⟩
set_option maxRecDepth 20000 in
theorem wc_M_89 : aw_wV "ArcTapeModel" 89 y_M_putGamma c_M_putGamma 3 none 1 7 "ArcTapeModel" ft_M 29 := ⟨(wl_in 558 rfl rfl), (wl_in 10 rfl rfl), (wl_in 555 rfl rfl), (wl_in 557 rfl rfl), (wl_se 32 rfl rfl), rfl, ⟨by decide, by decide, by decide +kernel⟩, by decide⟩
set_option maxRecDepth 20000 in
theorem wc_M_95 : aw_wV "ArcTapeModel" 95 y_M_rowAt c_M_rowAt 4 (some .int) 2 7 "ArcTapeModel" ft_M 29 := ⟨(wl_in 582 rfl rfl), (wl_in 10 rfl rfl), (wl_in 579 rfl rfl), (wl_in 581 rfl rfl), (wl_se 38 rfl rfl), rfl, ⟨by decide, by decide, by decide +kernel⟩, by decide⟩
set_option maxRecDepth 20000 in
theorem wc_M_99 : aw_wS "ArcTapeModel" 99 y_M_natural c_M_natural 1 (some .int) 1 := ⟨(wl_in 585 rfl rfl), (wl_in 10 rfl rfl), (wl_in 583 rfl rfl), (wl_in 584 rfl rfl), ⟨by decide, by decide, by decide +kernel⟩, by decide⟩
set_option maxRecDepth 20000 in
theorem wc_K_57 : Cond.methodLink "ArcTape$Packer" 57 Lib.Math.min.name ∈ wsAll ∧ Cond.static Lib.Math.min.name ∈ wsAll ∧ Cond.initialized "java/lang/Math" ∈ wsAll ∧ Cond.code Lib.Math.min.name Lib.Math.min.code 2 (some .int) ∈ wsAll := ⟨(wl_in 224 rfl rfl), (wl_in 21 rfl rfl), (wl_in 2 rfl rfl), (wl_in 22 rfl rfl)⟩
set_option maxRecDepth 20000 in
theorem wc_O_65 : Cond.methodLink "ArcTape$Scores" 65 Lib.MathLoose.abs_long.x ∈ wsAll ∧ Cond.static Lib.MathLoose.abs_long.x ∈ wsAll ∧ Cond.initialized "java/lang/Math" ∈ wsAll ∧ Cond.code Lib.MathLoose.abs_long.x Lib.MathLoose.abs_long.code 2 (some .long) ∈ wsAll := ⟨(wl_in 510 rfl rfl), (wl_in 511 rfl rfl), (wl_in 2 rfl rfl), (wl_in 512 rfl rfl)⟩
set_option maxRecDepth 20000 in
theorem wc_O_90 : Cond.methodLink "ArcTape$Scores" 90 Lib.MathLoose.max_long.x ∈ wsAll ∧ Cond.static Lib.MathLoose.max_long.x ∈ wsAll ∧ Cond.initialized "java/lang/Math" ∈ wsAll ∧ Cond.code Lib.MathLoose.max_long.x Lib.MathLoose.max_long.code 4 (some .long) ∈ wsAll := ⟨(wl_in 499 rfl rfl), (wl_in 500 rfl rfl), (wl_in 2 rfl rfl), (wl_in 501 rfl rfl)⟩
set_option maxRecDepth 20000 in
theorem wc_A_15 : Cond.methodLink "ArcTape" 15 Lib.Math.max.name ∈ wsAll ∧ Cond.static Lib.Math.max.name ∈ wsAll ∧ Cond.initialized "java/lang/Math" ∈ wsAll ∧ Cond.code Lib.Math.max.name Lib.Math.max.code 2 (some .int) ∈ wsAll := ⟨(wl_in 23 rfl rfl), (wl_in 24 rfl rfl), (wl_in 2 rfl rfl), (wl_in 25 rfl rfl)⟩
set_option maxRecDepth 20000 in
theorem wc_A_9 : Cond.methodLink "ArcTape" 9 Lib.Math.min.name ∈ wsAll ∧ Cond.static Lib.Math.min.name ∈ wsAll ∧ Cond.initialized "java/lang/Math" ∈ wsAll ∧ Cond.code Lib.Math.min.name Lib.Math.min.code 2 (some .int) ∈ wsAll := ⟨(wl_in 20 rfl rfl), (wl_in 21 rfl rfl), (wl_in 2 rfl rfl), (wl_in 22 rfl rfl)⟩
set_option maxRecDepth 20000 in
theorem wn_A_26 : aw_nw "ArcTape" 26 5 "ArcTape$Tape" ft_T 2 [.null, .int 0] := ⟨rfl, wu_T, ⟨ty_T, tz_T, fun _ => (show ∀ j, j < 2 → defaultValue (ty_T j) = vp_V [.null, .int 0] j from by decide +kernel)⟩, (wl_in 26 rfl rfl), (wl_in 27 rfl rfl), (wl_in 3 rfl rfl)⟩
set_option maxRecDepth 20000 in
theorem wn_A_33 : aw_nw "ArcTape" 33 0 "ArcTape$Layout" ft_Y 5 [.int 0, .int 0, .int 0, .int 0, .null] := ⟨rfl, wu_Y, ⟨ty_Y, tz_Y, fun _ => (show ∀ j, j < 5 → defaultValue (ty_Y j) = vp_V [.int 0, .int 0, .int 0, .int 0, .null] j from by decide +kernel)⟩, (wl_in 46 rfl rfl), (wl_in 47 rfl rfl), (wl_in 4 rfl rfl)⟩
set_option maxRecDepth 20000 in
theorem wn_A_42 : aw_nw "ArcTape" 42 1 "ArcTape$Packer" ft_K 7 [.null, .null, .null, .null, .null, .null, .null] := ⟨rfl, wu_K, ⟨ty_K, tz_K, fun _ => (show ∀ j, j < 7 → defaultValue (ty_K j) = vp_V [.null, .null, .null, .null, .null, .null, .null] j from by decide +kernel)⟩, (wl_in 83 rfl rfl), (wl_in 84 rfl rfl), (wl_in 5 rfl rfl)⟩
set_option maxRecDepth 20000 in
theorem wn_A_51 : aw_nw "ArcTape" 51 3 "ArcTape$Reader" ft_D 14 [.null, .null, .null, .null, .int 0, .null, .null, .int 0, .int 0, .int 0, .int 0, .int 0, .int 0, .int 0] := ⟨rfl, wu_D, ⟨ty_D, tz_D, fun _ => (show ∀ j, j < 14 → defaultValue (ty_D j) = vp_V [.null, .null, .null, .null, .int 0, .null, .null, .int 0, .int 0, .int 0, .int 0, .int 0, .int 0, .int 0] j from by decide +kernel)⟩, (wl_in 111 rfl rfl), (wl_in 112 rfl rfl), (wl_in 6 rfl rfl)⟩
set_option maxRecDepth 20000 in
theorem wn_A_60 : aw_nw "ArcTape" 60 2 "ArcTape$Parts" ft_S 3 [.null, .null, .null] := ⟨rfl, wu_S, ⟨ty_S, tz_S, fun _ => (show ∀ j, j < 3 → defaultValue (ty_S j) = vp_V [.null, .null, .null] j from by decide +kernel)⟩, (wl_in 163 rfl rfl), (wl_in 164 rfl rfl), (wl_in 7 rfl rfl)⟩
set_option maxRecDepth 20000 in
theorem wn_A_72 : aw_nw "ArcTape" 72 4 "ArcTape$Scores" ft_O 8 [.null, .null, .null, .long 0, .null, .null, .int 0, .int 0] := ⟨rfl, wu_O, ⟨ty_O, tz_O, fun _ => (show ∀ j, j < 8 → defaultValue (ty_O j) = vp_V [.null, .null, .null, .long 0, .null, .null, .int 0, .int 0] j from by decide +kernel)⟩, (wl_in 180 rfl rfl), (wl_in 181 rfl rfl), (wl_in 8 rfl rfl)⟩
set_option maxRecDepth 20000 in
theorem wn_L_18 : aw_nw "ArcTapeLaw" 18 7 "ArcTapeModel" ft_M 29 [.int 0, .null, .null, .int 0, .null, .int 0, .int 0, .int 0, .int 0, .null, .null, .int 0, .int 0, .int 0, .int 0, .null, .null, .null, .null, .null, .int 0, .int 0, .null, .null, .null, .long 0, .null, .null, .int 0] := ⟨rfl, wu_M, ⟨ty_M, tz_M, fun _ => (show ∀ j, j < 29 → defaultValue (ty_M j) = vp_V [.int 0, .null, .null, .int 0, .null, .int 0, .int 0, .int 0, .int 0, .null, .null, .int 0, .int 0, .int 0, .int 0, .null, .null, .null, .null, .null, .int 0, .int 0, .null, .null, .null, .long 0, .null, .null, .int 0] j from by decide +kernel)⟩, (wl_in 537 rfl rfl), (wl_in 538 rfl rfl), (wl_in 10 rfl rfl)⟩
set_option maxRecDepth 20000 in
theorem wn_L_7 : aw_nw "ArcTapeLaw" 7 6 "ArcTape" ft_A 8 [.int 0, .null, .null, .null, .null, .null, .null, .null] := ⟨rfl, wu_A, ⟨ty_A, tz_A, fun _ => (show ∀ j, j < 8 → defaultValue (ty_A j) = vp_V [.int 0, .null, .null, .null, .null, .null, .null, .null] j from by decide +kernel)⟩, (wl_in 12 rfl rfl), (wl_in 13 rfl rfl), (wl_in 1 rfl rfl)⟩
set_option maxRecDepth 20000 in
theorem wo_Y_1 : Cond.methodLink "ArcTape$Layout" 1 Lib.objectInit ∈ wsAll ∧ Cond.instanceMethod Lib.objectInit ∈ wsAll ∧ Cond.code Lib.objectInit ⟨#[0xb1]⟩ 1 none ∈ wsAll := ⟨(wl_in 51 rfl rfl), (wl_in 18 rfl rfl), (wl_in 19 rfl rfl)⟩
set_option maxRecDepth 20000 in
theorem wo_K_3 : Cond.methodLink "ArcTape$Packer" 3 Lib.objectInit ∈ wsAll ∧ Cond.instanceMethod Lib.objectInit ∈ wsAll ∧ Cond.code Lib.objectInit ⟨#[0xb1]⟩ 1 none ∈ wsAll := ⟨(wl_in 88 rfl rfl), (wl_in 18 rfl rfl), (wl_in 19 rfl rfl)⟩
set_option maxRecDepth 20000 in
theorem wo_S_1 : Cond.methodLink "ArcTape$Parts" 1 Lib.objectInit ∈ wsAll ∧ Cond.instanceMethod Lib.objectInit ∈ wsAll ∧ Cond.code Lib.objectInit ⟨#[0xb1]⟩ 1 none ∈ wsAll := ⟨(wl_in 168 rfl rfl), (wl_in 18 rfl rfl), (wl_in 19 rfl rfl)⟩
set_option maxRecDepth 20000 in
theorem wo_D_1 : Cond.methodLink "ArcTape$Reader" 1 Lib.objectInit ∈ wsAll ∧ Cond.instanceMethod Lib.objectInit ∈ wsAll ∧ Cond.code Lib.objectInit ⟨#[0xb1]⟩ 1 none ∈ wsAll := ⟨(wl_in 116 rfl rfl), (wl_in 18 rfl rfl), (wl_in 19 rfl rfl)⟩
set_option maxRecDepth 20000 in
theorem wo_O_3 : Cond.methodLink "ArcTape$Scores" 3 Lib.objectInit ∈ wsAll ∧ Cond.instanceMethod Lib.objectInit ∈ wsAll ∧ Cond.code Lib.objectInit ⟨#[0xb1]⟩ 1 none ∈ wsAll := ⟨(wl_in 185 rfl rfl), (wl_in 18 rfl rfl), (wl_in 19 rfl rfl)⟩
set_option maxRecDepth 20000 in
theorem wo_T_1 : Cond.methodLink "ArcTape$Tape" 1 Lib.objectInit ∈ wsAll ∧ Cond.instanceMethod Lib.objectInit ∈ wsAll ∧ Cond.code Lib.objectInit ⟨#[0xb1]⟩ 1 none ∈ wsAll := ⟨(wl_in 31 rfl rfl), (wl_in 18 rfl rfl), (wl_in 19 rfl rfl)⟩
set_option maxRecDepth 20000 in
theorem wo_A_1 : Cond.methodLink "ArcTape" 1 Lib.objectInit ∈ wsAll ∧ Cond.instanceMethod Lib.objectInit ∈ wsAll ∧ Cond.code Lib.objectInit ⟨#[0xb1]⟩ 1 none ∈ wsAll := ⟨(wl_in 17 rfl rfl), (wl_in 18 rfl rfl), (wl_in 19 rfl rfl)⟩
set_option maxRecDepth 20000 in
theorem wo_M_1 : Cond.methodLink "ArcTapeModel" 1 Lib.objectInit ∈ wsAll ∧ Cond.instanceMethod Lib.objectInit ∈ wsAll ∧ Cond.code Lib.objectInit ⟨#[0xb1]⟩ 1 none ∈ wsAll := ⟨(wl_in 542 rfl rfl), (wl_in 18 rfl rfl), (wl_in 19 rfl rfl)⟩
set_option maxRecDepth 20000 in
theorem wc_O_50 : aw_wY "ArcTape$Scores" 50 := ⟨(wl_in 476 rfl rfl), (wl_in 478 rfl rfl), (wl_in 477 rfl rfl), (wl_in 11 rfl rfl)⟩
