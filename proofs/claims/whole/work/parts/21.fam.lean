theorem clX0 : clsOK 0 RX0 TX0 2 := ⟨rfl, mTs _ [277, 278] (by decide +kernel) (by decide +kernel), tyX0, tyX0_ok, nmX0, by decide +kernel⟩
theorem clX1 : clsOK 1 RX1 TX1 2 := ⟨rfl, mTs _ [304, 305] (by decide +kernel) (by decide +kernel), tyX1, tyX1_ok, nmX1, by decide +kernel⟩
theorem clX2 : clsOK 2 RX2 TX2 2 := ⟨rfl, mTs _ [286, 287] (by decide +kernel) (by decide +kernel), tyX2, tyX2_ok, nmX2, by decide +kernel⟩
theorem clX3 : clsOK 3 RX3 TX3 2 := ⟨rfl, mTs _ [313, 314] (by decide +kernel) (by decide +kernel), tyX3, tyX3_ok, nmX3, by decide +kernel⟩
theorem clX4 : clsOK 4 RX4 TX4 2 := ⟨rfl, mTs _ [102, 104] (by decide +kernel) (by decide +kernel), tyX4, tyX4_ok, nmX4, by decide +kernel⟩
theorem clX5 : clsOK 5 RX5 TX5 11 := ⟨rfl, mTs _ [134, 136, 138, 140, 142, 144, 146, 148, 150, 152, 154] (by decide +kernel) (by decide +kernel), tyX5, tyX5_ok, nmX5, by decide +kernel⟩
theorem clX6 : clsOK 6 RX6 TX6 2 := ⟨rfl, mTs _ [322, 323] (by decide +kernel) (by decide +kernel), tyX6, tyX6_ok, nmX6, by decide +kernel⟩
theorem clX7 : clsOK 7 RX7 TX7 2 := ⟨rfl, mTs _ [842, 844] (by decide +kernel) (by decide +kernel), tyX7, tyX7_ok, nmX7, by decide +kernel⟩
theorem clX8 : clsOK 8 RX8 TX8 2 := ⟨rfl, mTs _ [331, 332] (by decide +kernel) (by decide +kernel), tyX8, tyX8_ok, nmX8, by decide +kernel⟩
theorem clX9 : clsOK 9 RX9 TX9 2 := ⟨rfl, mTs _ [295, 296] (by decide +kernel) (by decide +kernel), tyX9, tyX9_ok, nmX9, by decide +kernel⟩
theorem clX10 : clsOK 10 RX10 TX10 1 := ⟨rfl, mTs _ [211] (by decide +kernel) (by decide +kernel), tyX10, tyX10_ok, nmX10, by decide +kernel⟩
theorem clX11 : clsOK 11 RX11 TX11 8 := ⟨rfl, mTs _ [168, 170, 172, 174, 176, 178, 180, 182] (by decide +kernel) (by decide +kernel), tyX11, tyX11_ok, nmX11, by decide +kernel⟩
theorem clX12 : clsOK 12 RX12 TX12 19 := ⟨rfl, mTs _ [1082, 1084, 1086, 1088, 1090, 1092, 1094, 1096, 1098, 1100, 1102, 1104, 1106, 1108, 1110, 1112, 1114, 1116, 1118] (by decide +kernel) (by decide +kernel), tyX12, tyX12_ok, nmX12, by decide +kernel⟩
theorem fo_X4_kind : famOK GF 0 "GuestWeighsLess$Guest" "kind" "I" true true := fun ci hci => by
  rcases (show ci = 0 ∨ ci = 1 ∨ ci = 2 ∨ ci = 3 ∨ ci = 4 ∨ ci = 6 ∨ ci = 8 ∨ ci = 9 by simpa using hci) with rfl | rfl | rfl | rfl | rfl | rfl | rfl | rfl
  · exact ⟨_, _, _, clX0, by decide, rfl, rfl, rfl, Or.inl rfl, rfl⟩
  · exact ⟨_, _, _, clX1, by decide, rfl, rfl, rfl, Or.inl rfl, rfl⟩
  · exact ⟨_, _, _, clX2, by decide, rfl, rfl, rfl, Or.inl rfl, rfl⟩
  · exact ⟨_, _, _, clX3, by decide, rfl, rfl, rfl, Or.inl rfl, rfl⟩
  · exact ⟨_, _, _, clX4, by decide, rfl, rfl, rfl, Or.inl rfl, rfl⟩
  · exact ⟨_, _, _, clX6, by decide, rfl, rfl, rfl, Or.inl rfl, rfl⟩
  · exact ⟨_, _, _, clX8, by decide, rfl, rfl, rfl, Or.inl rfl, rfl⟩
  · exact ⟨_, _, _, clX9, by decide, rfl, rfl, rfl, Or.inl rfl, rfl⟩
theorem fo_X4_figure : famOK GF 1 "GuestWeighsLess$Guest" "figure" "I" true true := fun ci hci => by
  rcases (show ci = 0 ∨ ci = 1 ∨ ci = 2 ∨ ci = 3 ∨ ci = 4 ∨ ci = 6 ∨ ci = 8 ∨ ci = 9 by simpa using hci) with rfl | rfl | rfl | rfl | rfl | rfl | rfl | rfl
  · exact ⟨_, _, _, clX0, by decide, rfl, rfl, rfl, Or.inl rfl, rfl⟩
  · exact ⟨_, _, _, clX1, by decide, rfl, rfl, rfl, Or.inl rfl, rfl⟩
  · exact ⟨_, _, _, clX2, by decide, rfl, rfl, rfl, Or.inl rfl, rfl⟩
  · exact ⟨_, _, _, clX3, by decide, rfl, rfl, rfl, Or.inl rfl, rfl⟩
  · exact ⟨_, _, _, clX4, by decide, rfl, rfl, rfl, Or.inl rfl, rfl⟩
  · exact ⟨_, _, _, clX6, by decide, rfl, rfl, rfl, Or.inl rfl, rfl⟩
  · exact ⟨_, _, _, clX8, by decide, rfl, rfl, rfl, Or.inl rfl, rfl⟩
  · exact ⟨_, _, _, clX9, by decide, rfl, rfl, rfl, Or.inl rfl, rfl⟩
theorem fo_X0_figure : famOK GF 1 "GuestWeighsLess$Aunt" "figure" "I" true true := fun ci hci => by
  rcases (show ci = 0 ∨ ci = 1 ∨ ci = 2 ∨ ci = 3 ∨ ci = 4 ∨ ci = 6 ∨ ci = 8 ∨ ci = 9 by simpa using hci) with rfl | rfl | rfl | rfl | rfl | rfl | rfl | rfl
  · exact ⟨_, _, _, clX0, by decide, rfl, rfl, rfl, Or.inr (mT 94 (by decide +kernel) (by decide +kernel)), rfl⟩
  · exact ⟨_, _, _, clX1, by decide, rfl, rfl, rfl, Or.inr (mT 94 (by decide +kernel) (by decide +kernel)), rfl⟩
  · exact ⟨_, _, _, clX2, by decide, rfl, rfl, rfl, Or.inr (mT 94 (by decide +kernel) (by decide +kernel)), rfl⟩
  · exact ⟨_, _, _, clX3, by decide, rfl, rfl, rfl, Or.inr (mT 94 (by decide +kernel) (by decide +kernel)), rfl⟩
  · exact ⟨_, _, _, clX4, by decide, rfl, rfl, rfl, Or.inr (mT 94 (by decide +kernel) (by decide +kernel)), rfl⟩
  · exact ⟨_, _, _, clX6, by decide, rfl, rfl, rfl, Or.inr (mT 94 (by decide +kernel) (by decide +kernel)), rfl⟩
  · exact ⟨_, _, _, clX8, by decide, rfl, rfl, rfl, Or.inr (mT 94 (by decide +kernel) (by decide +kernel)), rfl⟩
  · exact ⟨_, _, _, clX9, by decide, rfl, rfl, rfl, Or.inr (mT 94 (by decide +kernel) (by decide +kernel)), rfl⟩
theorem fo_X7_elements : famOK [7] 1 "GuestWeighsLess$Row" "elements" "[I" false true := fun ci hci => by
  rcases (show ci = 7 by simpa using hci) with rfl
  · exact ⟨_, _, _, clX7, by decide, rfl, rfl, rfl, Or.inl rfl, rfl⟩
theorem fo_X10_bytes : famOK [10] 0 "GuestWeighsLess$Text" "bytes" "LGuestWeighsLess$Row;" false true := fun ci hci => by
  rcases (show ci = 10 by simpa using hci) with rfl
  · exact ⟨_, _, _, clX10, by decide, rfl, rfl, rfl, Or.inl rfl, rfl⟩
theorem fo_X5_guests : famOK [5] 5 "GuestWeighsLess$House" "guests" "I" true false := fun ci hci => by
  rcases (show ci = 5 by simpa using hci) with rfl
  · exact ⟨_, _, _, clX5, by decide, rfl, rfl, rfl, Or.inl rfl, rfl⟩
theorem fo_X5_inside : famOK [5] 6 "GuestWeighsLess$House" "inside" "I" true false := fun ci hci => by
  rcases (show ci = 5 by simpa using hci) with rfl
  · exact ⟨_, _, _, clX5, by decide, rfl, rfl, rfl, Or.inl rfl, rfl⟩
theorem fo_X5_secrets : famOK [5] 3 "GuestWeighsLess$House" "secrets" "[I" false true := fun ci hci => by
  rcases (show ci = 5 by simpa using hci) with rfl
  · exact ⟨_, _, _, clX5, by decide, rfl, rfl, rfl, Or.inl rfl, rfl⟩
theorem fo_X5_weight : famOK [5] 1 "GuestWeighsLess$House" "weight" "[I" false true := fun ci hci => by
  rcases (show ci = 5 by simpa using hci) with rfl
  · exact ⟨_, _, _, clX5, by decide, rfl, rfl, rfl, Or.inl rfl, rfl⟩
theorem fo_X5_kind : famOK [5] 0 "GuestWeighsLess$House" "kind" "[LGuestWeighsLess$Guest;" false true := fun ci hci => by
  rcases (show ci = 5 by simpa using hci) with rfl
  · exact ⟨_, _, _, clX5, by decide, rfl, rfl, rfl, Or.inl rfl, rfl⟩
theorem fo_X9_figure : famOK GF 1 "GuestWeighsLess$Swollen" "figure" "I" true true := fun ci hci => by
  rcases (show ci = 0 ∨ ci = 1 ∨ ci = 2 ∨ ci = 3 ∨ ci = 4 ∨ ci = 6 ∨ ci = 8 ∨ ci = 9 by simpa using hci) with rfl | rfl | rfl | rfl | rfl | rfl | rfl | rfl
  · exact ⟨_, _, _, clX0, by decide, rfl, rfl, rfl, Or.inr (mT 96 (by decide +kernel) (by decide +kernel)), rfl⟩
  · exact ⟨_, _, _, clX1, by decide, rfl, rfl, rfl, Or.inr (mT 96 (by decide +kernel) (by decide +kernel)), rfl⟩
  · exact ⟨_, _, _, clX2, by decide, rfl, rfl, rfl, Or.inr (mT 96 (by decide +kernel) (by decide +kernel)), rfl⟩
  · exact ⟨_, _, _, clX3, by decide, rfl, rfl, rfl, Or.inr (mT 96 (by decide +kernel) (by decide +kernel)), rfl⟩
  · exact ⟨_, _, _, clX4, by decide, rfl, rfl, rfl, Or.inr (mT 96 (by decide +kernel) (by decide +kernel)), rfl⟩
  · exact ⟨_, _, _, clX6, by decide, rfl, rfl, rfl, Or.inr (mT 96 (by decide +kernel) (by decide +kernel)), rfl⟩
  · exact ⟨_, _, _, clX8, by decide, rfl, rfl, rfl, Or.inr (mT 96 (by decide +kernel) (by decide +kernel)), rfl⟩
  · exact ⟨_, _, _, clX9, by decide, rfl, rfl, rfl, Or.inr (mT 96 (by decide +kernel) (by decide +kernel)), rfl⟩
theorem fo_X5_entered : famOK [5] 2 "GuestWeighsLess$House" "entered" "[I" false true := fun ci hci => by
  rcases (show ci = 5 by simpa using hci) with rfl
  · exact ⟨_, _, _, clX5, by decide, rfl, rfl, rfl, Or.inl rfl, rfl⟩
theorem fo_X5_came : famOK [5] 4 "GuestWeighsLess$House" "came" "[I" false true := fun ci hci => by
  rcases (show ci = 5 by simpa using hci) with rfl
  · exact ⟨_, _, _, clX5, by decide, rfl, rfl, rfl, Or.inl rfl, rfl⟩
theorem fo_X5_day : famOK [5] 10 "GuestWeighsLess$House" "day" "I" true false := fun ci hci => by
  rcases (show ci = 5 by simpa using hci) with rfl
  · exact ⟨_, _, _, clX5, by decide, rfl, rfl, rfl, Or.inl rfl, rfl⟩
theorem fo_X5_board : famOK [5] 7 "GuestWeighsLess$House" "board" "I" true false := fun ci hci => by
  rcases (show ci = 5 by simpa using hci) with rfl
  · exact ⟨_, _, _, clX5, by decide, rfl, rfl, rfl, Or.inl rfl, rfl⟩
theorem fo_X2_figure : famOK GF 1 "GuestWeighsLess$Child" "figure" "I" true true := fun ci hci => by
  rcases (show ci = 0 ∨ ci = 1 ∨ ci = 2 ∨ ci = 3 ∨ ci = 4 ∨ ci = 6 ∨ ci = 8 ∨ ci = 9 by simpa using hci) with rfl | rfl | rfl | rfl | rfl | rfl | rfl | rfl
  · exact ⟨_, _, _, clX0, by decide, rfl, rfl, rfl, Or.inr (mT 98 (by decide +kernel) (by decide +kernel)), rfl⟩
  · exact ⟨_, _, _, clX1, by decide, rfl, rfl, rfl, Or.inr (mT 98 (by decide +kernel) (by decide +kernel)), rfl⟩
  · exact ⟨_, _, _, clX2, by decide, rfl, rfl, rfl, Or.inr (mT 98 (by decide +kernel) (by decide +kernel)), rfl⟩
  · exact ⟨_, _, _, clX3, by decide, rfl, rfl, rfl, Or.inr (mT 98 (by decide +kernel) (by decide +kernel)), rfl⟩
  · exact ⟨_, _, _, clX4, by decide, rfl, rfl, rfl, Or.inr (mT 98 (by decide +kernel) (by decide +kernel)), rfl⟩
  · exact ⟨_, _, _, clX6, by decide, rfl, rfl, rfl, Or.inr (mT 98 (by decide +kernel) (by decide +kernel)), rfl⟩
  · exact ⟨_, _, _, clX8, by decide, rfl, rfl, rfl, Or.inr (mT 98 (by decide +kernel) (by decide +kernel)), rfl⟩
  · exact ⟨_, _, _, clX9, by decide, rfl, rfl, rfl, Or.inr (mT 98 (by decide +kernel) (by decide +kernel)), rfl⟩
theorem fo_X5_dance : famOK [5] 8 "GuestWeighsLess$House" "dance" "I" true false := fun ci hci => by
  rcases (show ci = 5 by simpa using hci) with rfl
  · exact ⟨_, _, _, clX5, by decide, rfl, rfl, rfl, Or.inl rfl, rfl⟩
theorem fo_X5_relief : famOK [5] 9 "GuestWeighsLess$House" "relief" "I" true false := fun ci hci => by
  rcases (show ci = 5 by simpa using hci) with rfl
  · exact ⟨_, _, _, clX5, by decide, rfl, rfl, rfl, Or.inl rfl, rfl⟩
theorem fo_X11_now : famOK [11] 0 "GuestWeighsLess" "now" "LGuestWeighsLess$House;" false true := fun ci hci => by
  rcases (show ci = 11 by simpa using hci) with rfl
  · exact ⟨_, _, _, clX11, by decide, rfl, rfl, rfl, Or.inl rfl, rfl⟩
theorem fo_X11_rowsHeld : famOK [11] 5 "GuestWeighsLess" "rowsHeld" "[LGuestWeighsLess$Row;" false true := fun ci hci => by
  rcases (show ci = 11 by simpa using hci) with rfl
  · exact ⟨_, _, _, clX11, by decide, rfl, rfl, rfl, Or.inl rfl, rfl⟩
theorem fo_X11_kindsHeld : famOK [11] 4 "GuestWeighsLess" "kindsHeld" "[LGuestWeighsLess$Guest;" false true := fun ci hci => by
  rcases (show ci = 11 by simpa using hci) with rfl
  · exact ⟨_, _, _, clX11, by decide, rfl, rfl, rfl, Or.inl rfl, rfl⟩
theorem fo_X7_sort : famOK [7] 0 "GuestWeighsLess$Row" "sort" "I" true true := fun ci hci => by
  rcases (show ci = 7 by simpa using hci) with rfl
  · exact ⟨_, _, _, clX7, by decide, rfl, rfl, rfl, Or.inl rfl, rfl⟩
theorem fo_X11_mind : famOK [11] 1 "GuestWeighsLess" "mind" "LGuestWeighsLess$House;" false true := fun ci hci => by
  rcases (show ci = 11 by simpa using hci) with rfl
  · exact ⟨_, _, _, clX11, by decide, rfl, rfl, rfl, Or.inl rfl, rfl⟩
theorem fo_X11_pairGone : famOK [11] 6 "GuestWeighsLess" "pairGone" "[I" false true := fun ci hci => by
  rcases (show ci = 11 by simpa using hci) with rfl
  · exact ⟨_, _, _, clX11, by decide, rfl, rfl, rfl, Or.inl rfl, rfl⟩
theorem fo_X11_mostGone : famOK [11] 7 "GuestWeighsLess" "mostGone" "[I" false true := fun ci hci => by
  rcases (show ci = 11 by simpa using hci) with rfl
  · exact ⟨_, _, _, clX11, by decide, rfl, rfl, rfl, Or.inl rfl, rfl⟩
theorem fo_X11_kept : famOK [11] 2 "GuestWeighsLess" "kept" "LGuestWeighsLess$House;" false true := fun ci hci => by
  rcases (show ci = 11 by simpa using hci) with rfl
  · exact ⟨_, _, _, clX11, by decide, rfl, rfl, rfl, Or.inl rfl, rfl⟩
theorem fo_X11_imageTaken : famOK [11] 3 "GuestWeighsLess" "imageTaken" "Z" true false := fun ci hci => by
  rcases (show ci = 11 by simpa using hci) with rfl
  · exact ⟨_, _, _, clX11, by decide, rfl, rfl, rfl, Or.inl rfl, rfl⟩
theorem fo_X12_s : famOK [12] 0 "GuestWeighsLessModel" "s" "[I" false true := fun ci hci => by
  rcases (show ci = 12 by simpa using hci) with rfl
  · exact ⟨_, _, _, clX12, by decide, rfl, rfl, rfl, Or.inl rfl, rfl⟩
theorem fo_X12_most : famOK [12] 10 "GuestWeighsLessModel" "most" "[I" false true := fun ci hci => by
  rcases (show ci = 12 by simpa using hci) with rfl
  · exact ⟨_, _, _, clX12, by decide, rfl, rfl, rfl, Or.inl rfl, rfl⟩
theorem fo_X12_brings : famOK [12] 9 "GuestWeighsLessModel" "brings" "[I" false true := fun ci hci => by
  rcases (show ci = 12 by simpa using hci) with rfl
  · exact ⟨_, _, _, clX12, by decide, rfl, rfl, rfl, Or.inl rfl, rfl⟩
theorem fo_X12_kept : famOK [12] 12 "GuestWeighsLessModel" "kept" "[I" false true := fun ci hci => by
  rcases (show ci = 12 by simpa using hci) with rfl
  · exact ⟨_, _, _, clX12, by decide, rfl, rfl, rfl, Or.inl rfl, rfl⟩
theorem fo_X12_sort : famOK [12] 15 "GuestWeighsLessModel" "sort" "[I" false true := fun ci hci => by
  rcases (show ci = 12 by simpa using hci) with rfl
  · exact ⟨_, _, _, clX12, by decide, rfl, rfl, rfl, Or.inl rfl, rfl⟩
theorem fo_X12_element : famOK [12] 17 "GuestWeighsLessModel" "element" "[I" false true := fun ci hci => by
  rcases (show ci = 12 by simpa using hci) with rfl
  · exact ⟨_, _, _, clX12, by decide, rfl, rfl, rfl, Or.inl rfl, rfl⟩
theorem fo_X12_m : famOK [12] 1 "GuestWeighsLessModel" "m" "[I" false true := fun ci hci => by
  rcases (show ci = 12 by simpa using hci) with rfl
  · exact ⟨_, _, _, clX12, by decide, rfl, rfl, rfl, Or.inl rfl, rfl⟩
theorem fo_X12_size : famOK [12] 16 "GuestWeighsLessModel" "size" "[I" false true := fun ci hci => by
  rcases (show ci = 12 by simpa using hci) with rfl
  · exact ⟨_, _, _, clX12, by decide, rfl, rfl, rfl, Or.inl rfl, rfl⟩
theorem fo_X12_keptKind : famOK [12] 13 "GuestWeighsLessModel" "keptKind" "[I" false true := fun ci hci => by
  rcases (show ci = 12 by simpa using hci) with rfl
  · exact ⟨_, _, _, clX12, by decide, rfl, rfl, rfl, Or.inl rfl, rfl⟩
theorem fo_X12_keptFigure : famOK [12] 14 "GuestWeighsLessModel" "keptFigure" "[I" false true := fun ci hci => by
  rcases (show ci = 12 by simpa using hci) with rfl
  · exact ⟨_, _, _, clX12, by decide, rfl, rfl, rfl, Or.inl rfl, rfl⟩
theorem fo_X12_seed : famOK [12] 11 "GuestWeighsLessModel" "seed" "I" true false := fun ci hci => by
  rcases (show ci = 12 by simpa using hci) with rfl
  · exact ⟨_, _, _, clX12, by decide, rfl, rfl, rfl, Or.inl rfl, rfl⟩
theorem fo_X12_thrown : famOK [12] 18 "GuestWeighsLessModel" "thrown" "I" true false := fun ci hci => by
  rcases (show ci = 12 by simpa using hci) with rfl
  · exact ⟨_, _, _, clX12, by decide, rfl, rfl, rfl, Or.inl rfl, rfl⟩
theorem fo_X12_place : famOK [12] 5 "GuestWeighsLessModel" "place" "I" true false := fun ci hci => by
  rcases (show ci = 12 by simpa using hci) with rfl
  · exact ⟨_, _, _, clX12, by decide, rfl, rfl, rfl, Or.inl rfl, rfl⟩
theorem fo_X12_rowEnd : famOK [12] 7 "GuestWeighsLessModel" "rowEnd" "I" true false := fun ci hci => by
  rcases (show ci = 12 by simpa using hci) with rfl
  · exact ⟨_, _, _, clX12, by decide, rfl, rfl, rfl, Or.inl rfl, rfl⟩
theorem fo_X12_rowAt : famOK [12] 6 "GuestWeighsLessModel" "rowAt" "I" true false := fun ci hci => by
  rcases (show ci = 12 by simpa using hci) with rfl
  · exact ⟨_, _, _, clX12, by decide, rfl, rfl, rfl, Or.inl rfl, rfl⟩
theorem fo_X12_numbers : famOK [12] 8 "GuestWeighsLessModel" "numbers" "[I" false true := fun ci hci => by
  rcases (show ci = 12 by simpa using hci) with rfl
  · exact ⟨_, _, _, clX12, by decide, rfl, rfl, rfl, Or.inl rfl, rfl⟩
theorem fo_X12_was : famOK [12] 3 "GuestWeighsLessModel" "was" "[I" false true := fun ci hci => by
  rcases (show ci = 12 by simpa using hci) with rfl
  · exact ⟨_, _, _, clX12, by decide, rfl, rfl, rfl, Or.inl rfl, rfl⟩
theorem fo_X12_image : famOK [12] 2 "GuestWeighsLessModel" "image" "[I" false true := fun ci hci => by
  rcases (show ci = 12 by simpa using hci) with rfl
  · exact ⟨_, _, _, clX12, by decide, rfl, rfl, rfl, Or.inl rfl, rfl⟩
theorem fo_X12_hasImage : famOK [12] 4 "GuestWeighsLessModel" "hasImage" "Z" true false := fun ci hci => by
  rcases (show ci = 12 by simpa using hci) with rfl
  · exact ⟨_, _, _, clX12, by decide, rfl, rfl, rfl, Or.inl rfl, rfl⟩
theorem fw_X4_0 : ∀ ci ∈ GF, ∀ (C : String) (T : u_T) (N : Nat), vwCl[ci]? = some (C, T, N) → (T 0).1 = RX4 := fun ci hci C T N e => by
  rcases (show ci = 0 ∨ ci = 1 ∨ ci = 2 ∨ ci = 3 ∨ ci = 4 ∨ ci = 6 ∨ ci = 8 ∨ ci = 9 by simpa using hci) with rfl | rfl | rfl | rfl | rfl | rfl | rfl | rfl
  · cases e; rfl
  · cases e; rfl
  · cases e; rfl
  · cases e; rfl
  · cases e; rfl
  · cases e; rfl
  · cases e; rfl
  · cases e; rfl
theorem fw_X4_1 : ∀ ci ∈ GF, ∀ (C : String) (T : u_T) (N : Nat), vwCl[ci]? = some (C, T, N) → (T 1).1 = RX4 := fun ci hci C T N e => by
  rcases (show ci = 0 ∨ ci = 1 ∨ ci = 2 ∨ ci = 3 ∨ ci = 4 ∨ ci = 6 ∨ ci = 8 ∨ ci = 9 by simpa using hci) with rfl | rfl | rfl | rfl | rfl | rfl | rfl | rfl
  · cases e; rfl
  · cases e; rfl
  · cases e; rfl
  · cases e; rfl
  · cases e; rfl
  · cases e; rfl
  · cases e; rfl
  · cases e; rfl
theorem fw_X10_0 : ∀ ci ∈ [10], ∀ (C : String) (T : u_T) (N : Nat), vwCl[ci]? = some (C, T, N) → (T 0).1 = RX10 := fun ci hci C T N e => by
  rcases (show ci = 10 by simpa using hci) with rfl
  · cases e; rfl
theorem fw_X5_0 : ∀ ci ∈ [5], ∀ (C : String) (T : u_T) (N : Nat), vwCl[ci]? = some (C, T, N) → (T 0).1 = RX5 := fun ci hci C T N e => by
  rcases (show ci = 5 by simpa using hci) with rfl
  · cases e; rfl
theorem fw_X5_1 : ∀ ci ∈ [5], ∀ (C : String) (T : u_T) (N : Nat), vwCl[ci]? = some (C, T, N) → (T 1).1 = RX5 := fun ci hci C T N e => by
  rcases (show ci = 5 by simpa using hci) with rfl
  · cases e; rfl
theorem fw_X5_2 : ∀ ci ∈ [5], ∀ (C : String) (T : u_T) (N : Nat), vwCl[ci]? = some (C, T, N) → (T 2).1 = RX5 := fun ci hci C T N e => by
  rcases (show ci = 5 by simpa using hci) with rfl
  · cases e; rfl
theorem fw_X5_3 : ∀ ci ∈ [5], ∀ (C : String) (T : u_T) (N : Nat), vwCl[ci]? = some (C, T, N) → (T 3).1 = RX5 := fun ci hci C T N e => by
  rcases (show ci = 5 by simpa using hci) with rfl
  · cases e; rfl
theorem fw_X5_4 : ∀ ci ∈ [5], ∀ (C : String) (T : u_T) (N : Nat), vwCl[ci]? = some (C, T, N) → (T 4).1 = RX5 := fun ci hci C T N e => by
  rcases (show ci = 5 by simpa using hci) with rfl
  · cases e; rfl
theorem fw_X11_0 : ∀ ci ∈ [11], ∀ (C : String) (T : u_T) (N : Nat), vwCl[ci]? = some (C, T, N) → (T 0).1 = RX11 := fun ci hci C T N e => by
  rcases (show ci = 11 by simpa using hci) with rfl
  · cases e; rfl
theorem fw_X11_1 : ∀ ci ∈ [11], ∀ (C : String) (T : u_T) (N : Nat), vwCl[ci]? = some (C, T, N) → (T 1).1 = RX11 := fun ci hci C T N e => by
  rcases (show ci = 11 by simpa using hci) with rfl
  · cases e; rfl
theorem fw_X11_2 : ∀ ci ∈ [11], ∀ (C : String) (T : u_T) (N : Nat), vwCl[ci]? = some (C, T, N) → (T 2).1 = RX11 := fun ci hci C T N e => by
  rcases (show ci = 11 by simpa using hci) with rfl
  · cases e; rfl
theorem fw_X11_4 : ∀ ci ∈ [11], ∀ (C : String) (T : u_T) (N : Nat), vwCl[ci]? = some (C, T, N) → (T 4).1 = RX11 := fun ci hci C T N e => by
  rcases (show ci = 11 by simpa using hci) with rfl
  · cases e; rfl
theorem fw_X11_5 : ∀ ci ∈ [11], ∀ (C : String) (T : u_T) (N : Nat), vwCl[ci]? = some (C, T, N) → (T 5).1 = RX11 := fun ci hci C T N e => by
  rcases (show ci = 11 by simpa using hci) with rfl
  · cases e; rfl
theorem fw_X11_6 : ∀ ci ∈ [11], ∀ (C : String) (T : u_T) (N : Nat), vwCl[ci]? = some (C, T, N) → (T 6).1 = RX11 := fun ci hci C T N e => by
  rcases (show ci = 11 by simpa using hci) with rfl
  · cases e; rfl
theorem fw_X11_7 : ∀ ci ∈ [11], ∀ (C : String) (T : u_T) (N : Nat), vwCl[ci]? = some (C, T, N) → (T 7).1 = RX11 := fun ci hci C T N e => by
  rcases (show ci = 11 by simpa using hci) with rfl
  · cases e; rfl
theorem fw_X7_0 : ∀ ci ∈ [7], ∀ (C : String) (T : u_T) (N : Nat), vwCl[ci]? = some (C, T, N) → (T 0).1 = RX7 := fun ci hci C T N e => by
  rcases (show ci = 7 by simpa using hci) with rfl
  · cases e; rfl
theorem fw_X7_1 : ∀ ci ∈ [7], ∀ (C : String) (T : u_T) (N : Nat), vwCl[ci]? = some (C, T, N) → (T 1).1 = RX7 := fun ci hci C T N e => by
  rcases (show ci = 7 by simpa using hci) with rfl
  · cases e; rfl
theorem fw_X12_0 : ∀ ci ∈ [12], ∀ (C : String) (T : u_T) (N : Nat), vwCl[ci]? = some (C, T, N) → (T 0).1 = RX12 := fun ci hci C T N e => by
  rcases (show ci = 12 by simpa using hci) with rfl
  · cases e; rfl
theorem fw_X12_1 : ∀ ci ∈ [12], ∀ (C : String) (T : u_T) (N : Nat), vwCl[ci]? = some (C, T, N) → (T 1).1 = RX12 := fun ci hci C T N e => by
  rcases (show ci = 12 by simpa using hci) with rfl
  · cases e; rfl
theorem fw_X12_2 : ∀ ci ∈ [12], ∀ (C : String) (T : u_T) (N : Nat), vwCl[ci]? = some (C, T, N) → (T 2).1 = RX12 := fun ci hci C T N e => by
  rcases (show ci = 12 by simpa using hci) with rfl
  · cases e; rfl
theorem fw_X12_3 : ∀ ci ∈ [12], ∀ (C : String) (T : u_T) (N : Nat), vwCl[ci]? = some (C, T, N) → (T 3).1 = RX12 := fun ci hci C T N e => by
  rcases (show ci = 12 by simpa using hci) with rfl
  · cases e; rfl
theorem fw_X12_8 : ∀ ci ∈ [12], ∀ (C : String) (T : u_T) (N : Nat), vwCl[ci]? = some (C, T, N) → (T 8).1 = RX12 := fun ci hci C T N e => by
  rcases (show ci = 12 by simpa using hci) with rfl
  · cases e; rfl
theorem fw_X12_9 : ∀ ci ∈ [12], ∀ (C : String) (T : u_T) (N : Nat), vwCl[ci]? = some (C, T, N) → (T 9).1 = RX12 := fun ci hci C T N e => by
  rcases (show ci = 12 by simpa using hci) with rfl
  · cases e; rfl
theorem fw_X12_10 : ∀ ci ∈ [12], ∀ (C : String) (T : u_T) (N : Nat), vwCl[ci]? = some (C, T, N) → (T 10).1 = RX12 := fun ci hci C T N e => by
  rcases (show ci = 12 by simpa using hci) with rfl
  · cases e; rfl
theorem fw_X12_12 : ∀ ci ∈ [12], ∀ (C : String) (T : u_T) (N : Nat), vwCl[ci]? = some (C, T, N) → (T 12).1 = RX12 := fun ci hci C T N e => by
  rcases (show ci = 12 by simpa using hci) with rfl
  · cases e; rfl
theorem fw_X12_13 : ∀ ci ∈ [12], ∀ (C : String) (T : u_T) (N : Nat), vwCl[ci]? = some (C, T, N) → (T 13).1 = RX12 := fun ci hci C T N e => by
  rcases (show ci = 12 by simpa using hci) with rfl
  · cases e; rfl
theorem fw_X12_14 : ∀ ci ∈ [12], ∀ (C : String) (T : u_T) (N : Nat), vwCl[ci]? = some (C, T, N) → (T 14).1 = RX12 := fun ci hci C T N e => by
  rcases (show ci = 12 by simpa using hci) with rfl
  · cases e; rfl
theorem fw_X12_15 : ∀ ci ∈ [12], ∀ (C : String) (T : u_T) (N : Nat), vwCl[ci]? = some (C, T, N) → (T 15).1 = RX12 := fun ci hci C T N e => by
  rcases (show ci = 12 by simpa using hci) with rfl
  · cases e; rfl
theorem fw_X12_16 : ∀ ci ∈ [12], ∀ (C : String) (T : u_T) (N : Nat), vwCl[ci]? = some (C, T, N) → (T 16).1 = RX12 := fun ci hci C T N e => by
  rcases (show ci = 12 by simpa using hci) with rfl
  · cases e; rfl
theorem fw_X12_17 : ∀ ci ∈ [12], ∀ (C : String) (T : u_T) (N : Nat), vwCl[ci]? = some (C, T, N) → (T 17).1 = RX12 := fun ci hci C T N e => by
  rcases (show ci = 12 by simpa using hci) with rfl
  · cases e; rfl
theorem pd_I : parseFieldDescriptor "I" = some .int := by decide +kernel
theorem pd_LGuestWeighsLess_Row_ : parseFieldDescriptor "LGuestWeighsLess$Row;" = some (.object "GuestWeighsLess$Row") := by decide +kernel
theorem pd_Z : parseFieldDescriptor "Z" = some .boolean := by decide +kernel
theorem pd__LGuestWeighsLess_Guest_ : parseFieldDescriptor "[LGuestWeighsLess$Guest;" = some (.array (.object "GuestWeighsLess$Guest")) := by decide +kernel
theorem pd__I : parseFieldDescriptor "[I" = some (.array .int) := by decide +kernel
theorem pd_LGuestWeighsLess_House_ : parseFieldDescriptor "LGuestWeighsLess$House;" = some (.object "GuestWeighsLess$House") := by decide +kernel
theorem pd__LGuestWeighsLess_Row_ : parseFieldDescriptor "[LGuestWeighsLess$Row;" = some (.array (.object "GuestWeighsLess$Row")) := by decide +kernel
theorem nfw : 8 + (nativeFrameWords "java/lang/System" "arraycopy" 5 + 11) ≤ 26 := by decide +kernel
theorem gfCl : ∀ ci ∈ GF, ∃ (C : String) (T : u_T) (N : Nat), vwCl[ci]? = some (C, T, N) := fun ci hci => by
  rcases (show ci = 0 ∨ ci = 1 ∨ ci = 2 ∨ ci = 3 ∨ ci = 4 ∨ ci = 6 ∨ ci = 8 ∨ ci = 9 by simpa using hci) with rfl | rfl | rfl | rfl | rfl | rfl | rfl | rfl
  · exact ⟨_, _, _, rfl⟩
  · exact ⟨_, _, _, rfl⟩
  · exact ⟨_, _, _, rfl⟩
  · exact ⟨_, _, _, rfl⟩
  · exact ⟨_, _, _, rfl⟩
  · exact ⟨_, _, _, rfl⟩
  · exact ⟨_, _, _, rfl⟩
  · exact ⟨_, _, _, rfl⟩
theorem asgG : asgOK 2 GF := ⟨RX4, rfl, fun ci hci => by
  rcases (show ci = 0 ∨ ci = 1 ∨ ci = 2 ∨ ci = 3 ∨ ci = 4 ∨ ci = 6 ∨ ci = 8 ∨ ci = 9 by simpa using hci) with rfl | rfl | rfl | rfl | rfl | rfl | rfl | rfl
  · exact ⟨_, rfl, Or.inr (List.mem_of_getElem? (i := 1473) (by decide +kernel))⟩
  · exact ⟨_, rfl, Or.inr (List.mem_of_getElem? (i := 1476) (by decide +kernel))⟩
  · exact ⟨_, rfl, Or.inr (List.mem_of_getElem? (i := 1474) (by decide +kernel))⟩
  · exact ⟨_, rfl, Or.inr (List.mem_of_getElem? (i := 1477) (by decide +kernel))⟩
  · exact ⟨_, rfl, Or.inl rfl⟩
  · exact ⟨_, rfl, Or.inr (List.mem_of_getElem? (i := 1478) (by decide +kernel))⟩
  · exact ⟨_, rfl, Or.inr (List.mem_of_getElem? (i := 1479) (by decide +kernel))⟩
  · exact ⟨_, rfl, Or.inr (List.mem_of_getElem? (i := 1475) (by decide +kernel))⟩⟩
theorem asgR : asgOK 3 [7] := ⟨RX7, rfl, fun ci hci => by
  have : ci = 7 := by simpa using hci
  subst this
  exact ⟨_, rfl, Or.inl rfl⟩⟩
/-- by the receiver's class -/
def dsp {β : Type} (h : AH) (v : Option Nat) (g : Nat → Option (β × AH)) : Option (β × AH) := match v with
  | none => none
  | some a => match aT h a with
    | some (.inr c) => g c
    | _ => none
def DynAt {β : Type} (X : GX) (x : MethodName) (FR LO : Nat) (ρ : β → Option Value) (vs : List AV) (h : AH) (ci : Nat) (o : Option (β × AH)) : Prop := Mono h o ∧ ∀ (r : β) (h' : AH), o = some (r, h') → ∃ (C : String) (T : u_T) (N : Nat) (y : MethodName) (bytes : ByteArray) (maxL fr lo : Nat) (rt : Option FieldType), vwCl[ci]? = some (C, T, N) ∧ (Cond.selects C x y ∈ Tg ∧ Cond.instanceMethod y ∈ Tg ∧ Cond.initialized y.cls ∈ Tg ∧ Cond.code y bytes maxL rt ∈ Tg) ∧ (fr + 1 ≤ FR ∧ 8 + (maxL + 11) + lo ≤ LO) ∧ Ct X y bytes maxL rt fr lo vs h (ρ r) h'
theorem dynAt_none {β : Type} {X : GX} {x : MethodName} {FR LO : Nat} {ρ : β → Option Value} {vs : List AV} {h : AH} {ci : Nat} : DynAt X x FR LO ρ vs h ci (none : Option (β × AH)) := ⟨mono_none, fun _ _ e => by cases e⟩
theorem dynAt_if {β : Type} {X : GX} {x : MethodName} {FR LO : Nat} {ρ : β → Option Value} {vs : List AV} {h : AH} {ci k : Nat} {o1 o2 : Option (β × AH)} (h1 : DynAt X x FR LO ρ vs h k o1) (h2 : DynAt X x FR LO ρ vs h ci o2) : DynAt X x FR LO ρ vs h ci (if ci = k then o1 else o2) := by
  by_cases e : ci = k
  · subst e; rw [if_pos rfl]; exact h1
  · rw [if_neg e]; exact h2
theorem dynAt_of {β : Type} {X : GX} {x y : MethodName} {FR LO : Nat} {ρ : β → Option Value} {vs : List AV} {h : AH} {ci : Nat} {o : Option (β × AH)} {C : String} {T : u_T} {N maxL fr lo : Nat} {bytes : ByteArray} {rt : Option FieldType} (hs : Snd X y bytes maxL rt fr lo ρ vs h o) (hc : vwCl[ci]? = some (C, T, N)) (w1 : Cond.selects C x y ∈ Tg) (w2 : Cond.instanceMethod y ∈ Tg) (w3 : Cond.initialized y.cls ∈ Tg) (w4 : Cond.code y bytes maxL rt ∈ Tg) (hR : fr + 1 ≤ FR ∧ 8 + (maxL + 11) + lo ≤ LO) : DynAt X x FR LO ρ vs h ci o := ⟨hs.1, fun r h' e => ⟨C, T, N, y, bytes, maxL, fr, lo, rt, hc, ⟨w1, w2, w3, w4⟩, hR, hs.2 r h' e⟩⟩
theorem dyn_intro {β : Type} {X : GX} {x : MethodName} {FR LO : Nat} {ρ : β → Option Value} {v : Option Nat} {vs : List AV} {h : AH} {g : Nat → Option (β × AH)} (hg : ∀ c, DynAt X x FR LO ρ (vR v :: vs) h c (g c)) : Dyn X x FR LO ρ (vR v :: vs) h (dsp h v g) := by
  cases v with
  | none => exact ⟨mono_none, fun _ _ e => by cases e⟩
  | some a =>
    unfold dsp
    dsimp only
    split
    · rename_i c hT
      exact ⟨(hg c).1, fun r h' e => by
        obtain ⟨C, T, N, y, bytes, maxL, fr, lo, rt, q1, q2, q3, q4⟩ := (hg c).2 r h' e
        exact ⟨a, c, C, T, N, y, bytes, maxL, fr, lo, rt, vs, rfl, hT, q1, q2, q3, q4⟩⟩
    · exact ⟨mono_none, fun _ _ e => by cases e⟩
