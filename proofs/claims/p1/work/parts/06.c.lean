theorem dX6_begin_0 : decode cX6_begin 0 = .ok (.aload_n 0, 1) := by decide +kernel
theorem dX6_begin_1 : decode cX6_begin 1 = .ok (.aload_n 1, 1) := by decide +kernel
theorem dX6_begin_2 : decode cX6_begin 2 = .ok (.putfield 27, 3) := by decide +kernel
theorem dX6_begin_5 : decode cX6_begin 5 = .ok (.aload_n 0, 1) := by decide +kernel
theorem dX6_begin_6 : decode cX6_begin 6 = .ok (.getfield 9, 3) := by decide +kernel
theorem dX6_begin_9 : decode cX6_begin 9 = .ok (.iconst 0, 1) := by decide +kernel
theorem dX6_begin_10 : decode cX6_begin 10 = .ok (.invokestatic 31, 3) := by decide +kernel
theorem dX6_begin_13 : decode cX6_begin 13 = .ok (.aload_n 0, 1) := by decide +kernel
theorem dX6_begin_14 : decode cX6_begin 14 = .ok (.getfield 15, 3) := by decide +kernel
theorem dX6_begin_17 : decode cX6_begin 17 = .ok (.iconst 0, 1) := by decide +kernel
theorem dX6_begin_18 : decode cX6_begin 18 = .ok (.invokestatic 31, 3) := by decide +kernel
theorem dX6_begin_21 : decode cX6_begin 21 = .ok (.aload_n 0, 1) := by decide +kernel
theorem dX6_begin_22 : decode cX6_begin 22 = .ok (.getfield 18, 3) := by decide +kernel
theorem dX6_begin_25 : decode cX6_begin 25 = .ok (.iconst 0, 1) := by decide +kernel
theorem dX6_begin_26 : decode cX6_begin 26 = .ok (.invokestatic 31, 3) := by decide +kernel
theorem dX6_begin_29 : decode cX6_begin 29 = .ok (.aload_n 0, 1) := by decide +kernel
theorem dX6_begin_30 : decode cX6_begin 30 = .ok (.getfield 21, 3) := by decide +kernel
theorem dX6_begin_33 : decode cX6_begin 33 = .ok (.iconst 0, 1) := by decide +kernel
theorem dX6_begin_34 : decode cX6_begin 34 = .ok (.invokestatic 31, 3) := by decide +kernel
theorem dX6_begin_37 : decode cX6_begin 37 = .ok (.aload_n 0, 1) := by decide +kernel
theorem dX6_begin_38 : decode cX6_begin 38 = .ok (.getfield 24, 3) := by decide +kernel
theorem dX6_begin_41 : decode cX6_begin 41 = .ok (.iconst 0, 1) := by decide +kernel
theorem dX6_begin_42 : decode cX6_begin 42 = .ok (.invokestatic 31, 3) := by decide +kernel
theorem dX6_begin_45 : decode cX6_begin 45 = .ok (.aload_n 0, 1) := by decide +kernel
theorem dX6_begin_46 : decode cX6_begin 46 = .ok (.iconst 1, 1) := by decide +kernel
theorem dX6_begin_47 : decode cX6_begin 47 = .ok (.putfield 37, 3) := by decide +kernel
theorem dX6_begin_50 : decode cX6_begin 50 = .ok (.return_, 1) := by decide +kernel
set_option maxHeartbeats 4000000 in
set_option maxRecDepth 100000 in
theorem c_X6_begin (l : Launch) (D : va_G) (T : Nat → ClassId) (h0 : Nat) (h0_cells : Nat) (h0_next : Nat) (h0_moved : Nat) (h0_holder : Nat) (h0_notes : Nat) (h0_started : Int32) (s0 : Nat) (f_h0_cells : Nat → Int32) (f_h0_next : Nat → Int32) (f_h0_moved : Nat → Int32) (f_h0_holder : Nat → Int32) (f_h0_notes : Nat → Int32) (sz : Nat) : Met l yX6_begin (WS (.code yX6_begin cX6_begin 2 none)) ({ frames := 4, cells := 0, slots := 0, locals := 128 } : Room) (va_Pc [.ref h0, .ref s0] (PW D (TY T) [ob h0 6 [.ref h0_cells, .null, .ref h0_next, .ref h0_moved, .ref h0_holder, .ref h0_notes, .int h0_started], ai T h0_cells 8 f_h0_cells, ai T h0_next 6 f_h0_next, ai T h0_moved 6 f_h0_moved, ai T h0_holder 4 f_h0_holder, ai T h0_notes 3 f_h0_notes] sz)) (QV (X := Unit) D (fun _ => True) (fun _ => [ob h0 6 [.ref h0_cells, .ref s0, .ref h0_next, .ref h0_moved, .ref h0_holder, .ref h0_notes, .int 1], ai T h0_cells 8 (cst 0), ai T h0_next 6 (cst 0), ai T h0_moved 6 (cst 0), ai T h0_holder 4 (cst 0), ai T h0_notes 3 (cst 0)]) (va_A [ob h0 6 [.ref h0_cells, .null, .ref h0_next, .ref h0_moved, .ref h0_holder, .ref h0_notes, .int h0_started], ai T h0_cells 8 f_h0_cells, ai T h0_next 6 f_h0_next, ai T h0_moved 6 f_h0_moved, ai T h0_holder 4 f_h0_holder, ai T h0_notes 3 f_h0_notes] sz)) 0 0 (va_A [ob h0 6 [.ref h0_cells, .null, .ref h0_next, .ref h0_moved, .ref h0_holder, .ref h0_notes, .int h0_started], ai T h0_cells 8 f_h0_cells, ai T h0_next 6 f_h0_next, ai T h0_moved 6 f_h0_moved, ai T h0_holder 4 f_h0_holder, ai T h0_notes 3 f_h0_notes] sz) := by
  refine mk_met (Qc := QV (X := Unit) D (fun _ => True) (fun _ => [ob h0 6 [.ref h0_cells, .ref s0, .ref h0_next, .ref h0_moved, .ref h0_holder, .ref h0_notes, .int 1], ai T h0_cells 8 (cst 0), ai T h0_next 6 (cst 0), ai T h0_moved 6 (cst 0), ai T h0_holder 4 (cst 0), ai T h0_notes 3 (cst 0)])) (lv := [(0, .ref h0), (1, .ref s0)]) (by decide +kernel) (Nat.le_of_ble_eq_true rfl) rfl (fun p e s m below meth c A ls H locs hx hb hml hr hlocks hown hin hg hN hA hP hK hD hS hl => ?_)
  refine lv_aload_n hx hb dX6_begin_0 rfl (lv_at hl 0 rfl) ?_
  refine lv_aload_n hx hb dX6_begin_1 rfl (lv_at hl 1 rfl) ?_
  refine va_put (D := D) (ci := 6) (v := .ref s0) (ty := (.object "OneCup$Script")) (C := RX6) (T := TX6) (N := 7) hx hb hg inX6 tyX6 tyX6_ok nmX6 hown hK hP hD hS 0 rfl rfl 1 (by decide) (hg _ kf_X6_27) (fun _ h9 => h9) rfl (by decide +kernel) rfl rfl (Nat.le_of_ble_eq_true rfl) dX6_begin_2 (fun H locs hP hD hS => ?_)
  have hP : va_P D vwCl [ob h0 6 [.ref h0_cells, .ref s0, .ref h0_next, .ref h0_moved, .ref h0_holder, .ref h0_notes, .int h0_started], ai T h0_cells 8 f_h0_cells, ai T h0_next 6 f_h0_next, ai T h0_moved 6 f_h0_moved, ai T h0_holder 4 f_h0_holder, ai T h0_notes 3 f_h0_notes] H := hP
  have hD : va_D A [ob h0 6 [.ref h0_cells, .ref s0, .ref h0_next, .ref h0_moved, .ref h0_holder, .ref h0_notes, .int h0_started], ai T h0_cells 8 f_h0_cells, ai T h0_next 6 f_h0_next, ai T h0_moved 6 f_h0_moved, ai T h0_holder 4 f_h0_holder, ai T h0_notes 3 f_h0_notes] := hD
  refine lv_aload_n hx hb dX6_begin_5 rfl (lv_at hl 0 rfl) ?_
  refine va_get (D := D) (ci := 6) (v := .ref h0_cells) (C := RX6) (T := TX6) (N := 7) hx hb hg inX6 hown hK hP 0 rfl rfl 0 (by decide) (hg _ kf_X6_9) (fun _ h9 => h9) rfl dX6_begin_6 ?_
  refine lv_iconst (v := 0) hx hb dX6_begin_9 (by decide) ?_
  refine cont_v (Wr := [ob h0 6 [.ref h0_cells, .ref s0, .ref h0_next, .ref h0_moved, .ref h0_holder, .ref h0_notes, .int h0_started], ai T h0_next 6 f_h0_next, ai T h0_moved 6 f_h0_moved, ai T h0_holder 4 f_h0_holder, ai T h0_notes 3 f_h0_notes]) [1] [0, 2, 3, 4, 5] (run_S (n := 2) (As := [.ref h0_cells, .int 0]) (rest := []) hx hb hml hown hg hN (c_fill l D T h0_cells 8 f_h0_cells 0 (by decide)  H.size) km_X6_31 kt_J7_fill_53178 kz_J7 kd_J7_fill_53178 rfl rfl (by decide +kernel) ⟨Nat.le_of_ble_eq_true rfl, Nat.le_of_ble_eq_true rfl⟩ hK (P_sub hP [1] rfl) (hD.sub [1] (by decide) rfl) rfl hl.1 rfl (Nat.le_of_ble_eq_true rfl) dX6_begin_10 ⟨Nat.le_of_ble_eq_true rfl, Nat.le_of_ble_eq_true rfl⟩) hP hD hS hA rfl rfl (by decide) (by decide) (fun xx H locs hq hP hD hS => ?_)
  have hP : va_P D vwCl [ob h0 6 [.ref h0_cells, .ref s0, .ref h0_next, .ref h0_moved, .ref h0_holder, .ref h0_notes, .int h0_started], ai T h0_next 6 f_h0_next, ai T h0_moved 6 f_h0_moved, ai T h0_holder 4 f_h0_holder, ai T h0_notes 3 f_h0_notes, ai T h0_cells 8 (cst 0)] H := hP
  have hD : va_D A [ob h0 6 [.ref h0_cells, .ref s0, .ref h0_next, .ref h0_moved, .ref h0_holder, .ref h0_notes, .int h0_started], ai T h0_next 6 f_h0_next, ai T h0_moved 6 f_h0_moved, ai T h0_holder 4 f_h0_holder, ai T h0_notes 3 f_h0_notes, ai T h0_cells 8 (cst 0)] := hD
  refine lv_aload_n hx hb dX6_begin_13 rfl (lv_at hl 0 rfl) ?_
  refine va_get (D := D) (ci := 6) (v := .ref h0_next) (C := RX6) (T := TX6) (N := 7) hx hb hg inX6 hown hK hP 0 rfl rfl 2 (by decide) (hg _ kf_X6_15) (fun _ h9 => h9) rfl dX6_begin_14 ?_
  refine lv_iconst (v := 0) hx hb dX6_begin_17 (by decide) ?_
  refine cont_v (Wr := [ob h0 6 [.ref h0_cells, .ref s0, .ref h0_next, .ref h0_moved, .ref h0_holder, .ref h0_notes, .int h0_started], ai T h0_moved 6 f_h0_moved, ai T h0_holder 4 f_h0_holder, ai T h0_notes 3 f_h0_notes, ai T h0_cells 8 (cst 0)]) [1] [0, 2, 3, 4, 5] (run_S (n := 2) (As := [.ref h0_next, .int 0]) (rest := []) hx hb hml hown hg hN (c_fill l D T h0_next 6 f_h0_next 0 (by decide)  H.size) km_X6_31 kt_J7_fill_53178 kz_J7 kd_J7_fill_53178 rfl rfl (by decide +kernel) ⟨Nat.le_of_ble_eq_true rfl, Nat.le_of_ble_eq_true rfl⟩ hK (P_sub hP [1] rfl) (hD.sub [1] (by decide) rfl) rfl hl.1 rfl (Nat.le_of_ble_eq_true rfl) dX6_begin_18 ⟨Nat.le_of_ble_eq_true rfl, Nat.le_of_ble_eq_true rfl⟩) hP hD hS hA rfl rfl (by decide) (by decide) (fun xx H locs hq hP hD hS => ?_)
  have hP : va_P D vwCl [ob h0 6 [.ref h0_cells, .ref s0, .ref h0_next, .ref h0_moved, .ref h0_holder, .ref h0_notes, .int h0_started], ai T h0_moved 6 f_h0_moved, ai T h0_holder 4 f_h0_holder, ai T h0_notes 3 f_h0_notes, ai T h0_cells 8 (cst 0), ai T h0_next 6 (cst 0)] H := hP
  have hD : va_D A [ob h0 6 [.ref h0_cells, .ref s0, .ref h0_next, .ref h0_moved, .ref h0_holder, .ref h0_notes, .int h0_started], ai T h0_moved 6 f_h0_moved, ai T h0_holder 4 f_h0_holder, ai T h0_notes 3 f_h0_notes, ai T h0_cells 8 (cst 0), ai T h0_next 6 (cst 0)] := hD
  refine lv_aload_n hx hb dX6_begin_21 rfl (lv_at hl 0 rfl) ?_
  refine va_get (D := D) (ci := 6) (v := .ref h0_moved) (C := RX6) (T := TX6) (N := 7) hx hb hg inX6 hown hK hP 0 rfl rfl 3 (by decide) (hg _ kf_X6_18) (fun _ h9 => h9) rfl dX6_begin_22 ?_
  refine lv_iconst (v := 0) hx hb dX6_begin_25 (by decide) ?_
  refine cont_v (Wr := [ob h0 6 [.ref h0_cells, .ref s0, .ref h0_next, .ref h0_moved, .ref h0_holder, .ref h0_notes, .int h0_started], ai T h0_holder 4 f_h0_holder, ai T h0_notes 3 f_h0_notes, ai T h0_cells 8 (cst 0), ai T h0_next 6 (cst 0)]) [1] [0, 2, 3, 4, 5] (run_S (n := 2) (As := [.ref h0_moved, .int 0]) (rest := []) hx hb hml hown hg hN (c_fill l D T h0_moved 6 f_h0_moved 0 (by decide)  H.size) km_X6_31 kt_J7_fill_53178 kz_J7 kd_J7_fill_53178 rfl rfl (by decide +kernel) ⟨Nat.le_of_ble_eq_true rfl, Nat.le_of_ble_eq_true rfl⟩ hK (P_sub hP [1] rfl) (hD.sub [1] (by decide) rfl) rfl hl.1 rfl (Nat.le_of_ble_eq_true rfl) dX6_begin_26 ⟨Nat.le_of_ble_eq_true rfl, Nat.le_of_ble_eq_true rfl⟩) hP hD hS hA rfl rfl (by decide) (by decide) (fun xx H locs hq hP hD hS => ?_)
  have hP : va_P D vwCl [ob h0 6 [.ref h0_cells, .ref s0, .ref h0_next, .ref h0_moved, .ref h0_holder, .ref h0_notes, .int h0_started], ai T h0_holder 4 f_h0_holder, ai T h0_notes 3 f_h0_notes, ai T h0_cells 8 (cst 0), ai T h0_next 6 (cst 0), ai T h0_moved 6 (cst 0)] H := hP
  have hD : va_D A [ob h0 6 [.ref h0_cells, .ref s0, .ref h0_next, .ref h0_moved, .ref h0_holder, .ref h0_notes, .int h0_started], ai T h0_holder 4 f_h0_holder, ai T h0_notes 3 f_h0_notes, ai T h0_cells 8 (cst 0), ai T h0_next 6 (cst 0), ai T h0_moved 6 (cst 0)] := hD
  refine lv_aload_n hx hb dX6_begin_29 rfl (lv_at hl 0 rfl) ?_
  refine va_get (D := D) (ci := 6) (v := .ref h0_holder) (C := RX6) (T := TX6) (N := 7) hx hb hg inX6 hown hK hP 0 rfl rfl 4 (by decide) (hg _ kf_X6_21) (fun _ h9 => h9) rfl dX6_begin_30 ?_
  refine lv_iconst (v := 0) hx hb dX6_begin_33 (by decide) ?_
  refine cont_v (Wr := [ob h0 6 [.ref h0_cells, .ref s0, .ref h0_next, .ref h0_moved, .ref h0_holder, .ref h0_notes, .int h0_started], ai T h0_notes 3 f_h0_notes, ai T h0_cells 8 (cst 0), ai T h0_next 6 (cst 0), ai T h0_moved 6 (cst 0)]) [1] [0, 2, 3, 4, 5] (run_S (n := 2) (As := [.ref h0_holder, .int 0]) (rest := []) hx hb hml hown hg hN (c_fill l D T h0_holder 4 f_h0_holder 0 (by decide)  H.size) km_X6_31 kt_J7_fill_53178 kz_J7 kd_J7_fill_53178 rfl rfl (by decide +kernel) ⟨Nat.le_of_ble_eq_true rfl, Nat.le_of_ble_eq_true rfl⟩ hK (P_sub hP [1] rfl) (hD.sub [1] (by decide) rfl) rfl hl.1 rfl (Nat.le_of_ble_eq_true rfl) dX6_begin_34 ⟨Nat.le_of_ble_eq_true rfl, Nat.le_of_ble_eq_true rfl⟩) hP hD hS hA rfl rfl (by decide) (by decide) (fun xx H locs hq hP hD hS => ?_)
  have hP : va_P D vwCl [ob h0 6 [.ref h0_cells, .ref s0, .ref h0_next, .ref h0_moved, .ref h0_holder, .ref h0_notes, .int h0_started], ai T h0_notes 3 f_h0_notes, ai T h0_cells 8 (cst 0), ai T h0_next 6 (cst 0), ai T h0_moved 6 (cst 0), ai T h0_holder 4 (cst 0)] H := hP
  have hD : va_D A [ob h0 6 [.ref h0_cells, .ref s0, .ref h0_next, .ref h0_moved, .ref h0_holder, .ref h0_notes, .int h0_started], ai T h0_notes 3 f_h0_notes, ai T h0_cells 8 (cst 0), ai T h0_next 6 (cst 0), ai T h0_moved 6 (cst 0), ai T h0_holder 4 (cst 0)] := hD
  refine lv_aload_n hx hb dX6_begin_37 rfl (lv_at hl 0 rfl) ?_
  refine va_get (D := D) (ci := 6) (v := .ref h0_notes) (C := RX6) (T := TX6) (N := 7) hx hb hg inX6 hown hK hP 0 rfl rfl 5 (by decide) (hg _ kf_X6_24) (fun _ h9 => h9) rfl dX6_begin_38 ?_
  refine lv_iconst (v := 0) hx hb dX6_begin_41 (by decide) ?_
  refine cont_v (Wr := [ob h0 6 [.ref h0_cells, .ref s0, .ref h0_next, .ref h0_moved, .ref h0_holder, .ref h0_notes, .int h0_started], ai T h0_cells 8 (cst 0), ai T h0_next 6 (cst 0), ai T h0_moved 6 (cst 0), ai T h0_holder 4 (cst 0)]) [1] [0, 2, 3, 4, 5] (run_S (n := 2) (As := [.ref h0_notes, .int 0]) (rest := []) hx hb hml hown hg hN (c_fill l D T h0_notes 3 f_h0_notes 0 (by decide)  H.size) km_X6_31 kt_J7_fill_53178 kz_J7 kd_J7_fill_53178 rfl rfl (by decide +kernel) ⟨Nat.le_of_ble_eq_true rfl, Nat.le_of_ble_eq_true rfl⟩ hK (P_sub hP [1] rfl) (hD.sub [1] (by decide) rfl) rfl hl.1 rfl (Nat.le_of_ble_eq_true rfl) dX6_begin_42 ⟨Nat.le_of_ble_eq_true rfl, Nat.le_of_ble_eq_true rfl⟩) hP hD hS hA rfl rfl (by decide) (by decide) (fun xx H locs hq hP hD hS => ?_)
  have hP : va_P D vwCl [ob h0 6 [.ref h0_cells, .ref s0, .ref h0_next, .ref h0_moved, .ref h0_holder, .ref h0_notes, .int h0_started], ai T h0_cells 8 (cst 0), ai T h0_next 6 (cst 0), ai T h0_moved 6 (cst 0), ai T h0_holder 4 (cst 0), ai T h0_notes 3 (cst 0)] H := hP
  have hD : va_D A [ob h0 6 [.ref h0_cells, .ref s0, .ref h0_next, .ref h0_moved, .ref h0_holder, .ref h0_notes, .int h0_started], ai T h0_cells 8 (cst 0), ai T h0_next 6 (cst 0), ai T h0_moved 6 (cst 0), ai T h0_holder 4 (cst 0), ai T h0_notes 3 (cst 0)] := hD
  refine lv_aload_n hx hb dX6_begin_45 rfl (lv_at hl 0 rfl) ?_
  refine lv_iconst (v := 1) hx hb dX6_begin_46 (by decide) ?_
  refine va_put (D := D) (ci := 6) (v := .int 1) (ty := .int) (C := RX6) (T := TX6) (N := 7) hx hb hg inX6 tyX6 tyX6_ok nmX6 hown hK hP hD hS 0 rfl rfl 6 (by decide) (hg _ kf_X6_37) (fun _ h9 => h9) rfl (by decide +kernel) rfl rfl (Nat.le_of_ble_eq_true rfl) dX6_begin_47 (fun H locs hP hD hS => ?_)
  have hP : va_P D vwCl [ob h0 6 [.ref h0_cells, .ref s0, .ref h0_next, .ref h0_moved, .ref h0_holder, .ref h0_notes, .int 1], ai T h0_cells 8 (cst 0), ai T h0_next 6 (cst 0), ai T h0_moved 6 (cst 0), ai T h0_holder 4 (cst 0), ai T h0_notes 3 (cst 0)] H := hP
  have hD : va_D A [ob h0 6 [.ref h0_cells, .ref s0, .ref h0_next, .ref h0_moved, .ref h0_holder, .ref h0_notes, .int 1], ai T h0_cells 8 (cst 0), ai T h0_next 6 (cst 0), ai T h0_moved 6 (cst 0), ai T h0_holder 4 (cst 0), ai T h0_notes 3 (cst 0)] := hD
  exact ret_v (X := Unit) (()) hx hb hr hlocks hP hD hS [0, 1, 2, 3, 4, 5] (by decide) rfl trivial dX6_begin_50
theorem dX6_isStarted_0 : decode cX6_isStarted 0 = .ok (.aload_n 0, 1) := by decide +kernel
theorem dX6_isStarted_1 : decode cX6_isStarted 1 = .ok (.getfield 37, 3) := by decide +kernel
theorem dX6_isStarted_4 : decode cX6_isStarted 4 = .ok (.iload_n 1, 1) := by decide +kernel
theorem dX6_isStarted_5 : decode cX6_isStarted 5 = .ok (.ishr, 1) := by decide +kernel
theorem dX6_isStarted_6 : decode cX6_isStarted 6 = .ok (.iconst 1, 1) := by decide +kernel
theorem dX6_isStarted_7 : decode cX6_isStarted 7 = .ok (.iand, 1) := by decide +kernel
theorem dX6_isStarted_8 : decode cX6_isStarted 8 = .ok (.ifCond .eq 7, 3) := by decide +kernel
theorem dX6_isStarted_11 : decode cX6_isStarted 11 = .ok (.iconst 1, 1) := by decide +kernel
theorem dX6_isStarted_12 : decode cX6_isStarted 12 = .ok (.goto 4, 3) := by decide +kernel
theorem dX6_isStarted_15 : decode cX6_isStarted 15 = .ok (.iconst 0, 1) := by decide +kernel
theorem dX6_isStarted_16 : decode cX6_isStarted 16 = .ok (.ireturn, 1) := by decide +kernel
set_option maxHeartbeats 4000000 in
set_option maxRecDepth 100000 in
theorem c_X6_isStarted (l : Launch) (D : va_G) (T : Nat → ClassId) (h0 : Nat) (h0_cells : Nat) (h0_script : Nat) (h0_next : Nat) (h0_moved : Nat) (h0_holder : Nat) (h0_notes : Nat) (h0_started : Int32) (h : Int32) (sz : Nat) : Met l yX6_isStarted (WS (.code yX6_isStarted cX6_isStarted 2 (some .boolean))) ({ frames := 2, cells := 0, slots := 0, locals := 64 } : Room) (va_Pc [.ref h0, .int h] (PW D (TY T) [ob h0 6 [.ref h0_cells, .ref h0_script, .ref h0_next, .ref h0_moved, .ref h0_holder, .ref h0_notes, .int h0_started]] sz)) (QI (X := Unit) D (fun rr xx => True) (fun _ => [ob h0 6 [.ref h0_cells, .ref h0_script, .ref h0_next, .ref h0_moved, .ref h0_holder, .ref h0_notes, .int h0_started]]) (va_A [ob h0 6 [.ref h0_cells, .ref h0_script, .ref h0_next, .ref h0_moved, .ref h0_holder, .ref h0_notes, .int h0_started]] sz)) 0 0 (va_A [ob h0 6 [.ref h0_cells, .ref h0_script, .ref h0_next, .ref h0_moved, .ref h0_holder, .ref h0_notes, .int h0_started]] sz) := by
  refine mk_met (Qc := QI (X := Unit) D (fun rr xx => True) (fun _ => [ob h0 6 [.ref h0_cells, .ref h0_script, .ref h0_next, .ref h0_moved, .ref h0_holder, .ref h0_notes, .int h0_started]])) (lv := [(0, .ref h0), (1, .int h)]) (by decide +kernel) (Nat.le_of_ble_eq_true rfl) rfl (fun p e s m below meth c A ls H locs hx hb hml hr hlocks hown hin hg hN hA hP hK hD hS hl => ?_)
  refine lv_aload_n hx hb dX6_isStarted_0 rfl (lv_at hl 0 rfl) ?_
  refine va_get (D := D) (ci := 6) (v := .int h0_started) (C := RX6) (T := TX6) (N := 7) hx hb hg inX6 hown hK hP 0 rfl rfl 6 (by decide) (hg _ kf_X6_37) (fun _ h9 => h9) rfl dX6_isStarted_1 ?_
  refine lv_iload_n hx hb dX6_isStarted_4 rfl (lv_at hl 1 rfl) ?_
  refine lv_ishr hx hb dX6_isStarted_5 ?_
  refine lv_iconst (v := 1) hx hb dX6_isStarted_6 (by decide) ?_
  refine lv_iand hx hb dX6_isStarted_7 ?_
  refine lv_if_eq (tgt := 15) hx hb dX6_isStarted_8 (by decide) (fun hs1 => ?_) (fun hs1 => ?_)
  · skip
    refine lv_iconst (v := 0) hx hb dX6_isStarted_15 (by decide) ?_
    exact ret_i (X := Unit) (()) hx hb hr hlocks hP hD hS [0] (by decide) rfl trivial rfl dX6_isStarted_16
  · skip
    refine lv_iconst (v := 1) hx hb dX6_isStarted_11 (by decide) ?_
    refine lv_goto (tgt := 16) hx hb dX6_isStarted_12 (by decide) ?_
    exact ret_i (X := Unit) (()) hx hb hr hlocks hP hD hS [0] (by decide) rfl trivial rfl dX6_isStarted_16
theorem dX6_hasCode_0 : decode cX6_hasCode 0 = .ok (.aload_n 0, 1) := by decide +kernel
theorem dX6_hasCode_1 : decode cX6_hasCode 1 = .ok (.getfield 27, 3) := by decide +kernel
theorem dX6_hasCode_4 : decode cX6_hasCode 4 = .ok (.ifnull 45, 3) := by decide +kernel
theorem dX6_hasCode_7 : decode cX6_hasCode 7 = .ok (.aload_n 0, 1) := by decide +kernel
theorem dX6_hasCode_8 : decode cX6_hasCode 8 = .ok (.getfield 15, 3) := by decide +kernel
theorem dX6_hasCode_11 : decode cX6_hasCode 11 = .ok (.iload_n 1, 1) := by decide +kernel
theorem dX6_hasCode_12 : decode cX6_hasCode 12 = .ok (.iaload, 1) := by decide +kernel
theorem dX6_hasCode_13 : decode cX6_hasCode 13 = .ok (.ifCond .lt 36, 3) := by decide +kernel
theorem dX6_hasCode_16 : decode cX6_hasCode 16 = .ok (.aload_n 0, 1) := by decide +kernel
theorem dX6_hasCode_17 : decode cX6_hasCode 17 = .ok (.getfield 15, 3) := by decide +kernel
theorem dX6_hasCode_20 : decode cX6_hasCode 20 = .ok (.iload_n 1, 1) := by decide +kernel
theorem dX6_hasCode_21 : decode cX6_hasCode 21 = .ok (.iaload, 1) := by decide +kernel
theorem dX6_hasCode_22 : decode cX6_hasCode 22 = .ok (.bipush 60, 2) := by decide +kernel
theorem dX6_hasCode_24 : decode cX6_hasCode 24 = .ok (.if_icmp .ge 25, 3) := by decide +kernel
theorem dX6_hasCode_27 : decode cX6_hasCode 27 = .ok (.aload_n 0, 1) := by decide +kernel
theorem dX6_hasCode_28 : decode cX6_hasCode 28 = .ok (.getfield 15, 3) := by decide +kernel
theorem dX6_hasCode_31 : decode cX6_hasCode 31 = .ok (.iload_n 1, 1) := by decide +kernel
theorem dX6_hasCode_32 : decode cX6_hasCode 32 = .ok (.iaload, 1) := by decide +kernel
theorem dX6_hasCode_33 : decode cX6_hasCode 33 = .ok (.aload_n 0, 1) := by decide +kernel
theorem dX6_hasCode_34 : decode cX6_hasCode 34 = .ok (.getfield 27, 3) := by decide +kernel
theorem dX6_hasCode_37 : decode cX6_hasCode 37 = .ok (.getfield 41, 3) := by decide +kernel
theorem dX6_hasCode_40 : decode cX6_hasCode 40 = .ok (.iload_n 1, 1) := by decide +kernel
theorem dX6_hasCode_41 : decode cX6_hasCode 41 = .ok (.iaload, 1) := by decide +kernel
theorem dX6_hasCode_42 : decode cX6_hasCode 42 = .ok (.if_icmp .ge 7, 3) := by decide +kernel
theorem dX6_hasCode_49 : decode cX6_hasCode 49 = .ok (.iconst 0, 1) := by decide +kernel
theorem dX6_hasCode_50 : decode cX6_hasCode 50 = .ok (.ireturn, 1) := by decide +kernel
set_option maxHeartbeats 4000000 in
set_option maxRecDepth 100000 in
theorem c_X6_hasCode (l : Launch) (D : va_G) (T : Nat → ClassId) (h0 : Nat) (h0_cells : Nat) (h0_next : Nat) (h0_moved : Nat) (h0_holder : Nat) (h0_notes : Nat) (h0_started : Int32) (s0 : Nat) (f_h0_next : Nat → Int32) (s0_sort : Nat) (s0_arg : Nat) (s0_number : Nat) (s0_kind : Nat) (s0_skip : Nat) (s0_place : Nat) (s0_count : Nat) (s0_told : Int32) (h : Int32) (h1 : 0 ≤ h) (h2 : h ≤ 5) (sz : Nat) : Met l yX6_hasCode (WS (.code yX6_hasCode cX6_hasCode 2 (some .boolean))) ({ frames := 2, cells := 0, slots := 0, locals := 64 } : Room) (va_Pc [.ref h0, .int h] (PW D (TY T) [ob h0 6 [.ref h0_cells, .ref s0, .ref h0_next, .ref h0_moved, .ref h0_holder, .ref h0_notes, .int h0_started], ai T h0_next 6 f_h0_next, ob s0 9 [.ref s0_sort, .ref s0_arg, .ref s0_number, .ref s0_kind, .ref s0_skip, .ref s0_place, .ref s0_count, .int s0_told], ai T s0_count 6 (cst 0)] sz)) (QI (X := Unit) D (fun rr xx => rr = 0) (fun _ => [ob h0 6 [.ref h0_cells, .ref s0, .ref h0_next, .ref h0_moved, .ref h0_holder, .ref h0_notes, .int h0_started], ai T h0_next 6 f_h0_next, ob s0 9 [.ref s0_sort, .ref s0_arg, .ref s0_number, .ref s0_kind, .ref s0_skip, .ref s0_place, .ref s0_count, .int s0_told], ai T s0_count 6 (cst 0)]) (va_A [ob h0 6 [.ref h0_cells, .ref s0, .ref h0_next, .ref h0_moved, .ref h0_holder, .ref h0_notes, .int h0_started], ai T h0_next 6 f_h0_next, ob s0 9 [.ref s0_sort, .ref s0_arg, .ref s0_number, .ref s0_kind, .ref s0_skip, .ref s0_place, .ref s0_count, .int s0_told], ai T s0_count 6 (cst 0)] sz)) 0 0 (va_A [ob h0 6 [.ref h0_cells, .ref s0, .ref h0_next, .ref h0_moved, .ref h0_holder, .ref h0_notes, .int h0_started], ai T h0_next 6 f_h0_next, ob s0 9 [.ref s0_sort, .ref s0_arg, .ref s0_number, .ref s0_kind, .ref s0_skip, .ref s0_place, .ref s0_count, .int s0_told], ai T s0_count 6 (cst 0)] sz) := by
  refine mk_met (Qc := QI (X := Unit) D (fun rr xx => rr = 0) (fun _ => [ob h0 6 [.ref h0_cells, .ref s0, .ref h0_next, .ref h0_moved, .ref h0_holder, .ref h0_notes, .int h0_started], ai T h0_next 6 f_h0_next, ob s0 9 [.ref s0_sort, .ref s0_arg, .ref s0_number, .ref s0_kind, .ref s0_skip, .ref s0_place, .ref s0_count, .int s0_told], ai T s0_count 6 (cst 0)])) (lv := [(0, .ref h0), (1, .int h)]) (by decide +kernel) (Nat.le_of_ble_eq_true rfl) rfl (fun p e s m below meth c A ls H locs hx hb hml hr hlocks hown hin hg hN hA hP hK hD hS hl => ?_)
  refine lv_aload_n hx hb dX6_hasCode_0 rfl (lv_at hl 0 rfl) ?_
  refine va_get (D := D) (ci := 6) (v := .ref s0) (C := RX6) (T := TX6) (N := 7) hx hb hg inX6 hown hK hP 0 rfl rfl 1 (by decide) (hg _ kf_X6_27) (fun _ h9 => h9) rfl dX6_hasCode_1 ?_
  refine lv_ifnull hx hb dX6_hasCode_4 ?_
  refine lv_aload_n hx hb dX6_hasCode_7 rfl (lv_at hl 0 rfl) ?_
  refine va_get (D := D) (ci := 6) (v := .ref h0_next) (C := RX6) (T := TX6) (N := 7) hx hb hg inX6 hown hK hP 0 rfl rfl 2 (by decide) (hg _ kf_X6_15) (fun _ h9 => h9) rfl dX6_hasCode_8 ?_
  refine lv_iload_n hx hb dX6_hasCode_11 rfl (lv_at hl 1 rfl) ?_
  refine z_iald (v := (f_h0_next (h.toNatClampNeg))) (j := h.toNatClampNeg) hx hb hK hP 1 0 rfl rfl (by simp only [fa_lt, fa_le, fa_eq, fa_le64, fa_lt64, w64, vp_in_iff, k32_0, k64_0, k32_1, k64_1, k32_2, k64_2, k32_3, k64_3, k32_4, k64_4, k32_5, k64_5, k32_6, k64_6, k32_7, k64_7, k32_8, k64_8, k32_9, k64_9, k32_10, k64_10, k32_15, k64_15, k32_40, k64_40, k32_60, k64_60, k32_100, k64_100, k32_120, k64_120, k32_127, k64_127, k32_880, k64_880, k32_900, k64_900, k32_m1, k64_m1, k32_64, k64_64, k32_180, k64_180, ne_eq] at h1 h2 ⊢; omega) rfl rfl dX6_hasCode_12 ?_
  refine lv_if_lt (tgt := 49) hx hb dX6_hasCode_13 (by decide) (fun hs1 => ?_) (fun hs1 => ?_)
  · skip
    refine lv_iconst (v := 0) hx hb dX6_hasCode_49 (by decide) ?_
    exact ret_i (X := Unit) (()) hx hb hr hlocks hP hD hS [0, 1, 2, 3] (by decide) rfl rfl rfl dX6_hasCode_50
  · skip
    refine lv_aload_n hx hb dX6_hasCode_16 rfl (lv_at hl 0 rfl) ?_
    refine va_get (D := D) (ci := 6) (v := .ref h0_next) (C := RX6) (T := TX6) (N := 7) hx hb hg inX6 hown hK hP 0 rfl rfl 2 (by decide) (hg _ kf_X6_15) (fun _ h9 => h9) rfl dX6_hasCode_17 ?_
    refine lv_iload_n hx hb dX6_hasCode_20 rfl (lv_at hl 1 rfl) ?_
    refine z_iald (v := (f_h0_next (h.toNatClampNeg))) (j := h.toNatClampNeg) hx hb hK hP 1 0 rfl rfl (by simp only [fa_lt, fa_le, fa_eq, fa_le64, fa_lt64, w64, vp_in_iff, k32_0, k64_0, k32_1, k64_1, k32_2, k64_2, k32_3, k64_3, k32_4, k64_4, k32_5, k64_5, k32_6, k64_6, k32_7, k64_7, k32_8, k64_8, k32_9, k64_9, k32_10, k64_10, k32_15, k64_15, k32_40, k64_40, k32_60, k64_60, k32_100, k64_100, k32_120, k64_120, k32_127, k64_127, k32_880, k64_880, k32_900, k64_900, k32_m1, k64_m1, k32_64, k64_64, k32_180, k64_180, ne_eq] at h1 h2 ⊢; omega) rfl rfl dX6_hasCode_21 ?_
    refine lv_bipush (v := 60) hx hb dX6_hasCode_22 (by decide) ?_
    refine lv_icmp_ge (tgt := 49) hx hb dX6_hasCode_24 (by decide) (fun hs2 => ?_) (fun hs2 => ?_)
    · skip
      refine lv_iconst (v := 0) hx hb dX6_hasCode_49 (by decide) ?_
      exact ret_i (X := Unit) (()) hx hb hr hlocks hP hD hS [0, 1, 2, 3] (by decide) rfl rfl rfl dX6_hasCode_50
    · skip
      refine lv_aload_n hx hb dX6_hasCode_27 rfl (lv_at hl 0 rfl) ?_
      refine va_get (D := D) (ci := 6) (v := .ref h0_next) (C := RX6) (T := TX6) (N := 7) hx hb hg inX6 hown hK hP 0 rfl rfl 2 (by decide) (hg _ kf_X6_15) (fun _ h9 => h9) rfl dX6_hasCode_28 ?_
      refine lv_iload_n hx hb dX6_hasCode_31 rfl (lv_at hl 1 rfl) ?_
      refine z_iald (v := (f_h0_next (h.toNatClampNeg))) (j := h.toNatClampNeg) hx hb hK hP 1 0 rfl rfl (by simp only [fa_lt, fa_le, fa_eq, fa_le64, fa_lt64, w64, vp_in_iff, k32_0, k64_0, k32_1, k64_1, k32_2, k64_2, k32_3, k64_3, k32_4, k64_4, k32_5, k64_5, k32_6, k64_6, k32_7, k64_7, k32_8, k64_8, k32_9, k64_9, k32_10, k64_10, k32_15, k64_15, k32_40, k64_40, k32_60, k64_60, k32_100, k64_100, k32_120, k64_120, k32_127, k64_127, k32_880, k64_880, k32_900, k64_900, k32_m1, k64_m1, k32_64, k64_64, k32_180, k64_180, ne_eq] at h1 h2 ⊢; omega) rfl rfl dX6_hasCode_32 ?_
      refine lv_aload_n hx hb dX6_hasCode_33 rfl (lv_at hl 0 rfl) ?_
      refine va_get (D := D) (ci := 6) (v := .ref s0) (C := RX6) (T := TX6) (N := 7) hx hb hg inX6 hown hK hP 0 rfl rfl 1 (by decide) (hg _ kf_X6_27) (fun _ h9 => h9) rfl dX6_hasCode_34 ?_
      refine va_get (D := D) (ci := 9) (v := .ref s0_count) (C := RX9) (T := TX9) (N := 8) hx hb hg inX9 hown hK hP 2 rfl rfl 6 (by decide) (hg _ kf_X6_41) (fun _ h9 => h9) rfl dX6_hasCode_37 ?_
      refine lv_iload_n hx hb dX6_hasCode_40 rfl (lv_at hl 1 rfl) ?_
      refine z_iald (v := 0) (j := h.toNatClampNeg) hx hb hK hP 3 0 rfl rfl (by simp only [fa_lt, fa_le, fa_eq, fa_le64, fa_lt64, w64, vp_in_iff, k32_0, k64_0, k32_1, k64_1, k32_2, k64_2, k32_3, k64_3, k32_4, k64_4, k32_5, k64_5, k32_6, k64_6, k32_7, k64_7, k32_8, k64_8, k32_9, k64_9, k32_10, k64_10, k32_15, k64_15, k32_40, k64_40, k32_60, k64_60, k32_100, k64_100, k32_120, k64_120, k32_127, k64_127, k32_880, k64_880, k32_900, k64_900, k32_m1, k64_m1, k32_64, k64_64, k32_180, k64_180, ne_eq] at h1 h2 ⊢; omega) rfl (by first | rfl | decide | (simp [upd, cst]; done)) dX6_hasCode_41 ?_
      refine lv_icmp_ge (tgt := 49) hx hb dX6_hasCode_42 (by decide) (fun _ => ?_) (fun hc => absurd (Int32.not_lt.mp hs1) hc)
      refine lv_iconst (v := 0) hx hb dX6_hasCode_49 (by decide) ?_
      exact ret_i (X := Unit) (()) hx hb hr hlocks hP hD hS [0, 1, 2, 3] (by decide) rfl rfl rfl dX6_hasCode_50
theorem dX6_can_0 : decode cX6_can 0 = .ok (.iload_n 1, 1) := by decide +kernel
theorem dX6_can_1 : decode cX6_can 1 = .ok (.ifCond .lt 25, 3) := by decide +kernel
theorem dX6_can_4 : decode cX6_can 4 = .ok (.iload_n 1, 1) := by decide +kernel
theorem dX6_can_5 : decode cX6_can 5 = .ok (.bipush 6, 2) := by decide +kernel
theorem dX6_can_7 : decode cX6_can 7 = .ok (.if_icmp .ge 19, 3) := by decide +kernel
theorem dX6_can_10 : decode cX6_can 10 = .ok (.aload_n 0, 1) := by decide +kernel
theorem dX6_can_11 : decode cX6_can 11 = .ok (.iload_n 1, 1) := by decide +kernel
theorem dX6_can_12 : decode cX6_can 12 = .ok (.invokevirtual 46, 3) := by decide +kernel
theorem dX6_can_15 : decode cX6_can 15 = .ok (.ifCond .eq 11, 3) := by decide +kernel
theorem dX6_can_18 : decode cX6_can 18 = .ok (.aload_n 0, 1) := by decide +kernel
theorem dX6_can_19 : decode cX6_can 19 = .ok (.iload_n 1, 1) := by decide +kernel
theorem dX6_can_20 : decode cX6_can 20 = .ok (.invokevirtual 50, 3) := by decide +kernel
theorem dX6_can_23 : decode cX6_can 23 = .ok (.ifCond .ne 5, 3) := by decide +kernel
theorem dX6_can_26 : decode cX6_can 26 = .ok (.iconst 0, 1) := by decide +kernel
theorem dX6_can_27 : decode cX6_can 27 = .ok (.ireturn, 1) := by decide +kernel
set_option maxHeartbeats 4000000 in
set_option maxRecDepth 100000 in
theorem c_X6_can (l : Launch) (D : va_G) (T : Nat → ClassId) (h0 : Nat) (h0_cells : Nat) (h0_next : Nat) (h0_moved : Nat) (h0_holder : Nat) (h0_notes : Nat) (h0_started : Int32) (s0 : Nat) (f_h0_next : Nat → Int32) (s0_sort : Nat) (s0_arg : Nat) (s0_number : Nat) (s0_kind : Nat) (s0_skip : Nat) (s0_place : Nat) (s0_count : Nat) (s0_told : Int32) (h : Int32) (h1 : 0 ≤ h) (h2 : h ≤ 5) (sz : Nat) : Met l yX6_can (WS (.code yX6_can cX6_can 4 (some .boolean))) ({ frames := 4, cells := 0, slots := 0, locals := 128 } : Room) (va_Pc [.ref h0, .int h] (PW D (TY T) [ob h0 6 [.ref h0_cells, .ref s0, .ref h0_next, .ref h0_moved, .ref h0_holder, .ref h0_notes, .int h0_started], ai T h0_next 6 f_h0_next, ob s0 9 [.ref s0_sort, .ref s0_arg, .ref s0_number, .ref s0_kind, .ref s0_skip, .ref s0_place, .ref s0_count, .int s0_told], ai T s0_count 6 (cst 0)] sz)) (QI (X := Unit) D (fun rr xx => rr = 0) (fun _ => [ob h0 6 [.ref h0_cells, .ref s0, .ref h0_next, .ref h0_moved, .ref h0_holder, .ref h0_notes, .int h0_started], ai T h0_next 6 f_h0_next, ob s0 9 [.ref s0_sort, .ref s0_arg, .ref s0_number, .ref s0_kind, .ref s0_skip, .ref s0_place, .ref s0_count, .int s0_told], ai T s0_count 6 (cst 0)]) (va_A [ob h0 6 [.ref h0_cells, .ref s0, .ref h0_next, .ref h0_moved, .ref h0_holder, .ref h0_notes, .int h0_started], ai T h0_next 6 f_h0_next, ob s0 9 [.ref s0_sort, .ref s0_arg, .ref s0_number, .ref s0_kind, .ref s0_skip, .ref s0_place, .ref s0_count, .int s0_told], ai T s0_count 6 (cst 0)] sz)) 0 0 (va_A [ob h0 6 [.ref h0_cells, .ref s0, .ref h0_next, .ref h0_moved, .ref h0_holder, .ref h0_notes, .int h0_started], ai T h0_next 6 f_h0_next, ob s0 9 [.ref s0_sort, .ref s0_arg, .ref s0_number, .ref s0_kind, .ref s0_skip, .ref s0_place, .ref s0_count, .int s0_told], ai T s0_count 6 (cst 0)] sz) := by
  refine mk_met (Qc := QI (X := Unit) D (fun rr xx => rr = 0) (fun _ => [ob h0 6 [.ref h0_cells, .ref s0, .ref h0_next, .ref h0_moved, .ref h0_holder, .ref h0_notes, .int h0_started], ai T h0_next 6 f_h0_next, ob s0 9 [.ref s0_sort, .ref s0_arg, .ref s0_number, .ref s0_kind, .ref s0_skip, .ref s0_place, .ref s0_count, .int s0_told], ai T s0_count 6 (cst 0)])) (lv := [(0, .ref h0), (1, .int h)]) (by decide +kernel) (Nat.le_of_ble_eq_true rfl) rfl (fun p e s m below meth c A ls H locs hx hb hml hr hlocks hown hin hg hN hA hP hK hD hS hl => ?_)
  refine lv_iload_n hx hb dX6_can_0 rfl (lv_at hl 1 rfl) ?_
  refine lv_if_lt (tgt := 26) hx hb dX6_can_1 (by decide) (fun hc => absurd hc (by simp only [fa_lt, fa_le, fa_eq, fa_le64, fa_lt64, w64, vp_in_iff, k32_0, k64_0, k32_1, k64_1, k32_2, k64_2, k32_3, k64_3, k32_4, k64_4, k32_5, k64_5, k32_6, k64_6, k32_7, k64_7, k32_8, k64_8, k32_9, k64_9, k32_10, k64_10, k32_15, k64_15, k32_40, k64_40, k32_60, k64_60, k32_100, k64_100, k32_120, k64_120, k32_127, k64_127, k32_880, k64_880, k32_900, k64_900, k32_m1, k64_m1, k32_64, k64_64, k32_180, k64_180, ne_eq] at h1 h2 ⊢; omega)) (fun _ => ?_)
  refine lv_iload_n hx hb dX6_can_4 rfl (lv_at hl 1 rfl) ?_
  refine lv_bipush (v := 6) hx hb dX6_can_5 (by decide) ?_
  refine lv_icmp_ge (tgt := 26) hx hb dX6_can_7 (by decide) (fun hc => absurd hc (by simp only [fa_lt, fa_le, fa_eq, fa_le64, fa_lt64, w64, vp_in_iff, k32_0, k64_0, k32_1, k64_1, k32_2, k64_2, k32_3, k64_3, k32_4, k64_4, k32_5, k64_5, k32_6, k64_6, k32_7, k64_7, k32_8, k64_8, k32_9, k64_9, k32_10, k64_10, k32_15, k64_15, k32_40, k64_40, k32_60, k64_60, k32_100, k64_100, k32_120, k64_120, k32_127, k64_127, k32_880, k64_880, k32_900, k64_900, k32_m1, k64_m1, k32_64, k64_64, k32_180, k64_180, ne_eq] at h1 h2 ⊢; omega)) (fun _ => ?_)
  refine lv_aload_n hx hb dX6_can_10 rfl (lv_at hl 0 rfl) ?_
  refine lv_iload_n hx hb dX6_can_11 rfl (lv_at hl 1 rfl) ?_
  refine cont_i (Wr := [ai T h0_next 6 f_h0_next, ob s0 9 [.ref s0_sort, .ref s0_arg, .ref s0_number, .ref s0_kind, .ref s0_skip, .ref s0_place, .ref s0_count, .int s0_told], ai T s0_count 6 (cst 0)]) [0] [1, 2, 3] (run_V (n := 1) (As := [.int h]) (rest := []) 6 0 hx hb hml hown hg hN (c_X6_isStarted l D T h0 h0_cells s0 h0_next h0_moved h0_holder h0_notes h0_started h  H.size) km_X6_46 ki_X6_isStarted ks_X6_isStarted kz_X6 kd_X6_isStarted rfl rfl (by decide +kernel) ⟨Nat.le_of_ble_eq_true rfl, Nat.le_of_ble_eq_true rfl⟩ hK (P_sub hP [0] rfl) (hD.sub [0] (by decide) rfl) rfl rfl rfl hl.1 rfl (Nat.le_of_ble_eq_true rfl) dX6_can_12 ⟨Nat.le_of_ble_eq_true rfl, Nat.le_of_ble_eq_true rfl⟩) hP hD hS hA rfl rfl (by decide) (by decide) (fun rr xx H locs hq hP hD hS => ?_)
  obtain ⟨r1, er⟩ : ∃ z, z = rr := ⟨_, rfl⟩
  rw [← er]
  have hP : va_P D vwCl [ai T h0_next 6 f_h0_next, ob s0 9 [.ref s0_sort, .ref s0_arg, .ref s0_number, .ref s0_kind, .ref s0_skip, .ref s0_place, .ref s0_count, .int s0_told], ai T s0_count 6 (cst 0), ob h0 6 [.ref h0_cells, .ref s0, .ref h0_next, .ref h0_moved, .ref h0_holder, .ref h0_notes, .int h0_started]] H := hP
  have hD : va_D A [ai T h0_next 6 f_h0_next, ob s0 9 [.ref s0_sort, .ref s0_arg, .ref s0_number, .ref s0_kind, .ref s0_skip, .ref s0_place, .ref s0_count, .int s0_told], ai T s0_count 6 (cst 0), ob h0 6 [.ref h0_cells, .ref s0, .ref h0_next, .ref h0_moved, .ref h0_holder, .ref h0_notes, .int h0_started]] := hD
  refine lv_if_eq (tgt := 26) hx hb dX6_can_15 (by decide) (fun hs2 => ?_) (fun hs2 => ?_)
  · skip
    refine lv_iconst (v := 0) hx hb dX6_can_26 (by decide) ?_
    exact ret_i (X := Unit) (()) hx hb hr hlocks hP hD hS [3, 0, 1, 2] (by decide) rfl rfl rfl dX6_can_27
  · skip
    refine lv_aload_n hx hb dX6_can_18 rfl (lv_at hl 0 rfl) ?_
    refine lv_iload_n hx hb dX6_can_19 rfl (lv_at hl 1 rfl) ?_
    refine cont_i (Wr := []) [3, 0, 1, 2] [] (run_V (n := 1) (As := [.int h]) (rest := []) 6 0 hx hb hml hown hg hN (c_X6_hasCode l D T h0 h0_cells h0_next h0_moved h0_holder h0_notes h0_started s0 f_h0_next s0_sort s0_arg s0_number s0_kind s0_skip s0_place s0_count s0_told h h1 h2  H.size) km_X6_50 ki_X6_hasCode ks_X6_hasCode kz_X6 kd_X6_hasCode rfl rfl (by decide +kernel) ⟨Nat.le_of_ble_eq_true rfl, Nat.le_of_ble_eq_true rfl⟩ hK (P_sub hP [3, 0, 1, 2] rfl) (hD.sub [3, 0, 1, 2] (by decide) rfl) rfl rfl rfl hl.1 rfl (Nat.le_of_ble_eq_true rfl) dX6_can_20 ⟨Nat.le_of_ble_eq_true rfl, Nat.le_of_ble_eq_true rfl⟩) hP hD hS hA rfl rfl (by decide) (by decide) (fun rr xx H locs hq hP hD hS => ?_)
    obtain rfl : rr = 0 := hq
    have hP : va_P D vwCl [ob h0 6 [.ref h0_cells, .ref s0, .ref h0_next, .ref h0_moved, .ref h0_holder, .ref h0_notes, .int h0_started], ai T h0_next 6 f_h0_next, ob s0 9 [.ref s0_sort, .ref s0_arg, .ref s0_number, .ref s0_kind, .ref s0_skip, .ref s0_place, .ref s0_count, .int s0_told], ai T s0_count 6 (cst 0)] H := hP
    have hD : va_D A [ob h0 6 [.ref h0_cells, .ref s0, .ref h0_next, .ref h0_moved, .ref h0_holder, .ref h0_notes, .int h0_started], ai T h0_next 6 f_h0_next, ob s0 9 [.ref s0_sort, .ref s0_arg, .ref s0_number, .ref s0_kind, .ref s0_skip, .ref s0_place, .ref s0_count, .int s0_told], ai T s0_count 6 (cst 0)] := hD
    refine lv_if_ne (tgt := 28) hx hb dX6_can_23 (by decide) (fun hc => absurd (by decide) hc) (fun _ => ?_)
    refine lv_iconst (v := 0) hx hb dX6_can_26 (by decide) ?_
    exact ret_i (X := Unit) (()) hx hb hr hlocks hP hD hS [0, 1, 2, 3] (by decide) rfl rfl rfl dX6_can_27
theorem dX6_leastThatCan_0 : decode cX6_leastThatCan 0 = .ok (.iconst 0, 1) := by decide +kernel
theorem dX6_leastThatCan_1 : decode cX6_leastThatCan 1 = .ok (.istore_n 1, 1) := by decide +kernel
theorem dX6_leastThatCan_2 : decode cX6_leastThatCan 2 = .ok (.iload_n 1, 1) := by decide +kernel
theorem dX6_leastThatCan_3 : decode cX6_leastThatCan 3 = .ok (.bipush 6, 2) := by decide +kernel
theorem dX6_leastThatCan_5 : decode cX6_leastThatCan 5 = .ok (.if_icmp .ge 19, 3) := by decide +kernel
theorem dX6_leastThatCan_8 : decode cX6_leastThatCan 8 = .ok (.aload_n 0, 1) := by decide +kernel
theorem dX6_leastThatCan_9 : decode cX6_leastThatCan 9 = .ok (.iload_n 1, 1) := by decide +kernel
theorem dX6_leastThatCan_10 : decode cX6_leastThatCan 10 = .ok (.invokevirtual 59, 3) := by decide +kernel
theorem dX6_leastThatCan_13 : decode cX6_leastThatCan 13 = .ok (.ifCond .eq 5, 3) := by decide +kernel
theorem dX6_leastThatCan_18 : decode cX6_leastThatCan 18 = .ok (.iinc 1 1, 3) := by decide +kernel
theorem dX6_leastThatCan_21 : decode cX6_leastThatCan 21 = .ok (.goto (-19), 3) := by decide +kernel
theorem dX6_leastThatCan_24 : decode cX6_leastThatCan 24 = .ok (.iconst (-1), 1) := by decide +kernel
theorem dX6_leastThatCan_25 : decode cX6_leastThatCan 25 = .ok (.ireturn, 1) := by decide +kernel
set_option maxHeartbeats 4000000 in
set_option maxRecDepth 100000 in
theorem c_X6_leastThatCan (l : Launch) (D : va_G) (T : Nat → ClassId) (h0 : Nat) (h0_cells : Nat) (h0_next : Nat) (h0_moved : Nat) (h0_holder : Nat) (h0_notes : Nat) (h0_started : Int32) (s0 : Nat) (f_h0_next : Nat → Int32) (s0_sort : Nat) (s0_arg : Nat) (s0_number : Nat) (s0_kind : Nat) (s0_skip : Nat) (s0_place : Nat) (s0_count : Nat) (s0_told : Int32) (sz : Nat) : Met l yX6_leastThatCan (WS (.code yX6_leastThatCan cX6_leastThatCan 2 (some .int))) ({ frames := 6, cells := 0, slots := 0, locals := 192 } : Room) (va_Pc [.ref h0] (PW D (TY T) [ob h0 6 [.ref h0_cells, .ref s0, .ref h0_next, .ref h0_moved, .ref h0_holder, .ref h0_notes, .int h0_started], ai T h0_next 6 f_h0_next, ob s0 9 [.ref s0_sort, .ref s0_arg, .ref s0_number, .ref s0_kind, .ref s0_skip, .ref s0_place, .ref s0_count, .int s0_told], ai T s0_count 6 (cst 0)] sz)) (QI (X := Unit) D (fun rr xx => rr = (-1)) (fun _ => [ob h0 6 [.ref h0_cells, .ref s0, .ref h0_next, .ref h0_moved, .ref h0_holder, .ref h0_notes, .int h0_started], ai T h0_next 6 f_h0_next, ob s0 9 [.ref s0_sort, .ref s0_arg, .ref s0_number, .ref s0_kind, .ref s0_skip, .ref s0_place, .ref s0_count, .int s0_told], ai T s0_count 6 (cst 0)]) (va_A [ob h0 6 [.ref h0_cells, .ref s0, .ref h0_next, .ref h0_moved, .ref h0_holder, .ref h0_notes, .int h0_started], ai T h0_next 6 f_h0_next, ob s0 9 [.ref s0_sort, .ref s0_arg, .ref s0_number, .ref s0_kind, .ref s0_skip, .ref s0_place, .ref s0_count, .int s0_told], ai T s0_count 6 (cst 0)] sz)) 0 0 (va_A [ob h0 6 [.ref h0_cells, .ref s0, .ref h0_next, .ref h0_moved, .ref h0_holder, .ref h0_notes, .int h0_started], ai T h0_next 6 f_h0_next, ob s0 9 [.ref s0_sort, .ref s0_arg, .ref s0_number, .ref s0_kind, .ref s0_skip, .ref s0_place, .ref s0_count, .int s0_told], ai T s0_count 6 (cst 0)] sz) := by
  refine mk_met (Qc := QI (X := Unit) D (fun rr xx => rr = (-1)) (fun _ => [ob h0 6 [.ref h0_cells, .ref s0, .ref h0_next, .ref h0_moved, .ref h0_holder, .ref h0_notes, .int h0_started], ai T h0_next 6 f_h0_next, ob s0 9 [.ref s0_sort, .ref s0_arg, .ref s0_number, .ref s0_kind, .ref s0_skip, .ref s0_place, .ref s0_count, .int s0_told], ai T s0_count 6 (cst 0)])) (lv := [(0, .ref h0)]) (by decide +kernel) (Nat.le_of_ble_eq_true rfl) rfl (fun p e s m below meth c A ls H locs hx hb hml hr hlocks hown hin hg hN hA hP hK hD hS hl => ?_)
  refine lv_iconst (v := 0) hx hb dX6_leastThatCan_0 (by decide) ?_
  refine lv_istore_n (lv' := [(1, .int 0), (0, .ref h0)]) hx hb dX6_leastThatCan_1 rfl hl (by decide) rfl (fun ls hl => ?_)
  refine loopW (σ := Unit) (Wf := fun H locs ls => W p l e ({ frames := 6, cells := 0, slots := 0, locals := 192 } : Room) s m ([.ref h0] : List Value).toArray below meth c H locs 0 0 (MQ below ((QI (X := Unit) D (fun rr xx => rr = (-1)) (fun _ => [ob h0 6 [.ref h0_cells, .ref s0, .ref h0_next, .ref h0_moved, .ref h0_holder, .ref h0_notes, .int h0_started], ai T h0_next 6 f_h0_next, ob s0 9 [.ref s0_sort, .ref s0_arg, .ref s0_number, .ref s0_kind, .ref s0_skip, .ref s0_place, .ref s0_count, .int s0_told], ai T s0_count 6 (cst 0)])) A) ([.ref h0] : List Value).toArray s 0 0 A) (F0 m 2 ls [])) H locs ls (6) (fun ii xx H locs ls => va_P D vwCl [ob h0 6 [.ref h0_cells, .ref s0, .ref h0_next, .ref h0_moved, .ref h0_holder, .ref h0_notes, .int h0_started], ai T h0_next 6 f_h0_next, ob s0 9 [.ref s0_sort, .ref s0_arg, .ref s0_number, .ref s0_kind, .ref s0_skip, .ref s0_place, .ref s0_count, .int s0_told], ai T s0_count 6 (cst 0)] H ∧ va_D A [ob h0 6 [.ref h0_cells, .ref s0, .ref h0_next, .ref h0_moved, .ref h0_holder, .ref h0_notes, .int h0_started], ai T h0_next 6 f_h0_next, ob s0 9 [.ref s0_sort, .ref s0_arg, .ref s0_number, .ref s0_kind, .ref s0_skip, .ref s0_place, .ref s0_count, .int s0_told], ai T s0_count 6 (cst 0)] ∧ va_S A s.heap H locs ∧ lv_has ls 2 [(1, .int (nI ii)), (0, .ref h0)]) ?_ ?_ (()) ⟨hP, hD, hS, lv_sub hl [0, 1] rfl⟩
  · intro xx H locs ls hI
    obtain ⟨hP, hD, hS, hl⟩ := hI
    have hP : va_P D vwCl [ob h0 6 [.ref h0_cells, .ref s0, .ref h0_next, .ref h0_moved, .ref h0_holder, .ref h0_notes, .int h0_started], ai T h0_next 6 f_h0_next, ob s0 9 [.ref s0_sort, .ref s0_arg, .ref s0_number, .ref s0_kind, .ref s0_skip, .ref s0_place, .ref s0_count, .int s0_told], ai T s0_count 6 (cst 0)] H := hP
    have hD : va_D A [ob h0 6 [.ref h0_cells, .ref s0, .ref h0_next, .ref h0_moved, .ref h0_holder, .ref h0_notes, .int h0_started], ai T h0_next 6 f_h0_next, ob s0 9 [.ref s0_sort, .ref s0_arg, .ref s0_number, .ref s0_kind, .ref s0_skip, .ref s0_place, .ref s0_count, .int s0_told], ai T s0_count 6 (cst 0)] := hD
    have hl : lv_has ls 2 [(1, .int (nI 6)), (0, .ref h0)] := hl
    refine lv_iload_n hx hb dX6_leastThatCan_2 rfl (lv_at hl 0 rfl) ?_
    refine lv_bipush (v := 6) hx hb dX6_leastThatCan_3 (by decide) ?_
    refine lv_icmp_ge (tgt := 24) hx hb dX6_leastThatCan_5 (by decide) (fun _ => ?_) (fun hc => absurd (by decide) hc)
    refine lv_iconst (v := (-1)) hx hb dX6_leastThatCan_24 (by decide) ?_
    exact ret_i (X := Unit) (()) hx hb hr hlocks hP hD hS [0, 1, 2, 3] (by decide) rfl rfl rfl dX6_leastThatCan_25
  · intro i1 xx hi_i1 ih H locs ls hI
    obtain ⟨hP, hD, hS, hl⟩ := hI
    have hP : va_P D vwCl [ob h0 6 [.ref h0_cells, .ref s0, .ref h0_next, .ref h0_moved, .ref h0_holder, .ref h0_notes, .int h0_started], ai T h0_next 6 f_h0_next, ob s0 9 [.ref s0_sort, .ref s0_arg, .ref s0_number, .ref s0_kind, .ref s0_skip, .ref s0_place, .ref s0_count, .int s0_told], ai T s0_count 6 (cst 0)] H := hP
    have hD : va_D A [ob h0 6 [.ref h0_cells, .ref s0, .ref h0_next, .ref h0_moved, .ref h0_holder, .ref h0_notes, .int h0_started], ai T h0_next 6 f_h0_next, ob s0 9 [.ref s0_sort, .ref s0_arg, .ref s0_number, .ref s0_kind, .ref s0_skip, .ref s0_place, .ref s0_count, .int s0_told], ai T s0_count 6 (cst 0)] := hD
    have hl : lv_has ls 2 [(1, .int (nI i1)), (0, .ref h0)] := hl
    refine lv_iload_n hx hb dX6_leastThatCan_2 rfl (lv_at hl 0 rfl) ?_
    refine lv_bipush (v := 6) hx hb dX6_leastThatCan_3 (by decide) ?_
    refine lv_icmp_ge (tgt := 24) hx hb dX6_leastThatCan_5 (by decide) (fun hc => absurd hc (nI_ge (a := i1) (b := 6) (by omega) (by omega))) (fun _ => ?_)
    refine lv_aload_n hx hb dX6_leastThatCan_8 rfl (lv_at hl 1 rfl) ?_
    refine lv_iload_n hx hb dX6_leastThatCan_9 rfl (lv_at hl 0 rfl) ?_
    refine cont_i (Wr := []) [0, 1, 2, 3] [] (run_V (n := 1) (As := [.int (nI i1)]) (rest := []) 6 0 hx hb hml hown hg hN (c_X6_can l D T h0 h0_cells h0_next h0_moved h0_holder h0_notes h0_started s0 f_h0_next s0_sort s0_arg s0_number s0_kind s0_skip s0_place s0_count s0_told (nI i1) (by have e_i1 := nI_toInt (show i1 < 2 ^ 31 by omega); simp only [fa_lt, fa_le, fa_eq, fa_le64, fa_lt64, w64, vp_in_iff, k32_0, k64_0, k32_1, k64_1, k32_2, k64_2, k32_3, k64_3, k32_4, k64_4, k32_5, k64_5, k32_6, k64_6, k32_7, k64_7, k32_8, k64_8, k32_9, k64_9, k32_10, k64_10, k32_15, k64_15, k32_40, k64_40, k32_60, k64_60, k32_100, k64_100, k32_120, k64_120, k32_127, k64_127, k32_880, k64_880, k32_900, k64_900, k32_m1, k64_m1, k32_64, k64_64, k32_180, k64_180, e_i1, ne_eq] at  ⊢; omega) (by have e_i1 := nI_toInt (show i1 < 2 ^ 31 by omega); simp only [fa_lt, fa_le, fa_eq, fa_le64, fa_lt64, w64, vp_in_iff, k32_0, k64_0, k32_1, k64_1, k32_2, k64_2, k32_3, k64_3, k32_4, k64_4, k32_5, k64_5, k32_6, k64_6, k32_7, k64_7, k32_8, k64_8, k32_9, k64_9, k32_10, k64_10, k32_15, k64_15, k32_40, k64_40, k32_60, k64_60, k32_100, k64_100, k32_120, k64_120, k32_127, k64_127, k32_880, k64_880, k32_900, k64_900, k32_m1, k64_m1, k32_64, k64_64, k32_180, k64_180, e_i1, ne_eq] at  ⊢; omega)  H.size) km_X6_59 ki_X6_can ks_X6_can kz_X6 kd_X6_can rfl rfl (by decide +kernel) ⟨Nat.le_of_ble_eq_true rfl, Nat.le_of_ble_eq_true rfl⟩ hK (P_sub hP [0, 1, 2, 3] rfl) (hD.sub [0, 1, 2, 3] (by decide) rfl) rfl rfl rfl hl.1 rfl (Nat.le_of_ble_eq_true rfl) dX6_leastThatCan_10 ⟨Nat.le_of_ble_eq_true rfl, Nat.le_of_ble_eq_true rfl⟩) hP hD hS hA rfl rfl (by decide) (by decide) (fun rr xx H locs hq hP hD hS => ?_)
    obtain rfl : rr = 0 := hq
    have hP : va_P D vwCl [ob h0 6 [.ref h0_cells, .ref s0, .ref h0_next, .ref h0_moved, .ref h0_holder, .ref h0_notes, .int h0_started], ai T h0_next 6 f_h0_next, ob s0 9 [.ref s0_sort, .ref s0_arg, .ref s0_number, .ref s0_kind, .ref s0_skip, .ref s0_place, .ref s0_count, .int s0_told], ai T s0_count 6 (cst 0)] H := hP
    have hD : va_D A [ob h0 6 [.ref h0_cells, .ref s0, .ref h0_next, .ref h0_moved, .ref h0_holder, .ref h0_notes, .int h0_started], ai T h0_next 6 f_h0_next, ob s0 9 [.ref s0_sort, .ref s0_arg, .ref s0_number, .ref s0_kind, .ref s0_skip, .ref s0_place, .ref s0_count, .int s0_told], ai T s0_count 6 (cst 0)] := hD
    refine lv_if_eq (tgt := 18) hx hb dX6_leastThatCan_13 (by decide) (fun _ => ?_) (fun hc => absurd (by decide) hc)
    refine lv_iinc (v := nI (i1 + 1)) (lv' := [(1, .int (nI (i1 + 1))), (0, .ref h0)]) hx hb dX6_leastThatCan_18 hl (k := 0) rfl (nI_1 (i1)) (by decide) rfl (fun ls hl => ?_)
    refine lv_goto (tgt := 2) hx hb dX6_leastThatCan_21 (by decide) ?_
    exact ih (()) _ _ _ ⟨hP, hD, hS, lv_sub hl [0, 1] rfl⟩
theorem dX6_stuckBits_0 : decode cX6_stuckBits 0 = .ok (.iconst 0, 1) := by decide +kernel
theorem dX6_stuckBits_1 : decode cX6_stuckBits 1 = .ok (.istore_n 1, 1) := by decide +kernel
theorem dX6_stuckBits_2 : decode cX6_stuckBits 2 = .ok (.iconst 0, 1) := by decide +kernel
theorem dX6_stuckBits_3 : decode cX6_stuckBits 3 = .ok (.istore_n 2, 1) := by decide +kernel
theorem dX6_stuckBits_4 : decode cX6_stuckBits 4 = .ok (.iload_n 2, 1) := by decide +kernel
theorem dX6_stuckBits_5 : decode cX6_stuckBits 5 = .ok (.bipush 6, 2) := by decide +kernel
theorem dX6_stuckBits_7 : decode cX6_stuckBits 7 = .ok (.if_icmp .ge 31, 3) := by decide +kernel
theorem dX6_stuckBits_10 : decode cX6_stuckBits 10 = .ok (.aload_n 0, 1) := by decide +kernel
theorem dX6_stuckBits_11 : decode cX6_stuckBits 11 = .ok (.iload_n 2, 1) := by decide +kernel
theorem dX6_stuckBits_12 : decode cX6_stuckBits 12 = .ok (.invokevirtual 46, 3) := by decide +kernel
theorem dX6_stuckBits_15 : decode cX6_stuckBits 15 = .ok (.ifCond .eq 17, 3) := by decide +kernel
theorem dX6_stuckBits_18 : decode cX6_stuckBits 18 = .ok (.aload_n 0, 1) := by decide +kernel
theorem dX6_stuckBits_19 : decode cX6_stuckBits 19 = .ok (.iload_n 2, 1) := by decide +kernel
theorem dX6_stuckBits_20 : decode cX6_stuckBits 20 = .ok (.invokevirtual 50, 3) := by decide +kernel
theorem dX6_stuckBits_23 : decode cX6_stuckBits 23 = .ok (.ifCond .eq 9, 3) := by decide +kernel
theorem dX6_stuckBits_32 : decode cX6_stuckBits 32 = .ok (.iinc 2 1, 3) := by decide +kernel
theorem dX6_stuckBits_35 : decode cX6_stuckBits 35 = .ok (.goto (-31), 3) := by decide +kernel
theorem dX6_stuckBits_38 : decode cX6_stuckBits 38 = .ok (.iload_n 1, 1) := by decide +kernel
theorem dX6_stuckBits_39 : decode cX6_stuckBits 39 = .ok (.ireturn, 1) := by decide +kernel
set_option maxHeartbeats 4000000 in
set_option maxRecDepth 100000 in
theorem c_X6_stuckBits (l : Launch) (D : va_G) (T : Nat → ClassId) (h0 : Nat) (h0_cells : Nat) (h0_next : Nat) (h0_moved : Nat) (h0_holder : Nat) (h0_notes : Nat) (h0_started : Int32) (s0 : Nat) (f_h0_next : Nat → Int32) (s0_sort : Nat) (s0_arg : Nat) (s0_number : Nat) (s0_kind : Nat) (s0_skip : Nat) (s0_place : Nat) (s0_count : Nat) (s0_told : Int32) (sz : Nat) : Met l yX6_stuckBits (WS (.code yX6_stuckBits cX6_stuckBits 3 (some .int))) ({ frames := 4, cells := 0, slots := 0, locals := 128 } : Room) (va_Pc [.ref h0] (PW D (TY T) [ob h0 6 [.ref h0_cells, .ref s0, .ref h0_next, .ref h0_moved, .ref h0_holder, .ref h0_notes, .int h0_started], ai T h0_next 6 f_h0_next, ob s0 9 [.ref s0_sort, .ref s0_arg, .ref s0_number, .ref s0_kind, .ref s0_skip, .ref s0_place, .ref s0_count, .int s0_told], ai T s0_count 6 (cst 0)] sz)) (QI (X := Unit) D (fun rr xx => rr = 0) (fun _ => [ob h0 6 [.ref h0_cells, .ref s0, .ref h0_next, .ref h0_moved, .ref h0_holder, .ref h0_notes, .int h0_started], ai T h0_next 6 f_h0_next, ob s0 9 [.ref s0_sort, .ref s0_arg, .ref s0_number, .ref s0_kind, .ref s0_skip, .ref s0_place, .ref s0_count, .int s0_told], ai T s0_count 6 (cst 0)]) (va_A [ob h0 6 [.ref h0_cells, .ref s0, .ref h0_next, .ref h0_moved, .ref h0_holder, .ref h0_notes, .int h0_started], ai T h0_next 6 f_h0_next, ob s0 9 [.ref s0_sort, .ref s0_arg, .ref s0_number, .ref s0_kind, .ref s0_skip, .ref s0_place, .ref s0_count, .int s0_told], ai T s0_count 6 (cst 0)] sz)) 0 0 (va_A [ob h0 6 [.ref h0_cells, .ref s0, .ref h0_next, .ref h0_moved, .ref h0_holder, .ref h0_notes, .int h0_started], ai T h0_next 6 f_h0_next, ob s0 9 [.ref s0_sort, .ref s0_arg, .ref s0_number, .ref s0_kind, .ref s0_skip, .ref s0_place, .ref s0_count, .int s0_told], ai T s0_count 6 (cst 0)] sz) := by
  refine mk_met (Qc := QI (X := Unit) D (fun rr xx => rr = 0) (fun _ => [ob h0 6 [.ref h0_cells, .ref s0, .ref h0_next, .ref h0_moved, .ref h0_holder, .ref h0_notes, .int h0_started], ai T h0_next 6 f_h0_next, ob s0 9 [.ref s0_sort, .ref s0_arg, .ref s0_number, .ref s0_kind, .ref s0_skip, .ref s0_place, .ref s0_count, .int s0_told], ai T s0_count 6 (cst 0)])) (lv := [(0, .ref h0)]) (by decide +kernel) (Nat.le_of_ble_eq_true rfl) rfl (fun p e s m below meth c A ls H locs hx hb hml hr hlocks hown hin hg hN hA hP hK hD hS hl => ?_)
  refine lv_iconst (v := 0) hx hb dX6_stuckBits_0 (by decide) ?_
  refine lv_istore_n (lv' := [(1, .int 0), (0, .ref h0)]) hx hb dX6_stuckBits_1 rfl hl (by decide) rfl (fun ls hl => ?_)
  refine lv_iconst (v := 0) hx hb dX6_stuckBits_2 (by decide) ?_
  refine lv_istore_n (lv' := [(2, .int 0), (1, .int 0), (0, .ref h0)]) hx hb dX6_stuckBits_3 rfl hl (by decide) rfl (fun ls hl => ?_)
  refine loopW (σ := Unit) (Wf := fun H locs ls => W p l e ({ frames := 4, cells := 0, slots := 0, locals := 128 } : Room) s m ([.ref h0] : List Value).toArray below meth c H locs 0 0 (MQ below ((QI (X := Unit) D (fun rr xx => rr = 0) (fun _ => [ob h0 6 [.ref h0_cells, .ref s0, .ref h0_next, .ref h0_moved, .ref h0_holder, .ref h0_notes, .int h0_started], ai T h0_next 6 f_h0_next, ob s0 9 [.ref s0_sort, .ref s0_arg, .ref s0_number, .ref s0_kind, .ref s0_skip, .ref s0_place, .ref s0_count, .int s0_told], ai T s0_count 6 (cst 0)])) A) ([.ref h0] : List Value).toArray s 0 0 A) (F0 m 4 ls [])) H locs ls (6) (fun ii xx H locs ls => va_P D vwCl [ob h0 6 [.ref h0_cells, .ref s0, .ref h0_next, .ref h0_moved, .ref h0_holder, .ref h0_notes, .int h0_started], ai T h0_next 6 f_h0_next, ob s0 9 [.ref s0_sort, .ref s0_arg, .ref s0_number, .ref s0_kind, .ref s0_skip, .ref s0_place, .ref s0_count, .int s0_told], ai T s0_count 6 (cst 0)] H ∧ va_D A [ob h0 6 [.ref h0_cells, .ref s0, .ref h0_next, .ref h0_moved, .ref h0_holder, .ref h0_notes, .int h0_started], ai T h0_next 6 f_h0_next, ob s0 9 [.ref s0_sort, .ref s0_arg, .ref s0_number, .ref s0_kind, .ref s0_skip, .ref s0_place, .ref s0_count, .int s0_told], ai T s0_count 6 (cst 0)] ∧ va_S A s.heap H locs ∧ lv_has ls 3 [(2, .int (nI ii)), (1, .int 0), (0, .ref h0)]) ?_ ?_ (()) ⟨hP, hD, hS, lv_sub hl [0, 1, 2] rfl⟩
  · intro xx H locs ls hI
    obtain ⟨hP, hD, hS, hl⟩ := hI
    have hP : va_P D vwCl [ob h0 6 [.ref h0_cells, .ref s0, .ref h0_next, .ref h0_moved, .ref h0_holder, .ref h0_notes, .int h0_started], ai T h0_next 6 f_h0_next, ob s0 9 [.ref s0_sort, .ref s0_arg, .ref s0_number, .ref s0_kind, .ref s0_skip, .ref s0_place, .ref s0_count, .int s0_told], ai T s0_count 6 (cst 0)] H := hP
    have hD : va_D A [ob h0 6 [.ref h0_cells, .ref s0, .ref h0_next, .ref h0_moved, .ref h0_holder, .ref h0_notes, .int h0_started], ai T h0_next 6 f_h0_next, ob s0 9 [.ref s0_sort, .ref s0_arg, .ref s0_number, .ref s0_kind, .ref s0_skip, .ref s0_place, .ref s0_count, .int s0_told], ai T s0_count 6 (cst 0)] := hD
    have hl : lv_has ls 3 [(2, .int (nI 6)), (1, .int 0), (0, .ref h0)] := hl
    refine lv_iload_n hx hb dX6_stuckBits_4 rfl (lv_at hl 0 rfl) ?_
    refine lv_bipush (v := 6) hx hb dX6_stuckBits_5 (by decide) ?_
    refine lv_icmp_ge (tgt := 38) hx hb dX6_stuckBits_7 (by decide) (fun _ => ?_) (fun hc => absurd (by decide) hc)
    refine lv_iload_n hx hb dX6_stuckBits_38 rfl (lv_at hl 1 rfl) ?_
    exact ret_i (X := Unit) (()) hx hb hr hlocks hP hD hS [0, 1, 2, 3] (by decide) rfl rfl rfl dX6_stuckBits_39
  · intro i1 xx hi_i1 ih H locs ls hI
    obtain ⟨hP, hD, hS, hl⟩ := hI
    have hP : va_P D vwCl [ob h0 6 [.ref h0_cells, .ref s0, .ref h0_next, .ref h0_moved, .ref h0_holder, .ref h0_notes, .int h0_started], ai T h0_next 6 f_h0_next, ob s0 9 [.ref s0_sort, .ref s0_arg, .ref s0_number, .ref s0_kind, .ref s0_skip, .ref s0_place, .ref s0_count, .int s0_told], ai T s0_count 6 (cst 0)] H := hP
    have hD : va_D A [ob h0 6 [.ref h0_cells, .ref s0, .ref h0_next, .ref h0_moved, .ref h0_holder, .ref h0_notes, .int h0_started], ai T h0_next 6 f_h0_next, ob s0 9 [.ref s0_sort, .ref s0_arg, .ref s0_number, .ref s0_kind, .ref s0_skip, .ref s0_place, .ref s0_count, .int s0_told], ai T s0_count 6 (cst 0)] := hD
    have hl : lv_has ls 3 [(2, .int (nI i1)), (1, .int 0), (0, .ref h0)] := hl
    refine lv_iload_n hx hb dX6_stuckBits_4 rfl (lv_at hl 0 rfl) ?_
    refine lv_bipush (v := 6) hx hb dX6_stuckBits_5 (by decide) ?_
    refine lv_icmp_ge (tgt := 38) hx hb dX6_stuckBits_7 (by decide) (fun hc => absurd hc (nI_ge (a := i1) (b := 6) (by omega) (by omega))) (fun _ => ?_)
    refine lv_aload_n hx hb dX6_stuckBits_10 rfl (lv_at hl 2 rfl) ?_
    refine lv_iload_n hx hb dX6_stuckBits_11 rfl (lv_at hl 0 rfl) ?_
    refine cont_i (Wr := [ai T h0_next 6 f_h0_next, ob s0 9 [.ref s0_sort, .ref s0_arg, .ref s0_number, .ref s0_kind, .ref s0_skip, .ref s0_place, .ref s0_count, .int s0_told], ai T s0_count 6 (cst 0)]) [0] [1, 2, 3] (run_V (n := 1) (As := [.int (nI i1)]) (rest := []) 6 0 hx hb hml hown hg hN (c_X6_isStarted l D T h0 h0_cells s0 h0_next h0_moved h0_holder h0_notes h0_started (nI i1)  H.size) km_X6_46 ki_X6_isStarted ks_X6_isStarted kz_X6 kd_X6_isStarted rfl rfl (by decide +kernel) ⟨Nat.le_of_ble_eq_true rfl, Nat.le_of_ble_eq_true rfl⟩ hK (P_sub hP [0] rfl) (hD.sub [0] (by decide) rfl) rfl rfl rfl hl.1 rfl (Nat.le_of_ble_eq_true rfl) dX6_stuckBits_12 ⟨Nat.le_of_ble_eq_true rfl, Nat.le_of_ble_eq_true rfl⟩) hP hD hS hA rfl rfl (by decide) (by decide) (fun rr xx H locs hq hP hD hS => ?_)
    obtain ⟨r2, er⟩ : ∃ z, z = rr := ⟨_, rfl⟩
    rw [← er]
    have hP : va_P D vwCl [ai T h0_next 6 f_h0_next, ob s0 9 [.ref s0_sort, .ref s0_arg, .ref s0_number, .ref s0_kind, .ref s0_skip, .ref s0_place, .ref s0_count, .int s0_told], ai T s0_count 6 (cst 0), ob h0 6 [.ref h0_cells, .ref s0, .ref h0_next, .ref h0_moved, .ref h0_holder, .ref h0_notes, .int h0_started]] H := hP
    have hD : va_D A [ai T h0_next 6 f_h0_next, ob s0 9 [.ref s0_sort, .ref s0_arg, .ref s0_number, .ref s0_kind, .ref s0_skip, .ref s0_place, .ref s0_count, .int s0_told], ai T s0_count 6 (cst 0), ob h0 6 [.ref h0_cells, .ref s0, .ref h0_next, .ref h0_moved, .ref h0_holder, .ref h0_notes, .int h0_started]] := hD
    refine lv_if_eq (tgt := 32) hx hb dX6_stuckBits_15 (by decide) (fun hs3 => ?_) (fun hs3 => ?_)
    · skip
      refine lv_iinc (v := nI (i1 + 1)) (lv' := [(2, .int (nI (i1 + 1))), (1, .int 0), (0, .ref h0)]) hx hb dX6_stuckBits_32 hl (k := 0) rfl (nI_1 (i1)) (by decide) rfl (fun ls hl => ?_)
      refine lv_goto (tgt := 4) hx hb dX6_stuckBits_35 (by decide) ?_
      exact ih (()) _ _ _ ⟨(P_sub hP [3, 0, 1, 2] rfl), (hD.sub [3, 0, 1, 2] (by decide) rfl), hS, lv_sub hl [0, 1, 2] rfl⟩
    · skip
      refine lv_aload_n hx hb dX6_stuckBits_18 rfl (lv_at hl 2 rfl) ?_
      refine lv_iload_n hx hb dX6_stuckBits_19 rfl (lv_at hl 0 rfl) ?_
      refine cont_i (Wr := []) [3, 0, 1, 2] [] (run_V (n := 1) (As := [.int (nI i1)]) (rest := []) 6 0 hx hb hml hown hg hN (c_X6_hasCode l D T h0 h0_cells h0_next h0_moved h0_holder h0_notes h0_started s0 f_h0_next s0_sort s0_arg s0_number s0_kind s0_skip s0_place s0_count s0_told (nI i1) (by have e_i1 := nI_toInt (show i1 < 2 ^ 31 by omega); simp only [fa_lt, fa_le, fa_eq, fa_le64, fa_lt64, w64, vp_in_iff, k32_0, k64_0, k32_1, k64_1, k32_2, k64_2, k32_3, k64_3, k32_4, k64_4, k32_5, k64_5, k32_6, k64_6, k32_7, k64_7, k32_8, k64_8, k32_9, k64_9, k32_10, k64_10, k32_15, k64_15, k32_40, k64_40, k32_60, k64_60, k32_100, k64_100, k32_120, k64_120, k32_127, k64_127, k32_880, k64_880, k32_900, k64_900, k32_m1, k64_m1, k32_64, k64_64, k32_180, k64_180, e_i1, ne_eq] at hs3 ⊢; omega) (by have e_i1 := nI_toInt (show i1 < 2 ^ 31 by omega); simp only [fa_lt, fa_le, fa_eq, fa_le64, fa_lt64, w64, vp_in_iff, k32_0, k64_0, k32_1, k64_1, k32_2, k64_2, k32_3, k64_3, k32_4, k64_4, k32_5, k64_5, k32_6, k64_6, k32_7, k64_7, k32_8, k64_8, k32_9, k64_9, k32_10, k64_10, k32_15, k64_15, k32_40, k64_40, k32_60, k64_60, k32_100, k64_100, k32_120, k64_120, k32_127, k64_127, k32_880, k64_880, k32_900, k64_900, k32_m1, k64_m1, k32_64, k64_64, k32_180, k64_180, e_i1, ne_eq] at hs3 ⊢; omega)  H.size) km_X6_50 ki_X6_hasCode ks_X6_hasCode kz_X6 kd_X6_hasCode rfl rfl (by decide +kernel) ⟨Nat.le_of_ble_eq_true rfl, Nat.le_of_ble_eq_true rfl⟩ hK (P_sub hP [3, 0, 1, 2] rfl) (hD.sub [3, 0, 1, 2] (by decide) rfl) rfl rfl rfl hl.1 rfl (Nat.le_of_ble_eq_true rfl) dX6_stuckBits_20 ⟨Nat.le_of_ble_eq_true rfl, Nat.le_of_ble_eq_true rfl⟩) hP hD hS hA rfl rfl (by decide) (by decide) (fun rr xx H locs hq hP hD hS => ?_)
      obtain rfl : rr = 0 := hq
      have hP : va_P D vwCl [ob h0 6 [.ref h0_cells, .ref s0, .ref h0_next, .ref h0_moved, .ref h0_holder, .ref h0_notes, .int h0_started], ai T h0_next 6 f_h0_next, ob s0 9 [.ref s0_sort, .ref s0_arg, .ref s0_number, .ref s0_kind, .ref s0_skip, .ref s0_place, .ref s0_count, .int s0_told], ai T s0_count 6 (cst 0)] H := hP
      have hD : va_D A [ob h0 6 [.ref h0_cells, .ref s0, .ref h0_next, .ref h0_moved, .ref h0_holder, .ref h0_notes, .int h0_started], ai T h0_next 6 f_h0_next, ob s0 9 [.ref s0_sort, .ref s0_arg, .ref s0_number, .ref s0_kind, .ref s0_skip, .ref s0_place, .ref s0_count, .int s0_told], ai T s0_count 6 (cst 0)] := hD
      refine lv_if_eq (tgt := 32) hx hb dX6_stuckBits_23 (by decide) (fun _ => ?_) (fun hc => absurd (by decide) hc)
      refine lv_iinc (v := nI (i1 + 1)) (lv' := [(2, .int (nI (i1 + 1))), (1, .int 0), (0, .ref h0)]) hx hb dX6_stuckBits_32 hl (k := 0) rfl (nI_1 (i1)) (by decide) rfl (fun ls hl => ?_)
      refine lv_goto (tgt := 4) hx hb dX6_stuckBits_35 (by decide) ?_
      exact ih (()) _ _ _ ⟨hP, hD, hS, lv_sub hl [0, 1, 2] rfl⟩
theorem dX6_ableBits_0 : decode cX6_ableBits 0 = .ok (.iconst 0, 1) := by decide +kernel
theorem dX6_ableBits_1 : decode cX6_ableBits 1 = .ok (.istore_n 1, 1) := by decide +kernel
theorem dX6_ableBits_2 : decode cX6_ableBits 2 = .ok (.iconst 0, 1) := by decide +kernel
theorem dX6_ableBits_3 : decode cX6_ableBits 3 = .ok (.istore_n 2, 1) := by decide +kernel
theorem dX6_ableBits_4 : decode cX6_ableBits 4 = .ok (.iload_n 2, 1) := by decide +kernel
theorem dX6_ableBits_5 : decode cX6_ableBits 5 = .ok (.bipush 6, 2) := by decide +kernel
theorem dX6_ableBits_7 : decode cX6_ableBits 7 = .ok (.if_icmp .ge 23, 3) := by decide +kernel
theorem dX6_ableBits_10 : decode cX6_ableBits 10 = .ok (.aload_n 0, 1) := by decide +kernel
theorem dX6_ableBits_11 : decode cX6_ableBits 11 = .ok (.iload_n 2, 1) := by decide +kernel
theorem dX6_ableBits_12 : decode cX6_ableBits 12 = .ok (.invokevirtual 59, 3) := by decide +kernel
theorem dX6_ableBits_15 : decode cX6_ableBits 15 = .ok (.ifCond .eq 9, 3) := by decide +kernel
theorem dX6_ableBits_24 : decode cX6_ableBits 24 = .ok (.iinc 2 1, 3) := by decide +kernel
theorem dX6_ableBits_27 : decode cX6_ableBits 27 = .ok (.goto (-23), 3) := by decide +kernel
theorem dX6_ableBits_30 : decode cX6_ableBits 30 = .ok (.iload_n 1, 1) := by decide +kernel
theorem dX6_ableBits_31 : decode cX6_ableBits 31 = .ok (.ireturn, 1) := by decide +kernel
set_option maxHeartbeats 4000000 in
set_option maxRecDepth 100000 in
theorem c_X6_ableBits (l : Launch) (D : va_G) (T : Nat → ClassId) (h0 : Nat) (h0_cells : Nat) (h0_next : Nat) (h0_moved : Nat) (h0_holder : Nat) (h0_notes : Nat) (h0_started : Int32) (s0 : Nat) (f_h0_next : Nat → Int32) (s0_sort : Nat) (s0_arg : Nat) (s0_number : Nat) (s0_kind : Nat) (s0_skip : Nat) (s0_place : Nat) (s0_count : Nat) (s0_told : Int32) (sz : Nat) : Met l yX6_ableBits (WS (.code yX6_ableBits cX6_ableBits 3 (some .int))) ({ frames := 6, cells := 0, slots := 0, locals := 192 } : Room) (va_Pc [.ref h0] (PW D (TY T) [ob h0 6 [.ref h0_cells, .ref s0, .ref h0_next, .ref h0_moved, .ref h0_holder, .ref h0_notes, .int h0_started], ai T h0_next 6 f_h0_next, ob s0 9 [.ref s0_sort, .ref s0_arg, .ref s0_number, .ref s0_kind, .ref s0_skip, .ref s0_place, .ref s0_count, .int s0_told], ai T s0_count 6 (cst 0)] sz)) (QI (X := Unit) D (fun rr xx => rr = 0) (fun _ => [ob h0 6 [.ref h0_cells, .ref s0, .ref h0_next, .ref h0_moved, .ref h0_holder, .ref h0_notes, .int h0_started], ai T h0_next 6 f_h0_next, ob s0 9 [.ref s0_sort, .ref s0_arg, .ref s0_number, .ref s0_kind, .ref s0_skip, .ref s0_place, .ref s0_count, .int s0_told], ai T s0_count 6 (cst 0)]) (va_A [ob h0 6 [.ref h0_cells, .ref s0, .ref h0_next, .ref h0_moved, .ref h0_holder, .ref h0_notes, .int h0_started], ai T h0_next 6 f_h0_next, ob s0 9 [.ref s0_sort, .ref s0_arg, .ref s0_number, .ref s0_kind, .ref s0_skip, .ref s0_place, .ref s0_count, .int s0_told], ai T s0_count 6 (cst 0)] sz)) 0 0 (va_A [ob h0 6 [.ref h0_cells, .ref s0, .ref h0_next, .ref h0_moved, .ref h0_holder, .ref h0_notes, .int h0_started], ai T h0_next 6 f_h0_next, ob s0 9 [.ref s0_sort, .ref s0_arg, .ref s0_number, .ref s0_kind, .ref s0_skip, .ref s0_place, .ref s0_count, .int s0_told], ai T s0_count 6 (cst 0)] sz) := by
  refine mk_met (Qc := QI (X := Unit) D (fun rr xx => rr = 0) (fun _ => [ob h0 6 [.ref h0_cells, .ref s0, .ref h0_next, .ref h0_moved, .ref h0_holder, .ref h0_notes, .int h0_started], ai T h0_next 6 f_h0_next, ob s0 9 [.ref s0_sort, .ref s0_arg, .ref s0_number, .ref s0_kind, .ref s0_skip, .ref s0_place, .ref s0_count, .int s0_told], ai T s0_count 6 (cst 0)])) (lv := [(0, .ref h0)]) (by decide +kernel) (Nat.le_of_ble_eq_true rfl) rfl (fun p e s m below meth c A ls H locs hx hb hml hr hlocks hown hin hg hN hA hP hK hD hS hl => ?_)
  refine lv_iconst (v := 0) hx hb dX6_ableBits_0 (by decide) ?_
  refine lv_istore_n (lv' := [(1, .int 0), (0, .ref h0)]) hx hb dX6_ableBits_1 rfl hl (by decide) rfl (fun ls hl => ?_)
  refine lv_iconst (v := 0) hx hb dX6_ableBits_2 (by decide) ?_
  refine lv_istore_n (lv' := [(2, .int 0), (1, .int 0), (0, .ref h0)]) hx hb dX6_ableBits_3 rfl hl (by decide) rfl (fun ls hl => ?_)
  refine loopW (σ := Unit) (Wf := fun H locs ls => W p l e ({ frames := 6, cells := 0, slots := 0, locals := 192 } : Room) s m ([.ref h0] : List Value).toArray below meth c H locs 0 0 (MQ below ((QI (X := Unit) D (fun rr xx => rr = 0) (fun _ => [ob h0 6 [.ref h0_cells, .ref s0, .ref h0_next, .ref h0_moved, .ref h0_holder, .ref h0_notes, .int h0_started], ai T h0_next 6 f_h0_next, ob s0 9 [.ref s0_sort, .ref s0_arg, .ref s0_number, .ref s0_kind, .ref s0_skip, .ref s0_place, .ref s0_count, .int s0_told], ai T s0_count 6 (cst 0)])) A) ([.ref h0] : List Value).toArray s 0 0 A) (F0 m 4 ls [])) H locs ls (6) (fun ii xx H locs ls => va_P D vwCl [ob h0 6 [.ref h0_cells, .ref s0, .ref h0_next, .ref h0_moved, .ref h0_holder, .ref h0_notes, .int h0_started], ai T h0_next 6 f_h0_next, ob s0 9 [.ref s0_sort, .ref s0_arg, .ref s0_number, .ref s0_kind, .ref s0_skip, .ref s0_place, .ref s0_count, .int s0_told], ai T s0_count 6 (cst 0)] H ∧ va_D A [ob h0 6 [.ref h0_cells, .ref s0, .ref h0_next, .ref h0_moved, .ref h0_holder, .ref h0_notes, .int h0_started], ai T h0_next 6 f_h0_next, ob s0 9 [.ref s0_sort, .ref s0_arg, .ref s0_number, .ref s0_kind, .ref s0_skip, .ref s0_place, .ref s0_count, .int s0_told], ai T s0_count 6 (cst 0)] ∧ va_S A s.heap H locs ∧ lv_has ls 3 [(2, .int (nI ii)), (1, .int 0), (0, .ref h0)]) ?_ ?_ (()) ⟨hP, hD, hS, lv_sub hl [0, 1, 2] rfl⟩
  · intro xx H locs ls hI
    obtain ⟨hP, hD, hS, hl⟩ := hI
    have hP : va_P D vwCl [ob h0 6 [.ref h0_cells, .ref s0, .ref h0_next, .ref h0_moved, .ref h0_holder, .ref h0_notes, .int h0_started], ai T h0_next 6 f_h0_next, ob s0 9 [.ref s0_sort, .ref s0_arg, .ref s0_number, .ref s0_kind, .ref s0_skip, .ref s0_place, .ref s0_count, .int s0_told], ai T s0_count 6 (cst 0)] H := hP
    have hD : va_D A [ob h0 6 [.ref h0_cells, .ref s0, .ref h0_next, .ref h0_moved, .ref h0_holder, .ref h0_notes, .int h0_started], ai T h0_next 6 f_h0_next, ob s0 9 [.ref s0_sort, .ref s0_arg, .ref s0_number, .ref s0_kind, .ref s0_skip, .ref s0_place, .ref s0_count, .int s0_told], ai T s0_count 6 (cst 0)] := hD
    have hl : lv_has ls 3 [(2, .int (nI 6)), (1, .int 0), (0, .ref h0)] := hl
    refine lv_iload_n hx hb dX6_ableBits_4 rfl (lv_at hl 0 rfl) ?_
    refine lv_bipush (v := 6) hx hb dX6_ableBits_5 (by decide) ?_
    refine lv_icmp_ge (tgt := 30) hx hb dX6_ableBits_7 (by decide) (fun _ => ?_) (fun hc => absurd (by decide) hc)
    refine lv_iload_n hx hb dX6_ableBits_30 rfl (lv_at hl 1 rfl) ?_
    exact ret_i (X := Unit) (()) hx hb hr hlocks hP hD hS [0, 1, 2, 3] (by decide) rfl rfl rfl dX6_ableBits_31
  · intro i1 xx hi_i1 ih H locs ls hI
    obtain ⟨hP, hD, hS, hl⟩ := hI
    have hP : va_P D vwCl [ob h0 6 [.ref h0_cells, .ref s0, .ref h0_next, .ref h0_moved, .ref h0_holder, .ref h0_notes, .int h0_started], ai T h0_next 6 f_h0_next, ob s0 9 [.ref s0_sort, .ref s0_arg, .ref s0_number, .ref s0_kind, .ref s0_skip, .ref s0_place, .ref s0_count, .int s0_told], ai T s0_count 6 (cst 0)] H := hP
    have hD : va_D A [ob h0 6 [.ref h0_cells, .ref s0, .ref h0_next, .ref h0_moved, .ref h0_holder, .ref h0_notes, .int h0_started], ai T h0_next 6 f_h0_next, ob s0 9 [.ref s0_sort, .ref s0_arg, .ref s0_number, .ref s0_kind, .ref s0_skip, .ref s0_place, .ref s0_count, .int s0_told], ai T s0_count 6 (cst 0)] := hD
    have hl : lv_has ls 3 [(2, .int (nI i1)), (1, .int 0), (0, .ref h0)] := hl
    refine lv_iload_n hx hb dX6_ableBits_4 rfl (lv_at hl 0 rfl) ?_
    refine lv_bipush (v := 6) hx hb dX6_ableBits_5 (by decide) ?_
    refine lv_icmp_ge (tgt := 30) hx hb dX6_ableBits_7 (by decide) (fun hc => absurd hc (nI_ge (a := i1) (b := 6) (by omega) (by omega))) (fun _ => ?_)
    refine lv_aload_n hx hb dX6_ableBits_10 rfl (lv_at hl 2 rfl) ?_
    refine lv_iload_n hx hb dX6_ableBits_11 rfl (lv_at hl 0 rfl) ?_
    refine cont_i (Wr := []) [0, 1, 2, 3] [] (run_V (n := 1) (As := [.int (nI i1)]) (rest := []) 6 0 hx hb hml hown hg hN (c_X6_can l D T h0 h0_cells h0_next h0_moved h0_holder h0_notes h0_started s0 f_h0_next s0_sort s0_arg s0_number s0_kind s0_skip s0_place s0_count s0_told (nI i1) (by have e_i1 := nI_toInt (show i1 < 2 ^ 31 by omega); simp only [fa_lt, fa_le, fa_eq, fa_le64, fa_lt64, w64, vp_in_iff, k32_0, k64_0, k32_1, k64_1, k32_2, k64_2, k32_3, k64_3, k32_4, k64_4, k32_5, k64_5, k32_6, k64_6, k32_7, k64_7, k32_8, k64_8, k32_9, k64_9, k32_10, k64_10, k32_15, k64_15, k32_40, k64_40, k32_60, k64_60, k32_100, k64_100, k32_120, k64_120, k32_127, k64_127, k32_880, k64_880, k32_900, k64_900, k32_m1, k64_m1, k32_64, k64_64, k32_180, k64_180, e_i1, ne_eq] at  ⊢; omega) (by have e_i1 := nI_toInt (show i1 < 2 ^ 31 by omega); simp only [fa_lt, fa_le, fa_eq, fa_le64, fa_lt64, w64, vp_in_iff, k32_0, k64_0, k32_1, k64_1, k32_2, k64_2, k32_3, k64_3, k32_4, k64_4, k32_5, k64_5, k32_6, k64_6, k32_7, k64_7, k32_8, k64_8, k32_9, k64_9, k32_10, k64_10, k32_15, k64_15, k32_40, k64_40, k32_60, k64_60, k32_100, k64_100, k32_120, k64_120, k32_127, k64_127, k32_880, k64_880, k32_900, k64_900, k32_m1, k64_m1, k32_64, k64_64, k32_180, k64_180, e_i1, ne_eq] at  ⊢; omega)  H.size) km_X6_59 ki_X6_can ks_X6_can kz_X6 kd_X6_can rfl rfl (by decide +kernel) ⟨Nat.le_of_ble_eq_true rfl, Nat.le_of_ble_eq_true rfl⟩ hK (P_sub hP [0, 1, 2, 3] rfl) (hD.sub [0, 1, 2, 3] (by decide) rfl) rfl rfl rfl hl.1 rfl (Nat.le_of_ble_eq_true rfl) dX6_ableBits_12 ⟨Nat.le_of_ble_eq_true rfl, Nat.le_of_ble_eq_true rfl⟩) hP hD hS hA rfl rfl (by decide) (by decide) (fun rr xx H locs hq hP hD hS => ?_)
    obtain rfl : rr = 0 := hq
    have hP : va_P D vwCl [ob h0 6 [.ref h0_cells, .ref s0, .ref h0_next, .ref h0_moved, .ref h0_holder, .ref h0_notes, .int h0_started], ai T h0_next 6 f_h0_next, ob s0 9 [.ref s0_sort, .ref s0_arg, .ref s0_number, .ref s0_kind, .ref s0_skip, .ref s0_place, .ref s0_count, .int s0_told], ai T s0_count 6 (cst 0)] H := hP
    have hD : va_D A [ob h0 6 [.ref h0_cells, .ref s0, .ref h0_next, .ref h0_moved, .ref h0_holder, .ref h0_notes, .int h0_started], ai T h0_next 6 f_h0_next, ob s0 9 [.ref s0_sort, .ref s0_arg, .ref s0_number, .ref s0_kind, .ref s0_skip, .ref s0_place, .ref s0_count, .int s0_told], ai T s0_count 6 (cst 0)] := hD
    refine lv_if_eq (tgt := 24) hx hb dX6_ableBits_15 (by decide) (fun _ => ?_) (fun hc => absurd (by decide) hc)
    refine lv_iinc (v := nI (i1 + 1)) (lv' := [(2, .int (nI (i1 + 1))), (1, .int 0), (0, .ref h0)]) hx hb dX6_ableBits_24 hl (k := 0) rfl (nI_1 (i1)) (by decide) rfl (fun ls hl => ?_)
    refine lv_goto (tgt := 4) hx hb dX6_ableBits_27 (by decide) ?_
    exact ih (()) _ _ _ ⟨hP, hD, hS, lv_sub hl [0, 1, 2] rfl⟩
theorem dX6_packInto_0 : decode cX6_packInto 0 = .ok (.iconst 0, 1) := by decide +kernel
theorem dX6_packInto_1 : decode cX6_packInto 1 = .ok (.istore_n 2, 1) := by decide +kernel
theorem dX6_packInto_2 : decode cX6_packInto 2 = .ok (.iload_n 2, 1) := by decide +kernel
theorem dX6_packInto_3 : decode cX6_packInto 3 = .ok (.iconst 2, 1) := by decide +kernel
theorem dX6_packInto_4 : decode cX6_packInto 4 = .ok (.if_icmp .ge 93, 3) := by decide +kernel
theorem dX6_packInto_7 : decode cX6_packInto 7 = .ok (.iconst 0, 1) := by decide +kernel
theorem dX6_packInto_8 : decode cX6_packInto 8 = .ok (.istore_n 3, 1) := by decide +kernel
theorem dX6_packInto_9 : decode cX6_packInto 9 = .ok (.iconst 0, 1) := by decide +kernel
theorem dX6_packInto_10 : decode cX6_packInto 10 = .ok (.istore 4, 2) := by decide +kernel
theorem dX6_packInto_12 : decode cX6_packInto 12 = .ok (.iload 4, 2) := by decide +kernel
theorem dX6_packInto_14 : decode cX6_packInto 14 = .ok (.iconst 3, 1) := by decide +kernel
theorem dX6_packInto_15 : decode cX6_packInto 15 = .ok (.if_icmp .ge 46, 3) := by decide +kernel
theorem dX6_packInto_18 : decode cX6_packInto 18 = .ok (.iload_n 2, 1) := by decide +kernel
theorem dX6_packInto_19 : decode cX6_packInto 19 = .ok (.iconst 3, 1) := by decide +kernel
theorem dX6_packInto_20 : decode cX6_packInto 20 = .ok (.imul, 1) := by decide +kernel
theorem dX6_packInto_21 : decode cX6_packInto 21 = .ok (.iload 4, 2) := by decide +kernel
theorem dX6_packInto_23 : decode cX6_packInto 23 = .ok (.iadd, 1) := by decide +kernel
theorem dX6_packInto_24 : decode cX6_packInto 24 = .ok (.istore 5, 2) := by decide +kernel
theorem dX6_packInto_26 : decode cX6_packInto 26 = .ok (.iload_n 3, 1) := by decide +kernel
theorem dX6_packInto_27 : decode cX6_packInto 27 = .ok (.aload_n 0, 1) := by decide +kernel
theorem dX6_packInto_28 : decode cX6_packInto 28 = .ok (.getfield 15, 3) := by decide +kernel
theorem dX6_packInto_31 : decode cX6_packInto 31 = .ok (.iload 5, 2) := by decide +kernel
theorem dX6_packInto_33 : decode cX6_packInto 33 = .ok (.iaload, 1) := by decide +kernel
theorem dX6_packInto_34 : decode cX6_packInto 34 = .ok (.aload_n 0, 1) := by decide +kernel
theorem dX6_packInto_35 : decode cX6_packInto 35 = .ok (.getfield 37, 3) := by decide +kernel
theorem dX6_packInto_38 : decode cX6_packInto 38 = .ok (.iload 5, 2) := by decide +kernel
theorem dX6_packInto_40 : decode cX6_packInto 40 = .ok (.ishr, 1) := by decide +kernel
theorem dX6_packInto_41 : decode cX6_packInto 41 = .ok (.iconst 1, 1) := by decide +kernel
theorem dX6_packInto_42 : decode cX6_packInto 42 = .ok (.iand, 1) := by decide +kernel
theorem dX6_packInto_43 : decode cX6_packInto 43 = .ok (.bipush 6, 2) := by decide +kernel
theorem dX6_packInto_45 : decode cX6_packInto 45 = .ok (.ishl, 1) := by decide +kernel
theorem dX6_packInto_46 : decode cX6_packInto 46 = .ok (.ior, 1) := by decide +kernel
theorem dX6_packInto_47 : decode cX6_packInto 47 = .ok (.bipush 7, 2) := by decide +kernel
theorem dX6_packInto_49 : decode cX6_packInto 49 = .ok (.iload 4, 2) := by decide +kernel
theorem dX6_packInto_51 : decode cX6_packInto 51 = .ok (.imul, 1) := by decide +kernel
theorem dX6_packInto_52 : decode cX6_packInto 52 = .ok (.ishl, 1) := by decide +kernel
theorem dX6_packInto_53 : decode cX6_packInto 53 = .ok (.ior, 1) := by decide +kernel
theorem dX6_packInto_54 : decode cX6_packInto 54 = .ok (.istore_n 3, 1) := by decide +kernel
theorem dX6_packInto_55 : decode cX6_packInto 55 = .ok (.iinc 4 1, 3) := by decide +kernel
theorem dX6_packInto_58 : decode cX6_packInto 58 = .ok (.goto (-46), 3) := by decide +kernel
theorem dX6_packInto_61 : decode cX6_packInto 61 = .ok (.aload_n 1, 1) := by decide +kernel
theorem dX6_packInto_62 : decode cX6_packInto 62 = .ok (.iload_n 2, 1) := by decide +kernel
theorem dX6_packInto_63 : decode cX6_packInto 63 = .ok (.iload_n 3, 1) := by decide +kernel
theorem dX6_packInto_64 : decode cX6_packInto 64 = .ok (.aload_n 0, 1) := by decide +kernel
theorem dX6_packInto_65 : decode cX6_packInto 65 = .ok (.getfield 21, 3) := by decide +kernel
theorem dX6_packInto_68 : decode cX6_packInto 68 = .ok (.iload_n 2, 1) := by decide +kernel
theorem dX6_packInto_69 : decode cX6_packInto 69 = .ok (.iconst 2, 1) := by decide +kernel
theorem dX6_packInto_70 : decode cX6_packInto 70 = .ok (.imul, 1) := by decide +kernel
theorem dX6_packInto_71 : decode cX6_packInto 71 = .ok (.iaload, 1) := by decide +kernel
theorem dX6_packInto_72 : decode cX6_packInto 72 = .ok (.bipush 21, 2) := by decide +kernel
theorem dX6_packInto_74 : decode cX6_packInto 74 = .ok (.ishl, 1) := by decide +kernel
theorem dX6_packInto_75 : decode cX6_packInto 75 = .ok (.ior, 1) := by decide +kernel
theorem dX6_packInto_76 : decode cX6_packInto 76 = .ok (.aload_n 0, 1) := by decide +kernel
theorem dX6_packInto_77 : decode cX6_packInto 77 = .ok (.getfield 21, 3) := by decide +kernel
theorem dX6_packInto_80 : decode cX6_packInto 80 = .ok (.iload_n 2, 1) := by decide +kernel
theorem dX6_packInto_81 : decode cX6_packInto 81 = .ok (.iconst 2, 1) := by decide +kernel
theorem dX6_packInto_82 : decode cX6_packInto 82 = .ok (.imul, 1) := by decide +kernel
theorem dX6_packInto_83 : decode cX6_packInto 83 = .ok (.iconst 1, 1) := by decide +kernel
theorem dX6_packInto_84 : decode cX6_packInto 84 = .ok (.iadd, 1) := by decide +kernel
theorem dX6_packInto_85 : decode cX6_packInto 85 = .ok (.iaload, 1) := by decide +kernel
theorem dX6_packInto_86 : decode cX6_packInto 86 = .ok (.bipush 24, 2) := by decide +kernel
theorem dX6_packInto_88 : decode cX6_packInto 88 = .ok (.ishl, 1) := by decide +kernel
theorem dX6_packInto_89 : decode cX6_packInto 89 = .ok (.ior, 1) := by decide +kernel
theorem dX6_packInto_90 : decode cX6_packInto 90 = .ok (.iastore, 1) := by decide +kernel
theorem dX6_packInto_91 : decode cX6_packInto 91 = .ok (.iinc 2 1, 3) := by decide +kernel
theorem dX6_packInto_94 : decode cX6_packInto 94 = .ok (.goto (-92), 3) := by decide +kernel
theorem dX6_packInto_97 : decode cX6_packInto 97 = .ok (.aload_n 1, 1) := by decide +kernel
theorem dX6_packInto_98 : decode cX6_packInto 98 = .ok (.iconst 2, 1) := by decide +kernel
theorem dX6_packInto_99 : decode cX6_packInto 99 = .ok (.aload_n 0, 1) := by decide +kernel
theorem dX6_packInto_100 : decode cX6_packInto 100 = .ok (.getfield 24, 3) := by decide +kernel
theorem dX6_packInto_103 : decode cX6_packInto 103 = .ok (.iconst 0, 1) := by decide +kernel
theorem dX6_packInto_104 : decode cX6_packInto 104 = .ok (.iaload, 1) := by decide +kernel
theorem dX6_packInto_105 : decode cX6_packInto 105 = .ok (.aload_n 0, 1) := by decide +kernel
theorem dX6_packInto_106 : decode cX6_packInto 106 = .ok (.getfield 24, 3) := by decide +kernel
theorem dX6_packInto_109 : decode cX6_packInto 109 = .ok (.iconst 1, 1) := by decide +kernel
theorem dX6_packInto_110 : decode cX6_packInto 110 = .ok (.iaload, 1) := by decide +kernel
theorem dX6_packInto_111 : decode cX6_packInto 111 = .ok (.bipush 9, 2) := by decide +kernel
theorem dX6_packInto_113 : decode cX6_packInto 113 = .ok (.ishl, 1) := by decide +kernel
theorem dX6_packInto_114 : decode cX6_packInto 114 = .ok (.ior, 1) := by decide +kernel
theorem dX6_packInto_115 : decode cX6_packInto 115 = .ok (.aload_n 0, 1) := by decide +kernel
theorem dX6_packInto_116 : decode cX6_packInto 116 = .ok (.getfield 24, 3) := by decide +kernel
theorem dX6_packInto_119 : decode cX6_packInto 119 = .ok (.iconst 2, 1) := by decide +kernel
theorem dX6_packInto_120 : decode cX6_packInto 120 = .ok (.iaload, 1) := by decide +kernel
theorem dX6_packInto_121 : decode cX6_packInto 121 = .ok (.bipush 18, 2) := by decide +kernel
theorem dX6_packInto_123 : decode cX6_packInto 123 = .ok (.ishl, 1) := by decide +kernel
theorem dX6_packInto_124 : decode cX6_packInto 124 = .ok (.ior, 1) := by decide +kernel
theorem dX6_packInto_125 : decode cX6_packInto 125 = .ok (.iastore, 1) := by decide +kernel
theorem dX6_packInto_126 : decode cX6_packInto 126 = .ok (.aload_n 0, 1) := by decide +kernel
theorem dX6_packInto_127 : decode cX6_packInto 127 = .ok (.getfield 9, 3) := by decide +kernel
theorem dX6_packInto_130 : decode cX6_packInto 130 = .ok (.iconst 0, 1) := by decide +kernel
theorem dX6_packInto_131 : decode cX6_packInto 131 = .ok (.aload_n 1, 1) := by decide +kernel
theorem dX6_packInto_132 : decode cX6_packInto 132 = .ok (.iconst 3, 1) := by decide +kernel
theorem dX6_packInto_133 : decode cX6_packInto 133 = .ok (.bipush 8, 2) := by decide +kernel
theorem dX6_packInto_135 : decode cX6_packInto 135 = .ok (.invokestatic 83, 3) := by decide +kernel
theorem dX6_packInto_138 : decode cX6_packInto 138 = .ok (.aload_n 0, 1) := by decide +kernel
theorem dX6_packInto_139 : decode cX6_packInto 139 = .ok (.getfield 18, 3) := by decide +kernel
theorem dX6_packInto_142 : decode cX6_packInto 142 = .ok (.iconst 0, 1) := by decide +kernel
theorem dX6_packInto_143 : decode cX6_packInto 143 = .ok (.aload_n 1, 1) := by decide +kernel
theorem dX6_packInto_144 : decode cX6_packInto 144 = .ok (.bipush 11, 2) := by decide +kernel
theorem dX6_packInto_146 : decode cX6_packInto 146 = .ok (.bipush 6, 2) := by decide +kernel
theorem dX6_packInto_148 : decode cX6_packInto 148 = .ok (.invokestatic 83, 3) := by decide +kernel
theorem dX6_packInto_151 : decode cX6_packInto 151 = .ok (.return_, 1) := by decide +kernel
set_option maxHeartbeats 4000000 in
set_option maxRecDepth 100000 in
theorem c_X6_packInto (l : Launch) (D : va_G) (T : Nat → ClassId) (h0 : Nat) (h0_cells : Nat) (h0_script : Nat) (h0_next : Nat) (h0_moved : Nat) (h0_holder : Nat) (h0_notes : Nat) (st : Nat) (f_st : Nat → Int32) (sz : Nat) : Met l yX6_packInto (WS (.code yX6_packInto cX6_packInto 6 none)) ({ frames := 4, cells := 0, slots := 0, locals := 128 } : Room) (va_Pc [.ref h0, .ref st] (PW D (TY T) [ob h0 6 [.ref h0_cells, .ref h0_script, .ref h0_next, .ref h0_moved, .ref h0_holder, .ref h0_notes, .int 1], ai T h0_cells 8 (cst 0), ai T h0_next 6 (cst 0), ai T h0_moved 6 (cst 0), ai T h0_holder 4 (cst 0), ai T h0_notes 3 (cst 0), ai T st 17 f_st] sz)) (QV (X := (Nat → Int32)) D (fun _ => True) (fun xx => [ob h0 6 [.ref h0_cells, .ref h0_script, .ref h0_next, .ref h0_moved, .ref h0_holder, .ref h0_notes, .int 1], ai T h0_cells 8 (cst 0), ai T h0_next 6 (cst 0), ai T h0_moved 6 (cst 0), ai T h0_holder 4 (cst 0), ai T h0_notes 3 (cst 0), ai T st 17 xx]) (va_A [ob h0 6 [.ref h0_cells, .ref h0_script, .ref h0_next, .ref h0_moved, .ref h0_holder, .ref h0_notes, .int 1], ai T h0_cells 8 (cst 0), ai T h0_next 6 (cst 0), ai T h0_moved 6 (cst 0), ai T h0_holder 4 (cst 0), ai T h0_notes 3 (cst 0), ai T st 17 f_st] sz)) 0 0 (va_A [ob h0 6 [.ref h0_cells, .ref h0_script, .ref h0_next, .ref h0_moved, .ref h0_holder, .ref h0_notes, .int 1], ai T h0_cells 8 (cst 0), ai T h0_next 6 (cst 0), ai T h0_moved 6 (cst 0), ai T h0_holder 4 (cst 0), ai T h0_notes 3 (cst 0), ai T st 17 f_st] sz) := by
  refine mk_met (Qc := QV (X := (Nat → Int32)) D (fun _ => True) (fun xx => [ob h0 6 [.ref h0_cells, .ref h0_script, .ref h0_next, .ref h0_moved, .ref h0_holder, .ref h0_notes, .int 1], ai T h0_cells 8 (cst 0), ai T h0_next 6 (cst 0), ai T h0_moved 6 (cst 0), ai T h0_holder 4 (cst 0), ai T h0_notes 3 (cst 0), ai T st 17 xx])) (lv := [(0, .ref h0), (1, .ref st)]) (by decide +kernel) (Nat.le_of_ble_eq_true rfl) rfl (fun p e s m below meth c A ls H locs hx hb hml hr hlocks hown hin hg hN hA hP hK hD hS hl => ?_)
  refine lv_iconst (v := 0) hx hb dX6_packInto_0 (by decide) ?_
  refine lv_istore_n (lv' := [(2, .int 0), (0, .ref h0), (1, .ref st)]) hx hb dX6_packInto_1 rfl hl (by decide) rfl (fun ls hl => ?_)
  refine lv_iload_n hx hb dX6_packInto_2 rfl (lv_at hl 0 rfl) ?_
  refine lv_iconst (v := 2) hx hb dX6_packInto_3 (by decide) ?_
  refine lv_icmp_ge (tgt := 97) hx hb dX6_packInto_4 (by decide) (fun hc => absurd hc (by decide)) (fun _ => ?_)
  refine lv_iconst (v := 0) hx hb dX6_packInto_7 (by decide) ?_
  refine lv_istore_n (lv' := [(3, .int 0), (2, .int 0), (0, .ref h0), (1, .ref st)]) hx hb dX6_packInto_8 rfl hl (by decide) rfl (fun ls hl => ?_)
  refine lv_iconst (v := 0) hx hb dX6_packInto_9 (by decide) ?_
  refine lv_istore (lv' := [(4, .int 0), (3, .int 0), (2, .int 0), (0, .ref h0), (1, .ref st)]) hx hb dX6_packInto_10 hl (by decide) rfl (fun ls hl => ?_)
  refine lv_iload hx hb dX6_packInto_12 (lv_at hl 0 rfl) ?_
  refine lv_iconst (v := 3) hx hb dX6_packInto_14 (by decide) ?_
  refine lv_icmp_ge (tgt := 61) hx hb dX6_packInto_15 (by decide) (fun hc => absurd hc (by decide)) (fun _ => ?_)
  refine lv_iload_n hx hb dX6_packInto_18 rfl (lv_at hl 2 rfl) ?_
  refine lv_iconst (v := 3) hx hb dX6_packInto_19 (by decide) ?_
  refine lv_imul hx hb dX6_packInto_20 ?_
  refine z_top (v := 0) (by decide) ?_
  refine lv_iload hx hb dX6_packInto_21 (lv_at hl 0 rfl) ?_
  refine lv_iadd hx hb dX6_packInto_23 ?_
  refine z_top (v := 0) (by decide) ?_
  refine lv_istore (lv' := [(5, .int 0), (4, .int 0), (3, .int 0), (2, .int 0), (0, .ref h0), (1, .ref st)]) hx hb dX6_packInto_24 hl (by decide) rfl (fun ls hl => ?_)
  refine lv_iload_n hx hb dX6_packInto_26 rfl (lv_at hl 2 rfl) ?_
  refine lv_aload_n hx hb dX6_packInto_27 rfl (lv_at hl 4 rfl) ?_
  refine va_get (D := D) (ci := 6) (v := .ref h0_next) (C := RX6) (T := TX6) (N := 7) hx hb hg inX6 hown hK hP 0 rfl rfl 2 (by decide) (hg _ kf_X6_15) (fun _ h9 => h9) rfl dX6_packInto_28 ?_
  refine lv_iload hx hb dX6_packInto_31 (lv_at hl 0 rfl) ?_
  refine z_iald (v := 0) (j := 0) hx hb hK hP 2 0 rfl rfl (by unfold vp_in; decide) (by decide) (by first | rfl | decide | (simp [upd, cst]; done)) dX6_packInto_33 ?_
  refine lv_aload_n hx hb dX6_packInto_34 rfl (lv_at hl 4 rfl) ?_
  refine va_get (D := D) (ci := 6) (v := .int 1) (C := RX6) (T := TX6) (N := 7) hx hb hg inX6 hown hK hP 0 rfl rfl 6 (by decide) (hg _ kf_X6_37) (fun _ h9 => h9) rfl dX6_packInto_35 ?_
  refine lv_iload hx hb dX6_packInto_38 (lv_at hl 0 rfl) ?_
  refine lv_ishr hx hb dX6_packInto_40 ?_
  refine z_top (v := 1) (by decide) ?_
  refine lv_iconst (v := 1) hx hb dX6_packInto_41 (by decide) ?_
  refine lv_iand hx hb dX6_packInto_42 ?_
  refine z_top (v := 1) (by decide) ?_
  refine lv_bipush (v := 6) hx hb dX6_packInto_43 (by decide) ?_
  refine lv_ishl hx hb dX6_packInto_45 ?_
  refine z_top (v := 64) (by decide) ?_
  refine lv_ior hx hb dX6_packInto_46 ?_
  refine z_top (v := 64) (by decide) ?_
  refine lv_bipush (v := 7) hx hb dX6_packInto_47 (by decide) ?_
  refine lv_iload hx hb dX6_packInto_49 (lv_at hl 1 rfl) ?_
  refine lv_imul hx hb dX6_packInto_51 ?_
  refine z_top (v := 0) (by decide) ?_
  refine lv_ishl hx hb dX6_packInto_52 ?_
  refine z_top (v := 64) (by decide) ?_
  refine lv_ior hx hb dX6_packInto_53 ?_
  refine z_top (v := 64) (by decide) ?_
  refine lv_istore_n (lv' := [(3, .int 64), (5, .int 0), (4, .int 0), (2, .int 0), (0, .ref h0), (1, .ref st)]) hx hb dX6_packInto_54 rfl hl (by decide) rfl (fun ls hl => ?_)
  refine lv_iinc (v := 1) (lv' := [(4, .int 1), (3, .int 64), (5, .int 0), (2, .int 0), (0, .ref h0), (1, .ref st)]) hx hb dX6_packInto_55 hl (k := 2) rfl (by decide) (by decide) rfl (fun ls hl => ?_)
  refine lv_goto (tgt := 12) hx hb dX6_packInto_58 (by decide) ?_
  refine lv_iload hx hb dX6_packInto_12 (lv_at hl 0 rfl) ?_
  refine lv_iconst (v := 3) hx hb dX6_packInto_14 (by decide) ?_
  refine lv_icmp_ge (tgt := 61) hx hb dX6_packInto_15 (by decide) (fun hc => absurd hc (by decide)) (fun _ => ?_)
  refine lv_iload_n hx hb dX6_packInto_18 rfl (lv_at hl 3 rfl) ?_
  refine lv_iconst (v := 3) hx hb dX6_packInto_19 (by decide) ?_
  refine lv_imul hx hb dX6_packInto_20 ?_
  refine z_top (v := 0) (by decide) ?_
  refine lv_iload hx hb dX6_packInto_21 (lv_at hl 0 rfl) ?_
  refine lv_iadd hx hb dX6_packInto_23 ?_
  refine z_top (v := 1) (by decide) ?_
  refine lv_istore (lv' := [(5, .int 1), (4, .int 1), (3, .int 64), (2, .int 0), (0, .ref h0), (1, .ref st)]) hx hb dX6_packInto_24 hl (by decide) rfl (fun ls hl => ?_)
  refine lv_iload_n hx hb dX6_packInto_26 rfl (lv_at hl 2 rfl) ?_
  refine lv_aload_n hx hb dX6_packInto_27 rfl (lv_at hl 4 rfl) ?_
  refine va_get (D := D) (ci := 6) (v := .ref h0_next) (C := RX6) (T := TX6) (N := 7) hx hb hg inX6 hown hK hP 0 rfl rfl 2 (by decide) (hg _ kf_X6_15) (fun _ h9 => h9) rfl dX6_packInto_28 ?_
  refine lv_iload hx hb dX6_packInto_31 (lv_at hl 0 rfl) ?_
  refine z_iald (v := 0) (j := 1) hx hb hK hP 2 0 rfl rfl (by unfold vp_in; decide) (by decide) (by first | rfl | decide | (simp [upd, cst]; done)) dX6_packInto_33 ?_
  refine lv_aload_n hx hb dX6_packInto_34 rfl (lv_at hl 4 rfl) ?_
  refine va_get (D := D) (ci := 6) (v := .int 1) (C := RX6) (T := TX6) (N := 7) hx hb hg inX6 hown hK hP 0 rfl rfl 6 (by decide) (hg _ kf_X6_37) (fun _ h9 => h9) rfl dX6_packInto_35 ?_
  refine lv_iload hx hb dX6_packInto_38 (lv_at hl 0 rfl) ?_
  refine lv_ishr hx hb dX6_packInto_40 ?_
  refine z_top (v := 0) (by decide) ?_
  refine lv_iconst (v := 1) hx hb dX6_packInto_41 (by decide) ?_
  refine lv_iand hx hb dX6_packInto_42 ?_
  refine z_top (v := 0) (by decide) ?_
  refine lv_bipush (v := 6) hx hb dX6_packInto_43 (by decide) ?_
  refine lv_ishl hx hb dX6_packInto_45 ?_
  refine z_top (v := 0) (by decide) ?_
  refine lv_ior hx hb dX6_packInto_46 ?_
  refine z_top (v := 0) (by decide) ?_
  refine lv_bipush (v := 7) hx hb dX6_packInto_47 (by decide) ?_
  refine lv_iload hx hb dX6_packInto_49 (lv_at hl 1 rfl) ?_
  refine lv_imul hx hb dX6_packInto_51 ?_
  refine z_top (v := 7) (by decide) ?_
  refine lv_ishl hx hb dX6_packInto_52 ?_
  refine z_top (v := 0) (by decide) ?_
  refine lv_ior hx hb dX6_packInto_53 ?_
  refine z_top (v := 64) (by decide) ?_
  refine lv_istore_n (lv' := [(3, .int 64), (5, .int 1), (4, .int 1), (2, .int 0), (0, .ref h0), (1, .ref st)]) hx hb dX6_packInto_54 rfl hl (by decide) rfl (fun ls hl => ?_)
  refine lv_iinc (v := 2) (lv' := [(4, .int 2), (3, .int 64), (5, .int 1), (2, .int 0), (0, .ref h0), (1, .ref st)]) hx hb dX6_packInto_55 hl (k := 2) rfl (by decide) (by decide) rfl (fun ls hl => ?_)
  refine lv_goto (tgt := 12) hx hb dX6_packInto_58 (by decide) ?_
  refine lv_iload hx hb dX6_packInto_12 (lv_at hl 0 rfl) ?_
  refine lv_iconst (v := 3) hx hb dX6_packInto_14 (by decide) ?_
  refine lv_icmp_ge (tgt := 61) hx hb dX6_packInto_15 (by decide) (fun hc => absurd hc (by decide)) (fun _ => ?_)
  refine lv_iload_n hx hb dX6_packInto_18 rfl (lv_at hl 3 rfl) ?_
  refine lv_iconst (v := 3) hx hb dX6_packInto_19 (by decide) ?_
  refine lv_imul hx hb dX6_packInto_20 ?_
  refine z_top (v := 0) (by decide) ?_
  refine lv_iload hx hb dX6_packInto_21 (lv_at hl 0 rfl) ?_
  refine lv_iadd hx hb dX6_packInto_23 ?_
  refine z_top (v := 2) (by decide) ?_
  refine lv_istore (lv' := [(5, .int 2), (4, .int 2), (3, .int 64), (2, .int 0), (0, .ref h0), (1, .ref st)]) hx hb dX6_packInto_24 hl (by decide) rfl (fun ls hl => ?_)
  refine lv_iload_n hx hb dX6_packInto_26 rfl (lv_at hl 2 rfl) ?_
  refine lv_aload_n hx hb dX6_packInto_27 rfl (lv_at hl 4 rfl) ?_
  refine va_get (D := D) (ci := 6) (v := .ref h0_next) (C := RX6) (T := TX6) (N := 7) hx hb hg inX6 hown hK hP 0 rfl rfl 2 (by decide) (hg _ kf_X6_15) (fun _ h9 => h9) rfl dX6_packInto_28 ?_
  refine lv_iload hx hb dX6_packInto_31 (lv_at hl 0 rfl) ?_
  refine z_iald (v := 0) (j := 2) hx hb hK hP 2 0 rfl rfl (by unfold vp_in; decide) (by decide) (by first | rfl | decide | (simp [upd, cst]; done)) dX6_packInto_33 ?_
  refine lv_aload_n hx hb dX6_packInto_34 rfl (lv_at hl 4 rfl) ?_
  refine va_get (D := D) (ci := 6) (v := .int 1) (C := RX6) (T := TX6) (N := 7) hx hb hg inX6 hown hK hP 0 rfl rfl 6 (by decide) (hg _ kf_X6_37) (fun _ h9 => h9) rfl dX6_packInto_35 ?_
  refine lv_iload hx hb dX6_packInto_38 (lv_at hl 0 rfl) ?_
  refine lv_ishr hx hb dX6_packInto_40 ?_
  refine z_top (v := 0) (by decide) ?_
  refine lv_iconst (v := 1) hx hb dX6_packInto_41 (by decide) ?_
  refine lv_iand hx hb dX6_packInto_42 ?_
  refine z_top (v := 0) (by decide) ?_
  refine lv_bipush (v := 6) hx hb dX6_packInto_43 (by decide) ?_
  refine lv_ishl hx hb dX6_packInto_45 ?_
  refine z_top (v := 0) (by decide) ?_
  refine lv_ior hx hb dX6_packInto_46 ?_
  refine z_top (v := 0) (by decide) ?_
  refine lv_bipush (v := 7) hx hb dX6_packInto_47 (by decide) ?_
  refine lv_iload hx hb dX6_packInto_49 (lv_at hl 1 rfl) ?_
  refine lv_imul hx hb dX6_packInto_51 ?_
  refine z_top (v := 14) (by decide) ?_
  refine lv_ishl hx hb dX6_packInto_52 ?_
  refine z_top (v := 0) (by decide) ?_
  refine lv_ior hx hb dX6_packInto_53 ?_
  refine z_top (v := 64) (by decide) ?_
  refine lv_istore_n (lv' := [(3, .int 64), (5, .int 2), (4, .int 2), (2, .int 0), (0, .ref h0), (1, .ref st)]) hx hb dX6_packInto_54 rfl hl (by decide) rfl (fun ls hl => ?_)
  refine lv_iinc (v := 3) (lv' := [(4, .int 3), (3, .int 64), (5, .int 2), (2, .int 0), (0, .ref h0), (1, .ref st)]) hx hb dX6_packInto_55 hl (k := 2) rfl (by decide) (by decide) rfl (fun ls hl => ?_)
  refine lv_goto (tgt := 12) hx hb dX6_packInto_58 (by decide) ?_
  refine lv_iload hx hb dX6_packInto_12 (lv_at hl 0 rfl) ?_
  refine lv_iconst (v := 3) hx hb dX6_packInto_14 (by decide) ?_
  refine lv_icmp_ge (tgt := 61) hx hb dX6_packInto_15 (by decide) (fun _ => ?_) (fun hc => absurd (by decide) hc)
  refine lv_aload_n hx hb dX6_packInto_61 rfl (lv_at hl 5 rfl) ?_
  refine lv_iload_n hx hb dX6_packInto_62 rfl (lv_at hl 3 rfl) ?_
  refine lv_iload_n hx hb dX6_packInto_63 rfl (lv_at hl 1 rfl) ?_
  refine lv_aload_n hx hb dX6_packInto_64 rfl (lv_at hl 4 rfl) ?_
  refine va_get (D := D) (ci := 6) (v := .ref h0_holder) (C := RX6) (T := TX6) (N := 7) hx hb hg inX6 hown hK hP 0 rfl rfl 4 (by decide) (hg _ kf_X6_21) (fun _ h9 => h9) rfl dX6_packInto_65 ?_
  refine lv_iload_n hx hb dX6_packInto_68 rfl (lv_at hl 3 rfl) ?_
  refine lv_iconst (v := 2) hx hb dX6_packInto_69 (by decide) ?_
  refine lv_imul hx hb dX6_packInto_70 ?_
  refine z_top (v := 0) (by decide) ?_
  refine z_iald (v := 0) (j := 0) hx hb hK hP 4 0 rfl rfl (by unfold vp_in; decide) (by decide) (by first | rfl | decide | (simp [upd, cst]; done)) dX6_packInto_71 ?_
  refine lv_bipush (v := 21) hx hb dX6_packInto_72 (by decide) ?_
  refine lv_ishl hx hb dX6_packInto_74 ?_
  refine z_top (v := 0) (by decide) ?_
  refine lv_ior hx hb dX6_packInto_75 ?_
  refine z_top (v := 64) (by decide) ?_
  refine lv_aload_n hx hb dX6_packInto_76 rfl (lv_at hl 4 rfl) ?_
  refine va_get (D := D) (ci := 6) (v := .ref h0_holder) (C := RX6) (T := TX6) (N := 7) hx hb hg inX6 hown hK hP 0 rfl rfl 4 (by decide) (hg _ kf_X6_21) (fun _ h9 => h9) rfl dX6_packInto_77 ?_
  refine lv_iload_n hx hb dX6_packInto_80 rfl (lv_at hl 3 rfl) ?_
  refine lv_iconst (v := 2) hx hb dX6_packInto_81 (by decide) ?_
  refine lv_imul hx hb dX6_packInto_82 ?_
  refine z_top (v := 0) (by decide) ?_
  refine lv_iconst (v := 1) hx hb dX6_packInto_83 (by decide) ?_
  refine lv_iadd hx hb dX6_packInto_84 ?_
  refine z_top (v := 1) (by decide) ?_
  refine z_iald (v := 0) (j := 1) hx hb hK hP 4 0 rfl rfl (by unfold vp_in; decide) (by decide) (by first | rfl | decide | (simp [upd, cst]; done)) dX6_packInto_85 ?_
  refine lv_bipush (v := 24) hx hb dX6_packInto_86 (by decide) ?_
  refine lv_ishl hx hb dX6_packInto_88 ?_
  refine z_top (v := 0) (by decide) ?_
  refine lv_ior hx hb dX6_packInto_89 ?_
  refine z_top (v := 64) (by decide) ?_
  refine z_iast (g := upd f_st 0 64) (j := 0) hx hb hK hP hD hS 6 0 rfl rfl (by unfold vp_in; decide) (by decide) rfl dX6_packInto_90 (fun H locs hP hD hS => ?_)
  have hP : va_P D vwCl [ob h0 6 [.ref h0_cells, .ref h0_script, .ref h0_next, .ref h0_moved, .ref h0_holder, .ref h0_notes, .int 1], ai T h0_cells 8 (cst 0), ai T h0_next 6 (cst 0), ai T h0_moved 6 (cst 0), ai T h0_holder 4 (cst 0), ai T h0_notes 3 (cst 0), ai T st 17 (upd f_st 0 64)] H := hP
  have hD : va_D A [ob h0 6 [.ref h0_cells, .ref h0_script, .ref h0_next, .ref h0_moved, .ref h0_holder, .ref h0_notes, .int 1], ai T h0_cells 8 (cst 0), ai T h0_next 6 (cst 0), ai T h0_moved 6 (cst 0), ai T h0_holder 4 (cst 0), ai T h0_notes 3 (cst 0), ai T st 17 (upd f_st 0 64)] := hD
  obtain ⟨f1, ef1⟩ : ∃ z : Nat → Int32, z = upd f_st 0 64 := ⟨_, rfl⟩
  rw [← ef1] at hP hD
  refine lv_iinc (v := 1) (lv' := [(2, .int 1), (4, .int 3), (3, .int 64), (5, .int 2), (0, .ref h0), (1, .ref st)]) hx hb dX6_packInto_91 hl (k := 3) rfl (by decide) (by decide) rfl (fun ls hl => ?_)
  refine lv_goto (tgt := 2) hx hb dX6_packInto_94 (by decide) ?_
  refine lv_iload_n hx hb dX6_packInto_2 rfl (lv_at hl 0 rfl) ?_
  refine lv_iconst (v := 2) hx hb dX6_packInto_3 (by decide) ?_
  refine lv_icmp_ge (tgt := 97) hx hb dX6_packInto_4 (by decide) (fun hc => absurd hc (by decide)) (fun _ => ?_)
  refine lv_iconst (v := 0) hx hb dX6_packInto_7 (by decide) ?_
  refine lv_istore_n (lv' := [(3, .int 0), (2, .int 1), (4, .int 3), (5, .int 2), (0, .ref h0), (1, .ref st)]) hx hb dX6_packInto_8 rfl hl (by decide) rfl (fun ls hl => ?_)
  refine lv_iconst (v := 0) hx hb dX6_packInto_9 (by decide) ?_
  refine lv_istore (lv' := [(4, .int 0), (3, .int 0), (2, .int 1), (5, .int 2), (0, .ref h0), (1, .ref st)]) hx hb dX6_packInto_10 hl (by decide) rfl (fun ls hl => ?_)
  refine lv_iload hx hb dX6_packInto_12 (lv_at hl 0 rfl) ?_
  refine lv_iconst (v := 3) hx hb dX6_packInto_14 (by decide) ?_
  refine lv_icmp_ge (tgt := 61) hx hb dX6_packInto_15 (by decide) (fun hc => absurd hc (by decide)) (fun _ => ?_)
  refine lv_iload_n hx hb dX6_packInto_18 rfl (lv_at hl 2 rfl) ?_
  refine lv_iconst (v := 3) hx hb dX6_packInto_19 (by decide) ?_
  refine lv_imul hx hb dX6_packInto_20 ?_
  refine z_top (v := 3) (by decide) ?_
  refine lv_iload hx hb dX6_packInto_21 (lv_at hl 0 rfl) ?_
  refine lv_iadd hx hb dX6_packInto_23 ?_
  refine z_top (v := 3) (by decide) ?_
  refine lv_istore (lv' := [(5, .int 3), (4, .int 0), (3, .int 0), (2, .int 1), (0, .ref h0), (1, .ref st)]) hx hb dX6_packInto_24 hl (by decide) rfl (fun ls hl => ?_)
  refine lv_iload_n hx hb dX6_packInto_26 rfl (lv_at hl 2 rfl) ?_
  refine lv_aload_n hx hb dX6_packInto_27 rfl (lv_at hl 4 rfl) ?_
  refine va_get (D := D) (ci := 6) (v := .ref h0_next) (C := RX6) (T := TX6) (N := 7) hx hb hg inX6 hown hK hP 0 rfl rfl 2 (by decide) (hg _ kf_X6_15) (fun _ h9 => h9) rfl dX6_packInto_28 ?_
  refine lv_iload hx hb dX6_packInto_31 (lv_at hl 0 rfl) ?_
  refine z_iald (v := 0) (j := 3) hx hb hK hP 2 0 rfl rfl (by unfold vp_in; decide) (by decide) (by first | rfl | decide | (simp [upd, cst]; done)) dX6_packInto_33 ?_
  refine lv_aload_n hx hb dX6_packInto_34 rfl (lv_at hl 4 rfl) ?_
  refine va_get (D := D) (ci := 6) (v := .int 1) (C := RX6) (T := TX6) (N := 7) hx hb hg inX6 hown hK hP 0 rfl rfl 6 (by decide) (hg _ kf_X6_37) (fun _ h9 => h9) rfl dX6_packInto_35 ?_
  refine lv_iload hx hb dX6_packInto_38 (lv_at hl 0 rfl) ?_
  refine lv_ishr hx hb dX6_packInto_40 ?_
  refine z_top (v := 0) (by decide) ?_
  refine lv_iconst (v := 1) hx hb dX6_packInto_41 (by decide) ?_
  refine lv_iand hx hb dX6_packInto_42 ?_
  refine z_top (v := 0) (by decide) ?_
  refine lv_bipush (v := 6) hx hb dX6_packInto_43 (by decide) ?_
  refine lv_ishl hx hb dX6_packInto_45 ?_
  refine z_top (v := 0) (by decide) ?_
  refine lv_ior hx hb dX6_packInto_46 ?_
  refine z_top (v := 0) (by decide) ?_
  refine lv_bipush (v := 7) hx hb dX6_packInto_47 (by decide) ?_
  refine lv_iload hx hb dX6_packInto_49 (lv_at hl 1 rfl) ?_
  refine lv_imul hx hb dX6_packInto_51 ?_
  refine z_top (v := 0) (by decide) ?_
  refine lv_ishl hx hb dX6_packInto_52 ?_
  refine z_top (v := 0) (by decide) ?_
  refine lv_ior hx hb dX6_packInto_53 ?_
  refine z_top (v := 0) (by decide) ?_
  refine lv_istore_n (lv' := [(3, .int 0), (5, .int 3), (4, .int 0), (2, .int 1), (0, .ref h0), (1, .ref st)]) hx hb dX6_packInto_54 rfl hl (by decide) rfl (fun ls hl => ?_)
  refine lv_iinc (v := 1) (lv' := [(4, .int 1), (3, .int 0), (5, .int 3), (2, .int 1), (0, .ref h0), (1, .ref st)]) hx hb dX6_packInto_55 hl (k := 2) rfl (by decide) (by decide) rfl (fun ls hl => ?_)
  refine lv_goto (tgt := 12) hx hb dX6_packInto_58 (by decide) ?_
  refine lv_iload hx hb dX6_packInto_12 (lv_at hl 0 rfl) ?_
  refine lv_iconst (v := 3) hx hb dX6_packInto_14 (by decide) ?_
  refine lv_icmp_ge (tgt := 61) hx hb dX6_packInto_15 (by decide) (fun hc => absurd hc (by decide)) (fun _ => ?_)
  refine lv_iload_n hx hb dX6_packInto_18 rfl (lv_at hl 3 rfl) ?_
  refine lv_iconst (v := 3) hx hb dX6_packInto_19 (by decide) ?_
  refine lv_imul hx hb dX6_packInto_20 ?_
  refine z_top (v := 3) (by decide) ?_
  refine lv_iload hx hb dX6_packInto_21 (lv_at hl 0 rfl) ?_
  refine lv_iadd hx hb dX6_packInto_23 ?_
  refine z_top (v := 4) (by decide) ?_
  refine lv_istore (lv' := [(5, .int 4), (4, .int 1), (3, .int 0), (2, .int 1), (0, .ref h0), (1, .ref st)]) hx hb dX6_packInto_24 hl (by decide) rfl (fun ls hl => ?_)
  refine lv_iload_n hx hb dX6_packInto_26 rfl (lv_at hl 2 rfl) ?_
  refine lv_aload_n hx hb dX6_packInto_27 rfl (lv_at hl 4 rfl) ?_
  refine va_get (D := D) (ci := 6) (v := .ref h0_next) (C := RX6) (T := TX6) (N := 7) hx hb hg inX6 hown hK hP 0 rfl rfl 2 (by decide) (hg _ kf_X6_15) (fun _ h9 => h9) rfl dX6_packInto_28 ?_
  refine lv_iload hx hb dX6_packInto_31 (lv_at hl 0 rfl) ?_
  refine z_iald (v := 0) (j := 4) hx hb hK hP 2 0 rfl rfl (by unfold vp_in; decide) (by decide) (by first | rfl | decide | (simp [upd, cst]; done)) dX6_packInto_33 ?_
  refine lv_aload_n hx hb dX6_packInto_34 rfl (lv_at hl 4 rfl) ?_
  refine va_get (D := D) (ci := 6) (v := .int 1) (C := RX6) (T := TX6) (N := 7) hx hb hg inX6 hown hK hP 0 rfl rfl 6 (by decide) (hg _ kf_X6_37) (fun _ h9 => h9) rfl dX6_packInto_35 ?_
  refine lv_iload hx hb dX6_packInto_38 (lv_at hl 0 rfl) ?_
  refine lv_ishr hx hb dX6_packInto_40 ?_
  refine z_top (v := 0) (by decide) ?_
  refine lv_iconst (v := 1) hx hb dX6_packInto_41 (by decide) ?_
  refine lv_iand hx hb dX6_packInto_42 ?_
  refine z_top (v := 0) (by decide) ?_
  refine lv_bipush (v := 6) hx hb dX6_packInto_43 (by decide) ?_
  refine lv_ishl hx hb dX6_packInto_45 ?_
  refine z_top (v := 0) (by decide) ?_
  refine lv_ior hx hb dX6_packInto_46 ?_
  refine z_top (v := 0) (by decide) ?_
  refine lv_bipush (v := 7) hx hb dX6_packInto_47 (by decide) ?_
  refine lv_iload hx hb dX6_packInto_49 (lv_at hl 1 rfl) ?_
  refine lv_imul hx hb dX6_packInto_51 ?_
  refine z_top (v := 7) (by decide) ?_
  refine lv_ishl hx hb dX6_packInto_52 ?_
  refine z_top (v := 0) (by decide) ?_
  refine lv_ior hx hb dX6_packInto_53 ?_
  refine z_top (v := 0) (by decide) ?_
  refine lv_istore_n (lv' := [(3, .int 0), (5, .int 4), (4, .int 1), (2, .int 1), (0, .ref h0), (1, .ref st)]) hx hb dX6_packInto_54 rfl hl (by decide) rfl (fun ls hl => ?_)
  refine lv_iinc (v := 2) (lv' := [(4, .int 2), (3, .int 0), (5, .int 4), (2, .int 1), (0, .ref h0), (1, .ref st)]) hx hb dX6_packInto_55 hl (k := 2) rfl (by decide) (by decide) rfl (fun ls hl => ?_)
  refine lv_goto (tgt := 12) hx hb dX6_packInto_58 (by decide) ?_
  refine lv_iload hx hb dX6_packInto_12 (lv_at hl 0 rfl) ?_
  refine lv_iconst (v := 3) hx hb dX6_packInto_14 (by decide) ?_
  refine lv_icmp_ge (tgt := 61) hx hb dX6_packInto_15 (by decide) (fun hc => absurd hc (by decide)) (fun _ => ?_)
  refine lv_iload_n hx hb dX6_packInto_18 rfl (lv_at hl 3 rfl) ?_
  refine lv_iconst (v := 3) hx hb dX6_packInto_19 (by decide) ?_
  refine lv_imul hx hb dX6_packInto_20 ?_
  refine z_top (v := 3) (by decide) ?_
  refine lv_iload hx hb dX6_packInto_21 (lv_at hl 0 rfl) ?_
  refine lv_iadd hx hb dX6_packInto_23 ?_
  refine z_top (v := 5) (by decide) ?_
  refine lv_istore (lv' := [(5, .int 5), (4, .int 2), (3, .int 0), (2, .int 1), (0, .ref h0), (1, .ref st)]) hx hb dX6_packInto_24 hl (by decide) rfl (fun ls hl => ?_)
  refine lv_iload_n hx hb dX6_packInto_26 rfl (lv_at hl 2 rfl) ?_
  refine lv_aload_n hx hb dX6_packInto_27 rfl (lv_at hl 4 rfl) ?_
  refine va_get (D := D) (ci := 6) (v := .ref h0_next) (C := RX6) (T := TX6) (N := 7) hx hb hg inX6 hown hK hP 0 rfl rfl 2 (by decide) (hg _ kf_X6_15) (fun _ h9 => h9) rfl dX6_packInto_28 ?_
  refine lv_iload hx hb dX6_packInto_31 (lv_at hl 0 rfl) ?_
  refine z_iald (v := 0) (j := 5) hx hb hK hP 2 0 rfl rfl (by unfold vp_in; decide) (by decide) (by first | rfl | decide | (simp [upd, cst]; done)) dX6_packInto_33 ?_
  refine lv_aload_n hx hb dX6_packInto_34 rfl (lv_at hl 4 rfl) ?_
  refine va_get (D := D) (ci := 6) (v := .int 1) (C := RX6) (T := TX6) (N := 7) hx hb hg inX6 hown hK hP 0 rfl rfl 6 (by decide) (hg _ kf_X6_37) (fun _ h9 => h9) rfl dX6_packInto_35 ?_
  refine lv_iload hx hb dX6_packInto_38 (lv_at hl 0 rfl) ?_
  refine lv_ishr hx hb dX6_packInto_40 ?_
  refine z_top (v := 0) (by decide) ?_
  refine lv_iconst (v := 1) hx hb dX6_packInto_41 (by decide) ?_
  refine lv_iand hx hb dX6_packInto_42 ?_
  refine z_top (v := 0) (by decide) ?_
  refine lv_bipush (v := 6) hx hb dX6_packInto_43 (by decide) ?_
  refine lv_ishl hx hb dX6_packInto_45 ?_
  refine z_top (v := 0) (by decide) ?_
  refine lv_ior hx hb dX6_packInto_46 ?_
  refine z_top (v := 0) (by decide) ?_
  refine lv_bipush (v := 7) hx hb dX6_packInto_47 (by decide) ?_
  refine lv_iload hx hb dX6_packInto_49 (lv_at hl 1 rfl) ?_
  refine lv_imul hx hb dX6_packInto_51 ?_
  refine z_top (v := 14) (by decide) ?_
  refine lv_ishl hx hb dX6_packInto_52 ?_
  refine z_top (v := 0) (by decide) ?_
  refine lv_ior hx hb dX6_packInto_53 ?_
  refine z_top (v := 0) (by decide) ?_
  refine lv_istore_n (lv' := [(3, .int 0), (5, .int 5), (4, .int 2), (2, .int 1), (0, .ref h0), (1, .ref st)]) hx hb dX6_packInto_54 rfl hl (by decide) rfl (fun ls hl => ?_)
  refine lv_iinc (v := 3) (lv' := [(4, .int 3), (3, .int 0), (5, .int 5), (2, .int 1), (0, .ref h0), (1, .ref st)]) hx hb dX6_packInto_55 hl (k := 2) rfl (by decide) (by decide) rfl (fun ls hl => ?_)
  refine lv_goto (tgt := 12) hx hb dX6_packInto_58 (by decide) ?_
  refine lv_iload hx hb dX6_packInto_12 (lv_at hl 0 rfl) ?_
  refine lv_iconst (v := 3) hx hb dX6_packInto_14 (by decide) ?_
  refine lv_icmp_ge (tgt := 61) hx hb dX6_packInto_15 (by decide) (fun _ => ?_) (fun hc => absurd (by decide) hc)
  refine lv_aload_n hx hb dX6_packInto_61 rfl (lv_at hl 5 rfl) ?_
  refine lv_iload_n hx hb dX6_packInto_62 rfl (lv_at hl 3 rfl) ?_
  refine lv_iload_n hx hb dX6_packInto_63 rfl (lv_at hl 1 rfl) ?_
  refine lv_aload_n hx hb dX6_packInto_64 rfl (lv_at hl 4 rfl) ?_
  refine va_get (D := D) (ci := 6) (v := .ref h0_holder) (C := RX6) (T := TX6) (N := 7) hx hb hg inX6 hown hK hP 0 rfl rfl 4 (by decide) (hg _ kf_X6_21) (fun _ h9 => h9) rfl dX6_packInto_65 ?_
  refine lv_iload_n hx hb dX6_packInto_68 rfl (lv_at hl 3 rfl) ?_
  refine lv_iconst (v := 2) hx hb dX6_packInto_69 (by decide) ?_
  refine lv_imul hx hb dX6_packInto_70 ?_
  refine z_top (v := 2) (by decide) ?_
  refine z_iald (v := 0) (j := 2) hx hb hK hP 4 0 rfl rfl (by unfold vp_in; decide) (by decide) (by first | rfl | decide | (simp [upd, cst]; done)) dX6_packInto_71 ?_
  refine lv_bipush (v := 21) hx hb dX6_packInto_72 (by decide) ?_
  refine lv_ishl hx hb dX6_packInto_74 ?_
  refine z_top (v := 0) (by decide) ?_
  refine lv_ior hx hb dX6_packInto_75 ?_
  refine z_top (v := 0) (by decide) ?_
  refine lv_aload_n hx hb dX6_packInto_76 rfl (lv_at hl 4 rfl) ?_
  refine va_get (D := D) (ci := 6) (v := .ref h0_holder) (C := RX6) (T := TX6) (N := 7) hx hb hg inX6 hown hK hP 0 rfl rfl 4 (by decide) (hg _ kf_X6_21) (fun _ h9 => h9) rfl dX6_packInto_77 ?_
  refine lv_iload_n hx hb dX6_packInto_80 rfl (lv_at hl 3 rfl) ?_
  refine lv_iconst (v := 2) hx hb dX6_packInto_81 (by decide) ?_
  refine lv_imul hx hb dX6_packInto_82 ?_
  refine z_top (v := 2) (by decide) ?_
  refine lv_iconst (v := 1) hx hb dX6_packInto_83 (by decide) ?_
  refine lv_iadd hx hb dX6_packInto_84 ?_
  refine z_top (v := 3) (by decide) ?_
  refine z_iald (v := 0) (j := 3) hx hb hK hP 4 0 rfl rfl (by unfold vp_in; decide) (by decide) (by first | rfl | decide | (simp [upd, cst]; done)) dX6_packInto_85 ?_
  refine lv_bipush (v := 24) hx hb dX6_packInto_86 (by decide) ?_
  refine lv_ishl hx hb dX6_packInto_88 ?_
  refine z_top (v := 0) (by decide) ?_
  refine lv_ior hx hb dX6_packInto_89 ?_
  refine z_top (v := 0) (by decide) ?_
  refine z_iast (g := upd f1 1 0) (j := 1) hx hb hK hP hD hS 6 0 rfl rfl (by unfold vp_in; decide) (by decide) rfl dX6_packInto_90 (fun H locs hP hD hS => ?_)
  have hP : va_P D vwCl [ob h0 6 [.ref h0_cells, .ref h0_script, .ref h0_next, .ref h0_moved, .ref h0_holder, .ref h0_notes, .int 1], ai T h0_cells 8 (cst 0), ai T h0_next 6 (cst 0), ai T h0_moved 6 (cst 0), ai T h0_holder 4 (cst 0), ai T h0_notes 3 (cst 0), ai T st 17 (upd f1 1 0)] H := hP
  have hD : va_D A [ob h0 6 [.ref h0_cells, .ref h0_script, .ref h0_next, .ref h0_moved, .ref h0_holder, .ref h0_notes, .int 1], ai T h0_cells 8 (cst 0), ai T h0_next 6 (cst 0), ai T h0_moved 6 (cst 0), ai T h0_holder 4 (cst 0), ai T h0_notes 3 (cst 0), ai T st 17 (upd f1 1 0)] := hD
  obtain ⟨f2, ef2⟩ : ∃ z : Nat → Int32, z = upd f1 1 0 := ⟨_, rfl⟩
  rw [← ef2] at hP hD
  refine lv_iinc (v := 2) (lv' := [(2, .int 2), (4, .int 3), (3, .int 0), (5, .int 5), (0, .ref h0), (1, .ref st)]) hx hb dX6_packInto_91 hl (k := 3) rfl (by decide) (by decide) rfl (fun ls hl => ?_)
  refine lv_goto (tgt := 2) hx hb dX6_packInto_94 (by decide) ?_
  refine lv_iload_n hx hb dX6_packInto_2 rfl (lv_at hl 0 rfl) ?_
  refine lv_iconst (v := 2) hx hb dX6_packInto_3 (by decide) ?_
  refine lv_icmp_ge (tgt := 97) hx hb dX6_packInto_4 (by decide) (fun _ => ?_) (fun hc => absurd (by decide) hc)
  refine lv_aload_n hx hb dX6_packInto_97 rfl (lv_at hl 5 rfl) ?_
  refine lv_iconst (v := 2) hx hb dX6_packInto_98 (by decide) ?_
  refine lv_aload_n hx hb dX6_packInto_99 rfl (lv_at hl 4 rfl) ?_
  refine va_get (D := D) (ci := 6) (v := .ref h0_notes) (C := RX6) (T := TX6) (N := 7) hx hb hg inX6 hown hK hP 0 rfl rfl 5 (by decide) (hg _ kf_X6_24) (fun _ h9 => h9) rfl dX6_packInto_100 ?_
  refine lv_iconst (v := 0) hx hb dX6_packInto_103 (by decide) ?_
  refine z_iald (v := 0) (j := 0) hx hb hK hP 5 0 rfl rfl (by unfold vp_in; decide) (by decide) (by first | rfl | decide | (simp [upd, cst]; done)) dX6_packInto_104 ?_
  refine lv_aload_n hx hb dX6_packInto_105 rfl (lv_at hl 4 rfl) ?_
  refine va_get (D := D) (ci := 6) (v := .ref h0_notes) (C := RX6) (T := TX6) (N := 7) hx hb hg inX6 hown hK hP 0 rfl rfl 5 (by decide) (hg _ kf_X6_24) (fun _ h9 => h9) rfl dX6_packInto_106 ?_
  refine lv_iconst (v := 1) hx hb dX6_packInto_109 (by decide) ?_
  refine z_iald (v := 0) (j := 1) hx hb hK hP 5 0 rfl rfl (by unfold vp_in; decide) (by decide) (by first | rfl | decide | (simp [upd, cst]; done)) dX6_packInto_110 ?_
  refine lv_bipush (v := 9) hx hb dX6_packInto_111 (by decide) ?_
  refine lv_ishl hx hb dX6_packInto_113 ?_
  refine z_top (v := 0) (by decide) ?_
  refine lv_ior hx hb dX6_packInto_114 ?_
  refine z_top (v := 0) (by decide) ?_
  refine lv_aload_n hx hb dX6_packInto_115 rfl (lv_at hl 4 rfl) ?_
  refine va_get (D := D) (ci := 6) (v := .ref h0_notes) (C := RX6) (T := TX6) (N := 7) hx hb hg inX6 hown hK hP 0 rfl rfl 5 (by decide) (hg _ kf_X6_24) (fun _ h9 => h9) rfl dX6_packInto_116 ?_
  refine lv_iconst (v := 2) hx hb dX6_packInto_119 (by decide) ?_
  refine z_iald (v := 0) (j := 2) hx hb hK hP 5 0 rfl rfl (by unfold vp_in; decide) (by decide) (by first | rfl | decide | (simp [upd, cst]; done)) dX6_packInto_120 ?_
  refine lv_bipush (v := 18) hx hb dX6_packInto_121 (by decide) ?_
  refine lv_ishl hx hb dX6_packInto_123 ?_
  refine z_top (v := 0) (by decide) ?_
  refine lv_ior hx hb dX6_packInto_124 ?_
  refine z_top (v := 0) (by decide) ?_
  refine z_iast (g := upd f2 2 0) (j := 2) hx hb hK hP hD hS 6 0 rfl rfl (by unfold vp_in; decide) (by decide) rfl dX6_packInto_125 (fun H locs hP hD hS => ?_)
  have hP : va_P D vwCl [ob h0 6 [.ref h0_cells, .ref h0_script, .ref h0_next, .ref h0_moved, .ref h0_holder, .ref h0_notes, .int 1], ai T h0_cells 8 (cst 0), ai T h0_next 6 (cst 0), ai T h0_moved 6 (cst 0), ai T h0_holder 4 (cst 0), ai T h0_notes 3 (cst 0), ai T st 17 (upd f2 2 0)] H := hP
  have hD : va_D A [ob h0 6 [.ref h0_cells, .ref h0_script, .ref h0_next, .ref h0_moved, .ref h0_holder, .ref h0_notes, .int 1], ai T h0_cells 8 (cst 0), ai T h0_next 6 (cst 0), ai T h0_moved 6 (cst 0), ai T h0_holder 4 (cst 0), ai T h0_notes 3 (cst 0), ai T st 17 (upd f2 2 0)] := hD
  obtain ⟨f3, ef3⟩ : ∃ z : Nat → Int32, z = upd f2 2 0 := ⟨_, rfl⟩
  rw [← ef3] at hP hD
  refine lv_aload_n hx hb dX6_packInto_126 rfl (lv_at hl 4 rfl) ?_
  refine va_get (D := D) (ci := 6) (v := .ref h0_cells) (C := RX6) (T := TX6) (N := 7) hx hb hg inX6 hown hK hP 0 rfl rfl 0 (by decide) (hg _ kf_X6_9) (fun _ h9 => h9) rfl dX6_packInto_127 ?_
  refine lv_iconst (v := 0) hx hb dX6_packInto_130 (by decide) ?_
  refine lv_aload_n hx hb dX6_packInto_131 rfl (lv_at hl 5 rfl) ?_
  refine lv_iconst (v := 3) hx hb dX6_packInto_132 (by decide) ?_
  refine lv_bipush (v := 8) hx hb dX6_packInto_133 (by decide) ?_
  refine va_copyi (ty := .int) hx hb (by rw [hml]; exact hl.1.symm) hown (hg _ km_X6_83) (hg _ kv_arraycopy) (hg _ kt_arraycopy) (hg _ kz_J10) hK hP hD hS 1 6 0 0 rfl rfl rfl rfl rfl (by decide) (by decide) (by decide) (Nat.le_of_ble_eq_true rfl) (Nat.le_of_ble_eq_true rfl) (fun _ _ => rfl) (Nat.le_of_ble_eq_true rfl) (Nat.le_of_ble_eq_true rfl) dX6_packInto_135 (fun H locs hP hD hS => ?_)
  have hP : va_P D vwCl [ob h0 6 [.ref h0_cells, .ref h0_script, .ref h0_next, .ref h0_moved, .ref h0_holder, .ref h0_notes, .int 1], ai T h0_cells 8 (cst 0), ai T h0_next 6 (cst 0), ai T h0_moved 6 (cst 0), ai T h0_holder 4 (cst 0), ai T h0_notes 3 (cst 0), ai T st 17 (va_cpy (cst 0) f3 ((0 : Int32)).toNatClampNeg ((3 : Int32)).toNatClampNeg ((8 : Int32)).toNatClampNeg)] H := hP
  have hD : va_D A [ob h0 6 [.ref h0_cells, .ref h0_script, .ref h0_next, .ref h0_moved, .ref h0_holder, .ref h0_notes, .int 1], ai T h0_cells 8 (cst 0), ai T h0_next 6 (cst 0), ai T h0_moved 6 (cst 0), ai T h0_holder 4 (cst 0), ai T h0_notes 3 (cst 0), ai T st 17 (va_cpy (cst 0) f3 ((0 : Int32)).toNatClampNeg ((3 : Int32)).toNatClampNeg ((8 : Int32)).toNatClampNeg)] := hD
  obtain ⟨f4, ef4⟩ : ∃ z : Nat → Int32, z = va_cpy (cst 0) f3 ((0 : Int32)).toNatClampNeg ((3 : Int32)).toNatClampNeg ((8 : Int32)).toNatClampNeg := ⟨_, rfl⟩
  rw [← ef4] at hP hD
  refine lv_aload_n hx hb dX6_packInto_138 rfl (lv_at hl 4 rfl) ?_
  refine va_get (D := D) (ci := 6) (v := .ref h0_moved) (C := RX6) (T := TX6) (N := 7) hx hb hg inX6 hown hK hP 0 rfl rfl 3 (by decide) (hg _ kf_X6_18) (fun _ h9 => h9) rfl dX6_packInto_139 ?_
  refine lv_iconst (v := 0) hx hb dX6_packInto_142 (by decide) ?_
  refine lv_aload_n hx hb dX6_packInto_143 rfl (lv_at hl 5 rfl) ?_
  refine lv_bipush (v := 11) hx hb dX6_packInto_144 (by decide) ?_
  refine lv_bipush (v := 6) hx hb dX6_packInto_146 (by decide) ?_
  refine va_copyi (ty := .int) hx hb (by rw [hml]; exact hl.1.symm) hown (hg _ km_X6_83) (hg _ kv_arraycopy) (hg _ kt_arraycopy) (hg _ kz_J10) hK hP hD hS 3 6 0 0 rfl rfl rfl rfl rfl (by decide) (by decide) (by decide) (Nat.le_of_ble_eq_true rfl) (Nat.le_of_ble_eq_true rfl) (fun _ _ => rfl) (Nat.le_of_ble_eq_true rfl) (Nat.le_of_ble_eq_true rfl) dX6_packInto_148 (fun H locs hP hD hS => ?_)
  have hP : va_P D vwCl [ob h0 6 [.ref h0_cells, .ref h0_script, .ref h0_next, .ref h0_moved, .ref h0_holder, .ref h0_notes, .int 1], ai T h0_cells 8 (cst 0), ai T h0_next 6 (cst 0), ai T h0_moved 6 (cst 0), ai T h0_holder 4 (cst 0), ai T h0_notes 3 (cst 0), ai T st 17 (va_cpy (cst 0) f4 ((0 : Int32)).toNatClampNeg ((11 : Int32)).toNatClampNeg ((6 : Int32)).toNatClampNeg)] H := hP
  have hD : va_D A [ob h0 6 [.ref h0_cells, .ref h0_script, .ref h0_next, .ref h0_moved, .ref h0_holder, .ref h0_notes, .int 1], ai T h0_cells 8 (cst 0), ai T h0_next 6 (cst 0), ai T h0_moved 6 (cst 0), ai T h0_holder 4 (cst 0), ai T h0_notes 3 (cst 0), ai T st 17 (va_cpy (cst 0) f4 ((0 : Int32)).toNatClampNeg ((11 : Int32)).toNatClampNeg ((6 : Int32)).toNatClampNeg)] := hD
  obtain ⟨f5, ef5⟩ : ∃ z : Nat → Int32, z = va_cpy (cst 0) f4 ((0 : Int32)).toNatClampNeg ((11 : Int32)).toNatClampNeg ((6 : Int32)).toNatClampNeg := ⟨_, rfl⟩
  rw [← ef5] at hP hD
  exact ret_v (X := (Nat → Int32)) (f5) hx hb hr hlocks hP hD hS [0, 1, 2, 3, 4, 5, 6] (by decide) rfl trivial dX6_packInto_151
theorem dX6_unpack_0 : decode cX6_unpack 0 = .ok (.aload_n 0, 1) := by decide +kernel
theorem dX6_unpack_1 : decode cX6_unpack 1 = .ok (.iconst 0, 1) := by decide +kernel
theorem dX6_unpack_2 : decode cX6_unpack 2 = .ok (.putfield 37, 3) := by decide +kernel
theorem dX6_unpack_5 : decode cX6_unpack 5 = .ok (.iconst 0, 1) := by decide +kernel
theorem dX6_unpack_6 : decode cX6_unpack 6 = .ok (.istore_n 2, 1) := by decide +kernel
theorem dX6_unpack_7 : decode cX6_unpack 7 = .ok (.iload_n 2, 1) := by decide +kernel
theorem dX6_unpack_8 : decode cX6_unpack 8 = .ok (.iconst 2, 1) := by decide +kernel
theorem dX6_unpack_9 : decode cX6_unpack 9 = .ok (.if_icmp .ge 109, 3) := by decide +kernel
theorem dX6_unpack_12 : decode cX6_unpack 12 = .ok (.aload_n 1, 1) := by decide +kernel
theorem dX6_unpack_13 : decode cX6_unpack 13 = .ok (.iload_n 2, 1) := by decide +kernel
theorem dX6_unpack_14 : decode cX6_unpack 14 = .ok (.iaload, 1) := by decide +kernel
theorem dX6_unpack_15 : decode cX6_unpack 15 = .ok (.istore_n 3, 1) := by decide +kernel
theorem dX6_unpack_16 : decode cX6_unpack 16 = .ok (.iconst 0, 1) := by decide +kernel
theorem dX6_unpack_17 : decode cX6_unpack 17 = .ok (.istore 4, 2) := by decide +kernel
theorem dX6_unpack_19 : decode cX6_unpack 19 = .ok (.iload 4, 2) := by decide +kernel
theorem dX6_unpack_21 : decode cX6_unpack 21 = .ok (.iconst 3, 1) := by decide +kernel
theorem dX6_unpack_22 : decode cX6_unpack 22 = .ok (.if_icmp .ge 58, 3) := by decide +kernel
theorem dX6_unpack_25 : decode cX6_unpack 25 = .ok (.iload_n 2, 1) := by decide +kernel
theorem dX6_unpack_26 : decode cX6_unpack 26 = .ok (.iconst 3, 1) := by decide +kernel
theorem dX6_unpack_27 : decode cX6_unpack 27 = .ok (.imul, 1) := by decide +kernel
theorem dX6_unpack_28 : decode cX6_unpack 28 = .ok (.iload 4, 2) := by decide +kernel
theorem dX6_unpack_30 : decode cX6_unpack 30 = .ok (.iadd, 1) := by decide +kernel
theorem dX6_unpack_31 : decode cX6_unpack 31 = .ok (.istore 5, 2) := by decide +kernel
theorem dX6_unpack_33 : decode cX6_unpack 33 = .ok (.aload_n 0, 1) := by decide +kernel
theorem dX6_unpack_34 : decode cX6_unpack 34 = .ok (.getfield 15, 3) := by decide +kernel
theorem dX6_unpack_37 : decode cX6_unpack 37 = .ok (.iload 5, 2) := by decide +kernel
theorem dX6_unpack_39 : decode cX6_unpack 39 = .ok (.iload_n 3, 1) := by decide +kernel
theorem dX6_unpack_40 : decode cX6_unpack 40 = .ok (.bipush 7, 2) := by decide +kernel
theorem dX6_unpack_42 : decode cX6_unpack 42 = .ok (.iload 4, 2) := by decide +kernel
theorem dX6_unpack_44 : decode cX6_unpack 44 = .ok (.imul, 1) := by decide +kernel
theorem dX6_unpack_45 : decode cX6_unpack 45 = .ok (.ishr, 1) := by decide +kernel
theorem dX6_unpack_46 : decode cX6_unpack 46 = .ok (.bipush 63, 2) := by decide +kernel
theorem dX6_unpack_48 : decode cX6_unpack 48 = .ok (.iand, 1) := by decide +kernel
theorem dX6_unpack_49 : decode cX6_unpack 49 = .ok (.iastore, 1) := by decide +kernel
theorem dX6_unpack_50 : decode cX6_unpack 50 = .ok (.aload_n 0, 1) := by decide +kernel
theorem dX6_unpack_51 : decode cX6_unpack 51 = .ok (.dup, 1) := by decide +kernel
theorem dX6_unpack_52 : decode cX6_unpack 52 = .ok (.getfield 37, 3) := by decide +kernel
theorem dX6_unpack_55 : decode cX6_unpack 55 = .ok (.iload_n 3, 1) := by decide +kernel
theorem dX6_unpack_56 : decode cX6_unpack 56 = .ok (.bipush 7, 2) := by decide +kernel
theorem dX6_unpack_58 : decode cX6_unpack 58 = .ok (.iload 4, 2) := by decide +kernel
theorem dX6_unpack_60 : decode cX6_unpack 60 = .ok (.imul, 1) := by decide +kernel
theorem dX6_unpack_61 : decode cX6_unpack 61 = .ok (.bipush 6, 2) := by decide +kernel
theorem dX6_unpack_63 : decode cX6_unpack 63 = .ok (.iadd, 1) := by decide +kernel
theorem dX6_unpack_64 : decode cX6_unpack 64 = .ok (.ishr, 1) := by decide +kernel
theorem dX6_unpack_65 : decode cX6_unpack 65 = .ok (.iconst 1, 1) := by decide +kernel
theorem dX6_unpack_66 : decode cX6_unpack 66 = .ok (.iand, 1) := by decide +kernel
theorem dX6_unpack_67 : decode cX6_unpack 67 = .ok (.iload 5, 2) := by decide +kernel
theorem dX6_unpack_69 : decode cX6_unpack 69 = .ok (.ishl, 1) := by decide +kernel
theorem dX6_unpack_70 : decode cX6_unpack 70 = .ok (.ior, 1) := by decide +kernel
theorem dX6_unpack_71 : decode cX6_unpack 71 = .ok (.putfield 37, 3) := by decide +kernel
theorem dX6_unpack_74 : decode cX6_unpack 74 = .ok (.iinc 4 1, 3) := by decide +kernel
theorem dX6_unpack_77 : decode cX6_unpack 77 = .ok (.goto (-58), 3) := by decide +kernel
theorem dX6_unpack_80 : decode cX6_unpack 80 = .ok (.aload_n 0, 1) := by decide +kernel
theorem dX6_unpack_81 : decode cX6_unpack 81 = .ok (.getfield 21, 3) := by decide +kernel
theorem dX6_unpack_84 : decode cX6_unpack 84 = .ok (.iload_n 2, 1) := by decide +kernel
theorem dX6_unpack_85 : decode cX6_unpack 85 = .ok (.iconst 2, 1) := by decide +kernel
theorem dX6_unpack_86 : decode cX6_unpack 86 = .ok (.imul, 1) := by decide +kernel
theorem dX6_unpack_87 : decode cX6_unpack 87 = .ok (.iload_n 3, 1) := by decide +kernel
theorem dX6_unpack_88 : decode cX6_unpack 88 = .ok (.bipush 21, 2) := by decide +kernel
theorem dX6_unpack_90 : decode cX6_unpack 90 = .ok (.ishr, 1) := by decide +kernel
theorem dX6_unpack_91 : decode cX6_unpack 91 = .ok (.bipush 7, 2) := by decide +kernel
theorem dX6_unpack_93 : decode cX6_unpack 93 = .ok (.iand, 1) := by decide +kernel
theorem dX6_unpack_94 : decode cX6_unpack 94 = .ok (.iastore, 1) := by decide +kernel
theorem dX6_unpack_95 : decode cX6_unpack 95 = .ok (.aload_n 0, 1) := by decide +kernel
theorem dX6_unpack_96 : decode cX6_unpack 96 = .ok (.getfield 21, 3) := by decide +kernel
theorem dX6_unpack_99 : decode cX6_unpack 99 = .ok (.iload_n 2, 1) := by decide +kernel
theorem dX6_unpack_100 : decode cX6_unpack 100 = .ok (.iconst 2, 1) := by decide +kernel
theorem dX6_unpack_101 : decode cX6_unpack 101 = .ok (.imul, 1) := by decide +kernel
theorem dX6_unpack_102 : decode cX6_unpack 102 = .ok (.iconst 1, 1) := by decide +kernel
theorem dX6_unpack_103 : decode cX6_unpack 103 = .ok (.iadd, 1) := by decide +kernel
theorem dX6_unpack_104 : decode cX6_unpack 104 = .ok (.iload_n 3, 1) := by decide +kernel
theorem dX6_unpack_105 : decode cX6_unpack 105 = .ok (.bipush 24, 2) := by decide +kernel
theorem dX6_unpack_107 : decode cX6_unpack 107 = .ok (.ishr, 1) := by decide +kernel
theorem dX6_unpack_108 : decode cX6_unpack 108 = .ok (.bipush 7, 2) := by decide +kernel
theorem dX6_unpack_110 : decode cX6_unpack 110 = .ok (.iand, 1) := by decide +kernel
theorem dX6_unpack_111 : decode cX6_unpack 111 = .ok (.iastore, 1) := by decide +kernel
theorem dX6_unpack_112 : decode cX6_unpack 112 = .ok (.iinc 2 1, 3) := by decide +kernel
theorem dX6_unpack_115 : decode cX6_unpack 115 = .ok (.goto (-108), 3) := by decide +kernel
theorem dX6_unpack_118 : decode cX6_unpack 118 = .ok (.iconst 0, 1) := by decide +kernel
theorem dX6_unpack_119 : decode cX6_unpack 119 = .ok (.istore_n 2, 1) := by decide +kernel
theorem dX6_unpack_120 : decode cX6_unpack 120 = .ok (.iload_n 2, 1) := by decide +kernel
theorem dX6_unpack_121 : decode cX6_unpack 121 = .ok (.iconst 3, 1) := by decide +kernel
theorem dX6_unpack_122 : decode cX6_unpack 122 = .ok (.if_icmp .ge 27, 3) := by decide +kernel
theorem dX6_unpack_125 : decode cX6_unpack 125 = .ok (.aload_n 0, 1) := by decide +kernel
theorem dX6_unpack_126 : decode cX6_unpack 126 = .ok (.getfield 24, 3) := by decide +kernel
theorem dX6_unpack_129 : decode cX6_unpack 129 = .ok (.iload_n 2, 1) := by decide +kernel
theorem dX6_unpack_130 : decode cX6_unpack 130 = .ok (.aload_n 1, 1) := by decide +kernel
theorem dX6_unpack_131 : decode cX6_unpack 131 = .ok (.iconst 2, 1) := by decide +kernel
theorem dX6_unpack_132 : decode cX6_unpack 132 = .ok (.iaload, 1) := by decide +kernel
theorem dX6_unpack_133 : decode cX6_unpack 133 = .ok (.bipush 9, 2) := by decide +kernel
theorem dX6_unpack_135 : decode cX6_unpack 135 = .ok (.iload_n 2, 1) := by decide +kernel
theorem dX6_unpack_136 : decode cX6_unpack 136 = .ok (.imul, 1) := by decide +kernel
theorem dX6_unpack_137 : decode cX6_unpack 137 = .ok (.ishr, 1) := by decide +kernel
theorem dX6_unpack_138 : decode cX6_unpack 138 = .ok (.sipush 511, 3) := by decide +kernel
theorem dX6_unpack_141 : decode cX6_unpack 141 = .ok (.iand, 1) := by decide +kernel
theorem dX6_unpack_142 : decode cX6_unpack 142 = .ok (.iastore, 1) := by decide +kernel
theorem dX6_unpack_143 : decode cX6_unpack 143 = .ok (.iinc 2 1, 3) := by decide +kernel
theorem dX6_unpack_146 : decode cX6_unpack 146 = .ok (.goto (-26), 3) := by decide +kernel
theorem dX6_unpack_149 : decode cX6_unpack 149 = .ok (.aload_n 1, 1) := by decide +kernel
theorem dX6_unpack_150 : decode cX6_unpack 150 = .ok (.iconst 3, 1) := by decide +kernel
theorem dX6_unpack_151 : decode cX6_unpack 151 = .ok (.aload_n 0, 1) := by decide +kernel
theorem dX6_unpack_152 : decode cX6_unpack 152 = .ok (.getfield 9, 3) := by decide +kernel
theorem dX6_unpack_155 : decode cX6_unpack 155 = .ok (.iconst 0, 1) := by decide +kernel
theorem dX6_unpack_156 : decode cX6_unpack 156 = .ok (.bipush 8, 2) := by decide +kernel
theorem dX6_unpack_158 : decode cX6_unpack 158 = .ok (.invokestatic 83, 3) := by decide +kernel
theorem dX6_unpack_161 : decode cX6_unpack 161 = .ok (.aload_n 1, 1) := by decide +kernel
theorem dX6_unpack_162 : decode cX6_unpack 162 = .ok (.bipush 11, 2) := by decide +kernel
theorem dX6_unpack_164 : decode cX6_unpack 164 = .ok (.aload_n 0, 1) := by decide +kernel
theorem dX6_unpack_165 : decode cX6_unpack 165 = .ok (.getfield 18, 3) := by decide +kernel
theorem dX6_unpack_168 : decode cX6_unpack 168 = .ok (.iconst 0, 1) := by decide +kernel
theorem dX6_unpack_169 : decode cX6_unpack 169 = .ok (.bipush 6, 2) := by decide +kernel
theorem dX6_unpack_171 : decode cX6_unpack 171 = .ok (.invokestatic 83, 3) := by decide +kernel
theorem dX6_unpack_174 : decode cX6_unpack 174 = .ok (.return_, 1) := by decide +kernel
set_option maxHeartbeats 4000000 in
set_option maxRecDepth 100000 in
theorem c_X6_unpack (l : Launch) (D : va_G) (T : Nat → ClassId) (h0 : Nat) (h0_cells : Nat) (h0_script : Nat) (h0_next : Nat) (h0_moved : Nat) (h0_holder : Nat) (h0_notes : Nat) (h0_started : Int32) (f_h0_cells : Nat → Int32) (f_h0_next : Nat → Int32) (f_h0_moved : Nat → Int32) (f_h0_holder : Nat → Int32) (f_h0_notes : Nat → Int32) (st : Nat) (f_st : Nat → Int32) (sz : Nat) : Met l yX6_unpack (WS (.code yX6_unpack cX6_unpack 6 none)) ({ frames := 4, cells := 0, slots := 0, locals := 128 } : Room) (va_Pc [.ref h0, .ref st] (PW D (TY T) [ob h0 6 [.ref h0_cells, .ref h0_script, .ref h0_next, .ref h0_moved, .ref h0_holder, .ref h0_notes, .int h0_started], ai T h0_cells 8 f_h0_cells, ai T h0_next 6 f_h0_next, ai T h0_moved 6 f_h0_moved, ai T h0_holder 4 f_h0_holder, ai T h0_notes 3 f_h0_notes, ai T st 17 f_st] sz)) (QV (X := (Nat → Int32) × Int32 × (Nat → Int32) × (Nat → Int32) × (Nat → Int32) × (Nat → Int32)) D (fun _ => True) (fun xx => [ob h0 6 [.ref h0_cells, .ref h0_script, .ref h0_next, .ref h0_moved, .ref h0_holder, .ref h0_notes, .int (xx.2.1)], ai T h0_cells 8 (xx.2.2.2.2.1), ai T h0_next 6 (xx.1), ai T h0_moved 6 (xx.2.2.2.2.2), ai T h0_holder 4 (xx.2.2.1), ai T h0_notes 3 (xx.2.2.2.1), ai T st 17 f_st]) (va_A [ob h0 6 [.ref h0_cells, .ref h0_script, .ref h0_next, .ref h0_moved, .ref h0_holder, .ref h0_notes, .int h0_started], ai T h0_cells 8 f_h0_cells, ai T h0_next 6 f_h0_next, ai T h0_moved 6 f_h0_moved, ai T h0_holder 4 f_h0_holder, ai T h0_notes 3 f_h0_notes, ai T st 17 f_st] sz)) 0 0 (va_A [ob h0 6 [.ref h0_cells, .ref h0_script, .ref h0_next, .ref h0_moved, .ref h0_holder, .ref h0_notes, .int h0_started], ai T h0_cells 8 f_h0_cells, ai T h0_next 6 f_h0_next, ai T h0_moved 6 f_h0_moved, ai T h0_holder 4 f_h0_holder, ai T h0_notes 3 f_h0_notes, ai T st 17 f_st] sz) := by
  refine mk_met (Qc := QV (X := (Nat → Int32) × Int32 × (Nat → Int32) × (Nat → Int32) × (Nat → Int32) × (Nat → Int32)) D (fun _ => True) (fun xx => [ob h0 6 [.ref h0_cells, .ref h0_script, .ref h0_next, .ref h0_moved, .ref h0_holder, .ref h0_notes, .int (xx.2.1)], ai T h0_cells 8 (xx.2.2.2.2.1), ai T h0_next 6 (xx.1), ai T h0_moved 6 (xx.2.2.2.2.2), ai T h0_holder 4 (xx.2.2.1), ai T h0_notes 3 (xx.2.2.2.1), ai T st 17 f_st])) (lv := [(0, .ref h0), (1, .ref st)]) (by decide +kernel) (Nat.le_of_ble_eq_true rfl) rfl (fun p e s m below meth c A ls H locs hx hb hml hr hlocks hown hin hg hN hA hP hK hD hS hl => ?_)
  refine lv_aload_n hx hb dX6_unpack_0 rfl (lv_at hl 0 rfl) ?_
  refine lv_iconst (v := 0) hx hb dX6_unpack_1 (by decide) ?_
  refine va_put (D := D) (ci := 6) (v := .int 0) (ty := .int) (C := RX6) (T := TX6) (N := 7) hx hb hg inX6 tyX6 tyX6_ok nmX6 hown hK hP hD hS 0 rfl rfl 6 (by decide) (hg _ kf_X6_37) (fun _ h9 => h9) rfl (by decide +kernel) rfl rfl (Nat.le_of_ble_eq_true rfl) dX6_unpack_2 (fun H locs hP hD hS => ?_)
  have hP : va_P D vwCl [ob h0 6 [.ref h0_cells, .ref h0_script, .ref h0_next, .ref h0_moved, .ref h0_holder, .ref h0_notes, .int 0], ai T h0_cells 8 f_h0_cells, ai T h0_next 6 f_h0_next, ai T h0_moved 6 f_h0_moved, ai T h0_holder 4 f_h0_holder, ai T h0_notes 3 f_h0_notes, ai T st 17 f_st] H := hP
  have hD : va_D A [ob h0 6 [.ref h0_cells, .ref h0_script, .ref h0_next, .ref h0_moved, .ref h0_holder, .ref h0_notes, .int 0], ai T h0_cells 8 f_h0_cells, ai T h0_next 6 f_h0_next, ai T h0_moved 6 f_h0_moved, ai T h0_holder 4 f_h0_holder, ai T h0_notes 3 f_h0_notes, ai T st 17 f_st] := hD
  refine lv_iconst (v := 0) hx hb dX6_unpack_5 (by decide) ?_
  refine lv_istore_n (lv' := [(2, .int 0), (0, .ref h0), (1, .ref st)]) hx hb dX6_unpack_6 rfl hl (by decide) rfl (fun ls hl => ?_)
  refine lv_iload_n hx hb dX6_unpack_7 rfl (lv_at hl 0 rfl) ?_
  refine lv_iconst (v := 2) hx hb dX6_unpack_8 (by decide) ?_
  refine lv_icmp_ge (tgt := 118) hx hb dX6_unpack_9 (by decide) (fun hc => absurd hc (by decide)) (fun _ => ?_)
  refine lv_aload_n hx hb dX6_unpack_12 rfl (lv_at hl 2 rfl) ?_
  refine lv_iload_n hx hb dX6_unpack_13 rfl (lv_at hl 0 rfl) ?_
  refine z_iald (v := (f_st 0)) (j := 0) hx hb hK hP 6 0 rfl rfl (by unfold vp_in; decide) (by decide) rfl dX6_unpack_14 ?_
  refine lv_istore_n (lv' := [(3, .int (f_st 0)), (2, .int 0), (0, .ref h0), (1, .ref st)]) hx hb dX6_unpack_15 rfl hl (by decide) rfl (fun ls hl => ?_)
  refine lv_iconst (v := 0) hx hb dX6_unpack_16 (by decide) ?_
  refine lv_istore (lv' := [(4, .int 0), (3, .int (f_st 0)), (2, .int 0), (0, .ref h0), (1, .ref st)]) hx hb dX6_unpack_17 hl (by decide) rfl (fun ls hl => ?_)
  refine lv_iload hx hb dX6_unpack_19 (lv_at hl 0 rfl) ?_
  refine lv_iconst (v := 3) hx hb dX6_unpack_21 (by decide) ?_
  refine lv_icmp_ge (tgt := 80) hx hb dX6_unpack_22 (by decide) (fun hc => absurd hc (by decide)) (fun _ => ?_)
  refine lv_iload_n hx hb dX6_unpack_25 rfl (lv_at hl 2 rfl) ?_
  refine lv_iconst (v := 3) hx hb dX6_unpack_26 (by decide) ?_
  refine lv_imul hx hb dX6_unpack_27 ?_
  refine z_top (v := 0) (by decide) ?_
  refine lv_iload hx hb dX6_unpack_28 (lv_at hl 0 rfl) ?_
  refine lv_iadd hx hb dX6_unpack_30 ?_
  refine z_top (v := 0) (by decide) ?_
  refine lv_istore (lv' := [(5, .int 0), (4, .int 0), (3, .int (f_st 0)), (2, .int 0), (0, .ref h0), (1, .ref st)]) hx hb dX6_unpack_31 hl (by decide) rfl (fun ls hl => ?_)
  refine lv_aload_n hx hb dX6_unpack_33 rfl (lv_at hl 4 rfl) ?_
  refine va_get (D := D) (ci := 6) (v := .ref h0_next) (C := RX6) (T := TX6) (N := 7) hx hb hg inX6 hown hK hP 0 rfl rfl 2 (by decide) (hg _ kf_X6_15) (fun _ h9 => h9) rfl dX6_unpack_34 ?_
  refine lv_iload hx hb dX6_unpack_37 (lv_at hl 0 rfl) ?_
  refine lv_iload_n hx hb dX6_unpack_39 rfl (lv_at hl 2 rfl) ?_
  refine lv_bipush (v := 7) hx hb dX6_unpack_40 (by decide) ?_
  refine lv_iload hx hb dX6_unpack_42 (lv_at hl 1 rfl) ?_
  refine lv_imul hx hb dX6_unpack_44 ?_
  refine z_top (v := 0) (by decide) ?_
  refine lv_ishr hx hb dX6_unpack_45 ?_
  refine lv_topi (fun v1 _ => ?_)
  refine lv_bipush (v := 63) hx hb dX6_unpack_46 (by decide) ?_
  refine lv_iand hx hb dX6_unpack_48 ?_
  refine lv_topi (fun v2 _ => ?_)
  refine z_iast (g := upd f_h0_next 0 v2) (j := 0) hx hb hK hP hD hS 2 0 rfl rfl (by unfold vp_in; decide) (by decide) rfl dX6_unpack_49 (fun H locs hP hD hS => ?_)
  have hP : va_P D vwCl [ob h0 6 [.ref h0_cells, .ref h0_script, .ref h0_next, .ref h0_moved, .ref h0_holder, .ref h0_notes, .int 0], ai T h0_cells 8 f_h0_cells, ai T h0_next 6 (upd f_h0_next 0 v2), ai T h0_moved 6 f_h0_moved, ai T h0_holder 4 f_h0_holder, ai T h0_notes 3 f_h0_notes, ai T st 17 f_st] H := hP
  have hD : va_D A [ob h0 6 [.ref h0_cells, .ref h0_script, .ref h0_next, .ref h0_moved, .ref h0_holder, .ref h0_notes, .int 0], ai T h0_cells 8 f_h0_cells, ai T h0_next 6 (upd f_h0_next 0 v2), ai T h0_moved 6 f_h0_moved, ai T h0_holder 4 f_h0_holder, ai T h0_notes 3 f_h0_notes, ai T st 17 f_st] := hD
  obtain ⟨f3, ef3⟩ : ∃ z : Nat → Int32, z = upd f_h0_next 0 v2 := ⟨_, rfl⟩
  rw [← ef3] at hP hD
  refine lv_aload_n hx hb dX6_unpack_50 rfl (lv_at hl 4 rfl) ?_
  refine lv_dup hx hb dX6_unpack_51 rfl ?_
  refine va_get (D := D) (ci := 6) (v := .int 0) (C := RX6) (T := TX6) (N := 7) hx hb hg inX6 hown hK hP 0 rfl rfl 6 (by decide) (hg _ kf_X6_37) (fun _ h9 => h9) rfl dX6_unpack_52 ?_
  refine lv_iload_n hx hb dX6_unpack_55 rfl (lv_at hl 2 rfl) ?_
  refine lv_bipush (v := 7) hx hb dX6_unpack_56 (by decide) ?_
  refine lv_iload hx hb dX6_unpack_58 (lv_at hl 1 rfl) ?_
  refine lv_imul hx hb dX6_unpack_60 ?_
  refine z_top (v := 0) (by decide) ?_
  refine lv_bipush (v := 6) hx hb dX6_unpack_61 (by decide) ?_
  refine lv_iadd hx hb dX6_unpack_63 ?_
  refine z_top (v := 6) (by decide) ?_
  refine lv_ishr hx hb dX6_unpack_64 ?_
  refine lv_topi (fun v4 _ => ?_)
  refine lv_iconst (v := 1) hx hb dX6_unpack_65 (by decide) ?_
  refine lv_iand hx hb dX6_unpack_66 ?_
  refine lv_topi (fun v5 _ => ?_)
  refine lv_iload hx hb dX6_unpack_67 (lv_at hl 0 rfl) ?_
  refine lv_ishl hx hb dX6_unpack_69 ?_
  refine lv_topi (fun v6 _ => ?_)
  refine lv_ior hx hb dX6_unpack_70 ?_
  refine lv_topi (fun v7 _ => ?_)
  refine va_put (D := D) (ci := 6) (v := .int v7) (ty := .int) (C := RX6) (T := TX6) (N := 7) hx hb hg inX6 tyX6 tyX6_ok nmX6 hown hK hP hD hS 0 rfl rfl 6 (by decide) (hg _ kf_X6_37) (fun _ h9 => h9) rfl (by decide +kernel) rfl rfl (Nat.le_of_ble_eq_true rfl) dX6_unpack_71 (fun H locs hP hD hS => ?_)
  have hP : va_P D vwCl [ob h0 6 [.ref h0_cells, .ref h0_script, .ref h0_next, .ref h0_moved, .ref h0_holder, .ref h0_notes, .int v7], ai T h0_cells 8 f_h0_cells, ai T h0_next 6 f3, ai T h0_moved 6 f_h0_moved, ai T h0_holder 4 f_h0_holder, ai T h0_notes 3 f_h0_notes, ai T st 17 f_st] H := hP
  have hD : va_D A [ob h0 6 [.ref h0_cells, .ref h0_script, .ref h0_next, .ref h0_moved, .ref h0_holder, .ref h0_notes, .int v7], ai T h0_cells 8 f_h0_cells, ai T h0_next 6 f3, ai T h0_moved 6 f_h0_moved, ai T h0_holder 4 f_h0_holder, ai T h0_notes 3 f_h0_notes, ai T st 17 f_st] := hD
  refine lv_iinc (v := 1) (lv' := [(4, .int 1), (5, .int 0), (3, .int (f_st 0)), (2, .int 0), (0, .ref h0), (1, .ref st)]) hx hb dX6_unpack_74 hl (k := 1) rfl (by decide) (by decide) rfl (fun ls hl => ?_)
  refine lv_goto (tgt := 19) hx hb dX6_unpack_77 (by decide) ?_
  refine lv_iload hx hb dX6_unpack_19 (lv_at hl 0 rfl) ?_
  refine lv_iconst (v := 3) hx hb dX6_unpack_21 (by decide) ?_
  refine lv_icmp_ge (tgt := 80) hx hb dX6_unpack_22 (by decide) (fun hc => absurd hc (by decide)) (fun _ => ?_)
  refine lv_iload_n hx hb dX6_unpack_25 rfl (lv_at hl 3 rfl) ?_
  refine lv_iconst (v := 3) hx hb dX6_unpack_26 (by decide) ?_
  refine lv_imul hx hb dX6_unpack_27 ?_
  refine z_top (v := 0) (by decide) ?_
  refine lv_iload hx hb dX6_unpack_28 (lv_at hl 0 rfl) ?_
  refine lv_iadd hx hb dX6_unpack_30 ?_
  refine z_top (v := 1) (by decide) ?_
  refine lv_istore (lv' := [(5, .int 1), (4, .int 1), (3, .int (f_st 0)), (2, .int 0), (0, .ref h0), (1, .ref st)]) hx hb dX6_unpack_31 hl (by decide) rfl (fun ls hl => ?_)
  refine lv_aload_n hx hb dX6_unpack_33 rfl (lv_at hl 4 rfl) ?_
  refine va_get (D := D) (ci := 6) (v := .ref h0_next) (C := RX6) (T := TX6) (N := 7) hx hb hg inX6 hown hK hP 0 rfl rfl 2 (by decide) (hg _ kf_X6_15) (fun _ h9 => h9) rfl dX6_unpack_34 ?_
  refine lv_iload hx hb dX6_unpack_37 (lv_at hl 0 rfl) ?_
  refine lv_iload_n hx hb dX6_unpack_39 rfl (lv_at hl 2 rfl) ?_
  refine lv_bipush (v := 7) hx hb dX6_unpack_40 (by decide) ?_
  refine lv_iload hx hb dX6_unpack_42 (lv_at hl 1 rfl) ?_
  refine lv_imul hx hb dX6_unpack_44 ?_
  refine z_top (v := 7) (by decide) ?_
  refine lv_ishr hx hb dX6_unpack_45 ?_
  refine lv_topi (fun v8 _ => ?_)
  refine lv_bipush (v := 63) hx hb dX6_unpack_46 (by decide) ?_
  refine lv_iand hx hb dX6_unpack_48 ?_
  refine lv_topi (fun v9 _ => ?_)
  refine z_iast (g := upd f3 1 v9) (j := 1) hx hb hK hP hD hS 2 0 rfl rfl (by unfold vp_in; decide) (by decide) rfl dX6_unpack_49 (fun H locs hP hD hS => ?_)
  have hP : va_P D vwCl [ob h0 6 [.ref h0_cells, .ref h0_script, .ref h0_next, .ref h0_moved, .ref h0_holder, .ref h0_notes, .int v7], ai T h0_cells 8 f_h0_cells, ai T h0_next 6 (upd f3 1 v9), ai T h0_moved 6 f_h0_moved, ai T h0_holder 4 f_h0_holder, ai T h0_notes 3 f_h0_notes, ai T st 17 f_st] H := hP
  have hD : va_D A [ob h0 6 [.ref h0_cells, .ref h0_script, .ref h0_next, .ref h0_moved, .ref h0_holder, .ref h0_notes, .int v7], ai T h0_cells 8 f_h0_cells, ai T h0_next 6 (upd f3 1 v9), ai T h0_moved 6 f_h0_moved, ai T h0_holder 4 f_h0_holder, ai T h0_notes 3 f_h0_notes, ai T st 17 f_st] := hD
  obtain ⟨f10, ef10⟩ : ∃ z : Nat → Int32, z = upd f3 1 v9 := ⟨_, rfl⟩
  rw [← ef10] at hP hD
  refine lv_aload_n hx hb dX6_unpack_50 rfl (lv_at hl 4 rfl) ?_
  refine lv_dup hx hb dX6_unpack_51 rfl ?_
  refine va_get (D := D) (ci := 6) (v := .int v7) (C := RX6) (T := TX6) (N := 7) hx hb hg inX6 hown hK hP 0 rfl rfl 6 (by decide) (hg _ kf_X6_37) (fun _ h9 => h9) rfl dX6_unpack_52 ?_
  refine lv_iload_n hx hb dX6_unpack_55 rfl (lv_at hl 2 rfl) ?_
  refine lv_bipush (v := 7) hx hb dX6_unpack_56 (by decide) ?_
  refine lv_iload hx hb dX6_unpack_58 (lv_at hl 1 rfl) ?_
  refine lv_imul hx hb dX6_unpack_60 ?_
  refine z_top (v := 7) (by decide) ?_
  refine lv_bipush (v := 6) hx hb dX6_unpack_61 (by decide) ?_
  refine lv_iadd hx hb dX6_unpack_63 ?_
  refine z_top (v := 13) (by decide) ?_
  refine lv_ishr hx hb dX6_unpack_64 ?_
  refine lv_topi (fun v11 _ => ?_)
  refine lv_iconst (v := 1) hx hb dX6_unpack_65 (by decide) ?_
  refine lv_iand hx hb dX6_unpack_66 ?_
  refine lv_topi (fun v12 _ => ?_)
  refine lv_iload hx hb dX6_unpack_67 (lv_at hl 0 rfl) ?_
  refine lv_ishl hx hb dX6_unpack_69 ?_
  refine lv_topi (fun v13 _ => ?_)
  refine lv_ior hx hb dX6_unpack_70 ?_
  refine lv_topi (fun v14 _ => ?_)
  refine va_put (D := D) (ci := 6) (v := .int v14) (ty := .int) (C := RX6) (T := TX6) (N := 7) hx hb hg inX6 tyX6 tyX6_ok nmX6 hown hK hP hD hS 0 rfl rfl 6 (by decide) (hg _ kf_X6_37) (fun _ h9 => h9) rfl (by decide +kernel) rfl rfl (Nat.le_of_ble_eq_true rfl) dX6_unpack_71 (fun H locs hP hD hS => ?_)
  have hP : va_P D vwCl [ob h0 6 [.ref h0_cells, .ref h0_script, .ref h0_next, .ref h0_moved, .ref h0_holder, .ref h0_notes, .int v14], ai T h0_cells 8 f_h0_cells, ai T h0_next 6 f10, ai T h0_moved 6 f_h0_moved, ai T h0_holder 4 f_h0_holder, ai T h0_notes 3 f_h0_notes, ai T st 17 f_st] H := hP
  have hD : va_D A [ob h0 6 [.ref h0_cells, .ref h0_script, .ref h0_next, .ref h0_moved, .ref h0_holder, .ref h0_notes, .int v14], ai T h0_cells 8 f_h0_cells, ai T h0_next 6 f10, ai T h0_moved 6 f_h0_moved, ai T h0_holder 4 f_h0_holder, ai T h0_notes 3 f_h0_notes, ai T st 17 f_st] := hD
  refine lv_iinc (v := 2) (lv' := [(4, .int 2), (5, .int 1), (3, .int (f_st 0)), (2, .int 0), (0, .ref h0), (1, .ref st)]) hx hb dX6_unpack_74 hl (k := 1) rfl (by decide) (by decide) rfl (fun ls hl => ?_)
  refine lv_goto (tgt := 19) hx hb dX6_unpack_77 (by decide) ?_
  refine lv_iload hx hb dX6_unpack_19 (lv_at hl 0 rfl) ?_
  refine lv_iconst (v := 3) hx hb dX6_unpack_21 (by decide) ?_
  refine lv_icmp_ge (tgt := 80) hx hb dX6_unpack_22 (by decide) (fun hc => absurd hc (by decide)) (fun _ => ?_)
  refine lv_iload_n hx hb dX6_unpack_25 rfl (lv_at hl 3 rfl) ?_
  refine lv_iconst (v := 3) hx hb dX6_unpack_26 (by decide) ?_
  refine lv_imul hx hb dX6_unpack_27 ?_
  refine z_top (v := 0) (by decide) ?_
  refine lv_iload hx hb dX6_unpack_28 (lv_at hl 0 rfl) ?_
  refine lv_iadd hx hb dX6_unpack_30 ?_
  refine z_top (v := 2) (by decide) ?_
  refine lv_istore (lv' := [(5, .int 2), (4, .int 2), (3, .int (f_st 0)), (2, .int 0), (0, .ref h0), (1, .ref st)]) hx hb dX6_unpack_31 hl (by decide) rfl (fun ls hl => ?_)
  refine lv_aload_n hx hb dX6_unpack_33 rfl (lv_at hl 4 rfl) ?_
  refine va_get (D := D) (ci := 6) (v := .ref h0_next) (C := RX6) (T := TX6) (N := 7) hx hb hg inX6 hown hK hP 0 rfl rfl 2 (by decide) (hg _ kf_X6_15) (fun _ h9 => h9) rfl dX6_unpack_34 ?_
  refine lv_iload hx hb dX6_unpack_37 (lv_at hl 0 rfl) ?_
  refine lv_iload_n hx hb dX6_unpack_39 rfl (lv_at hl 2 rfl) ?_
  refine lv_bipush (v := 7) hx hb dX6_unpack_40 (by decide) ?_
  refine lv_iload hx hb dX6_unpack_42 (lv_at hl 1 rfl) ?_
  refine lv_imul hx hb dX6_unpack_44 ?_
  refine z_top (v := 14) (by decide) ?_
  refine lv_ishr hx hb dX6_unpack_45 ?_
  refine lv_topi (fun v15 _ => ?_)
  refine lv_bipush (v := 63) hx hb dX6_unpack_46 (by decide) ?_
  refine lv_iand hx hb dX6_unpack_48 ?_
  refine lv_topi (fun v16 _ => ?_)
  refine z_iast (g := upd f10 2 v16) (j := 2) hx hb hK hP hD hS 2 0 rfl rfl (by unfold vp_in; decide) (by decide) rfl dX6_unpack_49 (fun H locs hP hD hS => ?_)
  have hP : va_P D vwCl [ob h0 6 [.ref h0_cells, .ref h0_script, .ref h0_next, .ref h0_moved, .ref h0_holder, .ref h0_notes, .int v14], ai T h0_cells 8 f_h0_cells, ai T h0_next 6 (upd f10 2 v16), ai T h0_moved 6 f_h0_moved, ai T h0_holder 4 f_h0_holder, ai T h0_notes 3 f_h0_notes, ai T st 17 f_st] H := hP
  have hD : va_D A [ob h0 6 [.ref h0_cells, .ref h0_script, .ref h0_next, .ref h0_moved, .ref h0_holder, .ref h0_notes, .int v14], ai T h0_cells 8 f_h0_cells, ai T h0_next 6 (upd f10 2 v16), ai T h0_moved 6 f_h0_moved, ai T h0_holder 4 f_h0_holder, ai T h0_notes 3 f_h0_notes, ai T st 17 f_st] := hD
  obtain ⟨f17, ef17⟩ : ∃ z : Nat → Int32, z = upd f10 2 v16 := ⟨_, rfl⟩
  rw [← ef17] at hP hD
  refine lv_aload_n hx hb dX6_unpack_50 rfl (lv_at hl 4 rfl) ?_
  refine lv_dup hx hb dX6_unpack_51 rfl ?_
  refine va_get (D := D) (ci := 6) (v := .int v14) (C := RX6) (T := TX6) (N := 7) hx hb hg inX6 hown hK hP 0 rfl rfl 6 (by decide) (hg _ kf_X6_37) (fun _ h9 => h9) rfl dX6_unpack_52 ?_
  refine lv_iload_n hx hb dX6_unpack_55 rfl (lv_at hl 2 rfl) ?_
  refine lv_bipush (v := 7) hx hb dX6_unpack_56 (by decide) ?_
  refine lv_iload hx hb dX6_unpack_58 (lv_at hl 1 rfl) ?_
  refine lv_imul hx hb dX6_unpack_60 ?_
  refine z_top (v := 14) (by decide) ?_
  refine lv_bipush (v := 6) hx hb dX6_unpack_61 (by decide) ?_
  refine lv_iadd hx hb dX6_unpack_63 ?_
  refine z_top (v := 20) (by decide) ?_
  refine lv_ishr hx hb dX6_unpack_64 ?_
  refine lv_topi (fun v18 _ => ?_)
  refine lv_iconst (v := 1) hx hb dX6_unpack_65 (by decide) ?_
  refine lv_iand hx hb dX6_unpack_66 ?_
  refine lv_topi (fun v19 _ => ?_)
  refine lv_iload hx hb dX6_unpack_67 (lv_at hl 0 rfl) ?_
  refine lv_ishl hx hb dX6_unpack_69 ?_
  refine lv_topi (fun v20 _ => ?_)
  refine lv_ior hx hb dX6_unpack_70 ?_
  refine lv_topi (fun v21 _ => ?_)
  refine va_put (D := D) (ci := 6) (v := .int v21) (ty := .int) (C := RX6) (T := TX6) (N := 7) hx hb hg inX6 tyX6 tyX6_ok nmX6 hown hK hP hD hS 0 rfl rfl 6 (by decide) (hg _ kf_X6_37) (fun _ h9 => h9) rfl (by decide +kernel) rfl rfl (Nat.le_of_ble_eq_true rfl) dX6_unpack_71 (fun H locs hP hD hS => ?_)
  have hP : va_P D vwCl [ob h0 6 [.ref h0_cells, .ref h0_script, .ref h0_next, .ref h0_moved, .ref h0_holder, .ref h0_notes, .int v21], ai T h0_cells 8 f_h0_cells, ai T h0_next 6 f17, ai T h0_moved 6 f_h0_moved, ai T h0_holder 4 f_h0_holder, ai T h0_notes 3 f_h0_notes, ai T st 17 f_st] H := hP
  have hD : va_D A [ob h0 6 [.ref h0_cells, .ref h0_script, .ref h0_next, .ref h0_moved, .ref h0_holder, .ref h0_notes, .int v21], ai T h0_cells 8 f_h0_cells, ai T h0_next 6 f17, ai T h0_moved 6 f_h0_moved, ai T h0_holder 4 f_h0_holder, ai T h0_notes 3 f_h0_notes, ai T st 17 f_st] := hD
  refine lv_iinc (v := 3) (lv' := [(4, .int 3), (5, .int 2), (3, .int (f_st 0)), (2, .int 0), (0, .ref h0), (1, .ref st)]) hx hb dX6_unpack_74 hl (k := 1) rfl (by decide) (by decide) rfl (fun ls hl => ?_)
  refine lv_goto (tgt := 19) hx hb dX6_unpack_77 (by decide) ?_
  refine lv_iload hx hb dX6_unpack_19 (lv_at hl 0 rfl) ?_
  refine lv_iconst (v := 3) hx hb dX6_unpack_21 (by decide) ?_
  refine lv_icmp_ge (tgt := 80) hx hb dX6_unpack_22 (by decide) (fun _ => ?_) (fun hc => absurd (by decide) hc)
  refine lv_aload_n hx hb dX6_unpack_80 rfl (lv_at hl 4 rfl) ?_
  refine va_get (D := D) (ci := 6) (v := .ref h0_holder) (C := RX6) (T := TX6) (N := 7) hx hb hg inX6 hown hK hP 0 rfl rfl 4 (by decide) (hg _ kf_X6_21) (fun _ h9 => h9) rfl dX6_unpack_81 ?_
  refine lv_iload_n hx hb dX6_unpack_84 rfl (lv_at hl 3 rfl) ?_
  refine lv_iconst (v := 2) hx hb dX6_unpack_85 (by decide) ?_
  refine lv_imul hx hb dX6_unpack_86 ?_
  refine z_top (v := 0) (by decide) ?_
  refine lv_iload_n hx hb dX6_unpack_87 rfl (lv_at hl 2 rfl) ?_
  refine lv_bipush (v := 21) hx hb dX6_unpack_88 (by decide) ?_
  refine lv_ishr hx hb dX6_unpack_90 ?_
  refine lv_topi (fun v22 _ => ?_)
  refine lv_bipush (v := 7) hx hb dX6_unpack_91 (by decide) ?_
  refine lv_iand hx hb dX6_unpack_93 ?_
  refine lv_topi (fun v23 _ => ?_)
  refine z_iast (g := upd f_h0_holder 0 v23) (j := 0) hx hb hK hP hD hS 4 0 rfl rfl (by unfold vp_in; decide) (by decide) rfl dX6_unpack_94 (fun H locs hP hD hS => ?_)
  have hP : va_P D vwCl [ob h0 6 [.ref h0_cells, .ref h0_script, .ref h0_next, .ref h0_moved, .ref h0_holder, .ref h0_notes, .int v21], ai T h0_cells 8 f_h0_cells, ai T h0_next 6 f17, ai T h0_moved 6 f_h0_moved, ai T h0_holder 4 (upd f_h0_holder 0 v23), ai T h0_notes 3 f_h0_notes, ai T st 17 f_st] H := hP
  have hD : va_D A [ob h0 6 [.ref h0_cells, .ref h0_script, .ref h0_next, .ref h0_moved, .ref h0_holder, .ref h0_notes, .int v21], ai T h0_cells 8 f_h0_cells, ai T h0_next 6 f17, ai T h0_moved 6 f_h0_moved, ai T h0_holder 4 (upd f_h0_holder 0 v23), ai T h0_notes 3 f_h0_notes, ai T st 17 f_st] := hD
  obtain ⟨f24, ef24⟩ : ∃ z : Nat → Int32, z = upd f_h0_holder 0 v23 := ⟨_, rfl⟩
  rw [← ef24] at hP hD
  refine lv_aload_n hx hb dX6_unpack_95 rfl (lv_at hl 4 rfl) ?_
  refine va_get (D := D) (ci := 6) (v := .ref h0_holder) (C := RX6) (T := TX6) (N := 7) hx hb hg inX6 hown hK hP 0 rfl rfl 4 (by decide) (hg _ kf_X6_21) (fun _ h9 => h9) rfl dX6_unpack_96 ?_
  refine lv_iload_n hx hb dX6_unpack_99 rfl (lv_at hl 3 rfl) ?_
  refine lv_iconst (v := 2) hx hb dX6_unpack_100 (by decide) ?_
  refine lv_imul hx hb dX6_unpack_101 ?_
  refine z_top (v := 0) (by decide) ?_
  refine lv_iconst (v := 1) hx hb dX6_unpack_102 (by decide) ?_
  refine lv_iadd hx hb dX6_unpack_103 ?_
  refine z_top (v := 1) (by decide) ?_
  refine lv_iload_n hx hb dX6_unpack_104 rfl (lv_at hl 2 rfl) ?_
  refine lv_bipush (v := 24) hx hb dX6_unpack_105 (by decide) ?_
  refine lv_ishr hx hb dX6_unpack_107 ?_
  refine lv_topi (fun v25 _ => ?_)
  refine lv_bipush (v := 7) hx hb dX6_unpack_108 (by decide) ?_
  refine lv_iand hx hb dX6_unpack_110 ?_
  refine lv_topi (fun v26 _ => ?_)
  refine z_iast (g := upd f24 1 v26) (j := 1) hx hb hK hP hD hS 4 0 rfl rfl (by unfold vp_in; decide) (by decide) rfl dX6_unpack_111 (fun H locs hP hD hS => ?_)
  have hP : va_P D vwCl [ob h0 6 [.ref h0_cells, .ref h0_script, .ref h0_next, .ref h0_moved, .ref h0_holder, .ref h0_notes, .int v21], ai T h0_cells 8 f_h0_cells, ai T h0_next 6 f17, ai T h0_moved 6 f_h0_moved, ai T h0_holder 4 (upd f24 1 v26), ai T h0_notes 3 f_h0_notes, ai T st 17 f_st] H := hP
  have hD : va_D A [ob h0 6 [.ref h0_cells, .ref h0_script, .ref h0_next, .ref h0_moved, .ref h0_holder, .ref h0_notes, .int v21], ai T h0_cells 8 f_h0_cells, ai T h0_next 6 f17, ai T h0_moved 6 f_h0_moved, ai T h0_holder 4 (upd f24 1 v26), ai T h0_notes 3 f_h0_notes, ai T st 17 f_st] := hD
  obtain ⟨f27, ef27⟩ : ∃ z : Nat → Int32, z = upd f24 1 v26 := ⟨_, rfl⟩
  rw [← ef27] at hP hD
  refine lv_iinc (v := 1) (lv' := [(2, .int 1), (4, .int 3), (5, .int 2), (3, .int (f_st 0)), (0, .ref h0), (1, .ref st)]) hx hb dX6_unpack_112 hl (k := 3) rfl (by decide) (by decide) rfl (fun ls hl => ?_)
  refine lv_goto (tgt := 7) hx hb dX6_unpack_115 (by decide) ?_
  refine lv_iload_n hx hb dX6_unpack_7 rfl (lv_at hl 0 rfl) ?_
  refine lv_iconst (v := 2) hx hb dX6_unpack_8 (by decide) ?_
  refine lv_icmp_ge (tgt := 118) hx hb dX6_unpack_9 (by decide) (fun hc => absurd hc (by decide)) (fun _ => ?_)
  refine lv_aload_n hx hb dX6_unpack_12 rfl (lv_at hl 5 rfl) ?_
  refine lv_iload_n hx hb dX6_unpack_13 rfl (lv_at hl 0 rfl) ?_
  refine z_iald (v := (f_st 1)) (j := 1) hx hb hK hP 6 0 rfl rfl (by unfold vp_in; decide) (by decide) rfl dX6_unpack_14 ?_
  refine lv_istore_n (lv' := [(3, .int (f_st 1)), (2, .int 1), (4, .int 3), (5, .int 2), (0, .ref h0), (1, .ref st)]) hx hb dX6_unpack_15 rfl hl (by decide) rfl (fun ls hl => ?_)
  refine lv_iconst (v := 0) hx hb dX6_unpack_16 (by decide) ?_
  refine lv_istore (lv' := [(4, .int 0), (3, .int (f_st 1)), (2, .int 1), (5, .int 2), (0, .ref h0), (1, .ref st)]) hx hb dX6_unpack_17 hl (by decide) rfl (fun ls hl => ?_)
  refine lv_iload hx hb dX6_unpack_19 (lv_at hl 0 rfl) ?_
  refine lv_iconst (v := 3) hx hb dX6_unpack_21 (by decide) ?_
  refine lv_icmp_ge (tgt := 80) hx hb dX6_unpack_22 (by decide) (fun hc => absurd hc (by decide)) (fun _ => ?_)
  refine lv_iload_n hx hb dX6_unpack_25 rfl (lv_at hl 2 rfl) ?_
  refine lv_iconst (v := 3) hx hb dX6_unpack_26 (by decide) ?_
  refine lv_imul hx hb dX6_unpack_27 ?_
  refine z_top (v := 3) (by decide) ?_
  refine lv_iload hx hb dX6_unpack_28 (lv_at hl 0 rfl) ?_
  refine lv_iadd hx hb dX6_unpack_30 ?_
  refine z_top (v := 3) (by decide) ?_
  refine lv_istore (lv' := [(5, .int 3), (4, .int 0), (3, .int (f_st 1)), (2, .int 1), (0, .ref h0), (1, .ref st)]) hx hb dX6_unpack_31 hl (by decide) rfl (fun ls hl => ?_)
  refine lv_aload_n hx hb dX6_unpack_33 rfl (lv_at hl 4 rfl) ?_
  refine va_get (D := D) (ci := 6) (v := .ref h0_next) (C := RX6) (T := TX6) (N := 7) hx hb hg inX6 hown hK hP 0 rfl rfl 2 (by decide) (hg _ kf_X6_15) (fun _ h9 => h9) rfl dX6_unpack_34 ?_
  refine lv_iload hx hb dX6_unpack_37 (lv_at hl 0 rfl) ?_
  refine lv_iload_n hx hb dX6_unpack_39 rfl (lv_at hl 2 rfl) ?_
  refine lv_bipush (v := 7) hx hb dX6_unpack_40 (by decide) ?_
  refine lv_iload hx hb dX6_unpack_42 (lv_at hl 1 rfl) ?_
  refine lv_imul hx hb dX6_unpack_44 ?_
  refine z_top (v := 0) (by decide) ?_
  refine lv_ishr hx hb dX6_unpack_45 ?_
  refine lv_topi (fun v28 _ => ?_)
  refine lv_bipush (v := 63) hx hb dX6_unpack_46 (by decide) ?_
  refine lv_iand hx hb dX6_unpack_48 ?_
  refine lv_topi (fun v29 _ => ?_)
  refine z_iast (g := upd f17 3 v29) (j := 3) hx hb hK hP hD hS 2 0 rfl rfl (by unfold vp_in; decide) (by decide) rfl dX6_unpack_49 (fun H locs hP hD hS => ?_)
  have hP : va_P D vwCl [ob h0 6 [.ref h0_cells, .ref h0_script, .ref h0_next, .ref h0_moved, .ref h0_holder, .ref h0_notes, .int v21], ai T h0_cells 8 f_h0_cells, ai T h0_next 6 (upd f17 3 v29), ai T h0_moved 6 f_h0_moved, ai T h0_holder 4 f27, ai T h0_notes 3 f_h0_notes, ai T st 17 f_st] H := hP
  have hD : va_D A [ob h0 6 [.ref h0_cells, .ref h0_script, .ref h0_next, .ref h0_moved, .ref h0_holder, .ref h0_notes, .int v21], ai T h0_cells 8 f_h0_cells, ai T h0_next 6 (upd f17 3 v29), ai T h0_moved 6 f_h0_moved, ai T h0_holder 4 f27, ai T h0_notes 3 f_h0_notes, ai T st 17 f_st] := hD
  obtain ⟨f30, ef30⟩ : ∃ z : Nat → Int32, z = upd f17 3 v29 := ⟨_, rfl⟩
  rw [← ef30] at hP hD
  refine lv_aload_n hx hb dX6_unpack_50 rfl (lv_at hl 4 rfl) ?_
  refine lv_dup hx hb dX6_unpack_51 rfl ?_
  refine va_get (D := D) (ci := 6) (v := .int v21) (C := RX6) (T := TX6) (N := 7) hx hb hg inX6 hown hK hP 0 rfl rfl 6 (by decide) (hg _ kf_X6_37) (fun _ h9 => h9) rfl dX6_unpack_52 ?_
  refine lv_iload_n hx hb dX6_unpack_55 rfl (lv_at hl 2 rfl) ?_
  refine lv_bipush (v := 7) hx hb dX6_unpack_56 (by decide) ?_
  refine lv_iload hx hb dX6_unpack_58 (lv_at hl 1 rfl) ?_
  refine lv_imul hx hb dX6_unpack_60 ?_
  refine z_top (v := 0) (by decide) ?_
  refine lv_bipush (v := 6) hx hb dX6_unpack_61 (by decide) ?_
  refine lv_iadd hx hb dX6_unpack_63 ?_
  refine z_top (v := 6) (by decide) ?_
  refine lv_ishr hx hb dX6_unpack_64 ?_
  refine lv_topi (fun v31 _ => ?_)
  refine lv_iconst (v := 1) hx hb dX6_unpack_65 (by decide) ?_
  refine lv_iand hx hb dX6_unpack_66 ?_
  refine lv_topi (fun v32 _ => ?_)
  refine lv_iload hx hb dX6_unpack_67 (lv_at hl 0 rfl) ?_
  refine lv_ishl hx hb dX6_unpack_69 ?_
  refine lv_topi (fun v33 _ => ?_)
  refine lv_ior hx hb dX6_unpack_70 ?_
  refine lv_topi (fun v34 _ => ?_)
  refine va_put (D := D) (ci := 6) (v := .int v34) (ty := .int) (C := RX6) (T := TX6) (N := 7) hx hb hg inX6 tyX6 tyX6_ok nmX6 hown hK hP hD hS 0 rfl rfl 6 (by decide) (hg _ kf_X6_37) (fun _ h9 => h9) rfl (by decide +kernel) rfl rfl (Nat.le_of_ble_eq_true rfl) dX6_unpack_71 (fun H locs hP hD hS => ?_)
  have hP : va_P D vwCl [ob h0 6 [.ref h0_cells, .ref h0_script, .ref h0_next, .ref h0_moved, .ref h0_holder, .ref h0_notes, .int v34], ai T h0_cells 8 f_h0_cells, ai T h0_next 6 f30, ai T h0_moved 6 f_h0_moved, ai T h0_holder 4 f27, ai T h0_notes 3 f_h0_notes, ai T st 17 f_st] H := hP
  have hD : va_D A [ob h0 6 [.ref h0_cells, .ref h0_script, .ref h0_next, .ref h0_moved, .ref h0_holder, .ref h0_notes, .int v34], ai T h0_cells 8 f_h0_cells, ai T h0_next 6 f30, ai T h0_moved 6 f_h0_moved, ai T h0_holder 4 f27, ai T h0_notes 3 f_h0_notes, ai T st 17 f_st] := hD
  refine lv_iinc (v := 1) (lv' := [(4, .int 1), (5, .int 3), (3, .int (f_st 1)), (2, .int 1), (0, .ref h0), (1, .ref st)]) hx hb dX6_unpack_74 hl (k := 1) rfl (by decide) (by decide) rfl (fun ls hl => ?_)
  refine lv_goto (tgt := 19) hx hb dX6_unpack_77 (by decide) ?_
  refine lv_iload hx hb dX6_unpack_19 (lv_at hl 0 rfl) ?_
  refine lv_iconst (v := 3) hx hb dX6_unpack_21 (by decide) ?_
  refine lv_icmp_ge (tgt := 80) hx hb dX6_unpack_22 (by decide) (fun hc => absurd hc (by decide)) (fun _ => ?_)
  refine lv_iload_n hx hb dX6_unpack_25 rfl (lv_at hl 3 rfl) ?_
  refine lv_iconst (v := 3) hx hb dX6_unpack_26 (by decide) ?_
  refine lv_imul hx hb dX6_unpack_27 ?_
  refine z_top (v := 3) (by decide) ?_
  refine lv_iload hx hb dX6_unpack_28 (lv_at hl 0 rfl) ?_
  refine lv_iadd hx hb dX6_unpack_30 ?_
  refine z_top (v := 4) (by decide) ?_
  refine lv_istore (lv' := [(5, .int 4), (4, .int 1), (3, .int (f_st 1)), (2, .int 1), (0, .ref h0), (1, .ref st)]) hx hb dX6_unpack_31 hl (by decide) rfl (fun ls hl => ?_)
  refine lv_aload_n hx hb dX6_unpack_33 rfl (lv_at hl 4 rfl) ?_
  refine va_get (D := D) (ci := 6) (v := .ref h0_next) (C := RX6) (T := TX6) (N := 7) hx hb hg inX6 hown hK hP 0 rfl rfl 2 (by decide) (hg _ kf_X6_15) (fun _ h9 => h9) rfl dX6_unpack_34 ?_
  refine lv_iload hx hb dX6_unpack_37 (lv_at hl 0 rfl) ?_
  refine lv_iload_n hx hb dX6_unpack_39 rfl (lv_at hl 2 rfl) ?_
  refine lv_bipush (v := 7) hx hb dX6_unpack_40 (by decide) ?_
  refine lv_iload hx hb dX6_unpack_42 (lv_at hl 1 rfl) ?_
  refine lv_imul hx hb dX6_unpack_44 ?_
  refine z_top (v := 7) (by decide) ?_
  refine lv_ishr hx hb dX6_unpack_45 ?_
  refine lv_topi (fun v35 _ => ?_)
  refine lv_bipush (v := 63) hx hb dX6_unpack_46 (by decide) ?_
  refine lv_iand hx hb dX6_unpack_48 ?_
  refine lv_topi (fun v36 _ => ?_)
  refine z_iast (g := upd f30 4 v36) (j := 4) hx hb hK hP hD hS 2 0 rfl rfl (by unfold vp_in; decide) (by decide) rfl dX6_unpack_49 (fun H locs hP hD hS => ?_)
  have hP : va_P D vwCl [ob h0 6 [.ref h0_cells, .ref h0_script, .ref h0_next, .ref h0_moved, .ref h0_holder, .ref h0_notes, .int v34], ai T h0_cells 8 f_h0_cells, ai T h0_next 6 (upd f30 4 v36), ai T h0_moved 6 f_h0_moved, ai T h0_holder 4 f27, ai T h0_notes 3 f_h0_notes, ai T st 17 f_st] H := hP
  have hD : va_D A [ob h0 6 [.ref h0_cells, .ref h0_script, .ref h0_next, .ref h0_moved, .ref h0_holder, .ref h0_notes, .int v34], ai T h0_cells 8 f_h0_cells, ai T h0_next 6 (upd f30 4 v36), ai T h0_moved 6 f_h0_moved, ai T h0_holder 4 f27, ai T h0_notes 3 f_h0_notes, ai T st 17 f_st] := hD
  obtain ⟨f37, ef37⟩ : ∃ z : Nat → Int32, z = upd f30 4 v36 := ⟨_, rfl⟩
  rw [← ef37] at hP hD
  refine lv_aload_n hx hb dX6_unpack_50 rfl (lv_at hl 4 rfl) ?_
  refine lv_dup hx hb dX6_unpack_51 rfl ?_
  refine va_get (D := D) (ci := 6) (v := .int v34) (C := RX6) (T := TX6) (N := 7) hx hb hg inX6 hown hK hP 0 rfl rfl 6 (by decide) (hg _ kf_X6_37) (fun _ h9 => h9) rfl dX6_unpack_52 ?_
  refine lv_iload_n hx hb dX6_unpack_55 rfl (lv_at hl 2 rfl) ?_
  refine lv_bipush (v := 7) hx hb dX6_unpack_56 (by decide) ?_
  refine lv_iload hx hb dX6_unpack_58 (lv_at hl 1 rfl) ?_
  refine lv_imul hx hb dX6_unpack_60 ?_
  refine z_top (v := 7) (by decide) ?_
  refine lv_bipush (v := 6) hx hb dX6_unpack_61 (by decide) ?_
  refine lv_iadd hx hb dX6_unpack_63 ?_
  refine z_top (v := 13) (by decide) ?_
  refine lv_ishr hx hb dX6_unpack_64 ?_
  refine lv_topi (fun v38 _ => ?_)
  refine lv_iconst (v := 1) hx hb dX6_unpack_65 (by decide) ?_
  refine lv_iand hx hb dX6_unpack_66 ?_
  refine lv_topi (fun v39 _ => ?_)
  refine lv_iload hx hb dX6_unpack_67 (lv_at hl 0 rfl) ?_
  refine lv_ishl hx hb dX6_unpack_69 ?_
  refine lv_topi (fun v40 _ => ?_)
  refine lv_ior hx hb dX6_unpack_70 ?_
  refine lv_topi (fun v41 _ => ?_)
  refine va_put (D := D) (ci := 6) (v := .int v41) (ty := .int) (C := RX6) (T := TX6) (N := 7) hx hb hg inX6 tyX6 tyX6_ok nmX6 hown hK hP hD hS 0 rfl rfl 6 (by decide) (hg _ kf_X6_37) (fun _ h9 => h9) rfl (by decide +kernel) rfl rfl (Nat.le_of_ble_eq_true rfl) dX6_unpack_71 (fun H locs hP hD hS => ?_)
  have hP : va_P D vwCl [ob h0 6 [.ref h0_cells, .ref h0_script, .ref h0_next, .ref h0_moved, .ref h0_holder, .ref h0_notes, .int v41], ai T h0_cells 8 f_h0_cells, ai T h0_next 6 f37, ai T h0_moved 6 f_h0_moved, ai T h0_holder 4 f27, ai T h0_notes 3 f_h0_notes, ai T st 17 f_st] H := hP
  have hD : va_D A [ob h0 6 [.ref h0_cells, .ref h0_script, .ref h0_next, .ref h0_moved, .ref h0_holder, .ref h0_notes, .int v41], ai T h0_cells 8 f_h0_cells, ai T h0_next 6 f37, ai T h0_moved 6 f_h0_moved, ai T h0_holder 4 f27, ai T h0_notes 3 f_h0_notes, ai T st 17 f_st] := hD
  refine lv_iinc (v := 2) (lv' := [(4, .int 2), (5, .int 4), (3, .int (f_st 1)), (2, .int 1), (0, .ref h0), (1, .ref st)]) hx hb dX6_unpack_74 hl (k := 1) rfl (by decide) (by decide) rfl (fun ls hl => ?_)
  refine lv_goto (tgt := 19) hx hb dX6_unpack_77 (by decide) ?_
  refine lv_iload hx hb dX6_unpack_19 (lv_at hl 0 rfl) ?_
  refine lv_iconst (v := 3) hx hb dX6_unpack_21 (by decide) ?_
  refine lv_icmp_ge (tgt := 80) hx hb dX6_unpack_22 (by decide) (fun hc => absurd hc (by decide)) (fun _ => ?_)
  refine lv_iload_n hx hb dX6_unpack_25 rfl (lv_at hl 3 rfl) ?_
  refine lv_iconst (v := 3) hx hb dX6_unpack_26 (by decide) ?_
  refine lv_imul hx hb dX6_unpack_27 ?_
  refine z_top (v := 3) (by decide) ?_
  refine lv_iload hx hb dX6_unpack_28 (lv_at hl 0 rfl) ?_
  refine lv_iadd hx hb dX6_unpack_30 ?_
  refine z_top (v := 5) (by decide) ?_
  refine lv_istore (lv' := [(5, .int 5), (4, .int 2), (3, .int (f_st 1)), (2, .int 1), (0, .ref h0), (1, .ref st)]) hx hb dX6_unpack_31 hl (by decide) rfl (fun ls hl => ?_)
  refine lv_aload_n hx hb dX6_unpack_33 rfl (lv_at hl 4 rfl) ?_
  refine va_get (D := D) (ci := 6) (v := .ref h0_next) (C := RX6) (T := TX6) (N := 7) hx hb hg inX6 hown hK hP 0 rfl rfl 2 (by decide) (hg _ kf_X6_15) (fun _ h9 => h9) rfl dX6_unpack_34 ?_
  refine lv_iload hx hb dX6_unpack_37 (lv_at hl 0 rfl) ?_
  refine lv_iload_n hx hb dX6_unpack_39 rfl (lv_at hl 2 rfl) ?_
  refine lv_bipush (v := 7) hx hb dX6_unpack_40 (by decide) ?_
  refine lv_iload hx hb dX6_unpack_42 (lv_at hl 1 rfl) ?_
  refine lv_imul hx hb dX6_unpack_44 ?_
  refine z_top (v := 14) (by decide) ?_
  refine lv_ishr hx hb dX6_unpack_45 ?_
  refine lv_topi (fun v42 _ => ?_)
  refine lv_bipush (v := 63) hx hb dX6_unpack_46 (by decide) ?_
  refine lv_iand hx hb dX6_unpack_48 ?_
  refine lv_topi (fun v43 _ => ?_)
  refine z_iast (g := upd f37 5 v43) (j := 5) hx hb hK hP hD hS 2 0 rfl rfl (by unfold vp_in; decide) (by decide) rfl dX6_unpack_49 (fun H locs hP hD hS => ?_)
  have hP : va_P D vwCl [ob h0 6 [.ref h0_cells, .ref h0_script, .ref h0_next, .ref h0_moved, .ref h0_holder, .ref h0_notes, .int v41], ai T h0_cells 8 f_h0_cells, ai T h0_next 6 (upd f37 5 v43), ai T h0_moved 6 f_h0_moved, ai T h0_holder 4 f27, ai T h0_notes 3 f_h0_notes, ai T st 17 f_st] H := hP
  have hD : va_D A [ob h0 6 [.ref h0_cells, .ref h0_script, .ref h0_next, .ref h0_moved, .ref h0_holder, .ref h0_notes, .int v41], ai T h0_cells 8 f_h0_cells, ai T h0_next 6 (upd f37 5 v43), ai T h0_moved 6 f_h0_moved, ai T h0_holder 4 f27, ai T h0_notes 3 f_h0_notes, ai T st 17 f_st] := hD
  obtain ⟨f44, ef44⟩ : ∃ z : Nat → Int32, z = upd f37 5 v43 := ⟨_, rfl⟩
  rw [← ef44] at hP hD
  refine lv_aload_n hx hb dX6_unpack_50 rfl (lv_at hl 4 rfl) ?_
  refine lv_dup hx hb dX6_unpack_51 rfl ?_
  refine va_get (D := D) (ci := 6) (v := .int v41) (C := RX6) (T := TX6) (N := 7) hx hb hg inX6 hown hK hP 0 rfl rfl 6 (by decide) (hg _ kf_X6_37) (fun _ h9 => h9) rfl dX6_unpack_52 ?_
  refine lv_iload_n hx hb dX6_unpack_55 rfl (lv_at hl 2 rfl) ?_
  refine lv_bipush (v := 7) hx hb dX6_unpack_56 (by decide) ?_
  refine lv_iload hx hb dX6_unpack_58 (lv_at hl 1 rfl) ?_
  refine lv_imul hx hb dX6_unpack_60 ?_
  refine z_top (v := 14) (by decide) ?_
  refine lv_bipush (v := 6) hx hb dX6_unpack_61 (by decide) ?_
  refine lv_iadd hx hb dX6_unpack_63 ?_
  refine z_top (v := 20) (by decide) ?_
  refine lv_ishr hx hb dX6_unpack_64 ?_
  refine lv_topi (fun v45 _ => ?_)
  refine lv_iconst (v := 1) hx hb dX6_unpack_65 (by decide) ?_
  refine lv_iand hx hb dX6_unpack_66 ?_
  refine lv_topi (fun v46 _ => ?_)
  refine lv_iload hx hb dX6_unpack_67 (lv_at hl 0 rfl) ?_
  refine lv_ishl hx hb dX6_unpack_69 ?_
  refine lv_topi (fun v47 _ => ?_)
  refine lv_ior hx hb dX6_unpack_70 ?_
  refine lv_topi (fun v48 _ => ?_)
  refine va_put (D := D) (ci := 6) (v := .int v48) (ty := .int) (C := RX6) (T := TX6) (N := 7) hx hb hg inX6 tyX6 tyX6_ok nmX6 hown hK hP hD hS 0 rfl rfl 6 (by decide) (hg _ kf_X6_37) (fun _ h9 => h9) rfl (by decide +kernel) rfl rfl (Nat.le_of_ble_eq_true rfl) dX6_unpack_71 (fun H locs hP hD hS => ?_)
  have hP : va_P D vwCl [ob h0 6 [.ref h0_cells, .ref h0_script, .ref h0_next, .ref h0_moved, .ref h0_holder, .ref h0_notes, .int v48], ai T h0_cells 8 f_h0_cells, ai T h0_next 6 f44, ai T h0_moved 6 f_h0_moved, ai T h0_holder 4 f27, ai T h0_notes 3 f_h0_notes, ai T st 17 f_st] H := hP
  have hD : va_D A [ob h0 6 [.ref h0_cells, .ref h0_script, .ref h0_next, .ref h0_moved, .ref h0_holder, .ref h0_notes, .int v48], ai T h0_cells 8 f_h0_cells, ai T h0_next 6 f44, ai T h0_moved 6 f_h0_moved, ai T h0_holder 4 f27, ai T h0_notes 3 f_h0_notes, ai T st 17 f_st] := hD
  refine lv_iinc (v := 3) (lv' := [(4, .int 3), (5, .int 5), (3, .int (f_st 1)), (2, .int 1), (0, .ref h0), (1, .ref st)]) hx hb dX6_unpack_74 hl (k := 1) rfl (by decide) (by decide) rfl (fun ls hl => ?_)
  refine lv_goto (tgt := 19) hx hb dX6_unpack_77 (by decide) ?_
  refine lv_iload hx hb dX6_unpack_19 (lv_at hl 0 rfl) ?_
  refine lv_iconst (v := 3) hx hb dX6_unpack_21 (by decide) ?_
  refine lv_icmp_ge (tgt := 80) hx hb dX6_unpack_22 (by decide) (fun _ => ?_) (fun hc => absurd (by decide) hc)
  refine lv_aload_n hx hb dX6_unpack_80 rfl (lv_at hl 4 rfl) ?_
  refine va_get (D := D) (ci := 6) (v := .ref h0_holder) (C := RX6) (T := TX6) (N := 7) hx hb hg inX6 hown hK hP 0 rfl rfl 4 (by decide) (hg _ kf_X6_21) (fun _ h9 => h9) rfl dX6_unpack_81 ?_
  refine lv_iload_n hx hb dX6_unpack_84 rfl (lv_at hl 3 rfl) ?_
  refine lv_iconst (v := 2) hx hb dX6_unpack_85 (by decide) ?_
  refine lv_imul hx hb dX6_unpack_86 ?_
  refine z_top (v := 2) (by decide) ?_
  refine lv_iload_n hx hb dX6_unpack_87 rfl (lv_at hl 2 rfl) ?_
  refine lv_bipush (v := 21) hx hb dX6_unpack_88 (by decide) ?_
  refine lv_ishr hx hb dX6_unpack_90 ?_
  refine lv_topi (fun v49 _ => ?_)
  refine lv_bipush (v := 7) hx hb dX6_unpack_91 (by decide) ?_
  refine lv_iand hx hb dX6_unpack_93 ?_
  refine lv_topi (fun v50 _ => ?_)
  refine z_iast (g := upd f27 2 v50) (j := 2) hx hb hK hP hD hS 4 0 rfl rfl (by unfold vp_in; decide) (by decide) rfl dX6_unpack_94 (fun H locs hP hD hS => ?_)
  have hP : va_P D vwCl [ob h0 6 [.ref h0_cells, .ref h0_script, .ref h0_next, .ref h0_moved, .ref h0_holder, .ref h0_notes, .int v48], ai T h0_cells 8 f_h0_cells, ai T h0_next 6 f44, ai T h0_moved 6 f_h0_moved, ai T h0_holder 4 (upd f27 2 v50), ai T h0_notes 3 f_h0_notes, ai T st 17 f_st] H := hP
  have hD : va_D A [ob h0 6 [.ref h0_cells, .ref h0_script, .ref h0_next, .ref h0_moved, .ref h0_holder, .ref h0_notes, .int v48], ai T h0_cells 8 f_h0_cells, ai T h0_next 6 f44, ai T h0_moved 6 f_h0_moved, ai T h0_holder 4 (upd f27 2 v50), ai T h0_notes 3 f_h0_notes, ai T st 17 f_st] := hD
  obtain ⟨f51, ef51⟩ : ∃ z : Nat → Int32, z = upd f27 2 v50 := ⟨_, rfl⟩
  rw [← ef51] at hP hD
  refine lv_aload_n hx hb dX6_unpack_95 rfl (lv_at hl 4 rfl) ?_
  refine va_get (D := D) (ci := 6) (v := .ref h0_holder) (C := RX6) (T := TX6) (N := 7) hx hb hg inX6 hown hK hP 0 rfl rfl 4 (by decide) (hg _ kf_X6_21) (fun _ h9 => h9) rfl dX6_unpack_96 ?_
  refine lv_iload_n hx hb dX6_unpack_99 rfl (lv_at hl 3 rfl) ?_
  refine lv_iconst (v := 2) hx hb dX6_unpack_100 (by decide) ?_
  refine lv_imul hx hb dX6_unpack_101 ?_
  refine z_top (v := 2) (by decide) ?_
  refine lv_iconst (v := 1) hx hb dX6_unpack_102 (by decide) ?_
  refine lv_iadd hx hb dX6_unpack_103 ?_
  refine z_top (v := 3) (by decide) ?_
  refine lv_iload_n hx hb dX6_unpack_104 rfl (lv_at hl 2 rfl) ?_
  refine lv_bipush (v := 24) hx hb dX6_unpack_105 (by decide) ?_
  refine lv_ishr hx hb dX6_unpack_107 ?_
  refine lv_topi (fun v52 _ => ?_)
  refine lv_bipush (v := 7) hx hb dX6_unpack_108 (by decide) ?_
  refine lv_iand hx hb dX6_unpack_110 ?_
  refine lv_topi (fun v53 _ => ?_)
  refine z_iast (g := upd f51 3 v53) (j := 3) hx hb hK hP hD hS 4 0 rfl rfl (by unfold vp_in; decide) (by decide) rfl dX6_unpack_111 (fun H locs hP hD hS => ?_)
  have hP : va_P D vwCl [ob h0 6 [.ref h0_cells, .ref h0_script, .ref h0_next, .ref h0_moved, .ref h0_holder, .ref h0_notes, .int v48], ai T h0_cells 8 f_h0_cells, ai T h0_next 6 f44, ai T h0_moved 6 f_h0_moved, ai T h0_holder 4 (upd f51 3 v53), ai T h0_notes 3 f_h0_notes, ai T st 17 f_st] H := hP
  have hD : va_D A [ob h0 6 [.ref h0_cells, .ref h0_script, .ref h0_next, .ref h0_moved, .ref h0_holder, .ref h0_notes, .int v48], ai T h0_cells 8 f_h0_cells, ai T h0_next 6 f44, ai T h0_moved 6 f_h0_moved, ai T h0_holder 4 (upd f51 3 v53), ai T h0_notes 3 f_h0_notes, ai T st 17 f_st] := hD
  obtain ⟨f54, ef54⟩ : ∃ z : Nat → Int32, z = upd f51 3 v53 := ⟨_, rfl⟩
  rw [← ef54] at hP hD
  refine lv_iinc (v := 2) (lv' := [(2, .int 2), (4, .int 3), (5, .int 5), (3, .int (f_st 1)), (0, .ref h0), (1, .ref st)]) hx hb dX6_unpack_112 hl (k := 3) rfl (by decide) (by decide) rfl (fun ls hl => ?_)
  refine lv_goto (tgt := 7) hx hb dX6_unpack_115 (by decide) ?_
  refine lv_iload_n hx hb dX6_unpack_7 rfl (lv_at hl 0 rfl) ?_
  refine lv_iconst (v := 2) hx hb dX6_unpack_8 (by decide) ?_
  refine lv_icmp_ge (tgt := 118) hx hb dX6_unpack_9 (by decide) (fun _ => ?_) (fun hc => absurd (by decide) hc)
  refine lv_iconst (v := 0) hx hb dX6_unpack_118 (by decide) ?_
  refine lv_istore_n (lv' := [(2, .int 0), (4, .int 3), (5, .int 5), (3, .int (f_st 1)), (0, .ref h0), (1, .ref st)]) hx hb dX6_unpack_119 rfl hl (by decide) rfl (fun ls hl => ?_)
  refine lv_iload_n hx hb dX6_unpack_120 rfl (lv_at hl 0 rfl) ?_
  refine lv_iconst (v := 3) hx hb dX6_unpack_121 (by decide) ?_
  refine lv_icmp_ge (tgt := 149) hx hb dX6_unpack_122 (by decide) (fun hc => absurd hc (by decide)) (fun _ => ?_)
  refine lv_aload_n hx hb dX6_unpack_125 rfl (lv_at hl 4 rfl) ?_
  refine va_get (D := D) (ci := 6) (v := .ref h0_notes) (C := RX6) (T := TX6) (N := 7) hx hb hg inX6 hown hK hP 0 rfl rfl 5 (by decide) (hg _ kf_X6_24) (fun _ h9 => h9) rfl dX6_unpack_126 ?_
  refine lv_iload_n hx hb dX6_unpack_129 rfl (lv_at hl 0 rfl) ?_
  refine lv_aload_n hx hb dX6_unpack_130 rfl (lv_at hl 5 rfl) ?_
  refine lv_iconst (v := 2) hx hb dX6_unpack_131 (by decide) ?_
  refine z_iald (v := (f_st 2)) (j := 2) hx hb hK hP 6 0 rfl rfl (by unfold vp_in; decide) (by decide) rfl dX6_unpack_132 ?_
  refine lv_bipush (v := 9) hx hb dX6_unpack_133 (by decide) ?_
  refine lv_iload_n hx hb dX6_unpack_135 rfl (lv_at hl 0 rfl) ?_
  refine lv_imul hx hb dX6_unpack_136 ?_
  refine z_top (v := 0) (by decide) ?_
  refine lv_ishr hx hb dX6_unpack_137 ?_
  refine lv_topi (fun v55 _ => ?_)
  refine lv_sipush (v := 511) hx hb dX6_unpack_138 (by decide) ?_
  refine lv_iand hx hb dX6_unpack_141 ?_
  refine lv_topi (fun v56 _ => ?_)
  refine z_iast (g := upd f_h0_notes 0 v56) (j := 0) hx hb hK hP hD hS 5 0 rfl rfl (by unfold vp_in; decide) (by decide) rfl dX6_unpack_142 (fun H locs hP hD hS => ?_)
  have hP : va_P D vwCl [ob h0 6 [.ref h0_cells, .ref h0_script, .ref h0_next, .ref h0_moved, .ref h0_holder, .ref h0_notes, .int v48], ai T h0_cells 8 f_h0_cells, ai T h0_next 6 f44, ai T h0_moved 6 f_h0_moved, ai T h0_holder 4 f54, ai T h0_notes 3 (upd f_h0_notes 0 v56), ai T st 17 f_st] H := hP
  have hD : va_D A [ob h0 6 [.ref h0_cells, .ref h0_script, .ref h0_next, .ref h0_moved, .ref h0_holder, .ref h0_notes, .int v48], ai T h0_cells 8 f_h0_cells, ai T h0_next 6 f44, ai T h0_moved 6 f_h0_moved, ai T h0_holder 4 f54, ai T h0_notes 3 (upd f_h0_notes 0 v56), ai T st 17 f_st] := hD
  obtain ⟨f57, ef57⟩ : ∃ z : Nat → Int32, z = upd f_h0_notes 0 v56 := ⟨_, rfl⟩
  rw [← ef57] at hP hD
  refine lv_iinc (v := 1) (lv' := [(2, .int 1), (4, .int 3), (5, .int 5), (3, .int (f_st 1)), (0, .ref h0), (1, .ref st)]) hx hb dX6_unpack_143 hl (k := 0) rfl (by decide) (by decide) rfl (fun ls hl => ?_)
  refine lv_goto (tgt := 120) hx hb dX6_unpack_146 (by decide) ?_
  refine lv_iload_n hx hb dX6_unpack_120 rfl (lv_at hl 0 rfl) ?_
  refine lv_iconst (v := 3) hx hb dX6_unpack_121 (by decide) ?_
  refine lv_icmp_ge (tgt := 149) hx hb dX6_unpack_122 (by decide) (fun hc => absurd hc (by decide)) (fun _ => ?_)
  refine lv_aload_n hx hb dX6_unpack_125 rfl (lv_at hl 4 rfl) ?_
  refine va_get (D := D) (ci := 6) (v := .ref h0_notes) (C := RX6) (T := TX6) (N := 7) hx hb hg inX6 hown hK hP 0 rfl rfl 5 (by decide) (hg _ kf_X6_24) (fun _ h9 => h9) rfl dX6_unpack_126 ?_
  refine lv_iload_n hx hb dX6_unpack_129 rfl (lv_at hl 0 rfl) ?_
  refine lv_aload_n hx hb dX6_unpack_130 rfl (lv_at hl 5 rfl) ?_
  refine lv_iconst (v := 2) hx hb dX6_unpack_131 (by decide) ?_
  refine z_iald (v := (f_st 2)) (j := 2) hx hb hK hP 6 0 rfl rfl (by unfold vp_in; decide) (by decide) rfl dX6_unpack_132 ?_
  refine lv_bipush (v := 9) hx hb dX6_unpack_133 (by decide) ?_
  refine lv_iload_n hx hb dX6_unpack_135 rfl (lv_at hl 0 rfl) ?_
  refine lv_imul hx hb dX6_unpack_136 ?_
  refine z_top (v := 9) (by decide) ?_
  refine lv_ishr hx hb dX6_unpack_137 ?_
  refine lv_topi (fun v58 _ => ?_)
  refine lv_sipush (v := 511) hx hb dX6_unpack_138 (by decide) ?_
  refine lv_iand hx hb dX6_unpack_141 ?_
  refine lv_topi (fun v59 _ => ?_)
  refine z_iast (g := upd f57 1 v59) (j := 1) hx hb hK hP hD hS 5 0 rfl rfl (by unfold vp_in; decide) (by decide) rfl dX6_unpack_142 (fun H locs hP hD hS => ?_)
  have hP : va_P D vwCl [ob h0 6 [.ref h0_cells, .ref h0_script, .ref h0_next, .ref h0_moved, .ref h0_holder, .ref h0_notes, .int v48], ai T h0_cells 8 f_h0_cells, ai T h0_next 6 f44, ai T h0_moved 6 f_h0_moved, ai T h0_holder 4 f54, ai T h0_notes 3 (upd f57 1 v59), ai T st 17 f_st] H := hP
  have hD : va_D A [ob h0 6 [.ref h0_cells, .ref h0_script, .ref h0_next, .ref h0_moved, .ref h0_holder, .ref h0_notes, .int v48], ai T h0_cells 8 f_h0_cells, ai T h0_next 6 f44, ai T h0_moved 6 f_h0_moved, ai T h0_holder 4 f54, ai T h0_notes 3 (upd f57 1 v59), ai T st 17 f_st] := hD
  obtain ⟨f60, ef60⟩ : ∃ z : Nat → Int32, z = upd f57 1 v59 := ⟨_, rfl⟩
  rw [← ef60] at hP hD
  refine lv_iinc (v := 2) (lv' := [(2, .int 2), (4, .int 3), (5, .int 5), (3, .int (f_st 1)), (0, .ref h0), (1, .ref st)]) hx hb dX6_unpack_143 hl (k := 0) rfl (by decide) (by decide) rfl (fun ls hl => ?_)
  refine lv_goto (tgt := 120) hx hb dX6_unpack_146 (by decide) ?_
  refine lv_iload_n hx hb dX6_unpack_120 rfl (lv_at hl 0 rfl) ?_
  refine lv_iconst (v := 3) hx hb dX6_unpack_121 (by decide) ?_
  refine lv_icmp_ge (tgt := 149) hx hb dX6_unpack_122 (by decide) (fun hc => absurd hc (by decide)) (fun _ => ?_)
  refine lv_aload_n hx hb dX6_unpack_125 rfl (lv_at hl 4 rfl) ?_
  refine va_get (D := D) (ci := 6) (v := .ref h0_notes) (C := RX6) (T := TX6) (N := 7) hx hb hg inX6 hown hK hP 0 rfl rfl 5 (by decide) (hg _ kf_X6_24) (fun _ h9 => h9) rfl dX6_unpack_126 ?_
  refine lv_iload_n hx hb dX6_unpack_129 rfl (lv_at hl 0 rfl) ?_
  refine lv_aload_n hx hb dX6_unpack_130 rfl (lv_at hl 5 rfl) ?_
  refine lv_iconst (v := 2) hx hb dX6_unpack_131 (by decide) ?_
  refine z_iald (v := (f_st 2)) (j := 2) hx hb hK hP 6 0 rfl rfl (by unfold vp_in; decide) (by decide) rfl dX6_unpack_132 ?_
  refine lv_bipush (v := 9) hx hb dX6_unpack_133 (by decide) ?_
  refine lv_iload_n hx hb dX6_unpack_135 rfl (lv_at hl 0 rfl) ?_
  refine lv_imul hx hb dX6_unpack_136 ?_
  refine z_top (v := 18) (by decide) ?_
  refine lv_ishr hx hb dX6_unpack_137 ?_
  refine lv_topi (fun v61 _ => ?_)
  refine lv_sipush (v := 511) hx hb dX6_unpack_138 (by decide) ?_
  refine lv_iand hx hb dX6_unpack_141 ?_
  refine lv_topi (fun v62 _ => ?_)
  refine z_iast (g := upd f60 2 v62) (j := 2) hx hb hK hP hD hS 5 0 rfl rfl (by unfold vp_in; decide) (by decide) rfl dX6_unpack_142 (fun H locs hP hD hS => ?_)
  have hP : va_P D vwCl [ob h0 6 [.ref h0_cells, .ref h0_script, .ref h0_next, .ref h0_moved, .ref h0_holder, .ref h0_notes, .int v48], ai T h0_cells 8 f_h0_cells, ai T h0_next 6 f44, ai T h0_moved 6 f_h0_moved, ai T h0_holder 4 f54, ai T h0_notes 3 (upd f60 2 v62), ai T st 17 f_st] H := hP
  have hD : va_D A [ob h0 6 [.ref h0_cells, .ref h0_script, .ref h0_next, .ref h0_moved, .ref h0_holder, .ref h0_notes, .int v48], ai T h0_cells 8 f_h0_cells, ai T h0_next 6 f44, ai T h0_moved 6 f_h0_moved, ai T h0_holder 4 f54, ai T h0_notes 3 (upd f60 2 v62), ai T st 17 f_st] := hD
  obtain ⟨f63, ef63⟩ : ∃ z : Nat → Int32, z = upd f60 2 v62 := ⟨_, rfl⟩
  rw [← ef63] at hP hD
  refine lv_iinc (v := 3) (lv' := [(2, .int 3), (4, .int 3), (5, .int 5), (3, .int (f_st 1)), (0, .ref h0), (1, .ref st)]) hx hb dX6_unpack_143 hl (k := 0) rfl (by decide) (by decide) rfl (fun ls hl => ?_)
  refine lv_goto (tgt := 120) hx hb dX6_unpack_146 (by decide) ?_
  refine lv_iload_n hx hb dX6_unpack_120 rfl (lv_at hl 0 rfl) ?_
  refine lv_iconst (v := 3) hx hb dX6_unpack_121 (by decide) ?_
  refine lv_icmp_ge (tgt := 149) hx hb dX6_unpack_122 (by decide) (fun _ => ?_) (fun hc => absurd (by decide) hc)
  refine lv_aload_n hx hb dX6_unpack_149 rfl (lv_at hl 5 rfl) ?_
  refine lv_iconst (v := 3) hx hb dX6_unpack_150 (by decide) ?_
  refine lv_aload_n hx hb dX6_unpack_151 rfl (lv_at hl 4 rfl) ?_
  refine va_get (D := D) (ci := 6) (v := .ref h0_cells) (C := RX6) (T := TX6) (N := 7) hx hb hg inX6 hown hK hP 0 rfl rfl 0 (by decide) (hg _ kf_X6_9) (fun _ h9 => h9) rfl dX6_unpack_152 ?_
  refine lv_iconst (v := 0) hx hb dX6_unpack_155 (by decide) ?_
  refine lv_bipush (v := 8) hx hb dX6_unpack_156 (by decide) ?_
  refine va_copyi (ty := .int) hx hb (by rw [hml]; exact hl.1.symm) hown (hg _ km_X6_83) (hg _ kv_arraycopy) (hg _ kt_arraycopy) (hg _ kz_J10) hK hP hD hS 6 1 0 0 rfl rfl rfl rfl rfl (by decide) (by decide) (by decide) (Nat.le_of_ble_eq_true rfl) (Nat.le_of_ble_eq_true rfl) (fun _ _ => rfl) (Nat.le_of_ble_eq_true rfl) (Nat.le_of_ble_eq_true rfl) dX6_unpack_158 (fun H locs hP hD hS => ?_)
  have hP : va_P D vwCl [ob h0 6 [.ref h0_cells, .ref h0_script, .ref h0_next, .ref h0_moved, .ref h0_holder, .ref h0_notes, .int v48], ai T h0_cells 8 (va_cpy f_st f_h0_cells ((3 : Int32)).toNatClampNeg ((0 : Int32)).toNatClampNeg ((8 : Int32)).toNatClampNeg), ai T h0_next 6 f44, ai T h0_moved 6 f_h0_moved, ai T h0_holder 4 f54, ai T h0_notes 3 f63, ai T st 17 f_st] H := hP
  have hD : va_D A [ob h0 6 [.ref h0_cells, .ref h0_script, .ref h0_next, .ref h0_moved, .ref h0_holder, .ref h0_notes, .int v48], ai T h0_cells 8 (va_cpy f_st f_h0_cells ((3 : Int32)).toNatClampNeg ((0 : Int32)).toNatClampNeg ((8 : Int32)).toNatClampNeg), ai T h0_next 6 f44, ai T h0_moved 6 f_h0_moved, ai T h0_holder 4 f54, ai T h0_notes 3 f63, ai T st 17 f_st] := hD
  obtain ⟨f64, ef64⟩ : ∃ z : Nat → Int32, z = va_cpy f_st f_h0_cells ((3 : Int32)).toNatClampNeg ((0 : Int32)).toNatClampNeg ((8 : Int32)).toNatClampNeg := ⟨_, rfl⟩
  rw [← ef64] at hP hD
  refine lv_aload_n hx hb dX6_unpack_161 rfl (lv_at hl 5 rfl) ?_
  refine lv_bipush (v := 11) hx hb dX6_unpack_162 (by decide) ?_
  refine lv_aload_n hx hb dX6_unpack_164 rfl (lv_at hl 4 rfl) ?_
  refine va_get (D := D) (ci := 6) (v := .ref h0_moved) (C := RX6) (T := TX6) (N := 7) hx hb hg inX6 hown hK hP 0 rfl rfl 3 (by decide) (hg _ kf_X6_18) (fun _ h9 => h9) rfl dX6_unpack_165 ?_
  refine lv_iconst (v := 0) hx hb dX6_unpack_168 (by decide) ?_
  refine lv_bipush (v := 6) hx hb dX6_unpack_169 (by decide) ?_
  refine va_copyi (ty := .int) hx hb (by rw [hml]; exact hl.1.symm) hown (hg _ km_X6_83) (hg _ kv_arraycopy) (hg _ kt_arraycopy) (hg _ kz_J10) hK hP hD hS 6 3 0 0 rfl rfl rfl rfl rfl (by decide) (by decide) (by decide) (Nat.le_of_ble_eq_true rfl) (Nat.le_of_ble_eq_true rfl) (fun _ _ => rfl) (Nat.le_of_ble_eq_true rfl) (Nat.le_of_ble_eq_true rfl) dX6_unpack_171 (fun H locs hP hD hS => ?_)
  have hP : va_P D vwCl [ob h0 6 [.ref h0_cells, .ref h0_script, .ref h0_next, .ref h0_moved, .ref h0_holder, .ref h0_notes, .int v48], ai T h0_cells 8 f64, ai T h0_next 6 f44, ai T h0_moved 6 (va_cpy f_st f_h0_moved ((11 : Int32)).toNatClampNeg ((0 : Int32)).toNatClampNeg ((6 : Int32)).toNatClampNeg), ai T h0_holder 4 f54, ai T h0_notes 3 f63, ai T st 17 f_st] H := hP
  have hD : va_D A [ob h0 6 [.ref h0_cells, .ref h0_script, .ref h0_next, .ref h0_moved, .ref h0_holder, .ref h0_notes, .int v48], ai T h0_cells 8 f64, ai T h0_next 6 f44, ai T h0_moved 6 (va_cpy f_st f_h0_moved ((11 : Int32)).toNatClampNeg ((0 : Int32)).toNatClampNeg ((6 : Int32)).toNatClampNeg), ai T h0_holder 4 f54, ai T h0_notes 3 f63, ai T st 17 f_st] := hD
  obtain ⟨f65, ef65⟩ : ∃ z : Nat → Int32, z = va_cpy f_st f_h0_moved ((11 : Int32)).toNatClampNeg ((0 : Int32)).toNatClampNeg ((6 : Int32)).toNatClampNeg := ⟨_, rfl⟩
  rw [← ef65] at hP hD
  exact ret_v (X := (Nat → Int32) × Int32 × (Nat → Int32) × (Nat → Int32) × (Nat → Int32) × (Nat → Int32)) ((f44, v48, f54, f63, f64, f65)) hx hb hr hlocks hP hD hS [0, 1, 2, 3, 4, 5, 6] (by decide) rfl trivial dX6_unpack_174
theorem dX10_clear_0 : decode cX10_clear 0 = .ok (.aload_n 0, 1) := by decide +kernel
theorem dX10_clear_1 : decode cX10_clear 1 = .ok (.iconst 0, 1) := by decide +kernel
theorem dX10_clear_2 : decode cX10_clear 2 = .ok (.putfield 27, 3) := by decide +kernel
theorem dX10_clear_5 : decode cX10_clear 5 = .ok (.aload_n 0, 1) := by decide +kernel
theorem dX10_clear_6 : decode cX10_clear 6 = .ok (.iconst 1, 1) := by decide +kernel
theorem dX10_clear_7 : decode cX10_clear 7 = .ok (.iload_n 1, 1) := by decide +kernel
theorem dX10_clear_8 : decode cX10_clear 8 = .ok (.bipush 17, 2) := by decide +kernel
theorem dX10_clear_10 : decode cX10_clear 10 = .ok (.invokestatic 31, 3) := by decide +kernel
theorem dX10_clear_13 : decode cX10_clear 13 = .ok (.invokestatic 37, 3) := by decide +kernel
theorem dX10_clear_16 : decode cX10_clear 16 = .ok (.putfield 40, 3) := by decide +kernel
theorem dX10_clear_19 : decode cX10_clear 19 = .ok (.aload_n 0, 1) := by decide +kernel
theorem dX10_clear_20 : decode cX10_clear 20 = .ok (.getfield 24, 3) := by decide +kernel
theorem dX10_clear_23 : decode cX10_clear 23 = .ok (.iconst 0, 1) := by decide +kernel
theorem dX10_clear_24 : decode cX10_clear 24 = .ok (.invokestatic 43, 3) := by decide +kernel
theorem dX10_clear_27 : decode cX10_clear 27 = .ok (.return_, 1) := by decide +kernel
set_option maxHeartbeats 4000000 in
set_option maxRecDepth 100000 in
theorem c_X10_clear (l : Launch) (D : va_G) (T : Nat → ClassId) (h0 : Nat) (h0_n : Int32) (h0_width : Int32) (h0_states : Nat) (h0_parent : Nat) (h0_hand : Nat) (h0_table : Nat) (f_h0_table : Nat → Int32) (sz : Nat) : Met l yX10_clear (WS (.code yX10_clear cX10_clear 2 none)) ({ frames := 4, cells := 0, slots := 0, locals := 128 } : Room) (va_Pc [.ref h0, .int 17] (PW D (TY T) [ob h0 10 [.int h0_n, .int h0_width, .ref h0_states, .ref h0_parent, .ref h0_hand, .ref h0_table], ai T h0_table 8192 f_h0_table] sz)) (QV (X := Unit) D (fun _ => True) (fun _ => [ob h0 10 [.int 0, .int 17, .ref h0_states, .ref h0_parent, .ref h0_hand, .ref h0_table], ai T h0_table 8192 (cst 0)]) (va_A [ob h0 10 [.int h0_n, .int h0_width, .ref h0_states, .ref h0_parent, .ref h0_hand, .ref h0_table], ai T h0_table 8192 f_h0_table] sz)) 0 0 (va_A [ob h0 10 [.int h0_n, .int h0_width, .ref h0_states, .ref h0_parent, .ref h0_hand, .ref h0_table], ai T h0_table 8192 f_h0_table] sz) := by
  refine mk_met (Qc := QV (X := Unit) D (fun _ => True) (fun _ => [ob h0 10 [.int 0, .int 17, .ref h0_states, .ref h0_parent, .ref h0_hand, .ref h0_table], ai T h0_table 8192 (cst 0)])) (lv := [(0, .ref h0), (1, .int 17)]) (by decide +kernel) (Nat.le_of_ble_eq_true rfl) rfl (fun p e s m below meth c A ls H locs hx hb hml hr hlocks hown hin hg hN hA hP hK hD hS hl => ?_)
  refine lv_aload_n hx hb dX10_clear_0 rfl (lv_at hl 0 rfl) ?_
  refine lv_iconst (v := 0) hx hb dX10_clear_1 (by decide) ?_
  refine va_put (D := D) (ci := 10) (v := .int 0) (ty := .int) (C := RX10) (T := TX10) (N := 6) hx hb hg inX10 tyX10 tyX10_ok nmX10 hown hK hP hD hS 0 rfl rfl 0 (by decide) (hg _ kf_X10_27) (fun _ h9 => h9) rfl (by decide +kernel) rfl rfl (Nat.le_of_ble_eq_true rfl) dX10_clear_2 (fun H locs hP hD hS => ?_)
  have hP : va_P D vwCl [ob h0 10 [.int 0, .int h0_width, .ref h0_states, .ref h0_parent, .ref h0_hand, .ref h0_table], ai T h0_table 8192 f_h0_table] H := hP
  have hD : va_D A [ob h0 10 [.int 0, .int h0_width, .ref h0_states, .ref h0_parent, .ref h0_hand, .ref h0_table], ai T h0_table 8192 f_h0_table] := hD
  refine lv_aload_n hx hb dX10_clear_5 rfl (lv_at hl 0 rfl) ?_
  refine lv_iconst (v := 1) hx hb dX10_clear_6 (by decide) ?_
  refine lv_iload_n hx hb dX10_clear_7 rfl (lv_at hl 1 rfl) ?_
  refine lv_bipush (v := 17) hx hb dX10_clear_8 (by decide) ?_
  refine va_mmin hx hb (by rw [hml]; exact hl.1.symm) hown (hg _ km_X10_31) (hg _ kt_J9_min_7cf53) (hg _ kz_J9) (hg _ kd_J9_min_7cf53) (Nat.le_of_ble_eq_true rfl) (Nat.le_of_ble_eq_true rfl) (Nat.le_of_ble_eq_true rfl) (Nat.le_of_ble_eq_true rfl) dX10_clear_10 ?_
  refine z_top (v := 17) (by decide) ?_
  refine va_mmax hx hb (by rw [hml]; exact hl.1.symm) hown (hg _ km_X10_37) (hg _ kt_J9_max_7cf53) (hg _ kz_J9) (hg _ kd_J9_max_7cf53) (Nat.le_of_ble_eq_true rfl) (Nat.le_of_ble_eq_true rfl) (Nat.le_of_ble_eq_true rfl) (Nat.le_of_ble_eq_true rfl) dX10_clear_13 ?_
  refine z_top (v := 17) (by decide) ?_
  refine va_put (D := D) (ci := 10) (v := .int 17) (ty := .int) (C := RX10) (T := TX10) (N := 6) hx hb hg inX10 tyX10 tyX10_ok nmX10 hown hK hP hD hS 0 rfl rfl 1 (by decide) (hg _ kf_X10_40) (fun _ h9 => h9) rfl (by decide +kernel) rfl rfl (Nat.le_of_ble_eq_true rfl) dX10_clear_16 (fun H locs hP hD hS => ?_)
  have hP : va_P D vwCl [ob h0 10 [.int 0, .int 17, .ref h0_states, .ref h0_parent, .ref h0_hand, .ref h0_table], ai T h0_table 8192 f_h0_table] H := hP
  have hD : va_D A [ob h0 10 [.int 0, .int 17, .ref h0_states, .ref h0_parent, .ref h0_hand, .ref h0_table], ai T h0_table 8192 f_h0_table] := hD
  refine lv_aload_n hx hb dX10_clear_19 rfl (lv_at hl 0 rfl) ?_
  refine va_get (D := D) (ci := 10) (v := .ref h0_table) (C := RX10) (T := TX10) (N := 6) hx hb hg inX10 hown hK hP 0 rfl rfl 5 (by decide) (hg _ kf_X10_24) (fun _ h9 => h9) rfl dX10_clear_20 ?_
  refine lv_iconst (v := 0) hx hb dX10_clear_23 (by decide) ?_
  refine cont_v (Wr := [ob h0 10 [.int 0, .int 17, .ref h0_states, .ref h0_parent, .ref h0_hand, .ref h0_table]]) [1] [0] (run_S (n := 2) (As := [.ref h0_table, .int 0]) (rest := []) hx hb hml hown hg hN (c_fill l D T h0_table 8192 f_h0_table 0 (by decide)  H.size) km_X10_43 kt_J7_fill_53178 kz_J7 kd_J7_fill_53178 rfl rfl (by decide +kernel) ⟨Nat.le_of_ble_eq_true rfl, Nat.le_of_ble_eq_true rfl⟩ hK (P_sub hP [1] rfl) (hD.sub [1] (by decide) rfl) rfl hl.1 rfl (Nat.le_of_ble_eq_true rfl) dX10_clear_24 ⟨Nat.le_of_ble_eq_true rfl, Nat.le_of_ble_eq_true rfl⟩) hP hD hS hA rfl rfl (by decide) (by decide) (fun xx H locs hq hP hD hS => ?_)
  have hP : va_P D vwCl [ob h0 10 [.int 0, .int 17, .ref h0_states, .ref h0_parent, .ref h0_hand, .ref h0_table], ai T h0_table 8192 (cst 0)] H := hP
  have hD : va_D A [ob h0 10 [.int 0, .int 17, .ref h0_states, .ref h0_parent, .ref h0_hand, .ref h0_table], ai T h0_table 8192 (cst 0)] := hD
  exact ret_v (X := Unit) (()) hx hb hr hlocks hP hD hS [0, 1] (by decide) rfl trivial dX10_clear_27
theorem dX10_hashOf_0 : decode cX10_hashOf 0 = .ok (.bipush 17, 2) := by decide +kernel
theorem dX10_hashOf_2 : decode cX10_hashOf 2 = .ok (.istore_n 2, 1) := by decide +kernel
theorem dX10_hashOf_3 : decode cX10_hashOf 3 = .ok (.iconst 0, 1) := by decide +kernel
theorem dX10_hashOf_4 : decode cX10_hashOf 4 = .ok (.istore_n 3, 1) := by decide +kernel
theorem dX10_hashOf_5 : decode cX10_hashOf 5 = .ok (.iload_n 3, 1) := by decide +kernel
theorem dX10_hashOf_6 : decode cX10_hashOf 6 = .ok (.aload_n 0, 1) := by decide +kernel
theorem dX10_hashOf_7 : decode cX10_hashOf 7 = .ok (.getfield 40, 3) := by decide +kernel
theorem dX10_hashOf_10 : decode cX10_hashOf 10 = .ok (.if_icmp .ge 25, 3) := by decide +kernel
theorem dX10_hashOf_13 : decode cX10_hashOf 13 = .ok (.iload_n 2, 1) := by decide +kernel
theorem dX10_hashOf_14 : decode cX10_hashOf 14 = .ok (.aload_n 1, 1) := by decide +kernel
theorem dX10_hashOf_15 : decode cX10_hashOf 15 = .ok (.iload_n 3, 1) := by decide +kernel
theorem dX10_hashOf_16 : decode cX10_hashOf 16 = .ok (.iaload, 1) := by decide +kernel
theorem dX10_hashOf_17 : decode cX10_hashOf 17 = .ok (.iadd, 1) := by decide +kernel
theorem dX10_hashOf_18 : decode cX10_hashOf 18 = .ok (.ldc 63, 2) := by decide +kernel
theorem dX10_hashOf_20 : decode cX10_hashOf 20 = .ok (.imul, 1) := by decide +kernel
theorem dX10_hashOf_21 : decode cX10_hashOf 21 = .ok (.istore_n 2, 1) := by decide +kernel
theorem dX10_hashOf_22 : decode cX10_hashOf 22 = .ok (.iload_n 2, 1) := by decide +kernel
theorem dX10_hashOf_23 : decode cX10_hashOf 23 = .ok (.iload_n 2, 1) := by decide +kernel
theorem dX10_hashOf_24 : decode cX10_hashOf 24 = .ok (.bipush 15, 2) := by decide +kernel
theorem dX10_hashOf_26 : decode cX10_hashOf 26 = .ok (.iushr, 1) := by decide +kernel
theorem dX10_hashOf_27 : decode cX10_hashOf 27 = .ok (.ixor, 1) := by decide +kernel
theorem dX10_hashOf_28 : decode cX10_hashOf 28 = .ok (.istore_n 2, 1) := by decide +kernel
theorem dX10_hashOf_29 : decode cX10_hashOf 29 = .ok (.iinc 3 1, 3) := by decide +kernel
theorem dX10_hashOf_32 : decode cX10_hashOf 32 = .ok (.goto (-27), 3) := by decide +kernel
theorem dX10_hashOf_35 : decode cX10_hashOf 35 = .ok (.iload_n 2, 1) := by decide +kernel
theorem dX10_hashOf_36 : decode cX10_hashOf 36 = .ok (.sipush 8191, 3) := by decide +kernel
theorem dX10_hashOf_39 : decode cX10_hashOf 39 = .ok (.iand, 1) := by decide +kernel
theorem dX10_hashOf_40 : decode cX10_hashOf 40 = .ok (.ireturn, 1) := by decide +kernel
set_option maxHeartbeats 4000000 in
set_option maxRecDepth 100000 in
theorem c_X10_hashOf (l : Launch) (D : va_G) (T : Nat → ClassId) (h0 : Nat) (h0_n : Int32) (h0_states : Nat) (h0_parent : Nat) (h0_hand : Nat) (h0_table : Nat) (st : Nat) (f_st : Nat → Int32) (sz : Nat) : Met l yX10_hashOf (WS (.code yX10_hashOf cX10_hashOf 4 (some .int))) ({ frames := 2, cells := 0, slots := 0, locals := 64 } : Room) (va_Pc [.ref h0, .ref st] (PW D (TY T) [ob h0 10 [.int h0_n, .int 17, .ref h0_states, .ref h0_parent, .ref h0_hand, .ref h0_table], ai T st 17 f_st] sz)) (QI (X := Int32) D (fun rr xx => rr = (xx &&& 8191)) (fun xx => [ob h0 10 [.int h0_n, .int 17, .ref h0_states, .ref h0_parent, .ref h0_hand, .ref h0_table], ai T st 17 f_st]) (va_A [ob h0 10 [.int h0_n, .int 17, .ref h0_states, .ref h0_parent, .ref h0_hand, .ref h0_table], ai T st 17 f_st] sz)) 0 0 (va_A [ob h0 10 [.int h0_n, .int 17, .ref h0_states, .ref h0_parent, .ref h0_hand, .ref h0_table], ai T st 17 f_st] sz) := by
  refine mk_met (Qc := QI (X := Int32) D (fun rr xx => rr = (xx &&& 8191)) (fun xx => [ob h0 10 [.int h0_n, .int 17, .ref h0_states, .ref h0_parent, .ref h0_hand, .ref h0_table], ai T st 17 f_st])) (lv := [(0, .ref h0), (1, .ref st)]) (by decide +kernel) (Nat.le_of_ble_eq_true rfl) rfl (fun p e s m below meth c A ls H locs hx hb hml hr hlocks hown hin hg hN hA hP hK hD hS hl => ?_)
  refine lv_bipush (v := 17) hx hb dX10_hashOf_0 (by decide) ?_
  refine lv_istore_n (lv' := [(2, .int 17), (0, .ref h0), (1, .ref st)]) hx hb dX10_hashOf_2 rfl hl (by decide) rfl (fun ls hl => ?_)
  refine lv_iconst (v := 0) hx hb dX10_hashOf_3 (by decide) ?_
  refine lv_istore_n (lv' := [(3, .int 0), (2, .int 17), (0, .ref h0), (1, .ref st)]) hx hb dX10_hashOf_4 rfl hl (by decide) rfl (fun ls hl => ?_)
  refine loopW (σ := Int32) (Wf := fun H locs ls => W p l e ({ frames := 2, cells := 0, slots := 0, locals := 64 } : Room) s m ([.ref h0, .ref st] : List Value).toArray below meth c H locs 0 0 (MQ below ((QI (X := Int32) D (fun rr xx => rr = (xx &&& 8191)) (fun xx => [ob h0 10 [.int h0_n, .int 17, .ref h0_states, .ref h0_parent, .ref h0_hand, .ref h0_table], ai T st 17 f_st])) A) ([.ref h0, .ref st] : List Value).toArray s 0 0 A) (F0 m 5 ls [])) H locs ls (17) (fun ii xx H locs ls => va_P D vwCl [ob h0 10 [.int h0_n, .int 17, .ref h0_states, .ref h0_parent, .ref h0_hand, .ref h0_table], ai T st 17 f_st] H ∧ va_D A [ob h0 10 [.int h0_n, .int 17, .ref h0_states, .ref h0_parent, .ref h0_hand, .ref h0_table], ai T st 17 f_st] ∧ va_S A s.heap H locs ∧ lv_has ls 4 [(3, .int (nI ii)), (2, .int xx), (0, .ref h0), (1, .ref st)]) ?_ ?_ (17) ⟨hP, hD, hS, lv_sub hl [0, 1, 2, 3] rfl⟩
  · intro g1 H locs ls hI
    obtain ⟨hP, hD, hS, hl⟩ := hI
    have hP : va_P D vwCl [ob h0 10 [.int h0_n, .int 17, .ref h0_states, .ref h0_parent, .ref h0_hand, .ref h0_table], ai T st 17 f_st] H := hP
    have hD : va_D A [ob h0 10 [.int h0_n, .int 17, .ref h0_states, .ref h0_parent, .ref h0_hand, .ref h0_table], ai T st 17 f_st] := hD
    have hl : lv_has ls 4 [(3, .int (nI 17)), (2, .int g1), (0, .ref h0), (1, .ref st)] := hl
    refine lv_iload_n hx hb dX10_hashOf_5 rfl (lv_at hl 0 rfl) ?_
    refine lv_aload_n hx hb dX10_hashOf_6 rfl (lv_at hl 2 rfl) ?_
    refine va_get (D := D) (ci := 10) (v := .int 17) (C := RX10) (T := TX10) (N := 6) hx hb hg inX10 hown hK hP 0 rfl rfl 1 (by decide) (hg _ kf_X10_40) (fun _ h9 => h9) rfl dX10_hashOf_7 ?_
    refine lv_icmp_ge (tgt := 35) hx hb dX10_hashOf_10 (by decide) (fun _ => ?_) (fun hc => absurd (by decide) hc)
    refine lv_iload_n hx hb dX10_hashOf_35 rfl (lv_at hl 1 rfl) ?_
    refine lv_sipush (v := 8191) hx hb dX10_hashOf_36 (by decide) ?_
    refine lv_iand hx hb dX10_hashOf_39 ?_
    exact ret_i (X := Int32) (g1) hx hb hr hlocks hP hD hS [0, 1] (by decide) rfl rfl rfl dX10_hashOf_40
  · intro i2 g3 hi_i2 ih H locs ls hI
    obtain ⟨hP, hD, hS, hl⟩ := hI
    have hP : va_P D vwCl [ob h0 10 [.int h0_n, .int 17, .ref h0_states, .ref h0_parent, .ref h0_hand, .ref h0_table], ai T st 17 f_st] H := hP
    have hD : va_D A [ob h0 10 [.int h0_n, .int 17, .ref h0_states, .ref h0_parent, .ref h0_hand, .ref h0_table], ai T st 17 f_st] := hD
    have hl : lv_has ls 4 [(3, .int (nI i2)), (2, .int g3), (0, .ref h0), (1, .ref st)] := hl
    refine lv_iload_n hx hb dX10_hashOf_5 rfl (lv_at hl 0 rfl) ?_
    refine lv_aload_n hx hb dX10_hashOf_6 rfl (lv_at hl 2 rfl) ?_
    refine va_get (D := D) (ci := 10) (v := .int 17) (C := RX10) (T := TX10) (N := 6) hx hb hg inX10 hown hK hP 0 rfl rfl 1 (by decide) (hg _ kf_X10_40) (fun _ h9 => h9) rfl dX10_hashOf_7 ?_
    refine lv_icmp_ge (tgt := 35) hx hb dX10_hashOf_10 (by decide) (fun hc => absurd hc (nI_ge (a := i2) (b := 17) (by omega) (by omega))) (fun _ => ?_)
    refine lv_iload_n hx hb dX10_hashOf_13 rfl (lv_at hl 1 rfl) ?_
    refine lv_aload_n hx hb dX10_hashOf_14 rfl (lv_at hl 3 rfl) ?_
    refine lv_iload_n hx hb dX10_hashOf_15 rfl (lv_at hl 0 rfl) ?_
    refine z_iald (v := (f_st i2)) (j := i2) hx hb hK hP 1 0 rfl rfl (vp_in_nI (show i2 < 17 by omega) (by omega)) (nI_clamp (by omega)) rfl dX10_hashOf_16 ?_
    refine lv_iadd hx hb dX10_hashOf_17 ?_
    refine lv_topi (fun v4 _ => ?_)
    refine lv_ldc hx hb hown (hg _ kk_X10_63) dX10_hashOf_18 ?_
    refine lv_imul hx hb dX10_hashOf_20 ?_
    refine lv_topi (fun v5 _ => ?_)
    refine lv_istore_n (lv' := [(2, .int v5), (3, .int (nI i2)), (0, .ref h0), (1, .ref st)]) hx hb dX10_hashOf_21 rfl hl (by decide) rfl (fun ls hl => ?_)
    refine lv_iload_n hx hb dX10_hashOf_22 rfl (lv_at hl 0 rfl) ?_
    refine lv_iload_n hx hb dX10_hashOf_23 rfl (lv_at hl 0 rfl) ?_
    refine lv_bipush (v := 15) hx hb dX10_hashOf_24 (by decide) ?_
    refine lv_iushr (v := ((v5 : Int32).toUInt32 >>> ((15 : Int32).toUInt32 &&& Int32.toUInt32 31)).toInt32) hx hb dX10_hashOf_26 rfl ?_
    refine lv_topi (fun v6 _ => ?_)
    refine lv_ixor hx hb dX10_hashOf_27 ?_
    refine lv_topi (fun v7 _ => ?_)
    refine lv_istore_n (lv' := [(2, .int v7), (3, .int (nI i2)), (0, .ref h0), (1, .ref st)]) hx hb dX10_hashOf_28 rfl hl (by decide) rfl (fun ls hl => ?_)
    refine lv_iinc (v := nI (i2 + 1)) (lv' := [(3, .int (nI (i2 + 1))), (2, .int v7), (0, .ref h0), (1, .ref st)]) hx hb dX10_hashOf_29 hl (k := 1) rfl (nI_1 (i2)) (by decide) rfl (fun ls hl => ?_)
    refine lv_goto (tgt := 5) hx hb dX10_hashOf_32 (by decide) ?_
    exact ih (v7) _ _ _ ⟨hP, hD, hS, lv_sub hl [0, 1, 2, 3] rfl⟩
theorem dX10_offer_0 : decode cX10_offer 0 = .ok (.aload_n 0, 1) := by decide +kernel
theorem dX10_offer_1 : decode cX10_offer 1 = .ok (.aload_n 1, 1) := by decide +kernel
theorem dX10_offer_2 : decode cX10_offer 2 = .ok (.invokevirtual 49, 3) := by decide +kernel
theorem dX10_offer_5 : decode cX10_offer 5 = .ok (.istore 4, 2) := by decide +kernel
theorem dX10_offer_7 : decode cX10_offer 7 = .ok (.iconst 0, 1) := by decide +kernel
theorem dX10_offer_8 : decode cX10_offer 8 = .ok (.istore 5, 2) := by decide +kernel
theorem dX10_offer_10 : decode cX10_offer 10 = .ok (.iload 5, 2) := by decide +kernel
theorem dX10_offer_12 : decode cX10_offer 12 = .ok (.sipush 8192, 3) := by decide +kernel
theorem dX10_offer_15 : decode cX10_offer 15 = .ok (.if_icmp .ge 48, 3) := by decide +kernel
theorem dX10_offer_18 : decode cX10_offer 18 = .ok (.aload_n 0, 1) := by decide +kernel
theorem dX10_offer_19 : decode cX10_offer 19 = .ok (.getfield 24, 3) := by decide +kernel
theorem dX10_offer_22 : decode cX10_offer 22 = .ok (.iload 4, 2) := by decide +kernel
theorem dX10_offer_24 : decode cX10_offer 24 = .ok (.iaload, 1) := by decide +kernel
theorem dX10_offer_25 : decode cX10_offer 25 = .ok (.ifCond .eq 38, 3) := by decide +kernel
theorem dX10_offer_63 : decode cX10_offer 63 = .ok (.aload_n 0, 1) := by decide +kernel
theorem dX10_offer_64 : decode cX10_offer 64 = .ok (.getfield 27, 3) := by decide +kernel
theorem dX10_offer_67 : decode cX10_offer 67 = .ok (.sipush 3000, 3) := by decide +kernel
theorem dX10_offer_70 : decode cX10_offer 70 = .ok (.if_icmp .lt 6, 3) := by decide +kernel
theorem dX10_offer_76 : decode cX10_offer 76 = .ok (.aload_n 1, 1) := by decide +kernel
theorem dX10_offer_77 : decode cX10_offer 77 = .ok (.iconst 0, 1) := by decide +kernel
theorem dX10_offer_78 : decode cX10_offer 78 = .ok (.aload_n 0, 1) := by decide +kernel
theorem dX10_offer_79 : decode cX10_offer 79 = .ok (.getfield 12, 3) := by decide +kernel
theorem dX10_offer_82 : decode cX10_offer 82 = .ok (.aload_n 0, 1) := by decide +kernel
theorem dX10_offer_83 : decode cX10_offer 83 = .ok (.getfield 27, 3) := by decide +kernel
theorem dX10_offer_86 : decode cX10_offer 86 = .ok (.aload_n 0, 1) := by decide +kernel
theorem dX10_offer_87 : decode cX10_offer 87 = .ok (.getfield 40, 3) := by decide +kernel
theorem dX10_offer_90 : decode cX10_offer 90 = .ok (.imul, 1) := by decide +kernel
theorem dX10_offer_91 : decode cX10_offer 91 = .ok (.aload_n 0, 1) := by decide +kernel
theorem dX10_offer_92 : decode cX10_offer 92 = .ok (.getfield 40, 3) := by decide +kernel
theorem dX10_offer_95 : decode cX10_offer 95 = .ok (.invokestatic 57, 3) := by decide +kernel
theorem dX10_offer_98 : decode cX10_offer 98 = .ok (.aload_n 0, 1) := by decide +kernel
theorem dX10_offer_99 : decode cX10_offer 99 = .ok (.getfield 18, 3) := by decide +kernel
theorem dX10_offer_102 : decode cX10_offer 102 = .ok (.aload_n 0, 1) := by decide +kernel
theorem dX10_offer_103 : decode cX10_offer 103 = .ok (.getfield 27, 3) := by decide +kernel
theorem dX10_offer_106 : decode cX10_offer 106 = .ok (.iload_n 2, 1) := by decide +kernel
theorem dX10_offer_107 : decode cX10_offer 107 = .ok (.iastore, 1) := by decide +kernel
theorem dX10_offer_108 : decode cX10_offer 108 = .ok (.aload_n 0, 1) := by decide +kernel
theorem dX10_offer_109 : decode cX10_offer 109 = .ok (.getfield 21, 3) := by decide +kernel
theorem dX10_offer_112 : decode cX10_offer 112 = .ok (.aload_n 0, 1) := by decide +kernel
theorem dX10_offer_113 : decode cX10_offer 113 = .ok (.getfield 27, 3) := by decide +kernel
theorem dX10_offer_116 : decode cX10_offer 116 = .ok (.iload_n 3, 1) := by decide +kernel
theorem dX10_offer_117 : decode cX10_offer 117 = .ok (.iastore, 1) := by decide +kernel
theorem dX10_offer_118 : decode cX10_offer 118 = .ok (.aload_n 0, 1) := by decide +kernel
theorem dX10_offer_119 : decode cX10_offer 119 = .ok (.dup, 1) := by decide +kernel
theorem dX10_offer_120 : decode cX10_offer 120 = .ok (.getfield 27, 3) := by decide +kernel
theorem dX10_offer_123 : decode cX10_offer 123 = .ok (.iconst 1, 1) := by decide +kernel
theorem dX10_offer_124 : decode cX10_offer 124 = .ok (.iadd, 1) := by decide +kernel
theorem dX10_offer_125 : decode cX10_offer 125 = .ok (.putfield 27, 3) := by decide +kernel
theorem dX10_offer_128 : decode cX10_offer 128 = .ok (.aload_n 0, 1) := by decide +kernel
theorem dX10_offer_129 : decode cX10_offer 129 = .ok (.getfield 24, 3) := by decide +kernel
theorem dX10_offer_132 : decode cX10_offer 132 = .ok (.iload 4, 2) := by decide +kernel
theorem dX10_offer_134 : decode cX10_offer 134 = .ok (.aload_n 0, 1) := by decide +kernel
theorem dX10_offer_135 : decode cX10_offer 135 = .ok (.getfield 27, 3) := by decide +kernel
theorem dX10_offer_138 : decode cX10_offer 138 = .ok (.iastore, 1) := by decide +kernel
theorem dX10_offer_139 : decode cX10_offer 139 = .ok (.aload_n 0, 1) := by decide +kernel
theorem dX10_offer_140 : decode cX10_offer 140 = .ok (.getfield 27, 3) := by decide +kernel
theorem dX10_offer_143 : decode cX10_offer 143 = .ok (.iconst 1, 1) := by decide +kernel
theorem dX10_offer_144 : decode cX10_offer 144 = .ok (.isub, 1) := by decide +kernel
theorem dX10_offer_145 : decode cX10_offer 145 = .ok (.ireturn, 1) := by decide +kernel
set_option maxHeartbeats 4000000 in
set_option maxRecDepth 100000 in
theorem c_X10_offer (l : Launch) (D : va_G) (T : Nat → ClassId) (h0 : Nat) (h0_states : Nat) (h0_parent : Nat) (h0_hand : Nat) (h0_table : Nat) (f_h0_states : Nat → Int32) (f_h0_parent : Nat → Int32) (f_h0_hand : Nat → Int32) (st : Nat) (f_st : Nat → Int32) (sz : Nat) : Met l yX10_offer (WS (.code yX10_offer cX10_offer 6 (some .int))) ({ frames := 4, cells := 0, slots := 0, locals := 128 } : Room) (va_Pc [.ref h0, .ref st, .int (-1), .int (-1)] (PW D (TY T) [ob h0 10 [.int 0, .int 17, .ref h0_states, .ref h0_parent, .ref h0_hand, .ref h0_table], ai T h0_states 51000 f_h0_states, ai T h0_parent 3000 f_h0_parent, ai T h0_hand 3000 f_h0_hand, ai T h0_table 8192 (cst 0), ai T st 17 f_st] sz)) (QI (X := (Nat → Int32) × (Nat → Int32) × (Nat → Int32) × (Nat → Int32)) D (fun rr xx => rr = 0) (fun xx => [ob h0 10 [.int 1, .int 17, .ref h0_states, .ref h0_parent, .ref h0_hand, .ref h0_table], ai T h0_states 51000 (xx.1), ai T h0_parent 3000 (xx.2.1), ai T h0_hand 3000 (xx.2.2.1), ai T h0_table 8192 (xx.2.2.2), ai T st 17 f_st]) (va_A [ob h0 10 [.int 0, .int 17, .ref h0_states, .ref h0_parent, .ref h0_hand, .ref h0_table], ai T h0_states 51000 f_h0_states, ai T h0_parent 3000 f_h0_parent, ai T h0_hand 3000 f_h0_hand, ai T h0_table 8192 (cst 0), ai T st 17 f_st] sz)) 0 0 (va_A [ob h0 10 [.int 0, .int 17, .ref h0_states, .ref h0_parent, .ref h0_hand, .ref h0_table], ai T h0_states 51000 f_h0_states, ai T h0_parent 3000 f_h0_parent, ai T h0_hand 3000 f_h0_hand, ai T h0_table 8192 (cst 0), ai T st 17 f_st] sz) := by
  refine mk_met (Qc := QI (X := (Nat → Int32) × (Nat → Int32) × (Nat → Int32) × (Nat → Int32)) D (fun rr xx => rr = 0) (fun xx => [ob h0 10 [.int 1, .int 17, .ref h0_states, .ref h0_parent, .ref h0_hand, .ref h0_table], ai T h0_states 51000 (xx.1), ai T h0_parent 3000 (xx.2.1), ai T h0_hand 3000 (xx.2.2.1), ai T h0_table 8192 (xx.2.2.2), ai T st 17 f_st])) (lv := [(0, .ref h0), (1, .ref st), (2, .int (-1)), (3, .int (-1))]) (by decide +kernel) (Nat.le_of_ble_eq_true rfl) rfl (fun p e s m below meth c A ls H locs hx hb hml hr hlocks hown hin hg hN hA hP hK hD hS hl => ?_)
  refine lv_aload_n hx hb dX10_offer_0 rfl (lv_at hl 0 rfl) ?_
  refine lv_aload_n hx hb dX10_offer_1 rfl (lv_at hl 1 rfl) ?_
  refine cont_i (Wr := [ai T h0_states 51000 f_h0_states, ai T h0_parent 3000 f_h0_parent, ai T h0_hand 3000 f_h0_hand, ai T h0_table 8192 (cst 0)]) [0, 5] [1, 2, 3, 4] (run_V (n := 1) (As := [.ref st]) (rest := []) 10 0 hx hb hml hown hg hN (c_X10_hashOf l D T h0 0 h0_states h0_parent h0_hand h0_table st f_st  H.size) km_X10_49 ki_X10_hashOf ks_X10_hashOf kz_X10 kd_X10_hashOf rfl rfl (by decide +kernel) ⟨Nat.le_of_ble_eq_true rfl, Nat.le_of_ble_eq_true rfl⟩ hK (P_sub hP [0, 5] rfl) (hD.sub [0, 5] (by decide) rfl) rfl rfl rfl hl.1 rfl (Nat.le_of_ble_eq_true rfl) dX10_offer_2 ⟨Nat.le_of_ble_eq_true rfl, Nat.le_of_ble_eq_true rfl⟩) hP hD hS hA rfl rfl (by decide) (by decide) (fun rr g1 H locs hq hP hD hS => ?_)
  obtain rfl : rr = (g1 &&& 8191) := hq
  have hP : va_P D vwCl [ai T h0_states 51000 f_h0_states, ai T h0_parent 3000 f_h0_parent, ai T h0_hand 3000 f_h0_hand, ai T h0_table 8192 (cst 0), ob h0 10 [.int 0, .int 17, .ref h0_states, .ref h0_parent, .ref h0_hand, .ref h0_table], ai T st 17 f_st] H := hP
  have hD : va_D A [ai T h0_states 51000 f_h0_states, ai T h0_parent 3000 f_h0_parent, ai T h0_hand 3000 f_h0_hand, ai T h0_table 8192 (cst 0), ob h0 10 [.int 0, .int 17, .ref h0_states, .ref h0_parent, .ref h0_hand, .ref h0_table], ai T st 17 f_st] := hD
  refine lv_istore (lv' := [(4, .int (g1 &&& 8191)), (0, .ref h0), (1, .ref st), (2, .int (-1)), (3, .int (-1))]) hx hb dX10_offer_5 hl (by decide) rfl (fun ls hl => ?_)
  refine lv_iconst (v := 0) hx hb dX10_offer_7 (by decide) ?_
  refine lv_istore (lv' := [(5, .int 0), (4, .int (g1 &&& 8191)), (0, .ref h0), (1, .ref st), (2, .int (-1)), (3, .int (-1))]) hx hb dX10_offer_8 hl (by decide) rfl (fun ls hl => ?_)
  refine lv_iload hx hb dX10_offer_10 (lv_at hl 0 rfl) ?_
  refine lv_sipush (v := 8192) hx hb dX10_offer_12 (by decide) ?_
  refine lv_icmp_ge (tgt := 63) hx hb dX10_offer_15 (by decide) (fun hc => absurd hc (by decide)) (fun _ => ?_)
  refine lv_aload_n hx hb dX10_offer_18 rfl (lv_at hl 2 rfl) ?_
  refine va_get (D := D) (ci := 10) (v := .ref h0_table) (C := RX10) (T := TX10) (N := 6) hx hb hg inX10 hown hK hP 4 rfl rfl 5 (by decide) (hg _ kf_X10_24) (fun _ h9 => h9) rfl dX10_offer_19 ?_
  refine lv_iload hx hb dX10_offer_22 (lv_at hl 1 rfl) ?_
  refine z_iald (v := 0) (j := (g1 &&& 8191).toNatClampNeg) hx hb hK hP 3 0 rfl rfl (pk_andIn _ 13 (by decide) (by decide)) rfl (by first | rfl | decide | (simp [upd, cst]; done)) dX10_offer_24 ?_
  refine lv_if_eq (tgt := 63) hx hb dX10_offer_25 (by decide) (fun _ => ?_) (fun hc => absurd (by decide) hc)
  refine lv_aload_n hx hb dX10_offer_63 rfl (lv_at hl 2 rfl) ?_
  refine va_get (D := D) (ci := 10) (v := .int 0) (C := RX10) (T := TX10) (N := 6) hx hb hg inX10 hown hK hP 4 rfl rfl 0 (by decide) (hg _ kf_X10_27) (fun _ h9 => h9) rfl dX10_offer_64 ?_
  refine lv_sipush (v := 3000) hx hb dX10_offer_67 (by decide) ?_
  refine lv_icmp_lt (tgt := 76) hx hb dX10_offer_70 (by decide) (fun _ => ?_) (fun hc => absurd (by decide) hc)
  refine lv_aload_n hx hb dX10_offer_76 rfl (lv_at hl 3 rfl) ?_
  refine lv_iconst (v := 0) hx hb dX10_offer_77 (by decide) ?_
  refine lv_aload_n hx hb dX10_offer_78 rfl (lv_at hl 2 rfl) ?_
  refine va_get (D := D) (ci := 10) (v := .ref h0_states) (C := RX10) (T := TX10) (N := 6) hx hb hg inX10 hown hK hP 4 rfl rfl 2 (by decide) (hg _ kf_X10_12) (fun _ h9 => h9) rfl dX10_offer_79 ?_
  refine lv_aload_n hx hb dX10_offer_82 rfl (lv_at hl 2 rfl) ?_
  refine va_get (D := D) (ci := 10) (v := .int 0) (C := RX10) (T := TX10) (N := 6) hx hb hg inX10 hown hK hP 4 rfl rfl 0 (by decide) (hg _ kf_X10_27) (fun _ h9 => h9) rfl dX10_offer_83 ?_
  refine lv_aload_n hx hb dX10_offer_86 rfl (lv_at hl 2 rfl) ?_
  refine va_get (D := D) (ci := 10) (v := .int 17) (C := RX10) (T := TX10) (N := 6) hx hb hg inX10 hown hK hP 4 rfl rfl 1 (by decide) (hg _ kf_X10_40) (fun _ h9 => h9) rfl dX10_offer_87 ?_
  refine lv_imul hx hb dX10_offer_90 ?_
  refine z_top (v := 0) (by decide) ?_
  refine lv_aload_n hx hb dX10_offer_91 rfl (lv_at hl 2 rfl) ?_
  refine va_get (D := D) (ci := 10) (v := .int 17) (C := RX10) (T := TX10) (N := 6) hx hb hg inX10 hown hK hP 4 rfl rfl 1 (by decide) (hg _ kf_X10_40) (fun _ h9 => h9) rfl dX10_offer_92 ?_
  refine va_copyi (ty := .int) hx hb (by rw [hml]; exact hl.1.symm) hown (hg _ km_X10_57) (hg _ kv_arraycopy) (hg _ kt_arraycopy) (hg _ kz_J10) hK hP hD hS 5 0 0 0 rfl rfl rfl rfl rfl (by decide) (by decide) (by decide) (Nat.le_of_ble_eq_true rfl) (Nat.le_of_ble_eq_true rfl) (fun _ _ => rfl) (Nat.le_of_ble_eq_true rfl) (Nat.le_of_ble_eq_true rfl) dX10_offer_95 (fun H locs hP hD hS => ?_)
  have hP : va_P D vwCl [ai T h0_states 51000 (va_cpy f_st f_h0_states ((0 : Int32)).toNatClampNeg ((0 : Int32)).toNatClampNeg ((17 : Int32)).toNatClampNeg), ai T h0_parent 3000 f_h0_parent, ai T h0_hand 3000 f_h0_hand, ai T h0_table 8192 (cst 0), ob h0 10 [.int 0, .int 17, .ref h0_states, .ref h0_parent, .ref h0_hand, .ref h0_table], ai T st 17 f_st] H := hP
  have hD : va_D A [ai T h0_states 51000 (va_cpy f_st f_h0_states ((0 : Int32)).toNatClampNeg ((0 : Int32)).toNatClampNeg ((17 : Int32)).toNatClampNeg), ai T h0_parent 3000 f_h0_parent, ai T h0_hand 3000 f_h0_hand, ai T h0_table 8192 (cst 0), ob h0 10 [.int 0, .int 17, .ref h0_states, .ref h0_parent, .ref h0_hand, .ref h0_table], ai T st 17 f_st] := hD
  obtain ⟨f2, ef2⟩ : ∃ z : Nat → Int32, z = va_cpy f_st f_h0_states ((0 : Int32)).toNatClampNeg ((0 : Int32)).toNatClampNeg ((17 : Int32)).toNatClampNeg := ⟨_, rfl⟩
  rw [← ef2] at hP hD
  refine lv_aload_n hx hb dX10_offer_98 rfl (lv_at hl 2 rfl) ?_
  refine va_get (D := D) (ci := 10) (v := .ref h0_parent) (C := RX10) (T := TX10) (N := 6) hx hb hg inX10 hown hK hP 4 rfl rfl 3 (by decide) (hg _ kf_X10_18) (fun _ h9 => h9) rfl dX10_offer_99 ?_
  refine lv_aload_n hx hb dX10_offer_102 rfl (lv_at hl 2 rfl) ?_
  refine va_get (D := D) (ci := 10) (v := .int 0) (C := RX10) (T := TX10) (N := 6) hx hb hg inX10 hown hK hP 4 rfl rfl 0 (by decide) (hg _ kf_X10_27) (fun _ h9 => h9) rfl dX10_offer_103 ?_
  refine lv_iload_n hx hb dX10_offer_106 rfl (lv_at hl 4 rfl) ?_
  refine z_iast (g := upd f_h0_parent 0 (-1)) (j := 0) hx hb hK hP hD hS 1 0 rfl rfl (by unfold vp_in; decide) (by decide) rfl dX10_offer_107 (fun H locs hP hD hS => ?_)
  have hP : va_P D vwCl [ai T h0_states 51000 f2, ai T h0_parent 3000 (upd f_h0_parent 0 (-1)), ai T h0_hand 3000 f_h0_hand, ai T h0_table 8192 (cst 0), ob h0 10 [.int 0, .int 17, .ref h0_states, .ref h0_parent, .ref h0_hand, .ref h0_table], ai T st 17 f_st] H := hP
  have hD : va_D A [ai T h0_states 51000 f2, ai T h0_parent 3000 (upd f_h0_parent 0 (-1)), ai T h0_hand 3000 f_h0_hand, ai T h0_table 8192 (cst 0), ob h0 10 [.int 0, .int 17, .ref h0_states, .ref h0_parent, .ref h0_hand, .ref h0_table], ai T st 17 f_st] := hD
  obtain ⟨f3, ef3⟩ : ∃ z : Nat → Int32, z = upd f_h0_parent 0 (-1) := ⟨_, rfl⟩
  rw [← ef3] at hP hD
  refine lv_aload_n hx hb dX10_offer_108 rfl (lv_at hl 2 rfl) ?_
  refine va_get (D := D) (ci := 10) (v := .ref h0_hand) (C := RX10) (T := TX10) (N := 6) hx hb hg inX10 hown hK hP 4 rfl rfl 4 (by decide) (hg _ kf_X10_21) (fun _ h9 => h9) rfl dX10_offer_109 ?_
  refine lv_aload_n hx hb dX10_offer_112 rfl (lv_at hl 2 rfl) ?_
  refine va_get (D := D) (ci := 10) (v := .int 0) (C := RX10) (T := TX10) (N := 6) hx hb hg inX10 hown hK hP 4 rfl rfl 0 (by decide) (hg _ kf_X10_27) (fun _ h9 => h9) rfl dX10_offer_113 ?_
  refine lv_iload_n hx hb dX10_offer_116 rfl (lv_at hl 5 rfl) ?_
  refine z_iast (g := upd f_h0_hand 0 (-1)) (j := 0) hx hb hK hP hD hS 2 0 rfl rfl (by unfold vp_in; decide) (by decide) rfl dX10_offer_117 (fun H locs hP hD hS => ?_)
  have hP : va_P D vwCl [ai T h0_states 51000 f2, ai T h0_parent 3000 f3, ai T h0_hand 3000 (upd f_h0_hand 0 (-1)), ai T h0_table 8192 (cst 0), ob h0 10 [.int 0, .int 17, .ref h0_states, .ref h0_parent, .ref h0_hand, .ref h0_table], ai T st 17 f_st] H := hP
  have hD : va_D A [ai T h0_states 51000 f2, ai T h0_parent 3000 f3, ai T h0_hand 3000 (upd f_h0_hand 0 (-1)), ai T h0_table 8192 (cst 0), ob h0 10 [.int 0, .int 17, .ref h0_states, .ref h0_parent, .ref h0_hand, .ref h0_table], ai T st 17 f_st] := hD
  obtain ⟨f4, ef4⟩ : ∃ z : Nat → Int32, z = upd f_h0_hand 0 (-1) := ⟨_, rfl⟩
  rw [← ef4] at hP hD
  refine lv_aload_n hx hb dX10_offer_118 rfl (lv_at hl 2 rfl) ?_
  refine lv_dup hx hb dX10_offer_119 rfl ?_
  refine va_get (D := D) (ci := 10) (v := .int 0) (C := RX10) (T := TX10) (N := 6) hx hb hg inX10 hown hK hP 4 rfl rfl 0 (by decide) (hg _ kf_X10_27) (fun _ h9 => h9) rfl dX10_offer_120 ?_
  refine lv_iconst (v := 1) hx hb dX10_offer_123 (by decide) ?_
  refine lv_iadd hx hb dX10_offer_124 ?_
  refine z_top (v := 1) (by decide) ?_
  refine va_put (D := D) (ci := 10) (v := .int 1) (ty := .int) (C := RX10) (T := TX10) (N := 6) hx hb hg inX10 tyX10 tyX10_ok nmX10 hown hK hP hD hS 4 rfl rfl 0 (by decide) (hg _ kf_X10_27) (fun _ h9 => h9) rfl (by decide +kernel) rfl rfl (Nat.le_of_ble_eq_true rfl) dX10_offer_125 (fun H locs hP hD hS => ?_)
  have hP : va_P D vwCl [ai T h0_states 51000 f2, ai T h0_parent 3000 f3, ai T h0_hand 3000 f4, ai T h0_table 8192 (cst 0), ob h0 10 [.int 1, .int 17, .ref h0_states, .ref h0_parent, .ref h0_hand, .ref h0_table], ai T st 17 f_st] H := hP
  have hD : va_D A [ai T h0_states 51000 f2, ai T h0_parent 3000 f3, ai T h0_hand 3000 f4, ai T h0_table 8192 (cst 0), ob h0 10 [.int 1, .int 17, .ref h0_states, .ref h0_parent, .ref h0_hand, .ref h0_table], ai T st 17 f_st] := hD
  refine lv_aload_n hx hb dX10_offer_128 rfl (lv_at hl 2 rfl) ?_
  refine va_get (D := D) (ci := 10) (v := .ref h0_table) (C := RX10) (T := TX10) (N := 6) hx hb hg inX10 hown hK hP 4 rfl rfl 5 (by decide) (hg _ kf_X10_24) (fun _ h9 => h9) rfl dX10_offer_129 ?_
  refine lv_iload hx hb dX10_offer_132 (lv_at hl 1 rfl) ?_
  refine lv_aload_n hx hb dX10_offer_134 rfl (lv_at hl 2 rfl) ?_
  refine va_get (D := D) (ci := 10) (v := .int 1) (C := RX10) (T := TX10) (N := 6) hx hb hg inX10 hown hK hP 4 rfl rfl 0 (by decide) (hg _ kf_X10_27) (fun _ h9 => h9) rfl dX10_offer_135 ?_
  refine z_iast (g := upd (cst 0) ((g1 &&& 8191).toNatClampNeg) 1) (j := (g1 &&& 8191).toNatClampNeg) hx hb hK hP hD hS 3 0 rfl rfl (pk_andIn _ 13 (by decide) (by decide)) rfl rfl dX10_offer_138 (fun H locs hP hD hS => ?_)
  have hP : va_P D vwCl [ai T h0_states 51000 f2, ai T h0_parent 3000 f3, ai T h0_hand 3000 f4, ai T h0_table 8192 (upd (cst 0) ((g1 &&& 8191).toNatClampNeg) 1), ob h0 10 [.int 1, .int 17, .ref h0_states, .ref h0_parent, .ref h0_hand, .ref h0_table], ai T st 17 f_st] H := hP
  have hD : va_D A [ai T h0_states 51000 f2, ai T h0_parent 3000 f3, ai T h0_hand 3000 f4, ai T h0_table 8192 (upd (cst 0) ((g1 &&& 8191).toNatClampNeg) 1), ob h0 10 [.int 1, .int 17, .ref h0_states, .ref h0_parent, .ref h0_hand, .ref h0_table], ai T st 17 f_st] := hD
  obtain ⟨f5, ef5⟩ : ∃ z : Nat → Int32, z = upd (cst 0) ((g1 &&& 8191).toNatClampNeg) 1 := ⟨_, rfl⟩
  rw [← ef5] at hP hD
  refine lv_aload_n hx hb dX10_offer_139 rfl (lv_at hl 2 rfl) ?_
  refine va_get (D := D) (ci := 10) (v := .int 1) (C := RX10) (T := TX10) (N := 6) hx hb hg inX10 hown hK hP 4 rfl rfl 0 (by decide) (hg _ kf_X10_27) (fun _ h9 => h9) rfl dX10_offer_140 ?_
  refine lv_iconst (v := 1) hx hb dX10_offer_143 (by decide) ?_
  refine lv_isub hx hb dX10_offer_144 ?_
  refine z_top (v := 0) (by decide) ?_
  exact ret_i (X := (Nat → Int32) × (Nat → Int32) × (Nat → Int32) × (Nat → Int32)) ((f2, f3, f4, f5)) hx hb hr hlocks hP hD hS [4, 0, 1, 2, 3, 5] (by decide) rfl rfl rfl dX10_offer_145
theorem dX10_load_0 : decode cX10_load 0 = .ok (.iload_n 1, 1) := by decide +kernel
theorem dX10_load_1 : decode cX10_load 1 = .ok (.ifCond .lt 30, 3) := by decide +kernel
theorem dX10_load_4 : decode cX10_load 4 = .ok (.iload_n 1, 1) := by decide +kernel
theorem dX10_load_5 : decode cX10_load 5 = .ok (.aload_n 0, 1) := by decide +kernel
theorem dX10_load_6 : decode cX10_load 6 = .ok (.getfield 27, 3) := by decide +kernel
theorem dX10_load_9 : decode cX10_load 9 = .ok (.if_icmp .ge 22, 3) := by decide +kernel
theorem dX10_load_12 : decode cX10_load 12 = .ok (.aload_n 0, 1) := by decide +kernel
theorem dX10_load_13 : decode cX10_load 13 = .ok (.getfield 12, 3) := by decide +kernel
theorem dX10_load_16 : decode cX10_load 16 = .ok (.iload_n 1, 1) := by decide +kernel
theorem dX10_load_17 : decode cX10_load 17 = .ok (.aload_n 0, 1) := by decide +kernel
theorem dX10_load_18 : decode cX10_load 18 = .ok (.getfield 40, 3) := by decide +kernel
theorem dX10_load_21 : decode cX10_load 21 = .ok (.imul, 1) := by decide +kernel
theorem dX10_load_22 : decode cX10_load 22 = .ok (.aload_n 2, 1) := by decide +kernel
theorem dX10_load_23 : decode cX10_load 23 = .ok (.iconst 0, 1) := by decide +kernel
theorem dX10_load_24 : decode cX10_load 24 = .ok (.aload_n 0, 1) := by decide +kernel
theorem dX10_load_25 : decode cX10_load 25 = .ok (.getfield 40, 3) := by decide +kernel
theorem dX10_load_28 : decode cX10_load 28 = .ok (.invokestatic 57, 3) := by decide +kernel
theorem dX10_load_31 : decode cX10_load 31 = .ok (.return_, 1) := by decide +kernel
set_option maxHeartbeats 4000000 in
set_option maxRecDepth 100000 in
theorem c_X10_load (l : Launch) (D : va_G) (T : Nat → ClassId) (h0 : Nat) (h0_states : Nat) (h0_parent : Nat) (h0_hand : Nat) (h0_table : Nat) (f_h0_states : Nat → Int32) (st : Nat) (f_st : Nat → Int32) (sz : Nat) : Met l yX10_load (WS (.code yX10_load cX10_load 3 none)) ({ frames := 4, cells := 0, slots := 0, locals := 128 } : Room) (va_Pc [.ref h0, .int 0, .ref st] (PW D (TY T) [ob h0 10 [.int 1, .int 17, .ref h0_states, .ref h0_parent, .ref h0_hand, .ref h0_table], ai T h0_states 51000 f_h0_states, ai T st 17 f_st] sz)) (QV (X := (Nat → Int32)) D (fun _ => True) (fun xx => [ob h0 10 [.int 1, .int 17, .ref h0_states, .ref h0_parent, .ref h0_hand, .ref h0_table], ai T h0_states 51000 f_h0_states, ai T st 17 xx]) (va_A [ob h0 10 [.int 1, .int 17, .ref h0_states, .ref h0_parent, .ref h0_hand, .ref h0_table], ai T h0_states 51000 f_h0_states, ai T st 17 f_st] sz)) 0 0 (va_A [ob h0 10 [.int 1, .int 17, .ref h0_states, .ref h0_parent, .ref h0_hand, .ref h0_table], ai T h0_states 51000 f_h0_states, ai T st 17 f_st] sz) := by
  refine mk_met (Qc := QV (X := (Nat → Int32)) D (fun _ => True) (fun xx => [ob h0 10 [.int 1, .int 17, .ref h0_states, .ref h0_parent, .ref h0_hand, .ref h0_table], ai T h0_states 51000 f_h0_states, ai T st 17 xx])) (lv := [(0, .ref h0), (1, .int 0), (2, .ref st)]) (by decide +kernel) (Nat.le_of_ble_eq_true rfl) rfl (fun p e s m below meth c A ls H locs hx hb hml hr hlocks hown hin hg hN hA hP hK hD hS hl => ?_)
  refine lv_iload_n hx hb dX10_load_0 rfl (lv_at hl 1 rfl) ?_
  refine lv_if_lt (tgt := 31) hx hb dX10_load_1 (by decide) (fun hc => absurd hc (by decide)) (fun _ => ?_)
  refine lv_iload_n hx hb dX10_load_4 rfl (lv_at hl 1 rfl) ?_
  refine lv_aload_n hx hb dX10_load_5 rfl (lv_at hl 0 rfl) ?_
  refine va_get (D := D) (ci := 10) (v := .int 1) (C := RX10) (T := TX10) (N := 6) hx hb hg inX10 hown hK hP 0 rfl rfl 0 (by decide) (hg _ kf_X10_27) (fun _ h9 => h9) rfl dX10_load_6 ?_
  refine lv_icmp_ge (tgt := 31) hx hb dX10_load_9 (by decide) (fun hc => absurd hc (by decide)) (fun _ => ?_)
  refine lv_aload_n hx hb dX10_load_12 rfl (lv_at hl 0 rfl) ?_
  refine va_get (D := D) (ci := 10) (v := .ref h0_states) (C := RX10) (T := TX10) (N := 6) hx hb hg inX10 hown hK hP 0 rfl rfl 2 (by decide) (hg _ kf_X10_12) (fun _ h9 => h9) rfl dX10_load_13 ?_
  refine lv_iload_n hx hb dX10_load_16 rfl (lv_at hl 1 rfl) ?_
  refine lv_aload_n hx hb dX10_load_17 rfl (lv_at hl 0 rfl) ?_
  refine va_get (D := D) (ci := 10) (v := .int 17) (C := RX10) (T := TX10) (N := 6) hx hb hg inX10 hown hK hP 0 rfl rfl 1 (by decide) (hg _ kf_X10_40) (fun _ h9 => h9) rfl dX10_load_18 ?_
  refine lv_imul hx hb dX10_load_21 ?_
  refine z_top (v := 0) (by decide) ?_
  refine lv_aload_n hx hb dX10_load_22 rfl (lv_at hl 2 rfl) ?_
  refine lv_iconst (v := 0) hx hb dX10_load_23 (by decide) ?_
  refine lv_aload_n hx hb dX10_load_24 rfl (lv_at hl 0 rfl) ?_
  refine va_get (D := D) (ci := 10) (v := .int 17) (C := RX10) (T := TX10) (N := 6) hx hb hg inX10 hown hK hP 0 rfl rfl 1 (by decide) (hg _ kf_X10_40) (fun _ h9 => h9) rfl dX10_load_25 ?_
  refine va_copyi (ty := .int) hx hb (by rw [hml]; exact hl.1.symm) hown (hg _ km_X10_57) (hg _ kv_arraycopy) (hg _ kt_arraycopy) (hg _ kz_J10) hK hP hD hS 1 2 0 0 rfl rfl rfl rfl rfl (by decide) (by decide) (by decide) (Nat.le_of_ble_eq_true rfl) (Nat.le_of_ble_eq_true rfl) (fun _ _ => rfl) (Nat.le_of_ble_eq_true rfl) (Nat.le_of_ble_eq_true rfl) dX10_load_28 (fun H locs hP hD hS => ?_)
  have hP : va_P D vwCl [ob h0 10 [.int 1, .int 17, .ref h0_states, .ref h0_parent, .ref h0_hand, .ref h0_table], ai T h0_states 51000 f_h0_states, ai T st 17 (va_cpy f_h0_states f_st ((0 : Int32)).toNatClampNeg ((0 : Int32)).toNatClampNeg ((17 : Int32)).toNatClampNeg)] H := hP
  have hD : va_D A [ob h0 10 [.int 1, .int 17, .ref h0_states, .ref h0_parent, .ref h0_hand, .ref h0_table], ai T h0_states 51000 f_h0_states, ai T st 17 (va_cpy f_h0_states f_st ((0 : Int32)).toNatClampNeg ((0 : Int32)).toNatClampNeg ((17 : Int32)).toNatClampNeg)] := hD
  obtain ⟨f1, ef1⟩ : ∃ z : Nat → Int32, z = va_cpy f_h0_states f_st ((0 : Int32)).toNatClampNeg ((0 : Int32)).toNatClampNeg ((17 : Int32)).toNatClampNeg := ⟨_, rfl⟩
  rw [← ef1] at hP hD
  exact ret_v (X := (Nat → Int32)) (f1) hx hb hr hlocks hP hD hS [0, 1, 2] (by decide) rfl trivial dX10_load_31
theorem dX0_noteEnd_0 : decode cX0_noteEnd 0 = .ok (.iload_n 2, 1) := by decide +kernel
theorem dX0_noteEnd_1 : decode cX0_noteEnd 1 = .ok (.ifCond .eq 28, 3) := by decide +kernel
theorem dX0_noteEnd_29 : decode cX0_noteEnd 29 = .ok (.iconst 0, 1) := by decide +kernel
theorem dX0_noteEnd_30 : decode cX0_noteEnd 30 = .ok (.istore 4, 2) := by decide +kernel
theorem dX0_noteEnd_32 : decode cX0_noteEnd 32 = .ok (.iload 4, 2) := by decide +kernel
theorem dX0_noteEnd_34 : decode cX0_noteEnd 34 = .ok (.aload_n 0, 1) := by decide +kernel
theorem dX0_noteEnd_35 : decode cX0_noteEnd 35 = .ok (.getfield 36, 3) := by decide +kernel
theorem dX0_noteEnd_38 : decode cX0_noteEnd 38 = .ok (.if_icmp .ge 36, 3) := by decide +kernel
theorem dX0_noteEnd_74 : decode cX0_noteEnd 74 = .ok (.aload_n 0, 1) := by decide +kernel
theorem dX0_noteEnd_75 : decode cX0_noteEnd 75 = .ok (.getfield 36, 3) := by decide +kernel
theorem dX0_noteEnd_78 : decode cX0_noteEnd 78 = .ok (.sipush 3000, 3) := by decide +kernel
theorem dX0_noteEnd_81 : decode cX0_noteEnd 81 = .ok (.if_icmp .ge 33, 3) := by decide +kernel
theorem dX0_noteEnd_84 : decode cX0_noteEnd 84 = .ok (.aload_n 0, 1) := by decide +kernel
theorem dX0_noteEnd_85 : decode cX0_noteEnd 85 = .ok (.getfield 23, 3) := by decide +kernel
theorem dX0_noteEnd_88 : decode cX0_noteEnd 88 = .ok (.aload_n 0, 1) := by decide +kernel
theorem dX0_noteEnd_89 : decode cX0_noteEnd 89 = .ok (.getfield 36, 3) := by decide +kernel
theorem dX0_noteEnd_92 : decode cX0_noteEnd 92 = .ok (.iload_n 1, 1) := by decide +kernel
theorem dX0_noteEnd_93 : decode cX0_noteEnd 93 = .ok (.iastore, 1) := by decide +kernel
theorem dX0_noteEnd_94 : decode cX0_noteEnd 94 = .ok (.aload_n 0, 1) := by decide +kernel
theorem dX0_noteEnd_95 : decode cX0_noteEnd 95 = .ok (.getfield 26, 3) := by decide +kernel
theorem dX0_noteEnd_98 : decode cX0_noteEnd 98 = .ok (.aload_n 0, 1) := by decide +kernel
theorem dX0_noteEnd_99 : decode cX0_noteEnd 99 = .ok (.getfield 36, 3) := by decide +kernel
theorem dX0_noteEnd_102 : decode cX0_noteEnd 102 = .ok (.iload_n 2, 1) := by decide +kernel
theorem dX0_noteEnd_103 : decode cX0_noteEnd 103 = .ok (.iastore, 1) := by decide +kernel
theorem dX0_noteEnd_104 : decode cX0_noteEnd 104 = .ok (.aload_n 0, 1) := by decide +kernel
theorem dX0_noteEnd_105 : decode cX0_noteEnd 105 = .ok (.dup, 1) := by decide +kernel
theorem dX0_noteEnd_106 : decode cX0_noteEnd 106 = .ok (.getfield 36, 3) := by decide +kernel
theorem dX0_noteEnd_109 : decode cX0_noteEnd 109 = .ok (.iconst 1, 1) := by decide +kernel
theorem dX0_noteEnd_110 : decode cX0_noteEnd 110 = .ok (.iadd, 1) := by decide +kernel
theorem dX0_noteEnd_111 : decode cX0_noteEnd 111 = .ok (.putfield 36, 3) := by decide +kernel
theorem dX0_noteEnd_114 : decode cX0_noteEnd 114 = .ok (.return_, 1) := by decide +kernel
set_option maxHeartbeats 4000000 in
set_option maxRecDepth 100000 in
theorem c_X0_noteEnd (l : Launch) (D : va_G) (T : Nat → ClassId) (h0 : Nat) (h0_gone : Int32) (h0_spent : Int32) (h0_states : Int32) (h0_ledHand : Nat) (h0_ledLength : Int32) (h0_path : Nat) (h0_pathLength : Int32) (h0_state : Nat) (h0_endState : Nat) (h0_endStuck : Nat) (f_h0_endState : Nat → Int32) (f_h0_endStuck : Nat → Int32) (vv : Nat) (sz : Nat) : Met l yX0_noteEnd (WS (.code yX0_noteEnd cX0_noteEnd 5 none)) ({ frames := 2, cells := 0, slots := 0, locals := 64 } : Room) (va_Pc [.ref h0, .int 0, .int 0, .ref vv] (PW D (TY T) [ob h0 0 [.int h0_gone, .int h0_spent, .int h0_states, .int 0, .ref h0_ledHand, .int h0_ledLength, .int 0, .ref h0_path, .int h0_pathLength, .ref h0_state, .ref h0_endState, .ref h0_endStuck], ai T h0_endState 3000 f_h0_endState, ai T h0_endStuck 3000 f_h0_endStuck] sz)) (QV (X := (Nat → Int32) × (Nat → Int32)) D (fun _ => True) (fun xx => [ob h0 0 [.int h0_gone, .int h0_spent, .int h0_states, .int 1, .ref h0_ledHand, .int h0_ledLength, .int 0, .ref h0_path, .int h0_pathLength, .ref h0_state, .ref h0_endState, .ref h0_endStuck], ai T h0_endState 3000 (xx.1), ai T h0_endStuck 3000 (xx.2)]) (va_A [ob h0 0 [.int h0_gone, .int h0_spent, .int h0_states, .int 0, .ref h0_ledHand, .int h0_ledLength, .int 0, .ref h0_path, .int h0_pathLength, .ref h0_state, .ref h0_endState, .ref h0_endStuck], ai T h0_endState 3000 f_h0_endState, ai T h0_endStuck 3000 f_h0_endStuck] sz)) 0 0 (va_A [ob h0 0 [.int h0_gone, .int h0_spent, .int h0_states, .int 0, .ref h0_ledHand, .int h0_ledLength, .int 0, .ref h0_path, .int h0_pathLength, .ref h0_state, .ref h0_endState, .ref h0_endStuck], ai T h0_endState 3000 f_h0_endState, ai T h0_endStuck 3000 f_h0_endStuck] sz) := by
  refine mk_met (Qc := QV (X := (Nat → Int32) × (Nat → Int32)) D (fun _ => True) (fun xx => [ob h0 0 [.int h0_gone, .int h0_spent, .int h0_states, .int 1, .ref h0_ledHand, .int h0_ledLength, .int 0, .ref h0_path, .int h0_pathLength, .ref h0_state, .ref h0_endState, .ref h0_endStuck], ai T h0_endState 3000 (xx.1), ai T h0_endStuck 3000 (xx.2)])) (lv := [(0, .ref h0), (1, .int 0), (2, .int 0), (3, .ref vv)]) (by decide +kernel) (Nat.le_of_ble_eq_true rfl) rfl (fun p e s m below meth c A ls H locs hx hb hml hr hlocks hown hin hg hN hA hP hK hD hS hl => ?_)
  refine lv_iload_n hx hb dX0_noteEnd_0 rfl (lv_at hl 2 rfl) ?_
  refine lv_if_eq (tgt := 29) hx hb dX0_noteEnd_1 (by decide) (fun _ => ?_) (fun hc => absurd (by decide) hc)
  refine lv_iconst (v := 0) hx hb dX0_noteEnd_29 (by decide) ?_
  refine lv_istore (lv' := [(4, .int 0), (0, .ref h0), (1, .int 0), (2, .int 0), (3, .ref vv)]) hx hb dX0_noteEnd_30 hl (by decide) rfl (fun ls hl => ?_)
  refine lv_iload hx hb dX0_noteEnd_32 (lv_at hl 0 rfl) ?_
  refine lv_aload_n hx hb dX0_noteEnd_34 rfl (lv_at hl 1 rfl) ?_
  refine va_get (D := D) (ci := 0) (v := .int 0) (C := RX0) (T := TX0) (N := 12) hx hb hg inX0 hown hK hP 0 rfl rfl 3 (by decide) (hg _ kf_X0_36) (fun _ h9 => h9) rfl dX0_noteEnd_35 ?_
  refine lv_icmp_ge (tgt := 74) hx hb dX0_noteEnd_38 (by decide) (fun _ => ?_) (fun hc => absurd (by decide) hc)
  refine lv_aload_n hx hb dX0_noteEnd_74 rfl (lv_at hl 1 rfl) ?_
  refine va_get (D := D) (ci := 0) (v := .int 0) (C := RX0) (T := TX0) (N := 12) hx hb hg inX0 hown hK hP 0 rfl rfl 3 (by decide) (hg _ kf_X0_36) (fun _ h9 => h9) rfl dX0_noteEnd_75 ?_
  refine lv_sipush (v := 3000) hx hb dX0_noteEnd_78 (by decide) ?_
  refine lv_icmp_ge (tgt := 114) hx hb dX0_noteEnd_81 (by decide) (fun hc => absurd hc (by decide)) (fun _ => ?_)
  refine lv_aload_n hx hb dX0_noteEnd_84 rfl (lv_at hl 1 rfl) ?_
  refine va_get (D := D) (ci := 0) (v := .ref h0_endState) (C := RX0) (T := TX0) (N := 12) hx hb hg inX0 hown hK hP 0 rfl rfl 10 (by decide) (hg _ kf_X0_23) (fun _ h9 => h9) rfl dX0_noteEnd_85 ?_
  refine lv_aload_n hx hb dX0_noteEnd_88 rfl (lv_at hl 1 rfl) ?_
  refine va_get (D := D) (ci := 0) (v := .int 0) (C := RX0) (T := TX0) (N := 12) hx hb hg inX0 hown hK hP 0 rfl rfl 3 (by decide) (hg _ kf_X0_36) (fun _ h9 => h9) rfl dX0_noteEnd_89 ?_
  refine lv_iload_n hx hb dX0_noteEnd_92 rfl (lv_at hl 2 rfl) ?_
  refine z_iast (g := upd f_h0_endState 0 0) (j := 0) hx hb hK hP hD hS 1 0 rfl rfl (by unfold vp_in; decide) (by decide) rfl dX0_noteEnd_93 (fun H locs hP hD hS => ?_)
  have hP : va_P D vwCl [ob h0 0 [.int h0_gone, .int h0_spent, .int h0_states, .int 0, .ref h0_ledHand, .int h0_ledLength, .int 0, .ref h0_path, .int h0_pathLength, .ref h0_state, .ref h0_endState, .ref h0_endStuck], ai T h0_endState 3000 (upd f_h0_endState 0 0), ai T h0_endStuck 3000 f_h0_endStuck] H := hP
  have hD : va_D A [ob h0 0 [.int h0_gone, .int h0_spent, .int h0_states, .int 0, .ref h0_ledHand, .int h0_ledLength, .int 0, .ref h0_path, .int h0_pathLength, .ref h0_state, .ref h0_endState, .ref h0_endStuck], ai T h0_endState 3000 (upd f_h0_endState 0 0), ai T h0_endStuck 3000 f_h0_endStuck] := hD
  obtain ⟨f1, ef1⟩ : ∃ z : Nat → Int32, z = upd f_h0_endState 0 0 := ⟨_, rfl⟩
  rw [← ef1] at hP hD
  refine lv_aload_n hx hb dX0_noteEnd_94 rfl (lv_at hl 1 rfl) ?_
  refine va_get (D := D) (ci := 0) (v := .ref h0_endStuck) (C := RX0) (T := TX0) (N := 12) hx hb hg inX0 hown hK hP 0 rfl rfl 11 (by decide) (hg _ kf_X0_26) (fun _ h9 => h9) rfl dX0_noteEnd_95 ?_
  refine lv_aload_n hx hb dX0_noteEnd_98 rfl (lv_at hl 1 rfl) ?_
  refine va_get (D := D) (ci := 0) (v := .int 0) (C := RX0) (T := TX0) (N := 12) hx hb hg inX0 hown hK hP 0 rfl rfl 3 (by decide) (hg _ kf_X0_36) (fun _ h9 => h9) rfl dX0_noteEnd_99 ?_
  refine lv_iload_n hx hb dX0_noteEnd_102 rfl (lv_at hl 3 rfl) ?_
  refine z_iast (g := upd f_h0_endStuck 0 0) (j := 0) hx hb hK hP hD hS 2 0 rfl rfl (by unfold vp_in; decide) (by decide) rfl dX0_noteEnd_103 (fun H locs hP hD hS => ?_)
  have hP : va_P D vwCl [ob h0 0 [.int h0_gone, .int h0_spent, .int h0_states, .int 0, .ref h0_ledHand, .int h0_ledLength, .int 0, .ref h0_path, .int h0_pathLength, .ref h0_state, .ref h0_endState, .ref h0_endStuck], ai T h0_endState 3000 f1, ai T h0_endStuck 3000 (upd f_h0_endStuck 0 0)] H := hP
  have hD : va_D A [ob h0 0 [.int h0_gone, .int h0_spent, .int h0_states, .int 0, .ref h0_ledHand, .int h0_ledLength, .int 0, .ref h0_path, .int h0_pathLength, .ref h0_state, .ref h0_endState, .ref h0_endStuck], ai T h0_endState 3000 f1, ai T h0_endStuck 3000 (upd f_h0_endStuck 0 0)] := hD
  obtain ⟨f2, ef2⟩ : ∃ z : Nat → Int32, z = upd f_h0_endStuck 0 0 := ⟨_, rfl⟩
  rw [← ef2] at hP hD
  refine lv_aload_n hx hb dX0_noteEnd_104 rfl (lv_at hl 1 rfl) ?_
  refine lv_dup hx hb dX0_noteEnd_105 rfl ?_
  refine va_get (D := D) (ci := 0) (v := .int 0) (C := RX0) (T := TX0) (N := 12) hx hb hg inX0 hown hK hP 0 rfl rfl 3 (by decide) (hg _ kf_X0_36) (fun _ h9 => h9) rfl dX0_noteEnd_106 ?_
  refine lv_iconst (v := 1) hx hb dX0_noteEnd_109 (by decide) ?_
  refine lv_iadd hx hb dX0_noteEnd_110 ?_
  refine z_top (v := 1) (by decide) ?_
  refine va_put (D := D) (ci := 0) (v := .int 1) (ty := .int) (C := RX0) (T := TX0) (N := 12) hx hb hg inX0 tyX0 tyX0_ok nmX0 hown hK hP hD hS 0 rfl rfl 3 (by decide) (hg _ kf_X0_36) (fun _ h9 => h9) rfl (by decide +kernel) rfl rfl (Nat.le_of_ble_eq_true rfl) dX0_noteEnd_111 (fun H locs hP hD hS => ?_)
  have hP : va_P D vwCl [ob h0 0 [.int h0_gone, .int h0_spent, .int h0_states, .int 1, .ref h0_ledHand, .int h0_ledLength, .int 0, .ref h0_path, .int h0_pathLength, .ref h0_state, .ref h0_endState, .ref h0_endStuck], ai T h0_endState 3000 f1, ai T h0_endStuck 3000 f2] H := hP
  have hD : va_D A [ob h0 0 [.int h0_gone, .int h0_spent, .int h0_states, .int 1, .ref h0_ledHand, .int h0_ledLength, .int 0, .ref h0_path, .int h0_pathLength, .ref h0_state, .ref h0_endState, .ref h0_endStuck], ai T h0_endState 3000 f1, ai T h0_endStuck 3000 f2] := hD
  exact ret_v (X := (Nat → Int32) × (Nat → Int32)) ((f1, f2)) hx hb hr hlocks hP hD hS [0, 1, 2] (by decide) rfl trivial dX0_noteEnd_114
theorem dX0_goOnFrom_0 : decode cX0_goOnFrom 0 = .ok (.aload_n 3, 1) := by decide +kernel
theorem dX0_goOnFrom_1 : decode cX0_goOnFrom 1 = .ok (.iload_n 1, 1) := by decide +kernel
theorem dX0_goOnFrom_2 : decode cX0_goOnFrom 2 = .ok (.aload_n 0, 1) := by decide +kernel
theorem dX0_goOnFrom_3 : decode cX0_goOnFrom 3 = .ok (.getfield 20, 3) := by decide +kernel
theorem dX0_goOnFrom_6 : decode cX0_goOnFrom 6 = .ok (.invokevirtual 74, 3) := by decide +kernel
theorem dX0_goOnFrom_9 : decode cX0_goOnFrom 9 = .ok (.aload_n 2, 1) := by decide +kernel
theorem dX0_goOnFrom_10 : decode cX0_goOnFrom 10 = .ok (.aload_n 0, 1) := by decide +kernel
theorem dX0_goOnFrom_11 : decode cX0_goOnFrom 11 = .ok (.getfield 20, 3) := by decide +kernel
theorem dX0_goOnFrom_14 : decode cX0_goOnFrom 14 = .ok (.invokevirtual 78, 3) := by decide +kernel
theorem dX0_goOnFrom_17 : decode cX0_goOnFrom 17 = .ok (.aload_n 2, 1) := by decide +kernel
theorem dX0_goOnFrom_18 : decode cX0_goOnFrom 18 = .ok (.invokevirtual 81, 3) := by decide +kernel
theorem dX0_goOnFrom_21 : decode cX0_goOnFrom 21 = .ok (.istore 4, 2) := by decide +kernel
theorem dX0_goOnFrom_23 : decode cX0_goOnFrom 23 = .ok (.iload 4, 2) := by decide +kernel
theorem dX0_goOnFrom_25 : decode cX0_goOnFrom 25 = .ok (.ifCond .ne 13, 3) := by decide +kernel
theorem dX0_goOnFrom_28 : decode cX0_goOnFrom 28 = .ok (.aload_n 0, 1) := by decide +kernel
theorem dX0_goOnFrom_29 : decode cX0_goOnFrom 29 = .ok (.iload_n 1, 1) := by decide +kernel
theorem dX0_goOnFrom_30 : decode cX0_goOnFrom 30 = .ok (.aload_n 2, 1) := by decide +kernel
theorem dX0_goOnFrom_31 : decode cX0_goOnFrom 31 = .ok (.invokevirtual 85, 3) := by decide +kernel
theorem dX0_goOnFrom_34 : decode cX0_goOnFrom 34 = .ok (.aload_n 3, 1) := by decide +kernel
theorem dX0_goOnFrom_35 : decode cX0_goOnFrom 35 = .ok (.invokevirtual 88, 3) := by decide +kernel
theorem dX0_goOnFrom_38 : decode cX0_goOnFrom 38 = .ok (.iconst 0, 1) := by decide +kernel
theorem dX0_goOnFrom_39 : decode cX0_goOnFrom 39 = .ok (.istore 5, 2) := by decide +kernel
theorem dX0_goOnFrom_41 : decode cX0_goOnFrom 41 = .ok (.iload 5, 2) := by decide +kernel
theorem dX0_goOnFrom_43 : decode cX0_goOnFrom 43 = .ok (.bipush 6, 2) := by decide +kernel
theorem dX0_goOnFrom_45 : decode cX0_goOnFrom 45 = .ok (.if_icmp .ge 86, 3) := by decide +kernel
theorem dX0_goOnFrom_48 : decode cX0_goOnFrom 48 = .ok (.aload_n 0, 1) := by decide +kernel
theorem dX0_goOnFrom_49 : decode cX0_goOnFrom 49 = .ok (.getfield 33, 3) := by decide +kernel
theorem dX0_goOnFrom_52 : decode cX0_goOnFrom 52 = .ok (.ifCond .ne 79, 3) := by decide +kernel
theorem dX0_goOnFrom_55 : decode cX0_goOnFrom 55 = .ok (.iload 4, 2) := by decide +kernel
theorem dX0_goOnFrom_57 : decode cX0_goOnFrom 57 = .ok (.iload 5, 2) := by decide +kernel
theorem dX0_goOnFrom_59 : decode cX0_goOnFrom 59 = .ok (.ishr, 1) := by decide +kernel
theorem dX0_goOnFrom_60 : decode cX0_goOnFrom 60 = .ok (.iconst 1, 1) := by decide +kernel
theorem dX0_goOnFrom_61 : decode cX0_goOnFrom 61 = .ok (.iand, 1) := by decide +kernel
theorem dX0_goOnFrom_62 : decode cX0_goOnFrom 62 = .ok (.ifCond .ne 6, 3) := by decide +kernel
theorem dX0_goOnFrom_65 : decode cX0_goOnFrom 65 = .ok (.goto 60, 3) := by decide +kernel
theorem dX0_goOnFrom_125 : decode cX0_goOnFrom 125 = .ok (.iinc 5 1, 3) := by decide +kernel
theorem dX0_goOnFrom_128 : decode cX0_goOnFrom 128 = .ok (.goto (-87), 3) := by decide +kernel
theorem dX0_goOnFrom_131 : decode cX0_goOnFrom 131 = .ok (.return_, 1) := by decide +kernel
set_option maxHeartbeats 4000000 in
set_option maxRecDepth 100000 in
theorem c_X0_goOnFrom (l : Launch) (D : va_G) (T : Nat → ClassId) (h0 : Nat) (h0_gone : Int32) (h0_states : Int32) (h0_ledHand : Nat) (h0_ledLength : Int32) (h0_path : Nat) (h0_pathLength : Int32) (h0_state : Nat) (h0_endState : Nat) (h0_endStuck : Nat) (f_h0_state : Nat → Int32) (f_h0_endState : Nat → Int32) (f_h0_endStuck : Nat → Int32) (mm : Nat) (mm_cells : Nat) (mm_next : Nat) (mm_moved : Nat) (mm_holder : Nat) (mm_notes : Nat) (mm_started : Int32) (s0 : Nat) (f_mm_cells : Nat → Int32) (f_mm_next : Nat → Int32) (f_mm_moved : Nat → Int32) (f_mm_holder : Nat → Int32) (f_mm_notes : Nat → Int32) (s0_sort : Nat) (s0_arg : Nat) (s0_number : Nat) (s0_kind : Nat) (s0_skip : Nat) (s0_place : Nat) (s0_count : Nat) (s0_told : Int32) (vv : Nat) (vv_states : Nat) (vv_parent : Nat) (vv_hand : Nat) (vv_table : Nat) (f_vv_states : Nat → Int32) (sz : Nat) : Met l yX0_goOnFrom (WS (.code yX0_goOnFrom cX0_goOnFrom 6 none)) ({ frames := 8, cells := 0, slots := 0, locals := 256 } : Room) (va_Pc [.ref h0, .int 0, .ref mm, .ref vv] (PW D (TY T) [ob h0 0 [.int h0_gone, .int 0, .int h0_states, .int 0, .ref h0_ledHand, .int h0_ledLength, .int 0, .ref h0_path, .int h0_pathLength, .ref h0_state, .ref h0_endState, .ref h0_endStuck], ai T h0_state 17 f_h0_state, ai T h0_endState 3000 f_h0_endState, ai T h0_endStuck 3000 f_h0_endStuck, ob mm 6 [.ref mm_cells, .ref s0, .ref mm_next, .ref mm_moved, .ref mm_holder, .ref mm_notes, .int mm_started], ai T mm_cells 8 f_mm_cells, ai T mm_next 6 f_mm_next, ai T mm_moved 6 f_mm_moved, ai T mm_holder 4 f_mm_holder, ai T mm_notes 3 f_mm_notes, ob s0 9 [.ref s0_sort, .ref s0_arg, .ref s0_number, .ref s0_kind, .ref s0_skip, .ref s0_place, .ref s0_count, .int s0_told], ai T s0_count 6 (cst 0), ob vv 10 [.int 1, .int 17, .ref vv_states, .ref vv_parent, .ref vv_hand, .ref vv_table], ai T vv_states 51000 f_vv_states] sz)) (QV (X := (Nat → Int32) × (Nat → Int32) × Int32 × (Nat → Int32) × (Nat → Int32) × (Nat → Int32) × (Nat → Int32) × (Nat → Int32) × (Nat → Int32)) D (fun _ => True) (fun xx => [ob h0 0 [.int h0_gone, .int 0, .int h0_states, .int 1, .ref h0_ledHand, .int h0_ledLength, .int 0, .ref h0_path, .int h0_pathLength, .ref h0_state, .ref h0_endState, .ref h0_endStuck], ai T h0_state 17 (xx.1), ai T h0_endState 3000 (xx.2.2.2.2.2.2.2.1), ai T h0_endStuck 3000 (xx.2.2.2.2.2.2.2.2), ob mm 6 [.ref mm_cells, .ref s0, .ref mm_next, .ref mm_moved, .ref mm_holder, .ref mm_notes, .int (xx.2.2.1)], ai T mm_cells 8 (xx.2.2.2.2.2.1), ai T mm_next 6 (xx.2.1), ai T mm_moved 6 (xx.2.2.2.2.2.2.1), ai T mm_holder 4 (xx.2.2.2.1), ai T mm_notes 3 (xx.2.2.2.2.1), ob s0 9 [.ref s0_sort, .ref s0_arg, .ref s0_number, .ref s0_kind, .ref s0_skip, .ref s0_place, .ref s0_count, .int s0_told], ai T s0_count 6 (cst 0), ob vv 10 [.int 1, .int 17, .ref vv_states, .ref vv_parent, .ref vv_hand, .ref vv_table], ai T vv_states 51000 f_vv_states]) (va_A [ob h0 0 [.int h0_gone, .int 0, .int h0_states, .int 0, .ref h0_ledHand, .int h0_ledLength, .int 0, .ref h0_path, .int h0_pathLength, .ref h0_state, .ref h0_endState, .ref h0_endStuck], ai T h0_state 17 f_h0_state, ai T h0_endState 3000 f_h0_endState, ai T h0_endStuck 3000 f_h0_endStuck, ob mm 6 [.ref mm_cells, .ref s0, .ref mm_next, .ref mm_moved, .ref mm_holder, .ref mm_notes, .int mm_started], ai T mm_cells 8 f_mm_cells, ai T mm_next 6 f_mm_next, ai T mm_moved 6 f_mm_moved, ai T mm_holder 4 f_mm_holder, ai T mm_notes 3 f_mm_notes, ob s0 9 [.ref s0_sort, .ref s0_arg, .ref s0_number, .ref s0_kind, .ref s0_skip, .ref s0_place, .ref s0_count, .int s0_told], ai T s0_count 6 (cst 0), ob vv 10 [.int 1, .int 17, .ref vv_states, .ref vv_parent, .ref vv_hand, .ref vv_table], ai T vv_states 51000 f_vv_states] sz)) 0 0 (va_A [ob h0 0 [.int h0_gone, .int 0, .int h0_states, .int 0, .ref h0_ledHand, .int h0_ledLength, .int 0, .ref h0_path, .int h0_pathLength, .ref h0_state, .ref h0_endState, .ref h0_endStuck], ai T h0_state 17 f_h0_state, ai T h0_endState 3000 f_h0_endState, ai T h0_endStuck 3000 f_h0_endStuck, ob mm 6 [.ref mm_cells, .ref s0, .ref mm_next, .ref mm_moved, .ref mm_holder, .ref mm_notes, .int mm_started], ai T mm_cells 8 f_mm_cells, ai T mm_next 6 f_mm_next, ai T mm_moved 6 f_mm_moved, ai T mm_holder 4 f_mm_holder, ai T mm_notes 3 f_mm_notes, ob s0 9 [.ref s0_sort, .ref s0_arg, .ref s0_number, .ref s0_kind, .ref s0_skip, .ref s0_place, .ref s0_count, .int s0_told], ai T s0_count 6 (cst 0), ob vv 10 [.int 1, .int 17, .ref vv_states, .ref vv_parent, .ref vv_hand, .ref vv_table], ai T vv_states 51000 f_vv_states] sz) := by
  refine mk_met (Qc := QV (X := (Nat → Int32) × (Nat → Int32) × Int32 × (Nat → Int32) × (Nat → Int32) × (Nat → Int32) × (Nat → Int32) × (Nat → Int32) × (Nat → Int32)) D (fun _ => True) (fun xx => [ob h0 0 [.int h0_gone, .int 0, .int h0_states, .int 1, .ref h0_ledHand, .int h0_ledLength, .int 0, .ref h0_path, .int h0_pathLength, .ref h0_state, .ref h0_endState, .ref h0_endStuck], ai T h0_state 17 (xx.1), ai T h0_endState 3000 (xx.2.2.2.2.2.2.2.1), ai T h0_endStuck 3000 (xx.2.2.2.2.2.2.2.2), ob mm 6 [.ref mm_cells, .ref s0, .ref mm_next, .ref mm_moved, .ref mm_holder, .ref mm_notes, .int (xx.2.2.1)], ai T mm_cells 8 (xx.2.2.2.2.2.1), ai T mm_next 6 (xx.2.1), ai T mm_moved 6 (xx.2.2.2.2.2.2.1), ai T mm_holder 4 (xx.2.2.2.1), ai T mm_notes 3 (xx.2.2.2.2.1), ob s0 9 [.ref s0_sort, .ref s0_arg, .ref s0_number, .ref s0_kind, .ref s0_skip, .ref s0_place, .ref s0_count, .int s0_told], ai T s0_count 6 (cst 0), ob vv 10 [.int 1, .int 17, .ref vv_states, .ref vv_parent, .ref vv_hand, .ref vv_table], ai T vv_states 51000 f_vv_states])) (lv := [(0, .ref h0), (1, .int 0), (2, .ref mm), (3, .ref vv)]) (by decide +kernel) (Nat.le_of_ble_eq_true rfl) rfl (fun p e s m below meth c A ls H locs hx hb hml hr hlocks hown hin hg hN hA hP hK hD hS hl => ?_)
  refine lv_aload_n hx hb dX0_goOnFrom_0 rfl (lv_at hl 3 rfl) ?_
  refine lv_iload_n hx hb dX0_goOnFrom_1 rfl (lv_at hl 1 rfl) ?_
  refine lv_aload_n hx hb dX0_goOnFrom_2 rfl (lv_at hl 0 rfl) ?_
  refine va_get (D := D) (ci := 0) (v := .ref h0_state) (C := RX0) (T := TX0) (N := 12) hx hb hg inX0 hown hK hP 0 rfl rfl 9 (by decide) (hg _ kf_X0_20) (fun _ h9 => h9) rfl dX0_goOnFrom_3 ?_
  refine cont_v (Wr := [ob h0 0 [.int h0_gone, .int 0, .int h0_states, .int 0, .ref h0_ledHand, .int h0_ledLength, .int 0, .ref h0_path, .int h0_pathLength, .ref h0_state, .ref h0_endState, .ref h0_endStuck], ai T h0_endState 3000 f_h0_endState, ai T h0_endStuck 3000 f_h0_endStuck, ob mm 6 [.ref mm_cells, .ref s0, .ref mm_next, .ref mm_moved, .ref mm_holder, .ref mm_notes, .int mm_started], ai T mm_cells 8 f_mm_cells, ai T mm_next 6 f_mm_next, ai T mm_moved 6 f_mm_moved, ai T mm_holder 4 f_mm_holder, ai T mm_notes 3 f_mm_notes, ob s0 9 [.ref s0_sort, .ref s0_arg, .ref s0_number, .ref s0_kind, .ref s0_skip, .ref s0_place, .ref s0_count, .int s0_told], ai T s0_count 6 (cst 0)]) [12, 13, 1] [0, 2, 3, 4, 5, 6, 7, 8, 9, 10, 11] (run_V (n := 2) (As := [.int 0, .ref h0_state]) (rest := []) 10 0 hx hb hml hown hg hN (c_X10_load l D T vv vv_states vv_parent vv_hand vv_table f_vv_states h0_state f_h0_state  H.size) km_X0_74 ki_X10_load ks_X10_load kz_X10 kd_X10_load rfl rfl (by decide +kernel) ⟨Nat.le_of_ble_eq_true rfl, Nat.le_of_ble_eq_true rfl⟩ hK (P_sub hP [12, 13, 1] rfl) (hD.sub [12, 13, 1] (by decide) rfl) rfl rfl rfl hl.1 rfl (Nat.le_of_ble_eq_true rfl) dX0_goOnFrom_6 ⟨Nat.le_of_ble_eq_true rfl, Nat.le_of_ble_eq_true rfl⟩) hP hD hS hA rfl rfl (by decide) (by decide) (fun f1 H locs hq hP hD hS => ?_)
  have hP : va_P D vwCl [ob h0 0 [.int h0_gone, .int 0, .int h0_states, .int 0, .ref h0_ledHand, .int h0_ledLength, .int 0, .ref h0_path, .int h0_pathLength, .ref h0_state, .ref h0_endState, .ref h0_endStuck], ai T h0_endState 3000 f_h0_endState, ai T h0_endStuck 3000 f_h0_endStuck, ob mm 6 [.ref mm_cells, .ref s0, .ref mm_next, .ref mm_moved, .ref mm_holder, .ref mm_notes, .int mm_started], ai T mm_cells 8 f_mm_cells, ai T mm_next 6 f_mm_next, ai T mm_moved 6 f_mm_moved, ai T mm_holder 4 f_mm_holder, ai T mm_notes 3 f_mm_notes, ob s0 9 [.ref s0_sort, .ref s0_arg, .ref s0_number, .ref s0_kind, .ref s0_skip, .ref s0_place, .ref s0_count, .int s0_told], ai T s0_count 6 (cst 0), ob vv 10 [.int 1, .int 17, .ref vv_states, .ref vv_parent, .ref vv_hand, .ref vv_table], ai T vv_states 51000 f_vv_states, ai T h0_state 17 f1] H := hP
  have hD : va_D A [ob h0 0 [.int h0_gone, .int 0, .int h0_states, .int 0, .ref h0_ledHand, .int h0_ledLength, .int 0, .ref h0_path, .int h0_pathLength, .ref h0_state, .ref h0_endState, .ref h0_endStuck], ai T h0_endState 3000 f_h0_endState, ai T h0_endStuck 3000 f_h0_endStuck, ob mm 6 [.ref mm_cells, .ref s0, .ref mm_next, .ref mm_moved, .ref mm_holder, .ref mm_notes, .int mm_started], ai T mm_cells 8 f_mm_cells, ai T mm_next 6 f_mm_next, ai T mm_moved 6 f_mm_moved, ai T mm_holder 4 f_mm_holder, ai T mm_notes 3 f_mm_notes, ob s0 9 [.ref s0_sort, .ref s0_arg, .ref s0_number, .ref s0_kind, .ref s0_skip, .ref s0_place, .ref s0_count, .int s0_told], ai T s0_count 6 (cst 0), ob vv 10 [.int 1, .int 17, .ref vv_states, .ref vv_parent, .ref vv_hand, .ref vv_table], ai T vv_states 51000 f_vv_states, ai T h0_state 17 f1] := hD
  refine lv_aload_n hx hb dX0_goOnFrom_9 rfl (lv_at hl 2 rfl) ?_
  refine lv_aload_n hx hb dX0_goOnFrom_10 rfl (lv_at hl 0 rfl) ?_
  refine va_get (D := D) (ci := 0) (v := .ref h0_state) (C := RX0) (T := TX0) (N := 12) hx hb hg inX0 hown hK hP 0 rfl rfl 9 (by decide) (hg _ kf_X0_20) (fun _ h9 => h9) rfl dX0_goOnFrom_11 ?_
  refine cont_v (Wr := [ob h0 0 [.int h0_gone, .int 0, .int h0_states, .int 0, .ref h0_ledHand, .int h0_ledLength, .int 0, .ref h0_path, .int h0_pathLength, .ref h0_state, .ref h0_endState, .ref h0_endStuck], ai T h0_endState 3000 f_h0_endState, ai T h0_endStuck 3000 f_h0_endStuck, ob s0 9 [.ref s0_sort, .ref s0_arg, .ref s0_number, .ref s0_kind, .ref s0_skip, .ref s0_place, .ref s0_count, .int s0_told], ai T s0_count 6 (cst 0), ob vv 10 [.int 1, .int 17, .ref vv_states, .ref vv_parent, .ref vv_hand, .ref vv_table], ai T vv_states 51000 f_vv_states]) [3, 4, 5, 6, 7, 8, 13] [0, 1, 2, 9, 10, 11, 12] (run_V (n := 1) (As := [.ref h0_state]) (rest := []) 6 0 hx hb hml hown hg hN (c_X6_unpack l D T mm mm_cells s0 mm_next mm_moved mm_holder mm_notes mm_started f_mm_cells f_mm_next f_mm_moved f_mm_holder f_mm_notes h0_state f1  H.size) km_X0_78 ki_X6_unpack ks_X6_unpack kz_X6 kd_X6_unpack rfl rfl (by decide +kernel) ⟨Nat.le_of_ble_eq_true rfl, Nat.le_of_ble_eq_true rfl⟩ hK (P_sub hP [3, 4, 5, 6, 7, 8, 13] rfl) (hD.sub [3, 4, 5, 6, 7, 8, 13] (by decide) rfl) rfl rfl rfl hl.1 rfl (Nat.le_of_ble_eq_true rfl) dX0_goOnFrom_14 ⟨Nat.le_of_ble_eq_true rfl, Nat.le_of_ble_eq_true rfl⟩) hP hD hS hA rfl rfl (by decide) (by decide) (fun xx H locs hq hP hD hS => ?_)
  obtain ⟨f2, v3, f4, f5, f6, f7⟩ := xx
  have hP : va_P D vwCl [ob h0 0 [.int h0_gone, .int 0, .int h0_states, .int 0, .ref h0_ledHand, .int h0_ledLength, .int 0, .ref h0_path, .int h0_pathLength, .ref h0_state, .ref h0_endState, .ref h0_endStuck], ai T h0_endState 3000 f_h0_endState, ai T h0_endStuck 3000 f_h0_endStuck, ob s0 9 [.ref s0_sort, .ref s0_arg, .ref s0_number, .ref s0_kind, .ref s0_skip, .ref s0_place, .ref s0_count, .int s0_told], ai T s0_count 6 (cst 0), ob vv 10 [.int 1, .int 17, .ref vv_states, .ref vv_parent, .ref vv_hand, .ref vv_table], ai T vv_states 51000 f_vv_states, ob mm 6 [.ref mm_cells, .ref s0, .ref mm_next, .ref mm_moved, .ref mm_holder, .ref mm_notes, .int v3], ai T mm_cells 8 f6, ai T mm_next 6 f2, ai T mm_moved 6 f7, ai T mm_holder 4 f4, ai T mm_notes 3 f5, ai T h0_state 17 f1] H := hP
  have hD : va_D A [ob h0 0 [.int h0_gone, .int 0, .int h0_states, .int 0, .ref h0_ledHand, .int h0_ledLength, .int 0, .ref h0_path, .int h0_pathLength, .ref h0_state, .ref h0_endState, .ref h0_endStuck], ai T h0_endState 3000 f_h0_endState, ai T h0_endStuck 3000 f_h0_endStuck, ob s0 9 [.ref s0_sort, .ref s0_arg, .ref s0_number, .ref s0_kind, .ref s0_skip, .ref s0_place, .ref s0_count, .int s0_told], ai T s0_count 6 (cst 0), ob vv 10 [.int 1, .int 17, .ref vv_states, .ref vv_parent, .ref vv_hand, .ref vv_table], ai T vv_states 51000 f_vv_states, ob mm 6 [.ref mm_cells, .ref s0, .ref mm_next, .ref mm_moved, .ref mm_holder, .ref mm_notes, .int v3], ai T mm_cells 8 f6, ai T mm_next 6 f2, ai T mm_moved 6 f7, ai T mm_holder 4 f4, ai T mm_notes 3 f5, ai T h0_state 17 f1] := hD
  refine lv_aload_n hx hb dX0_goOnFrom_17 rfl (lv_at hl 2 rfl) ?_
  refine cont_i (Wr := [ob h0 0 [.int h0_gone, .int 0, .int h0_states, .int 0, .ref h0_ledHand, .int h0_ledLength, .int 0, .ref h0_path, .int h0_pathLength, .ref h0_state, .ref h0_endState, .ref h0_endStuck], ai T h0_endState 3000 f_h0_endState, ai T h0_endStuck 3000 f_h0_endStuck, ob vv 10 [.int 1, .int 17, .ref vv_states, .ref vv_parent, .ref vv_hand, .ref vv_table], ai T vv_states 51000 f_vv_states, ai T mm_cells 8 f6, ai T mm_moved 6 f7, ai T mm_holder 4 f4, ai T mm_notes 3 f5, ai T h0_state 17 f1]) [7, 9, 3, 4] [0, 1, 2, 5, 6, 8, 10, 11, 12, 13] (run_V (n := 0) (As := []) (rest := []) 6 0 hx hb hml hown hg hN (c_X6_ableBits l D T mm mm_cells mm_next mm_moved mm_holder mm_notes v3 s0 f2 s0_sort s0_arg s0_number s0_kind s0_skip s0_place s0_count s0_told  H.size) km_X0_81 ki_X6_ableBits ks_X6_ableBits kz_X6 kd_X6_ableBits rfl rfl (by decide +kernel) ⟨Nat.le_of_ble_eq_true rfl, Nat.le_of_ble_eq_true rfl⟩ hK (P_sub hP [7, 9, 3, 4] rfl) (hD.sub [7, 9, 3, 4] (by decide) rfl) rfl rfl rfl hl.1 rfl (Nat.le_of_ble_eq_true rfl) dX0_goOnFrom_18 ⟨Nat.le_of_ble_eq_true rfl, Nat.le_of_ble_eq_true rfl⟩) hP hD hS hA rfl rfl (by decide) (by decide) (fun rr xx H locs hq hP hD hS => ?_)
  obtain rfl : rr = 0 := hq
  have hP : va_P D vwCl [ob h0 0 [.int h0_gone, .int 0, .int h0_states, .int 0, .ref h0_ledHand, .int h0_ledLength, .int 0, .ref h0_path, .int h0_pathLength, .ref h0_state, .ref h0_endState, .ref h0_endStuck], ai T h0_endState 3000 f_h0_endState, ai T h0_endStuck 3000 f_h0_endStuck, ob vv 10 [.int 1, .int 17, .ref vv_states, .ref vv_parent, .ref vv_hand, .ref vv_table], ai T vv_states 51000 f_vv_states, ai T mm_cells 8 f6, ai T mm_moved 6 f7, ai T mm_holder 4 f4, ai T mm_notes 3 f5, ai T h0_state 17 f1, ob mm 6 [.ref mm_cells, .ref s0, .ref mm_next, .ref mm_moved, .ref mm_holder, .ref mm_notes, .int v3], ai T mm_next 6 f2, ob s0 9 [.ref s0_sort, .ref s0_arg, .ref s0_number, .ref s0_kind, .ref s0_skip, .ref s0_place, .ref s0_count, .int s0_told], ai T s0_count 6 (cst 0)] H := hP
  have hD : va_D A [ob h0 0 [.int h0_gone, .int 0, .int h0_states, .int 0, .ref h0_ledHand, .int h0_ledLength, .int 0, .ref h0_path, .int h0_pathLength, .ref h0_state, .ref h0_endState, .ref h0_endStuck], ai T h0_endState 3000 f_h0_endState, ai T h0_endStuck 3000 f_h0_endStuck, ob vv 10 [.int 1, .int 17, .ref vv_states, .ref vv_parent, .ref vv_hand, .ref vv_table], ai T vv_states 51000 f_vv_states, ai T mm_cells 8 f6, ai T mm_moved 6 f7, ai T mm_holder 4 f4, ai T mm_notes 3 f5, ai T h0_state 17 f1, ob mm 6 [.ref mm_cells, .ref s0, .ref mm_next, .ref mm_moved, .ref mm_holder, .ref mm_notes, .int v3], ai T mm_next 6 f2, ob s0 9 [.ref s0_sort, .ref s0_arg, .ref s0_number, .ref s0_kind, .ref s0_skip, .ref s0_place, .ref s0_count, .int s0_told], ai T s0_count 6 (cst 0)] := hD
  refine lv_istore (lv' := [(4, .int 0), (0, .ref h0), (1, .int 0), (2, .ref mm), (3, .ref vv)]) hx hb dX0_goOnFrom_21 hl (by decide) rfl (fun ls hl => ?_)
  refine lv_iload hx hb dX0_goOnFrom_23 (lv_at hl 0 rfl) ?_
  refine lv_if_ne (tgt := 38) hx hb dX0_goOnFrom_25 (by decide) (fun hc => absurd (by decide) hc) (fun _ => ?_)
  refine lv_aload_n hx hb dX0_goOnFrom_28 rfl (lv_at hl 1 rfl) ?_
  refine lv_iload_n hx hb dX0_goOnFrom_29 rfl (lv_at hl 2 rfl) ?_
  refine lv_aload_n hx hb dX0_goOnFrom_30 rfl (lv_at hl 3 rfl) ?_
  refine cont_i (Wr := [ob h0 0 [.int h0_gone, .int 0, .int h0_states, .int 0, .ref h0_ledHand, .int h0_ledLength, .int 0, .ref h0_path, .int h0_pathLength, .ref h0_state, .ref h0_endState, .ref h0_endStuck], ai T h0_endState 3000 f_h0_endState, ai T h0_endStuck 3000 f_h0_endStuck, ob vv 10 [.int 1, .int 17, .ref vv_states, .ref vv_parent, .ref vv_hand, .ref vv_table], ai T vv_states 51000 f_vv_states, ai T mm_cells 8 f6, ai T mm_moved 6 f7, ai T mm_holder 4 f4, ai T mm_notes 3 f5, ai T h0_state 17 f1]) [10, 11, 12, 13] [0, 1, 2, 3, 4, 5, 6, 7, 8, 9] (run_V (n := 0) (As := []) (rest := [.int 0, .ref h0]) 6 0 hx hb hml hown hg hN (c_X6_stuckBits l D T mm mm_cells mm_next mm_moved mm_holder mm_notes v3 s0 f2 s0_sort s0_arg s0_number s0_kind s0_skip s0_place s0_count s0_told  H.size) km_X0_85 ki_X6_stuckBits ks_X6_stuckBits kz_X6 kd_X6_stuckBits rfl rfl (by decide +kernel) ⟨Nat.le_of_ble_eq_true rfl, Nat.le_of_ble_eq_true rfl⟩ hK (P_sub hP [10, 11, 12, 13] rfl) (hD.sub [10, 11, 12, 13] (by decide) rfl) rfl rfl rfl hl.1 rfl (Nat.le_of_ble_eq_true rfl) dX0_goOnFrom_31 ⟨Nat.le_of_ble_eq_true rfl, Nat.le_of_ble_eq_true rfl⟩) hP hD hS hA rfl rfl (by decide) (by decide) (fun rr xx H locs hq hP hD hS => ?_)
  obtain rfl : rr = 0 := hq
  have hP : va_P D vwCl [ob h0 0 [.int h0_gone, .int 0, .int h0_states, .int 0, .ref h0_ledHand, .int h0_ledLength, .int 0, .ref h0_path, .int h0_pathLength, .ref h0_state, .ref h0_endState, .ref h0_endStuck], ai T h0_endState 3000 f_h0_endState, ai T h0_endStuck 3000 f_h0_endStuck, ob vv 10 [.int 1, .int 17, .ref vv_states, .ref vv_parent, .ref vv_hand, .ref vv_table], ai T vv_states 51000 f_vv_states, ai T mm_cells 8 f6, ai T mm_moved 6 f7, ai T mm_holder 4 f4, ai T mm_notes 3 f5, ai T h0_state 17 f1, ob mm 6 [.ref mm_cells, .ref s0, .ref mm_next, .ref mm_moved, .ref mm_holder, .ref mm_notes, .int v3], ai T mm_next 6 f2, ob s0 9 [.ref s0_sort, .ref s0_arg, .ref s0_number, .ref s0_kind, .ref s0_skip, .ref s0_place, .ref s0_count, .int s0_told], ai T s0_count 6 (cst 0)] H := hP
  have hD : va_D A [ob h0 0 [.int h0_gone, .int 0, .int h0_states, .int 0, .ref h0_ledHand, .int h0_ledLength, .int 0, .ref h0_path, .int h0_pathLength, .ref h0_state, .ref h0_endState, .ref h0_endStuck], ai T h0_endState 3000 f_h0_endState, ai T h0_endStuck 3000 f_h0_endStuck, ob vv 10 [.int 1, .int 17, .ref vv_states, .ref vv_parent, .ref vv_hand, .ref vv_table], ai T vv_states 51000 f_vv_states, ai T mm_cells 8 f6, ai T mm_moved 6 f7, ai T mm_holder 4 f4, ai T mm_notes 3 f5, ai T h0_state 17 f1, ob mm 6 [.ref mm_cells, .ref s0, .ref mm_next, .ref mm_moved, .ref mm_holder, .ref mm_notes, .int v3], ai T mm_next 6 f2, ob s0 9 [.ref s0_sort, .ref s0_arg, .ref s0_number, .ref s0_kind, .ref s0_skip, .ref s0_place, .ref s0_count, .int s0_told], ai T s0_count 6 (cst 0)] := hD
  refine lv_aload_n hx hb dX0_goOnFrom_34 rfl (lv_at hl 4 rfl) ?_
  refine cont_v (Wr := [ob vv 10 [.int 1, .int 17, .ref vv_states, .ref vv_parent, .ref vv_hand, .ref vv_table], ai T vv_states 51000 f_vv_states, ai T mm_cells 8 f6, ai T mm_moved 6 f7, ai T mm_holder 4 f4, ai T mm_notes 3 f5, ai T h0_state 17 f1, ob mm 6 [.ref mm_cells, .ref s0, .ref mm_next, .ref mm_moved, .ref mm_holder, .ref mm_notes, .int v3], ai T mm_next 6 f2, ob s0 9 [.ref s0_sort, .ref s0_arg, .ref s0_number, .ref s0_kind, .ref s0_skip, .ref s0_place, .ref s0_count, .int s0_told], ai T s0_count 6 (cst 0)]) [0, 1, 2] [3, 4, 5, 6, 7, 8, 9, 10, 11, 12, 13] (run_V (n := 3) (As := [.int 0, .int 0, .ref vv]) (rest := []) 0 0 hx hb hml hown hg hN (c_X0_noteEnd l D T h0 h0_gone 0 h0_states h0_ledHand h0_ledLength h0_path h0_pathLength h0_state h0_endState h0_endStuck f_h0_endState f_h0_endStuck vv  H.size) km_X0_88 ki_X0_noteEnd ks_X0_noteEnd kz_X0 kd_X0_noteEnd rfl rfl (by decide +kernel) ⟨Nat.le_of_ble_eq_true rfl, Nat.le_of_ble_eq_true rfl⟩ hK (P_sub hP [0, 1, 2] rfl) (hD.sub [0, 1, 2] (by decide) rfl) rfl rfl rfl hl.1 rfl (Nat.le_of_ble_eq_true rfl) dX0_goOnFrom_35 ⟨Nat.le_of_ble_eq_true rfl, Nat.le_of_ble_eq_true rfl⟩) hP hD hS hA rfl rfl (by decide) (by decide) (fun xx H locs hq hP hD hS => ?_)
  obtain ⟨f8, f9⟩ := xx
  have hP : va_P D vwCl [ob vv 10 [.int 1, .int 17, .ref vv_states, .ref vv_parent, .ref vv_hand, .ref vv_table], ai T vv_states 51000 f_vv_states, ai T mm_cells 8 f6, ai T mm_moved 6 f7, ai T mm_holder 4 f4, ai T mm_notes 3 f5, ai T h0_state 17 f1, ob mm 6 [.ref mm_cells, .ref s0, .ref mm_next, .ref mm_moved, .ref mm_holder, .ref mm_notes, .int v3], ai T mm_next 6 f2, ob s0 9 [.ref s0_sort, .ref s0_arg, .ref s0_number, .ref s0_kind, .ref s0_skip, .ref s0_place, .ref s0_count, .int s0_told], ai T s0_count 6 (cst 0), ob h0 0 [.int h0_gone, .int 0, .int h0_states, .int 1, .ref h0_ledHand, .int h0_ledLength, .int 0, .ref h0_path, .int h0_pathLength, .ref h0_state, .ref h0_endState, .ref h0_endStuck], ai T h0_endState 3000 f8, ai T h0_endStuck 3000 f9] H := hP
  have hD : va_D A [ob vv 10 [.int 1, .int 17, .ref vv_states, .ref vv_parent, .ref vv_hand, .ref vv_table], ai T vv_states 51000 f_vv_states, ai T mm_cells 8 f6, ai T mm_moved 6 f7, ai T mm_holder 4 f4, ai T mm_notes 3 f5, ai T h0_state 17 f1, ob mm 6 [.ref mm_cells, .ref s0, .ref mm_next, .ref mm_moved, .ref mm_holder, .ref mm_notes, .int v3], ai T mm_next 6 f2, ob s0 9 [.ref s0_sort, .ref s0_arg, .ref s0_number, .ref s0_kind, .ref s0_skip, .ref s0_place, .ref s0_count, .int s0_told], ai T s0_count 6 (cst 0), ob h0 0 [.int h0_gone, .int 0, .int h0_states, .int 1, .ref h0_ledHand, .int h0_ledLength, .int 0, .ref h0_path, .int h0_pathLength, .ref h0_state, .ref h0_endState, .ref h0_endStuck], ai T h0_endState 3000 f8, ai T h0_endStuck 3000 f9] := hD
  refine lv_iconst (v := 0) hx hb dX0_goOnFrom_38 (by decide) ?_
  refine lv_istore (lv' := [(5, .int 0), (4, .int 0), (0, .ref h0), (1, .int 0), (2, .ref mm), (3, .ref vv)]) hx hb dX0_goOnFrom_39 hl (by decide) rfl (fun ls hl => ?_)
  refine lv_iload hx hb dX0_goOnFrom_41 (lv_at hl 0 rfl) ?_
  refine lv_bipush (v := 6) hx hb dX0_goOnFrom_43 (by decide) ?_
  refine lv_icmp_ge (tgt := 131) hx hb dX0_goOnFrom_45 (by decide) (fun hc => absurd hc (by decide)) (fun _ => ?_)
  refine lv_aload_n hx hb dX0_goOnFrom_48 rfl (lv_at hl 2 rfl) ?_
  refine va_get (D := D) (ci := 0) (v := .int 0) (C := RX0) (T := TX0) (N := 12) hx hb hg inX0 hown hK hP 11 rfl rfl 1 (by decide) (hg _ kf_X0_33) (fun _ h9 => h9) rfl dX0_goOnFrom_49 ?_
  refine lv_if_ne (tgt := 131) hx hb dX0_goOnFrom_52 (by decide) (fun hc => absurd (by decide) hc) (fun _ => ?_)
  refine lv_iload hx hb dX0_goOnFrom_55 (lv_at hl 1 rfl) ?_
  refine lv_iload hx hb dX0_goOnFrom_57 (lv_at hl 0 rfl) ?_
  refine lv_ishr hx hb dX0_goOnFrom_59 ?_
  refine z_top (v := 0) (by decide) ?_
  refine lv_iconst (v := 1) hx hb dX0_goOnFrom_60 (by decide) ?_
  refine lv_iand hx hb dX0_goOnFrom_61 ?_
  refine z_top (v := 0) (by decide) ?_
  refine lv_if_ne (tgt := 68) hx hb dX0_goOnFrom_62 (by decide) (fun hc => absurd (by decide) hc) (fun _ => ?_)
  refine lv_goto (tgt := 125) hx hb dX0_goOnFrom_65 (by decide) ?_
  refine lv_iinc (v := 1) (lv' := [(5, .int 1), (4, .int 0), (0, .ref h0), (1, .int 0), (2, .ref mm), (3, .ref vv)]) hx hb dX0_goOnFrom_125 hl (k := 0) rfl (by decide) (by decide) rfl (fun ls hl => ?_)
  refine lv_goto (tgt := 41) hx hb dX0_goOnFrom_128 (by decide) ?_
  refine lv_iload hx hb dX0_goOnFrom_41 (lv_at hl 0 rfl) ?_
  refine lv_bipush (v := 6) hx hb dX0_goOnFrom_43 (by decide) ?_
  refine lv_icmp_ge (tgt := 131) hx hb dX0_goOnFrom_45 (by decide) (fun hc => absurd hc (by decide)) (fun _ => ?_)
  refine lv_aload_n hx hb dX0_goOnFrom_48 rfl (lv_at hl 2 rfl) ?_
  refine va_get (D := D) (ci := 0) (v := .int 0) (C := RX0) (T := TX0) (N := 12) hx hb hg inX0 hown hK hP 11 rfl rfl 1 (by decide) (hg _ kf_X0_33) (fun _ h9 => h9) rfl dX0_goOnFrom_49 ?_
  refine lv_if_ne (tgt := 131) hx hb dX0_goOnFrom_52 (by decide) (fun hc => absurd (by decide) hc) (fun _ => ?_)
  refine lv_iload hx hb dX0_goOnFrom_55 (lv_at hl 1 rfl) ?_
  refine lv_iload hx hb dX0_goOnFrom_57 (lv_at hl 0 rfl) ?_
  refine lv_ishr hx hb dX0_goOnFrom_59 ?_
  refine z_top (v := 0) (by decide) ?_
  refine lv_iconst (v := 1) hx hb dX0_goOnFrom_60 (by decide) ?_
  refine lv_iand hx hb dX0_goOnFrom_61 ?_
  refine z_top (v := 0) (by decide) ?_
  refine lv_if_ne (tgt := 68) hx hb dX0_goOnFrom_62 (by decide) (fun hc => absurd (by decide) hc) (fun _ => ?_)
  refine lv_goto (tgt := 125) hx hb dX0_goOnFrom_65 (by decide) ?_
  refine lv_iinc (v := 2) (lv' := [(5, .int 2), (4, .int 0), (0, .ref h0), (1, .int 0), (2, .ref mm), (3, .ref vv)]) hx hb dX0_goOnFrom_125 hl (k := 0) rfl (by decide) (by decide) rfl (fun ls hl => ?_)
  refine lv_goto (tgt := 41) hx hb dX0_goOnFrom_128 (by decide) ?_
  refine lv_iload hx hb dX0_goOnFrom_41 (lv_at hl 0 rfl) ?_
  refine lv_bipush (v := 6) hx hb dX0_goOnFrom_43 (by decide) ?_
  refine lv_icmp_ge (tgt := 131) hx hb dX0_goOnFrom_45 (by decide) (fun hc => absurd hc (by decide)) (fun _ => ?_)
  refine lv_aload_n hx hb dX0_goOnFrom_48 rfl (lv_at hl 2 rfl) ?_
  refine va_get (D := D) (ci := 0) (v := .int 0) (C := RX0) (T := TX0) (N := 12) hx hb hg inX0 hown hK hP 11 rfl rfl 1 (by decide) (hg _ kf_X0_33) (fun _ h9 => h9) rfl dX0_goOnFrom_49 ?_
  refine lv_if_ne (tgt := 131) hx hb dX0_goOnFrom_52 (by decide) (fun hc => absurd (by decide) hc) (fun _ => ?_)
  refine lv_iload hx hb dX0_goOnFrom_55 (lv_at hl 1 rfl) ?_
  refine lv_iload hx hb dX0_goOnFrom_57 (lv_at hl 0 rfl) ?_
  refine lv_ishr hx hb dX0_goOnFrom_59 ?_
  refine z_top (v := 0) (by decide) ?_
  refine lv_iconst (v := 1) hx hb dX0_goOnFrom_60 (by decide) ?_
  refine lv_iand hx hb dX0_goOnFrom_61 ?_
  refine z_top (v := 0) (by decide) ?_
  refine lv_if_ne (tgt := 68) hx hb dX0_goOnFrom_62 (by decide) (fun hc => absurd (by decide) hc) (fun _ => ?_)
  refine lv_goto (tgt := 125) hx hb dX0_goOnFrom_65 (by decide) ?_
  refine lv_iinc (v := 3) (lv' := [(5, .int 3), (4, .int 0), (0, .ref h0), (1, .int 0), (2, .ref mm), (3, .ref vv)]) hx hb dX0_goOnFrom_125 hl (k := 0) rfl (by decide) (by decide) rfl (fun ls hl => ?_)
  refine lv_goto (tgt := 41) hx hb dX0_goOnFrom_128 (by decide) ?_
  refine lv_iload hx hb dX0_goOnFrom_41 (lv_at hl 0 rfl) ?_
  refine lv_bipush (v := 6) hx hb dX0_goOnFrom_43 (by decide) ?_
  refine lv_icmp_ge (tgt := 131) hx hb dX0_goOnFrom_45 (by decide) (fun hc => absurd hc (by decide)) (fun _ => ?_)
  refine lv_aload_n hx hb dX0_goOnFrom_48 rfl (lv_at hl 2 rfl) ?_
  refine va_get (D := D) (ci := 0) (v := .int 0) (C := RX0) (T := TX0) (N := 12) hx hb hg inX0 hown hK hP 11 rfl rfl 1 (by decide) (hg _ kf_X0_33) (fun _ h9 => h9) rfl dX0_goOnFrom_49 ?_
  refine lv_if_ne (tgt := 131) hx hb dX0_goOnFrom_52 (by decide) (fun hc => absurd (by decide) hc) (fun _ => ?_)
  refine lv_iload hx hb dX0_goOnFrom_55 (lv_at hl 1 rfl) ?_
  refine lv_iload hx hb dX0_goOnFrom_57 (lv_at hl 0 rfl) ?_
  refine lv_ishr hx hb dX0_goOnFrom_59 ?_
  refine z_top (v := 0) (by decide) ?_
  refine lv_iconst (v := 1) hx hb dX0_goOnFrom_60 (by decide) ?_
  refine lv_iand hx hb dX0_goOnFrom_61 ?_
  refine z_top (v := 0) (by decide) ?_
  refine lv_if_ne (tgt := 68) hx hb dX0_goOnFrom_62 (by decide) (fun hc => absurd (by decide) hc) (fun _ => ?_)
  refine lv_goto (tgt := 125) hx hb dX0_goOnFrom_65 (by decide) ?_
  refine lv_iinc (v := 4) (lv' := [(5, .int 4), (4, .int 0), (0, .ref h0), (1, .int 0), (2, .ref mm), (3, .ref vv)]) hx hb dX0_goOnFrom_125 hl (k := 0) rfl (by decide) (by decide) rfl (fun ls hl => ?_)
  refine lv_goto (tgt := 41) hx hb dX0_goOnFrom_128 (by decide) ?_
  refine lv_iload hx hb dX0_goOnFrom_41 (lv_at hl 0 rfl) ?_
  refine lv_bipush (v := 6) hx hb dX0_goOnFrom_43 (by decide) ?_
  refine lv_icmp_ge (tgt := 131) hx hb dX0_goOnFrom_45 (by decide) (fun hc => absurd hc (by decide)) (fun _ => ?_)
  refine lv_aload_n hx hb dX0_goOnFrom_48 rfl (lv_at hl 2 rfl) ?_
  refine va_get (D := D) (ci := 0) (v := .int 0) (C := RX0) (T := TX0) (N := 12) hx hb hg inX0 hown hK hP 11 rfl rfl 1 (by decide) (hg _ kf_X0_33) (fun _ h9 => h9) rfl dX0_goOnFrom_49 ?_
  refine lv_if_ne (tgt := 131) hx hb dX0_goOnFrom_52 (by decide) (fun hc => absurd (by decide) hc) (fun _ => ?_)
  refine lv_iload hx hb dX0_goOnFrom_55 (lv_at hl 1 rfl) ?_
  refine lv_iload hx hb dX0_goOnFrom_57 (lv_at hl 0 rfl) ?_
  refine lv_ishr hx hb dX0_goOnFrom_59 ?_
  refine z_top (v := 0) (by decide) ?_
  refine lv_iconst (v := 1) hx hb dX0_goOnFrom_60 (by decide) ?_
  refine lv_iand hx hb dX0_goOnFrom_61 ?_
  refine z_top (v := 0) (by decide) ?_
  refine lv_if_ne (tgt := 68) hx hb dX0_goOnFrom_62 (by decide) (fun hc => absurd (by decide) hc) (fun _ => ?_)
  refine lv_goto (tgt := 125) hx hb dX0_goOnFrom_65 (by decide) ?_
  refine lv_iinc (v := 5) (lv' := [(5, .int 5), (4, .int 0), (0, .ref h0), (1, .int 0), (2, .ref mm), (3, .ref vv)]) hx hb dX0_goOnFrom_125 hl (k := 0) rfl (by decide) (by decide) rfl (fun ls hl => ?_)
  refine lv_goto (tgt := 41) hx hb dX0_goOnFrom_128 (by decide) ?_
  refine lv_iload hx hb dX0_goOnFrom_41 (lv_at hl 0 rfl) ?_
  refine lv_bipush (v := 6) hx hb dX0_goOnFrom_43 (by decide) ?_
  refine lv_icmp_ge (tgt := 131) hx hb dX0_goOnFrom_45 (by decide) (fun hc => absurd hc (by decide)) (fun _ => ?_)
  refine lv_aload_n hx hb dX0_goOnFrom_48 rfl (lv_at hl 2 rfl) ?_
  refine va_get (D := D) (ci := 0) (v := .int 0) (C := RX0) (T := TX0) (N := 12) hx hb hg inX0 hown hK hP 11 rfl rfl 1 (by decide) (hg _ kf_X0_33) (fun _ h9 => h9) rfl dX0_goOnFrom_49 ?_
  refine lv_if_ne (tgt := 131) hx hb dX0_goOnFrom_52 (by decide) (fun hc => absurd (by decide) hc) (fun _ => ?_)
  refine lv_iload hx hb dX0_goOnFrom_55 (lv_at hl 1 rfl) ?_
  refine lv_iload hx hb dX0_goOnFrom_57 (lv_at hl 0 rfl) ?_
  refine lv_ishr hx hb dX0_goOnFrom_59 ?_
  refine z_top (v := 0) (by decide) ?_
  refine lv_iconst (v := 1) hx hb dX0_goOnFrom_60 (by decide) ?_
  refine lv_iand hx hb dX0_goOnFrom_61 ?_
  refine z_top (v := 0) (by decide) ?_
  refine lv_if_ne (tgt := 68) hx hb dX0_goOnFrom_62 (by decide) (fun hc => absurd (by decide) hc) (fun _ => ?_)
  refine lv_goto (tgt := 125) hx hb dX0_goOnFrom_65 (by decide) ?_
  refine lv_iinc (v := 6) (lv' := [(5, .int 6), (4, .int 0), (0, .ref h0), (1, .int 0), (2, .ref mm), (3, .ref vv)]) hx hb dX0_goOnFrom_125 hl (k := 0) rfl (by decide) (by decide) rfl (fun ls hl => ?_)
  refine lv_goto (tgt := 41) hx hb dX0_goOnFrom_128 (by decide) ?_
  refine lv_iload hx hb dX0_goOnFrom_41 (lv_at hl 0 rfl) ?_
  refine lv_bipush (v := 6) hx hb dX0_goOnFrom_43 (by decide) ?_
  refine lv_icmp_ge (tgt := 131) hx hb dX0_goOnFrom_45 (by decide) (fun _ => ?_) (fun hc => absurd (by decide) hc)
  exact ret_v (X := (Nat → Int32) × (Nat → Int32) × Int32 × (Nat → Int32) × (Nat → Int32) × (Nat → Int32) × (Nat → Int32) × (Nat → Int32) × (Nat → Int32)) ((f1, f2, v3, f4, f5, f6, f7, f8, f9)) hx hb hr hlocks hP hD hS [11, 6, 12, 13, 7, 2, 8, 3, 4, 5, 9, 10, 0, 1] (by decide) rfl trivial dX0_goOnFrom_131
theorem dX0_explore_0 : decode cX0_explore 0 = .ok (.aload_n 0, 1) := by decide +kernel
theorem dX0_explore_1 : decode cX0_explore 1 = .ok (.iconst 1, 1) := by decide +kernel
theorem dX0_explore_2 : decode cX0_explore 2 = .ok (.putfield 29, 3) := by decide +kernel
theorem dX0_explore_5 : decode cX0_explore 5 = .ok (.aload_n 0, 1) := by decide +kernel
theorem dX0_explore_6 : decode cX0_explore 6 = .ok (.iconst 0, 1) := by decide +kernel
theorem dX0_explore_7 : decode cX0_explore 7 = .ok (.putfield 33, 3) := by decide +kernel
theorem dX0_explore_10 : decode cX0_explore 10 = .ok (.aload_n 0, 1) := by decide +kernel
theorem dX0_explore_11 : decode cX0_explore 11 = .ok (.iconst 0, 1) := by decide +kernel
theorem dX0_explore_12 : decode cX0_explore 12 = .ok (.putfield 36, 3) := by decide +kernel
theorem dX0_explore_15 : decode cX0_explore 15 = .ok (.aload_n 0, 1) := by decide +kernel
theorem dX0_explore_16 : decode cX0_explore 16 = .ok (.iconst 0, 1) := by decide +kernel
theorem dX0_explore_17 : decode cX0_explore 17 = .ok (.putfield 40, 3) := by decide +kernel
theorem dX0_explore_20 : decode cX0_explore 20 = .ok (.aload_n 0, 1) := by decide +kernel
theorem dX0_explore_21 : decode cX0_explore 21 = .ok (.iconst 0, 1) := by decide +kernel
theorem dX0_explore_22 : decode cX0_explore 22 = .ok (.putfield 43, 3) := by decide +kernel
theorem dX0_explore_25 : decode cX0_explore 25 = .ok (.aload_n 3, 1) := by decide +kernel
theorem dX0_explore_26 : decode cX0_explore 26 = .ok (.bipush 17, 2) := by decide +kernel
theorem dX0_explore_28 : decode cX0_explore 28 = .ok (.invokevirtual 46, 3) := by decide +kernel
theorem dX0_explore_31 : decode cX0_explore 31 = .ok (.aload_n 2, 1) := by decide +kernel
theorem dX0_explore_32 : decode cX0_explore 32 = .ok (.aload_n 1, 1) := by decide +kernel
theorem dX0_explore_33 : decode cX0_explore 33 = .ok (.invokevirtual 52, 3) := by decide +kernel
theorem dX0_explore_36 : decode cX0_explore 36 = .ok (.aload_n 2, 1) := by decide +kernel
theorem dX0_explore_37 : decode cX0_explore 37 = .ok (.aload_n 0, 1) := by decide +kernel
theorem dX0_explore_38 : decode cX0_explore 38 = .ok (.getfield 20, 3) := by decide +kernel
theorem dX0_explore_41 : decode cX0_explore 41 = .ok (.invokevirtual 56, 3) := by decide +kernel
theorem dX0_explore_44 : decode cX0_explore 44 = .ok (.aload_n 3, 1) := by decide +kernel
theorem dX0_explore_45 : decode cX0_explore 45 = .ok (.aload_n 0, 1) := by decide +kernel
theorem dX0_explore_46 : decode cX0_explore 46 = .ok (.getfield 20, 3) := by decide +kernel
theorem dX0_explore_49 : decode cX0_explore 49 = .ok (.iconst (-1), 1) := by decide +kernel
theorem dX0_explore_50 : decode cX0_explore 50 = .ok (.iconst (-1), 1) := by decide +kernel
theorem dX0_explore_51 : decode cX0_explore 51 = .ok (.invokevirtual 60, 3) := by decide +kernel
theorem dX0_explore_54 : decode cX0_explore 54 = .ok (.pop, 1) := by decide +kernel
theorem dX0_explore_55 : decode cX0_explore 55 = .ok (.iconst 0, 1) := by decide +kernel
theorem dX0_explore_56 : decode cX0_explore 56 = .ok (.istore 4, 2) := by decide +kernel
theorem dX0_explore_58 : decode cX0_explore 58 = .ok (.iload 4, 2) := by decide +kernel
theorem dX0_explore_60 : decode cX0_explore 60 = .ok (.sipush 3000, 3) := by decide +kernel
theorem dX0_explore_63 : decode cX0_explore 63 = .ok (.if_icmp .ge 33, 3) := by decide +kernel
theorem dX0_explore_66 : decode cX0_explore 66 = .ok (.iload 4, 2) := by decide +kernel
theorem dX0_explore_68 : decode cX0_explore 68 = .ok (.aload_n 3, 1) := by decide +kernel
theorem dX0_explore_69 : decode cX0_explore 69 = .ok (.getfield 64, 3) := by decide +kernel
theorem dX0_explore_72 : decode cX0_explore 72 = .ok (.if_icmp .ge 24, 3) := by decide +kernel
theorem dX0_explore_75 : decode cX0_explore 75 = .ok (.aload_n 0, 1) := by decide +kernel
theorem dX0_explore_76 : decode cX0_explore 76 = .ok (.getfield 33, 3) := by decide +kernel
theorem dX0_explore_79 : decode cX0_explore 79 = .ok (.ifCond .ne 17, 3) := by decide +kernel
theorem dX0_explore_82 : decode cX0_explore 82 = .ok (.aload_n 0, 1) := by decide +kernel
theorem dX0_explore_83 : decode cX0_explore 83 = .ok (.iload 4, 2) := by decide +kernel
theorem dX0_explore_85 : decode cX0_explore 85 = .ok (.aload_n 2, 1) := by decide +kernel
theorem dX0_explore_86 : decode cX0_explore 86 = .ok (.aload_n 3, 1) := by decide +kernel
theorem dX0_explore_87 : decode cX0_explore 87 = .ok (.invokevirtual 67, 3) := by decide +kernel
theorem dX0_explore_90 : decode cX0_explore 90 = .ok (.iinc 4 1, 3) := by decide +kernel
theorem dX0_explore_93 : decode cX0_explore 93 = .ok (.goto (-35), 3) := by decide +kernel
theorem dX0_explore_96 : decode cX0_explore 96 = .ok (.aload_n 0, 1) := by decide +kernel
theorem dX0_explore_97 : decode cX0_explore 97 = .ok (.aload_n 3, 1) := by decide +kernel
theorem dX0_explore_98 : decode cX0_explore 98 = .ok (.getfield 64, 3) := by decide +kernel
theorem dX0_explore_101 : decode cX0_explore 101 = .ok (.putfield 71, 3) := by decide +kernel
theorem dX0_explore_104 : decode cX0_explore 104 = .ok (.return_, 1) := by decide +kernel
set_option maxHeartbeats 4000000 in
set_option maxRecDepth 100000 in
theorem c_X0_explore (l : Launch) (D : va_G) (T : Nat → ClassId) (h0 : Nat) (h0_gone : Int32) (h0_spent : Int32) (h0_states : Int32) (h0_endCount : Int32) (h0_ledHand : Nat) (h0_ledLength : Int32) (h0_waiting : Int32) (h0_path : Nat) (h0_pathLength : Int32) (h0_state : Nat) (h0_endState : Nat) (h0_endStuck : Nat) (f_h0_state : Nat → Int32) (f_h0_endState : Nat → Int32) (f_h0_endStuck : Nat → Int32) (mm : Nat) (mm_cells : Nat) (mm_next : Nat) (mm_moved : Nat) (mm_holder : Nat) (mm_notes : Nat) (mm_started : Int32) (f_mm_cells : Nat → Int32) (f_mm_next : Nat → Int32) (f_mm_moved : Nat → Int32) (f_mm_holder : Nat → Int32) (f_mm_notes : Nat → Int32) (s0 : Nat) (s0_sort : Nat) (s0_arg : Nat) (s0_number : Nat) (s0_kind : Nat) (s0_skip : Nat) (s0_place : Nat) (s0_count : Nat) (s0_told : Int32) (vv : Nat) (vv_n : Int32) (vv_width : Int32) (vv_states : Nat) (vv_parent : Nat) (vv_hand : Nat) (vv_table : Nat) (f_vv_states : Nat → Int32) (f_vv_parent : Nat → Int32) (f_vv_hand : Nat → Int32) (f_vv_table : Nat → Int32) (sz : Nat) : Met l yX0_explore (WS (.code yX0_explore cX0_explore 5 none)) ({ frames := 10, cells := 0, slots := 0, locals := 320 } : Room) (va_Pc [.ref h0, .ref s0, .ref mm, .ref vv] (PW D (TY T) [ob h0 0 [.int h0_gone, .int h0_spent, .int h0_states, .int h0_endCount, .ref h0_ledHand, .int h0_ledLength, .int h0_waiting, .ref h0_path, .int h0_pathLength, .ref h0_state, .ref h0_endState, .ref h0_endStuck], ai T h0_state 17 f_h0_state, ai T h0_endState 3000 f_h0_endState, ai T h0_endStuck 3000 f_h0_endStuck, ob mm 6 [.ref mm_cells, .null, .ref mm_next, .ref mm_moved, .ref mm_holder, .ref mm_notes, .int mm_started], ai T mm_cells 8 f_mm_cells, ai T mm_next 6 f_mm_next, ai T mm_moved 6 f_mm_moved, ai T mm_holder 4 f_mm_holder, ai T mm_notes 3 f_mm_notes, ob s0 9 [.ref s0_sort, .ref s0_arg, .ref s0_number, .ref s0_kind, .ref s0_skip, .ref s0_place, .ref s0_count, .int s0_told], ai T s0_count 6 (cst 0), ob vv 10 [.int vv_n, .int vv_width, .ref vv_states, .ref vv_parent, .ref vv_hand, .ref vv_table], ai T vv_states 51000 f_vv_states, ai T vv_parent 3000 f_vv_parent, ai T vv_hand 3000 f_vv_hand, ai T vv_table 8192 f_vv_table] sz)) (QV (X := (Nat → Int32) × (Nat → Int32) × (Nat → Int32) × (Nat → Int32) × (Nat → Int32) × (Nat → Int32) × Int32 × (Nat → Int32) × (Nat → Int32) × (Nat → Int32) × (Nat → Int32) × (Nat → Int32) × (Nat → Int32)) D (fun _ => True) (fun xx => [ob h0 0 [.int 1, .int 0, .int 1, .int 1, .ref h0_ledHand, .int h0_ledLength, .int 0, .ref h0_path, .int 0, .ref h0_state, .ref h0_endState, .ref h0_endStuck], ai T h0_state 17 (xx.2.2.2.2.1), ai T h0_endState 3000 (xx.2.2.2.2.2.2.2.2.2.2.2.1), ai T h0_endStuck 3000 (xx.2.2.2.2.2.2.2.2.2.2.2.2), ob mm 6 [.ref mm_cells, .ref s0, .ref mm_next, .ref mm_moved, .ref mm_holder, .ref mm_notes, .int (xx.2.2.2.2.2.2.1)], ai T mm_cells 8 (xx.2.2.2.2.2.2.2.2.2.1), ai T mm_next 6 (xx.2.2.2.2.2.1), ai T mm_moved 6 (xx.2.2.2.2.2.2.2.2.2.2.1), ai T mm_holder 4 (xx.2.2.2.2.2.2.2.1), ai T mm_notes 3 (xx.2.2.2.2.2.2.2.2.1), ob s0 9 [.ref s0_sort, .ref s0_arg, .ref s0_number, .ref s0_kind, .ref s0_skip, .ref s0_place, .ref s0_count, .int s0_told], ai T s0_count 6 (cst 0), ob vv 10 [.int 1, .int 17, .ref vv_states, .ref vv_parent, .ref vv_hand, .ref vv_table], ai T vv_states 51000 (xx.1), ai T vv_parent 3000 (xx.2.1), ai T vv_hand 3000 (xx.2.2.1), ai T vv_table 8192 (xx.2.2.2.1)]) (va_A [ob h0 0 [.int h0_gone, .int h0_spent, .int h0_states, .int h0_endCount, .ref h0_ledHand, .int h0_ledLength, .int h0_waiting, .ref h0_path, .int h0_pathLength, .ref h0_state, .ref h0_endState, .ref h0_endStuck], ai T h0_state 17 f_h0_state, ai T h0_endState 3000 f_h0_endState, ai T h0_endStuck 3000 f_h0_endStuck, ob mm 6 [.ref mm_cells, .null, .ref mm_next, .ref mm_moved, .ref mm_holder, .ref mm_notes, .int mm_started], ai T mm_cells 8 f_mm_cells, ai T mm_next 6 f_mm_next, ai T mm_moved 6 f_mm_moved, ai T mm_holder 4 f_mm_holder, ai T mm_notes 3 f_mm_notes, ob s0 9 [.ref s0_sort, .ref s0_arg, .ref s0_number, .ref s0_kind, .ref s0_skip, .ref s0_place, .ref s0_count, .int s0_told], ai T s0_count 6 (cst 0), ob vv 10 [.int vv_n, .int vv_width, .ref vv_states, .ref vv_parent, .ref vv_hand, .ref vv_table], ai T vv_states 51000 f_vv_states, ai T vv_parent 3000 f_vv_parent, ai T vv_hand 3000 f_vv_hand, ai T vv_table 8192 f_vv_table] sz)) 0 0 (va_A [ob h0 0 [.int h0_gone, .int h0_spent, .int h0_states, .int h0_endCount, .ref h0_ledHand, .int h0_ledLength, .int h0_waiting, .ref h0_path, .int h0_pathLength, .ref h0_state, .ref h0_endState, .ref h0_endStuck], ai T h0_state 17 f_h0_state, ai T h0_endState 3000 f_h0_endState, ai T h0_endStuck 3000 f_h0_endStuck, ob mm 6 [.ref mm_cells, .null, .ref mm_next, .ref mm_moved, .ref mm_holder, .ref mm_notes, .int mm_started], ai T mm_cells 8 f_mm_cells, ai T mm_next 6 f_mm_next, ai T mm_moved 6 f_mm_moved, ai T mm_holder 4 f_mm_holder, ai T mm_notes 3 f_mm_notes, ob s0 9 [.ref s0_sort, .ref s0_arg, .ref s0_number, .ref s0_kind, .ref s0_skip, .ref s0_place, .ref s0_count, .int s0_told], ai T s0_count 6 (cst 0), ob vv 10 [.int vv_n, .int vv_width, .ref vv_states, .ref vv_parent, .ref vv_hand, .ref vv_table], ai T vv_states 51000 f_vv_states, ai T vv_parent 3000 f_vv_parent, ai T vv_hand 3000 f_vv_hand, ai T vv_table 8192 f_vv_table] sz) := by
  refine mk_met (Qc := QV (X := (Nat → Int32) × (Nat → Int32) × (Nat → Int32) × (Nat → Int32) × (Nat → Int32) × (Nat → Int32) × Int32 × (Nat → Int32) × (Nat → Int32) × (Nat → Int32) × (Nat → Int32) × (Nat → Int32) × (Nat → Int32)) D (fun _ => True) (fun xx => [ob h0 0 [.int 1, .int 0, .int 1, .int 1, .ref h0_ledHand, .int h0_ledLength, .int 0, .ref h0_path, .int 0, .ref h0_state, .ref h0_endState, .ref h0_endStuck], ai T h0_state 17 (xx.2.2.2.2.1), ai T h0_endState 3000 (xx.2.2.2.2.2.2.2.2.2.2.2.1), ai T h0_endStuck 3000 (xx.2.2.2.2.2.2.2.2.2.2.2.2), ob mm 6 [.ref mm_cells, .ref s0, .ref mm_next, .ref mm_moved, .ref mm_holder, .ref mm_notes, .int (xx.2.2.2.2.2.2.1)], ai T mm_cells 8 (xx.2.2.2.2.2.2.2.2.2.1), ai T mm_next 6 (xx.2.2.2.2.2.1), ai T mm_moved 6 (xx.2.2.2.2.2.2.2.2.2.2.1), ai T mm_holder 4 (xx.2.2.2.2.2.2.2.1), ai T mm_notes 3 (xx.2.2.2.2.2.2.2.2.1), ob s0 9 [.ref s0_sort, .ref s0_arg, .ref s0_number, .ref s0_kind, .ref s0_skip, .ref s0_place, .ref s0_count, .int s0_told], ai T s0_count 6 (cst 0), ob vv 10 [.int 1, .int 17, .ref vv_states, .ref vv_parent, .ref vv_hand, .ref vv_table], ai T vv_states 51000 (xx.1), ai T vv_parent 3000 (xx.2.1), ai T vv_hand 3000 (xx.2.2.1), ai T vv_table 8192 (xx.2.2.2.1)])) (lv := [(0, .ref h0), (1, .ref s0), (2, .ref mm), (3, .ref vv)]) (by decide +kernel) (Nat.le_of_ble_eq_true rfl) rfl (fun p e s m below meth c A ls H locs hx hb hml hr hlocks hown hin hg hN hA hP hK hD hS hl => ?_)
  refine lv_aload_n hx hb dX0_explore_0 rfl (lv_at hl 0 rfl) ?_
  refine lv_iconst (v := 1) hx hb dX0_explore_1 (by decide) ?_
  refine va_put (D := D) (ci := 0) (v := .int 1) (ty := .boolean) (C := RX0) (T := TX0) (N := 12) hx hb hg inX0 tyX0 tyX0_ok nmX0 hown hK hP hD hS 0 rfl rfl 0 (by decide) (hg _ kf_X0_29) (fun _ h9 => h9) rfl (by decide +kernel) rfl rfl (Nat.le_of_ble_eq_true rfl) dX0_explore_2 (fun H locs hP hD hS => ?_)
  have hP : va_P D vwCl [ob h0 0 [.int 1, .int h0_spent, .int h0_states, .int h0_endCount, .ref h0_ledHand, .int h0_ledLength, .int h0_waiting, .ref h0_path, .int h0_pathLength, .ref h0_state, .ref h0_endState, .ref h0_endStuck], ai T h0_state 17 f_h0_state, ai T h0_endState 3000 f_h0_endState, ai T h0_endStuck 3000 f_h0_endStuck, ob mm 6 [.ref mm_cells, .null, .ref mm_next, .ref mm_moved, .ref mm_holder, .ref mm_notes, .int mm_started], ai T mm_cells 8 f_mm_cells, ai T mm_next 6 f_mm_next, ai T mm_moved 6 f_mm_moved, ai T mm_holder 4 f_mm_holder, ai T mm_notes 3 f_mm_notes, ob s0 9 [.ref s0_sort, .ref s0_arg, .ref s0_number, .ref s0_kind, .ref s0_skip, .ref s0_place, .ref s0_count, .int s0_told], ai T s0_count 6 (cst 0), ob vv 10 [.int vv_n, .int vv_width, .ref vv_states, .ref vv_parent, .ref vv_hand, .ref vv_table], ai T vv_states 51000 f_vv_states, ai T vv_parent 3000 f_vv_parent, ai T vv_hand 3000 f_vv_hand, ai T vv_table 8192 f_vv_table] H := hP
  have hD : va_D A [ob h0 0 [.int 1, .int h0_spent, .int h0_states, .int h0_endCount, .ref h0_ledHand, .int h0_ledLength, .int h0_waiting, .ref h0_path, .int h0_pathLength, .ref h0_state, .ref h0_endState, .ref h0_endStuck], ai T h0_state 17 f_h0_state, ai T h0_endState 3000 f_h0_endState, ai T h0_endStuck 3000 f_h0_endStuck, ob mm 6 [.ref mm_cells, .null, .ref mm_next, .ref mm_moved, .ref mm_holder, .ref mm_notes, .int mm_started], ai T mm_cells 8 f_mm_cells, ai T mm_next 6 f_mm_next, ai T mm_moved 6 f_mm_moved, ai T mm_holder 4 f_mm_holder, ai T mm_notes 3 f_mm_notes, ob s0 9 [.ref s0_sort, .ref s0_arg, .ref s0_number, .ref s0_kind, .ref s0_skip, .ref s0_place, .ref s0_count, .int s0_told], ai T s0_count 6 (cst 0), ob vv 10 [.int vv_n, .int vv_width, .ref vv_states, .ref vv_parent, .ref vv_hand, .ref vv_table], ai T vv_states 51000 f_vv_states, ai T vv_parent 3000 f_vv_parent, ai T vv_hand 3000 f_vv_hand, ai T vv_table 8192 f_vv_table] := hD
  refine lv_aload_n hx hb dX0_explore_5 rfl (lv_at hl 0 rfl) ?_
  refine lv_iconst (v := 0) hx hb dX0_explore_6 (by decide) ?_
  refine va_put (D := D) (ci := 0) (v := .int 0) (ty := .boolean) (C := RX0) (T := TX0) (N := 12) hx hb hg inX0 tyX0 tyX0_ok nmX0 hown hK hP hD hS 0 rfl rfl 1 (by decide) (hg _ kf_X0_33) (fun _ h9 => h9) rfl (by decide +kernel) rfl rfl (Nat.le_of_ble_eq_true rfl) dX0_explore_7 (fun H locs hP hD hS => ?_)
  have hP : va_P D vwCl [ob h0 0 [.int 1, .int 0, .int h0_states, .int h0_endCount, .ref h0_ledHand, .int h0_ledLength, .int h0_waiting, .ref h0_path, .int h0_pathLength, .ref h0_state, .ref h0_endState, .ref h0_endStuck], ai T h0_state 17 f_h0_state, ai T h0_endState 3000 f_h0_endState, ai T h0_endStuck 3000 f_h0_endStuck, ob mm 6 [.ref mm_cells, .null, .ref mm_next, .ref mm_moved, .ref mm_holder, .ref mm_notes, .int mm_started], ai T mm_cells 8 f_mm_cells, ai T mm_next 6 f_mm_next, ai T mm_moved 6 f_mm_moved, ai T mm_holder 4 f_mm_holder, ai T mm_notes 3 f_mm_notes, ob s0 9 [.ref s0_sort, .ref s0_arg, .ref s0_number, .ref s0_kind, .ref s0_skip, .ref s0_place, .ref s0_count, .int s0_told], ai T s0_count 6 (cst 0), ob vv 10 [.int vv_n, .int vv_width, .ref vv_states, .ref vv_parent, .ref vv_hand, .ref vv_table], ai T vv_states 51000 f_vv_states, ai T vv_parent 3000 f_vv_parent, ai T vv_hand 3000 f_vv_hand, ai T vv_table 8192 f_vv_table] H := hP
  have hD : va_D A [ob h0 0 [.int 1, .int 0, .int h0_states, .int h0_endCount, .ref h0_ledHand, .int h0_ledLength, .int h0_waiting, .ref h0_path, .int h0_pathLength, .ref h0_state, .ref h0_endState, .ref h0_endStuck], ai T h0_state 17 f_h0_state, ai T h0_endState 3000 f_h0_endState, ai T h0_endStuck 3000 f_h0_endStuck, ob mm 6 [.ref mm_cells, .null, .ref mm_next, .ref mm_moved, .ref mm_holder, .ref mm_notes, .int mm_started], ai T mm_cells 8 f_mm_cells, ai T mm_next 6 f_mm_next, ai T mm_moved 6 f_mm_moved, ai T mm_holder 4 f_mm_holder, ai T mm_notes 3 f_mm_notes, ob s0 9 [.ref s0_sort, .ref s0_arg, .ref s0_number, .ref s0_kind, .ref s0_skip, .ref s0_place, .ref s0_count, .int s0_told], ai T s0_count 6 (cst 0), ob vv 10 [.int vv_n, .int vv_width, .ref vv_states, .ref vv_parent, .ref vv_hand, .ref vv_table], ai T vv_states 51000 f_vv_states, ai T vv_parent 3000 f_vv_parent, ai T vv_hand 3000 f_vv_hand, ai T vv_table 8192 f_vv_table] := hD
  refine lv_aload_n hx hb dX0_explore_10 rfl (lv_at hl 0 rfl) ?_
  refine lv_iconst (v := 0) hx hb dX0_explore_11 (by decide) ?_
  refine va_put (D := D) (ci := 0) (v := .int 0) (ty := .int) (C := RX0) (T := TX0) (N := 12) hx hb hg inX0 tyX0 tyX0_ok nmX0 hown hK hP hD hS 0 rfl rfl 3 (by decide) (hg _ kf_X0_36) (fun _ h9 => h9) rfl (by decide +kernel) rfl rfl (Nat.le_of_ble_eq_true rfl) dX0_explore_12 (fun H locs hP hD hS => ?_)
  have hP : va_P D vwCl [ob h0 0 [.int 1, .int 0, .int h0_states, .int 0, .ref h0_ledHand, .int h0_ledLength, .int h0_waiting, .ref h0_path, .int h0_pathLength, .ref h0_state, .ref h0_endState, .ref h0_endStuck], ai T h0_state 17 f_h0_state, ai T h0_endState 3000 f_h0_endState, ai T h0_endStuck 3000 f_h0_endStuck, ob mm 6 [.ref mm_cells, .null, .ref mm_next, .ref mm_moved, .ref mm_holder, .ref mm_notes, .int mm_started], ai T mm_cells 8 f_mm_cells, ai T mm_next 6 f_mm_next, ai T mm_moved 6 f_mm_moved, ai T mm_holder 4 f_mm_holder, ai T mm_notes 3 f_mm_notes, ob s0 9 [.ref s0_sort, .ref s0_arg, .ref s0_number, .ref s0_kind, .ref s0_skip, .ref s0_place, .ref s0_count, .int s0_told], ai T s0_count 6 (cst 0), ob vv 10 [.int vv_n, .int vv_width, .ref vv_states, .ref vv_parent, .ref vv_hand, .ref vv_table], ai T vv_states 51000 f_vv_states, ai T vv_parent 3000 f_vv_parent, ai T vv_hand 3000 f_vv_hand, ai T vv_table 8192 f_vv_table] H := hP
  have hD : va_D A [ob h0 0 [.int 1, .int 0, .int h0_states, .int 0, .ref h0_ledHand, .int h0_ledLength, .int h0_waiting, .ref h0_path, .int h0_pathLength, .ref h0_state, .ref h0_endState, .ref h0_endStuck], ai T h0_state 17 f_h0_state, ai T h0_endState 3000 f_h0_endState, ai T h0_endStuck 3000 f_h0_endStuck, ob mm 6 [.ref mm_cells, .null, .ref mm_next, .ref mm_moved, .ref mm_holder, .ref mm_notes, .int mm_started], ai T mm_cells 8 f_mm_cells, ai T mm_next 6 f_mm_next, ai T mm_moved 6 f_mm_moved, ai T mm_holder 4 f_mm_holder, ai T mm_notes 3 f_mm_notes, ob s0 9 [.ref s0_sort, .ref s0_arg, .ref s0_number, .ref s0_kind, .ref s0_skip, .ref s0_place, .ref s0_count, .int s0_told], ai T s0_count 6 (cst 0), ob vv 10 [.int vv_n, .int vv_width, .ref vv_states, .ref vv_parent, .ref vv_hand, .ref vv_table], ai T vv_states 51000 f_vv_states, ai T vv_parent 3000 f_vv_parent, ai T vv_hand 3000 f_vv_hand, ai T vv_table 8192 f_vv_table] := hD
  refine lv_aload_n hx hb dX0_explore_15 rfl (lv_at hl 0 rfl) ?_
  refine lv_iconst (v := 0) hx hb dX0_explore_16 (by decide) ?_
  refine va_put (D := D) (ci := 0) (v := .int 0) (ty := .int) (C := RX0) (T := TX0) (N := 12) hx hb hg inX0 tyX0 tyX0_ok nmX0 hown hK hP hD hS 0 rfl rfl 6 (by decide) (hg _ kf_X0_40) (fun _ h9 => h9) rfl (by decide +kernel) rfl rfl (Nat.le_of_ble_eq_true rfl) dX0_explore_17 (fun H locs hP hD hS => ?_)
  have hP : va_P D vwCl [ob h0 0 [.int 1, .int 0, .int h0_states, .int 0, .ref h0_ledHand, .int h0_ledLength, .int 0, .ref h0_path, .int h0_pathLength, .ref h0_state, .ref h0_endState, .ref h0_endStuck], ai T h0_state 17 f_h0_state, ai T h0_endState 3000 f_h0_endState, ai T h0_endStuck 3000 f_h0_endStuck, ob mm 6 [.ref mm_cells, .null, .ref mm_next, .ref mm_moved, .ref mm_holder, .ref mm_notes, .int mm_started], ai T mm_cells 8 f_mm_cells, ai T mm_next 6 f_mm_next, ai T mm_moved 6 f_mm_moved, ai T mm_holder 4 f_mm_holder, ai T mm_notes 3 f_mm_notes, ob s0 9 [.ref s0_sort, .ref s0_arg, .ref s0_number, .ref s0_kind, .ref s0_skip, .ref s0_place, .ref s0_count, .int s0_told], ai T s0_count 6 (cst 0), ob vv 10 [.int vv_n, .int vv_width, .ref vv_states, .ref vv_parent, .ref vv_hand, .ref vv_table], ai T vv_states 51000 f_vv_states, ai T vv_parent 3000 f_vv_parent, ai T vv_hand 3000 f_vv_hand, ai T vv_table 8192 f_vv_table] H := hP
  have hD : va_D A [ob h0 0 [.int 1, .int 0, .int h0_states, .int 0, .ref h0_ledHand, .int h0_ledLength, .int 0, .ref h0_path, .int h0_pathLength, .ref h0_state, .ref h0_endState, .ref h0_endStuck], ai T h0_state 17 f_h0_state, ai T h0_endState 3000 f_h0_endState, ai T h0_endStuck 3000 f_h0_endStuck, ob mm 6 [.ref mm_cells, .null, .ref mm_next, .ref mm_moved, .ref mm_holder, .ref mm_notes, .int mm_started], ai T mm_cells 8 f_mm_cells, ai T mm_next 6 f_mm_next, ai T mm_moved 6 f_mm_moved, ai T mm_holder 4 f_mm_holder, ai T mm_notes 3 f_mm_notes, ob s0 9 [.ref s0_sort, .ref s0_arg, .ref s0_number, .ref s0_kind, .ref s0_skip, .ref s0_place, .ref s0_count, .int s0_told], ai T s0_count 6 (cst 0), ob vv 10 [.int vv_n, .int vv_width, .ref vv_states, .ref vv_parent, .ref vv_hand, .ref vv_table], ai T vv_states 51000 f_vv_states, ai T vv_parent 3000 f_vv_parent, ai T vv_hand 3000 f_vv_hand, ai T vv_table 8192 f_vv_table] := hD
  refine lv_aload_n hx hb dX0_explore_20 rfl (lv_at hl 0 rfl) ?_
  refine lv_iconst (v := 0) hx hb dX0_explore_21 (by decide) ?_
  refine va_put (D := D) (ci := 0) (v := .int 0) (ty := .int) (C := RX0) (T := TX0) (N := 12) hx hb hg inX0 tyX0 tyX0_ok nmX0 hown hK hP hD hS 0 rfl rfl 8 (by decide) (hg _ kf_X0_43) (fun _ h9 => h9) rfl (by decide +kernel) rfl rfl (Nat.le_of_ble_eq_true rfl) dX0_explore_22 (fun H locs hP hD hS => ?_)
  have hP : va_P D vwCl [ob h0 0 [.int 1, .int 0, .int h0_states, .int 0, .ref h0_ledHand, .int h0_ledLength, .int 0, .ref h0_path, .int 0, .ref h0_state, .ref h0_endState, .ref h0_endStuck], ai T h0_state 17 f_h0_state, ai T h0_endState 3000 f_h0_endState, ai T h0_endStuck 3000 f_h0_endStuck, ob mm 6 [.ref mm_cells, .null, .ref mm_next, .ref mm_moved, .ref mm_holder, .ref mm_notes, .int mm_started], ai T mm_cells 8 f_mm_cells, ai T mm_next 6 f_mm_next, ai T mm_moved 6 f_mm_moved, ai T mm_holder 4 f_mm_holder, ai T mm_notes 3 f_mm_notes, ob s0 9 [.ref s0_sort, .ref s0_arg, .ref s0_number, .ref s0_kind, .ref s0_skip, .ref s0_place, .ref s0_count, .int s0_told], ai T s0_count 6 (cst 0), ob vv 10 [.int vv_n, .int vv_width, .ref vv_states, .ref vv_parent, .ref vv_hand, .ref vv_table], ai T vv_states 51000 f_vv_states, ai T vv_parent 3000 f_vv_parent, ai T vv_hand 3000 f_vv_hand, ai T vv_table 8192 f_vv_table] H := hP
  have hD : va_D A [ob h0 0 [.int 1, .int 0, .int h0_states, .int 0, .ref h0_ledHand, .int h0_ledLength, .int 0, .ref h0_path, .int 0, .ref h0_state, .ref h0_endState, .ref h0_endStuck], ai T h0_state 17 f_h0_state, ai T h0_endState 3000 f_h0_endState, ai T h0_endStuck 3000 f_h0_endStuck, ob mm 6 [.ref mm_cells, .null, .ref mm_next, .ref mm_moved, .ref mm_holder, .ref mm_notes, .int mm_started], ai T mm_cells 8 f_mm_cells, ai T mm_next 6 f_mm_next, ai T mm_moved 6 f_mm_moved, ai T mm_holder 4 f_mm_holder, ai T mm_notes 3 f_mm_notes, ob s0 9 [.ref s0_sort, .ref s0_arg, .ref s0_number, .ref s0_kind, .ref s0_skip, .ref s0_place, .ref s0_count, .int s0_told], ai T s0_count 6 (cst 0), ob vv 10 [.int vv_n, .int vv_width, .ref vv_states, .ref vv_parent, .ref vv_hand, .ref vv_table], ai T vv_states 51000 f_vv_states, ai T vv_parent 3000 f_vv_parent, ai T vv_hand 3000 f_vv_hand, ai T vv_table 8192 f_vv_table] := hD
  refine lv_aload_n hx hb dX0_explore_25 rfl (lv_at hl 3 rfl) ?_
  refine lv_bipush (v := 17) hx hb dX0_explore_26 (by decide) ?_
  refine cont_v (Wr := [ob h0 0 [.int 1, .int 0, .int h0_states, .int 0, .ref h0_ledHand, .int h0_ledLength, .int 0, .ref h0_path, .int 0, .ref h0_state, .ref h0_endState, .ref h0_endStuck], ai T h0_state 17 f_h0_state, ai T h0_endState 3000 f_h0_endState, ai T h0_endStuck 3000 f_h0_endStuck, ob mm 6 [.ref mm_cells, .null, .ref mm_next, .ref mm_moved, .ref mm_holder, .ref mm_notes, .int mm_started], ai T mm_cells 8 f_mm_cells, ai T mm_next 6 f_mm_next, ai T mm_moved 6 f_mm_moved, ai T mm_holder 4 f_mm_holder, ai T mm_notes 3 f_mm_notes, ob s0 9 [.ref s0_sort, .ref s0_arg, .ref s0_number, .ref s0_kind, .ref s0_skip, .ref s0_place, .ref s0_count, .int s0_told], ai T s0_count 6 (cst 0), ai T vv_states 51000 f_vv_states, ai T vv_parent 3000 f_vv_parent, ai T vv_hand 3000 f_vv_hand]) [12, 16] [0, 1, 2, 3, 4, 5, 6, 7, 8, 9, 10, 11, 13, 14, 15] (run_V (n := 1) (As := [.int 17]) (rest := []) 10 0 hx hb hml hown hg hN (c_X10_clear l D T vv vv_n vv_width vv_states vv_parent vv_hand vv_table f_vv_table  H.size) km_X0_46 ki_X10_clear ks_X10_clear kz_X10 kd_X10_clear rfl rfl (by decide +kernel) ⟨Nat.le_of_ble_eq_true rfl, Nat.le_of_ble_eq_true rfl⟩ hK (P_sub hP [12, 16] rfl) (hD.sub [12, 16] (by decide) rfl) rfl rfl rfl hl.1 rfl (Nat.le_of_ble_eq_true rfl) dX0_explore_28 ⟨Nat.le_of_ble_eq_true rfl, Nat.le_of_ble_eq_true rfl⟩) hP hD hS hA rfl rfl (by decide) (by decide) (fun xx H locs hq hP hD hS => ?_)
  have hP : va_P D vwCl [ob h0 0 [.int 1, .int 0, .int h0_states, .int 0, .ref h0_ledHand, .int h0_ledLength, .int 0, .ref h0_path, .int 0, .ref h0_state, .ref h0_endState, .ref h0_endStuck], ai T h0_state 17 f_h0_state, ai T h0_endState 3000 f_h0_endState, ai T h0_endStuck 3000 f_h0_endStuck, ob mm 6 [.ref mm_cells, .null, .ref mm_next, .ref mm_moved, .ref mm_holder, .ref mm_notes, .int mm_started], ai T mm_cells 8 f_mm_cells, ai T mm_next 6 f_mm_next, ai T mm_moved 6 f_mm_moved, ai T mm_holder 4 f_mm_holder, ai T mm_notes 3 f_mm_notes, ob s0 9 [.ref s0_sort, .ref s0_arg, .ref s0_number, .ref s0_kind, .ref s0_skip, .ref s0_place, .ref s0_count, .int s0_told], ai T s0_count 6 (cst 0), ai T vv_states 51000 f_vv_states, ai T vv_parent 3000 f_vv_parent, ai T vv_hand 3000 f_vv_hand, ob vv 10 [.int 0, .int 17, .ref vv_states, .ref vv_parent, .ref vv_hand, .ref vv_table], ai T vv_table 8192 (cst 0)] H := hP
  have hD : va_D A [ob h0 0 [.int 1, .int 0, .int h0_states, .int 0, .ref h0_ledHand, .int h0_ledLength, .int 0, .ref h0_path, .int 0, .ref h0_state, .ref h0_endState, .ref h0_endStuck], ai T h0_state 17 f_h0_state, ai T h0_endState 3000 f_h0_endState, ai T h0_endStuck 3000 f_h0_endStuck, ob mm 6 [.ref mm_cells, .null, .ref mm_next, .ref mm_moved, .ref mm_holder, .ref mm_notes, .int mm_started], ai T mm_cells 8 f_mm_cells, ai T mm_next 6 f_mm_next, ai T mm_moved 6 f_mm_moved, ai T mm_holder 4 f_mm_holder, ai T mm_notes 3 f_mm_notes, ob s0 9 [.ref s0_sort, .ref s0_arg, .ref s0_number, .ref s0_kind, .ref s0_skip, .ref s0_place, .ref s0_count, .int s0_told], ai T s0_count 6 (cst 0), ai T vv_states 51000 f_vv_states, ai T vv_parent 3000 f_vv_parent, ai T vv_hand 3000 f_vv_hand, ob vv 10 [.int 0, .int 17, .ref vv_states, .ref vv_parent, .ref vv_hand, .ref vv_table], ai T vv_table 8192 (cst 0)] := hD
  refine lv_aload_n hx hb dX0_explore_31 rfl (lv_at hl 2 rfl) ?_
  refine lv_aload_n hx hb dX0_explore_32 rfl (lv_at hl 1 rfl) ?_
  refine cont_v (Wr := [ob h0 0 [.int 1, .int 0, .int h0_states, .int 0, .ref h0_ledHand, .int h0_ledLength, .int 0, .ref h0_path, .int 0, .ref h0_state, .ref h0_endState, .ref h0_endStuck], ai T h0_state 17 f_h0_state, ai T h0_endState 3000 f_h0_endState, ai T h0_endStuck 3000 f_h0_endStuck, ob s0 9 [.ref s0_sort, .ref s0_arg, .ref s0_number, .ref s0_kind, .ref s0_skip, .ref s0_place, .ref s0_count, .int s0_told], ai T s0_count 6 (cst 0), ai T vv_states 51000 f_vv_states, ai T vv_parent 3000 f_vv_parent, ai T vv_hand 3000 f_vv_hand, ob vv 10 [.int 0, .int 17, .ref vv_states, .ref vv_parent, .ref vv_hand, .ref vv_table], ai T vv_table 8192 (cst 0)]) [4, 5, 6, 7, 8, 9] [0, 1, 2, 3, 10, 11, 12, 13, 14, 15, 16] (run_V (n := 1) (As := [.ref s0]) (rest := []) 6 0 hx hb hml hown hg hN (c_X6_begin l D T mm mm_cells mm_next mm_moved mm_holder mm_notes mm_started s0 f_mm_cells f_mm_next f_mm_moved f_mm_holder f_mm_notes  H.size) km_X0_52 ki_X6_begin ks_X6_begin kz_X6 kd_X6_begin rfl rfl (by decide +kernel) ⟨Nat.le_of_ble_eq_true rfl, Nat.le_of_ble_eq_true rfl⟩ hK (P_sub hP [4, 5, 6, 7, 8, 9] rfl) (hD.sub [4, 5, 6, 7, 8, 9] (by decide) rfl) rfl rfl rfl hl.1 rfl (Nat.le_of_ble_eq_true rfl) dX0_explore_33 ⟨Nat.le_of_ble_eq_true rfl, Nat.le_of_ble_eq_true rfl⟩) hP hD hS hA rfl rfl (by decide) (by decide) (fun xx H locs hq hP hD hS => ?_)
  have hP : va_P D vwCl [ob h0 0 [.int 1, .int 0, .int h0_states, .int 0, .ref h0_ledHand, .int h0_ledLength, .int 0, .ref h0_path, .int 0, .ref h0_state, .ref h0_endState, .ref h0_endStuck], ai T h0_state 17 f_h0_state, ai T h0_endState 3000 f_h0_endState, ai T h0_endStuck 3000 f_h0_endStuck, ob s0 9 [.ref s0_sort, .ref s0_arg, .ref s0_number, .ref s0_kind, .ref s0_skip, .ref s0_place, .ref s0_count, .int s0_told], ai T s0_count 6 (cst 0), ai T vv_states 51000 f_vv_states, ai T vv_parent 3000 f_vv_parent, ai T vv_hand 3000 f_vv_hand, ob vv 10 [.int 0, .int 17, .ref vv_states, .ref vv_parent, .ref vv_hand, .ref vv_table], ai T vv_table 8192 (cst 0), ob mm 6 [.ref mm_cells, .ref s0, .ref mm_next, .ref mm_moved, .ref mm_holder, .ref mm_notes, .int 1], ai T mm_cells 8 (cst 0), ai T mm_next 6 (cst 0), ai T mm_moved 6 (cst 0), ai T mm_holder 4 (cst 0), ai T mm_notes 3 (cst 0)] H := hP
  have hD : va_D A [ob h0 0 [.int 1, .int 0, .int h0_states, .int 0, .ref h0_ledHand, .int h0_ledLength, .int 0, .ref h0_path, .int 0, .ref h0_state, .ref h0_endState, .ref h0_endStuck], ai T h0_state 17 f_h0_state, ai T h0_endState 3000 f_h0_endState, ai T h0_endStuck 3000 f_h0_endStuck, ob s0 9 [.ref s0_sort, .ref s0_arg, .ref s0_number, .ref s0_kind, .ref s0_skip, .ref s0_place, .ref s0_count, .int s0_told], ai T s0_count 6 (cst 0), ai T vv_states 51000 f_vv_states, ai T vv_parent 3000 f_vv_parent, ai T vv_hand 3000 f_vv_hand, ob vv 10 [.int 0, .int 17, .ref vv_states, .ref vv_parent, .ref vv_hand, .ref vv_table], ai T vv_table 8192 (cst 0), ob mm 6 [.ref mm_cells, .ref s0, .ref mm_next, .ref mm_moved, .ref mm_holder, .ref mm_notes, .int 1], ai T mm_cells 8 (cst 0), ai T mm_next 6 (cst 0), ai T mm_moved 6 (cst 0), ai T mm_holder 4 (cst 0), ai T mm_notes 3 (cst 0)] := hD
  refine lv_aload_n hx hb dX0_explore_36 rfl (lv_at hl 2 rfl) ?_
  refine lv_aload_n hx hb dX0_explore_37 rfl (lv_at hl 0 rfl) ?_
  refine va_get (D := D) (ci := 0) (v := .ref h0_state) (C := RX0) (T := TX0) (N := 12) hx hb hg inX0 hown hK hP 0 rfl rfl 9 (by decide) (hg _ kf_X0_20) (fun _ h9 => h9) rfl dX0_explore_38 ?_
  refine cont_v (Wr := [ob h0 0 [.int 1, .int 0, .int h0_states, .int 0, .ref h0_ledHand, .int h0_ledLength, .int 0, .ref h0_path, .int 0, .ref h0_state, .ref h0_endState, .ref h0_endStuck], ai T h0_endState 3000 f_h0_endState, ai T h0_endStuck 3000 f_h0_endStuck, ob s0 9 [.ref s0_sort, .ref s0_arg, .ref s0_number, .ref s0_kind, .ref s0_skip, .ref s0_place, .ref s0_count, .int s0_told], ai T s0_count 6 (cst 0), ai T vv_states 51000 f_vv_states, ai T vv_parent 3000 f_vv_parent, ai T vv_hand 3000 f_vv_hand, ob vv 10 [.int 0, .int 17, .ref vv_states, .ref vv_parent, .ref vv_hand, .ref vv_table], ai T vv_table 8192 (cst 0)]) [11, 12, 13, 14, 15, 16, 1] [0, 2, 3, 4, 5, 6, 7, 8, 9, 10] (run_V (n := 1) (As := [.ref h0_state]) (rest := []) 6 0 hx hb hml hown hg hN (c_X6_packInto l D T mm mm_cells s0 mm_next mm_moved mm_holder mm_notes h0_state f_h0_state  H.size) km_X0_56 ki_X6_packInto ks_X6_packInto kz_X6 kd_X6_packInto rfl rfl (by decide +kernel) ⟨Nat.le_of_ble_eq_true rfl, Nat.le_of_ble_eq_true rfl⟩ hK (P_sub hP [11, 12, 13, 14, 15, 16, 1] rfl) (hD.sub [11, 12, 13, 14, 15, 16, 1] (by decide) rfl) rfl rfl rfl hl.1 rfl (Nat.le_of_ble_eq_true rfl) dX0_explore_41 ⟨Nat.le_of_ble_eq_true rfl, Nat.le_of_ble_eq_true rfl⟩) hP hD hS hA rfl rfl (by decide) (by decide) (fun f1 H locs hq hP hD hS => ?_)
  have hP : va_P D vwCl [ob h0 0 [.int 1, .int 0, .int h0_states, .int 0, .ref h0_ledHand, .int h0_ledLength, .int 0, .ref h0_path, .int 0, .ref h0_state, .ref h0_endState, .ref h0_endStuck], ai T h0_endState 3000 f_h0_endState, ai T h0_endStuck 3000 f_h0_endStuck, ob s0 9 [.ref s0_sort, .ref s0_arg, .ref s0_number, .ref s0_kind, .ref s0_skip, .ref s0_place, .ref s0_count, .int s0_told], ai T s0_count 6 (cst 0), ai T vv_states 51000 f_vv_states, ai T vv_parent 3000 f_vv_parent, ai T vv_hand 3000 f_vv_hand, ob vv 10 [.int 0, .int 17, .ref vv_states, .ref vv_parent, .ref vv_hand, .ref vv_table], ai T vv_table 8192 (cst 0), ob mm 6 [.ref mm_cells, .ref s0, .ref mm_next, .ref mm_moved, .ref mm_holder, .ref mm_notes, .int 1], ai T mm_cells 8 (cst 0), ai T mm_next 6 (cst 0), ai T mm_moved 6 (cst 0), ai T mm_holder 4 (cst 0), ai T mm_notes 3 (cst 0), ai T h0_state 17 f1] H := hP
  have hD : va_D A [ob h0 0 [.int 1, .int 0, .int h0_states, .int 0, .ref h0_ledHand, .int h0_ledLength, .int 0, .ref h0_path, .int 0, .ref h0_state, .ref h0_endState, .ref h0_endStuck], ai T h0_endState 3000 f_h0_endState, ai T h0_endStuck 3000 f_h0_endStuck, ob s0 9 [.ref s0_sort, .ref s0_arg, .ref s0_number, .ref s0_kind, .ref s0_skip, .ref s0_place, .ref s0_count, .int s0_told], ai T s0_count 6 (cst 0), ai T vv_states 51000 f_vv_states, ai T vv_parent 3000 f_vv_parent, ai T vv_hand 3000 f_vv_hand, ob vv 10 [.int 0, .int 17, .ref vv_states, .ref vv_parent, .ref vv_hand, .ref vv_table], ai T vv_table 8192 (cst 0), ob mm 6 [.ref mm_cells, .ref s0, .ref mm_next, .ref mm_moved, .ref mm_holder, .ref mm_notes, .int 1], ai T mm_cells 8 (cst 0), ai T mm_next 6 (cst 0), ai T mm_moved 6 (cst 0), ai T mm_holder 4 (cst 0), ai T mm_notes 3 (cst 0), ai T h0_state 17 f1] := hD
  refine lv_aload_n hx hb dX0_explore_44 rfl (lv_at hl 3 rfl) ?_
  refine lv_aload_n hx hb dX0_explore_45 rfl (lv_at hl 0 rfl) ?_
  refine va_get (D := D) (ci := 0) (v := .ref h0_state) (C := RX0) (T := TX0) (N := 12) hx hb hg inX0 hown hK hP 0 rfl rfl 9 (by decide) (hg _ kf_X0_20) (fun _ h9 => h9) rfl dX0_explore_46 ?_
  refine lv_iconst (v := (-1)) hx hb dX0_explore_49 (by decide) ?_
  refine lv_iconst (v := (-1)) hx hb dX0_explore_50 (by decide) ?_
  refine cont_i (Wr := [ob h0 0 [.int 1, .int 0, .int h0_states, .int 0, .ref h0_ledHand, .int h0_ledLength, .int 0, .ref h0_path, .int 0, .ref h0_state, .ref h0_endState, .ref h0_endStuck], ai T h0_endState 3000 f_h0_endState, ai T h0_endStuck 3000 f_h0_endStuck, ob s0 9 [.ref s0_sort, .ref s0_arg, .ref s0_number, .ref s0_kind, .ref s0_skip, .ref s0_place, .ref s0_count, .int s0_told], ai T s0_count 6 (cst 0), ob mm 6 [.ref mm_cells, .ref s0, .ref mm_next, .ref mm_moved, .ref mm_holder, .ref mm_notes, .int 1], ai T mm_cells 8 (cst 0), ai T mm_next 6 (cst 0), ai T mm_moved 6 (cst 0), ai T mm_holder 4 (cst 0), ai T mm_notes 3 (cst 0)]) [8, 5, 6, 7, 9, 16] [0, 1, 2, 3, 4, 10, 11, 12, 13, 14, 15] (run_V (n := 3) (As := [.ref h0_state, .int (-1), .int (-1)]) (rest := []) 10 0 hx hb hml hown hg hN (c_X10_offer l D T vv vv_states vv_parent vv_hand vv_table f_vv_states f_vv_parent f_vv_hand h0_state f1  H.size) km_X0_60 ki_X10_offer ks_X10_offer kz_X10 kd_X10_offer rfl rfl (by decide +kernel) ⟨Nat.le_of_ble_eq_true rfl, Nat.le_of_ble_eq_true rfl⟩ hK (P_sub hP [8, 5, 6, 7, 9, 16] rfl) (hD.sub [8, 5, 6, 7, 9, 16] (by decide) rfl) rfl rfl rfl hl.1 rfl (Nat.le_of_ble_eq_true rfl) dX0_explore_51 ⟨Nat.le_of_ble_eq_true rfl, Nat.le_of_ble_eq_true rfl⟩) hP hD hS hA rfl rfl (by decide) (by decide) (fun rr xx H locs hq hP hD hS => ?_)
  obtain ⟨f2, f3, f4, f5⟩ := xx
  obtain rfl : rr = 0 := hq
  have hP : va_P D vwCl [ob h0 0 [.int 1, .int 0, .int h0_states, .int 0, .ref h0_ledHand, .int h0_ledLength, .int 0, .ref h0_path, .int 0, .ref h0_state, .ref h0_endState, .ref h0_endStuck], ai T h0_endState 3000 f_h0_endState, ai T h0_endStuck 3000 f_h0_endStuck, ob s0 9 [.ref s0_sort, .ref s0_arg, .ref s0_number, .ref s0_kind, .ref s0_skip, .ref s0_place, .ref s0_count, .int s0_told], ai T s0_count 6 (cst 0), ob mm 6 [.ref mm_cells, .ref s0, .ref mm_next, .ref mm_moved, .ref mm_holder, .ref mm_notes, .int 1], ai T mm_cells 8 (cst 0), ai T mm_next 6 (cst 0), ai T mm_moved 6 (cst 0), ai T mm_holder 4 (cst 0), ai T mm_notes 3 (cst 0), ob vv 10 [.int 1, .int 17, .ref vv_states, .ref vv_parent, .ref vv_hand, .ref vv_table], ai T vv_states 51000 f2, ai T vv_parent 3000 f3, ai T vv_hand 3000 f4, ai T vv_table 8192 f5, ai T h0_state 17 f1] H := hP
  have hD : va_D A [ob h0 0 [.int 1, .int 0, .int h0_states, .int 0, .ref h0_ledHand, .int h0_ledLength, .int 0, .ref h0_path, .int 0, .ref h0_state, .ref h0_endState, .ref h0_endStuck], ai T h0_endState 3000 f_h0_endState, ai T h0_endStuck 3000 f_h0_endStuck, ob s0 9 [.ref s0_sort, .ref s0_arg, .ref s0_number, .ref s0_kind, .ref s0_skip, .ref s0_place, .ref s0_count, .int s0_told], ai T s0_count 6 (cst 0), ob mm 6 [.ref mm_cells, .ref s0, .ref mm_next, .ref mm_moved, .ref mm_holder, .ref mm_notes, .int 1], ai T mm_cells 8 (cst 0), ai T mm_next 6 (cst 0), ai T mm_moved 6 (cst 0), ai T mm_holder 4 (cst 0), ai T mm_notes 3 (cst 0), ob vv 10 [.int 1, .int 17, .ref vv_states, .ref vv_parent, .ref vv_hand, .ref vv_table], ai T vv_states 51000 f2, ai T vv_parent 3000 f3, ai T vv_hand 3000 f4, ai T vv_table 8192 f5, ai T h0_state 17 f1] := hD
  refine lv_pop hx hb dX0_explore_54 rfl ?_
  refine lv_iconst (v := 0) hx hb dX0_explore_55 (by decide) ?_
  refine lv_istore (lv' := [(4, .int 0), (0, .ref h0), (1, .ref s0), (2, .ref mm), (3, .ref vv)]) hx hb dX0_explore_56 hl (by decide) rfl (fun ls hl => ?_)
  refine lv_iload hx hb dX0_explore_58 (lv_at hl 0 rfl) ?_
  refine lv_sipush (v := 3000) hx hb dX0_explore_60 (by decide) ?_
  refine lv_icmp_ge (tgt := 96) hx hb dX0_explore_63 (by decide) (fun hc => absurd hc (by decide)) (fun _ => ?_)
  refine lv_iload hx hb dX0_explore_66 (lv_at hl 0 rfl) ?_
  refine lv_aload_n hx hb dX0_explore_68 rfl (lv_at hl 4 rfl) ?_
  refine va_get (D := D) (ci := 10) (v := .int 1) (C := RX10) (T := TX10) (N := 6) hx hb hg inX10 hown hK hP 11 rfl rfl 0 (by decide) (hg _ kf_X0_64) (fun _ h9 => h9) rfl dX0_explore_69 ?_
  refine lv_icmp_ge (tgt := 96) hx hb dX0_explore_72 (by decide) (fun hc => absurd hc (by decide)) (fun _ => ?_)
  refine lv_aload_n hx hb dX0_explore_75 rfl (lv_at hl 1 rfl) ?_
  refine va_get (D := D) (ci := 0) (v := .int 0) (C := RX0) (T := TX0) (N := 12) hx hb hg inX0 hown hK hP 0 rfl rfl 1 (by decide) (hg _ kf_X0_33) (fun _ h9 => h9) rfl dX0_explore_76 ?_
  refine lv_if_ne (tgt := 96) hx hb dX0_explore_79 (by decide) (fun hc => absurd (by decide) hc) (fun _ => ?_)
  refine lv_aload_n hx hb dX0_explore_82 rfl (lv_at hl 1 rfl) ?_
  refine lv_iload hx hb dX0_explore_83 (lv_at hl 0 rfl) ?_
  refine lv_aload_n hx hb dX0_explore_85 rfl (lv_at hl 3 rfl) ?_
  refine lv_aload_n hx hb dX0_explore_86 rfl (lv_at hl 4 rfl) ?_
  refine cont_v (Wr := [ai T vv_parent 3000 f3, ai T vv_hand 3000 f4, ai T vv_table 8192 f5]) [0, 16, 1, 2, 5, 6, 7, 8, 9, 10, 3, 4, 11, 12] [13, 14, 15] (run_V (n := 3) (As := [.int 0, .ref mm, .ref vv]) (rest := []) 0 0 hx hb hml hown hg hN (c_X0_goOnFrom l D T h0 1 h0_states h0_ledHand h0_ledLength h0_path 0 h0_state h0_endState h0_endStuck f1 f_h0_endState f_h0_endStuck mm mm_cells mm_next mm_moved mm_holder mm_notes 1 s0 (cst 0) (cst 0) (cst 0) (cst 0) (cst 0) s0_sort s0_arg s0_number s0_kind s0_skip s0_place s0_count s0_told vv vv_states vv_parent vv_hand vv_table f2  H.size) km_X0_67 ki_X0_goOnFrom ks_X0_goOnFrom kz_X0 kd_X0_goOnFrom rfl rfl (by decide +kernel) ⟨Nat.le_of_ble_eq_true rfl, Nat.le_of_ble_eq_true rfl⟩ hK (P_sub hP [0, 16, 1, 2, 5, 6, 7, 8, 9, 10, 3, 4, 11, 12] rfl) (hD.sub [0, 16, 1, 2, 5, 6, 7, 8, 9, 10, 3, 4, 11, 12] (by decide) rfl) rfl rfl rfl hl.1 rfl (Nat.le_of_ble_eq_true rfl) dX0_explore_87 ⟨Nat.le_of_ble_eq_true rfl, Nat.le_of_ble_eq_true rfl⟩) hP hD hS hA rfl rfl (by decide) (by decide) (fun xx H locs hq hP hD hS => ?_)
  obtain ⟨f6, f7, v8, f9, f10, f11, f12, f13, f14⟩ := xx
  have hP : va_P D vwCl [ai T vv_parent 3000 f3, ai T vv_hand 3000 f4, ai T vv_table 8192 f5, ob h0 0 [.int 1, .int 0, .int h0_states, .int 1, .ref h0_ledHand, .int h0_ledLength, .int 0, .ref h0_path, .int 0, .ref h0_state, .ref h0_endState, .ref h0_endStuck], ai T h0_state 17 f6, ai T h0_endState 3000 f13, ai T h0_endStuck 3000 f14, ob mm 6 [.ref mm_cells, .ref s0, .ref mm_next, .ref mm_moved, .ref mm_holder, .ref mm_notes, .int v8], ai T mm_cells 8 f11, ai T mm_next 6 f7, ai T mm_moved 6 f12, ai T mm_holder 4 f9, ai T mm_notes 3 f10, ob s0 9 [.ref s0_sort, .ref s0_arg, .ref s0_number, .ref s0_kind, .ref s0_skip, .ref s0_place, .ref s0_count, .int s0_told], ai T s0_count 6 (cst 0), ob vv 10 [.int 1, .int 17, .ref vv_states, .ref vv_parent, .ref vv_hand, .ref vv_table], ai T vv_states 51000 f2] H := hP
  have hD : va_D A [ai T vv_parent 3000 f3, ai T vv_hand 3000 f4, ai T vv_table 8192 f5, ob h0 0 [.int 1, .int 0, .int h0_states, .int 1, .ref h0_ledHand, .int h0_ledLength, .int 0, .ref h0_path, .int 0, .ref h0_state, .ref h0_endState, .ref h0_endStuck], ai T h0_state 17 f6, ai T h0_endState 3000 f13, ai T h0_endStuck 3000 f14, ob mm 6 [.ref mm_cells, .ref s0, .ref mm_next, .ref mm_moved, .ref mm_holder, .ref mm_notes, .int v8], ai T mm_cells 8 f11, ai T mm_next 6 f7, ai T mm_moved 6 f12, ai T mm_holder 4 f9, ai T mm_notes 3 f10, ob s0 9 [.ref s0_sort, .ref s0_arg, .ref s0_number, .ref s0_kind, .ref s0_skip, .ref s0_place, .ref s0_count, .int s0_told], ai T s0_count 6 (cst 0), ob vv 10 [.int 1, .int 17, .ref vv_states, .ref vv_parent, .ref vv_hand, .ref vv_table], ai T vv_states 51000 f2] := hD
  refine lv_iinc (v := 1) (lv' := [(4, .int 1), (0, .ref h0), (1, .ref s0), (2, .ref mm), (3, .ref vv)]) hx hb dX0_explore_90 hl (k := 0) rfl (by decide) (by decide) rfl (fun ls hl => ?_)
  refine lv_goto (tgt := 58) hx hb dX0_explore_93 (by decide) ?_
  refine lv_iload hx hb dX0_explore_58 (lv_at hl 0 rfl) ?_
  refine lv_sipush (v := 3000) hx hb dX0_explore_60 (by decide) ?_
  refine lv_icmp_ge (tgt := 96) hx hb dX0_explore_63 (by decide) (fun hc => absurd hc (by decide)) (fun _ => ?_)
  refine lv_iload hx hb dX0_explore_66 (lv_at hl 0 rfl) ?_
  refine lv_aload_n hx hb dX0_explore_68 rfl (lv_at hl 4 rfl) ?_
  refine va_get (D := D) (ci := 10) (v := .int 1) (C := RX10) (T := TX10) (N := 6) hx hb hg inX10 hown hK hP 15 rfl rfl 0 (by decide) (hg _ kf_X0_64) (fun _ h9 => h9) rfl dX0_explore_69 ?_
  refine lv_icmp_ge (tgt := 96) hx hb dX0_explore_72 (by decide) (fun _ => ?_) (fun hc => absurd (by decide) hc)
  refine lv_aload_n hx hb dX0_explore_96 rfl (lv_at hl 1 rfl) ?_
  refine lv_aload_n hx hb dX0_explore_97 rfl (lv_at hl 4 rfl) ?_
  refine va_get (D := D) (ci := 10) (v := .int 1) (C := RX10) (T := TX10) (N := 6) hx hb hg inX10 hown hK hP 15 rfl rfl 0 (by decide) (hg _ kf_X0_64) (fun _ h9 => h9) rfl dX0_explore_98 ?_
  refine va_put (D := D) (ci := 0) (v := .int 1) (ty := .int) (C := RX0) (T := TX0) (N := 12) hx hb hg inX0 tyX0 tyX0_ok nmX0 hown hK hP hD hS 3 rfl rfl 2 (by decide) (hg _ kf_X0_71) (fun _ h9 => h9) rfl (by decide +kernel) rfl rfl (Nat.le_of_ble_eq_true rfl) dX0_explore_101 (fun H locs hP hD hS => ?_)
  have hP : va_P D vwCl [ai T vv_parent 3000 f3, ai T vv_hand 3000 f4, ai T vv_table 8192 f5, ob h0 0 [.int 1, .int 0, .int 1, .int 1, .ref h0_ledHand, .int h0_ledLength, .int 0, .ref h0_path, .int 0, .ref h0_state, .ref h0_endState, .ref h0_endStuck], ai T h0_state 17 f6, ai T h0_endState 3000 f13, ai T h0_endStuck 3000 f14, ob mm 6 [.ref mm_cells, .ref s0, .ref mm_next, .ref mm_moved, .ref mm_holder, .ref mm_notes, .int v8], ai T mm_cells 8 f11, ai T mm_next 6 f7, ai T mm_moved 6 f12, ai T mm_holder 4 f9, ai T mm_notes 3 f10, ob s0 9 [.ref s0_sort, .ref s0_arg, .ref s0_number, .ref s0_kind, .ref s0_skip, .ref s0_place, .ref s0_count, .int s0_told], ai T s0_count 6 (cst 0), ob vv 10 [.int 1, .int 17, .ref vv_states, .ref vv_parent, .ref vv_hand, .ref vv_table], ai T vv_states 51000 f2] H := hP
  have hD : va_D A [ai T vv_parent 3000 f3, ai T vv_hand 3000 f4, ai T vv_table 8192 f5, ob h0 0 [.int 1, .int 0, .int 1, .int 1, .ref h0_ledHand, .int h0_ledLength, .int 0, .ref h0_path, .int 0, .ref h0_state, .ref h0_endState, .ref h0_endStuck], ai T h0_state 17 f6, ai T h0_endState 3000 f13, ai T h0_endStuck 3000 f14, ob mm 6 [.ref mm_cells, .ref s0, .ref mm_next, .ref mm_moved, .ref mm_holder, .ref mm_notes, .int v8], ai T mm_cells 8 f11, ai T mm_next 6 f7, ai T mm_moved 6 f12, ai T mm_holder 4 f9, ai T mm_notes 3 f10, ob s0 9 [.ref s0_sort, .ref s0_arg, .ref s0_number, .ref s0_kind, .ref s0_skip, .ref s0_place, .ref s0_count, .int s0_told], ai T s0_count 6 (cst 0), ob vv 10 [.int 1, .int 17, .ref vv_states, .ref vv_parent, .ref vv_hand, .ref vv_table], ai T vv_states 51000 f2] := hD
  exact ret_v (X := (Nat → Int32) × (Nat → Int32) × (Nat → Int32) × (Nat → Int32) × (Nat → Int32) × (Nat → Int32) × Int32 × (Nat → Int32) × (Nat → Int32) × (Nat → Int32) × (Nat → Int32) × (Nat → Int32) × (Nat → Int32)) ((f2, f3, f4, f5, f6, f7, v8, f9, f10, f11, f12, f13, f14)) hx hb hr hlocks hP hD hS [3, 4, 5, 6, 7, 8, 9, 10, 11, 12, 13, 14, 15, 16, 0, 1, 2] (by decide) rfl trivial dX0_explore_104
theorem dX0_tellWaiting_0 : decode cX0_tellWaiting 0 = .ok (.aload_n 0, 1) := by decide +kernel
theorem dX0_tellWaiting_1 : decode cX0_tellWaiting 1 = .ok (.getfield 40, 3) := by decide +kernel
theorem dX0_tellWaiting_4 : decode cX0_tellWaiting 4 = .ok (.ifCond .eq 27, 3) := by decide +kernel
theorem dX0_tellWaiting_31 : decode cX0_tellWaiting 31 = .ok (.aload_n 0, 1) := by decide +kernel
theorem dX0_tellWaiting_32 : decode cX0_tellWaiting 32 = .ok (.getfield 40, 3) := by decide +kernel
theorem dX0_tellWaiting_35 : decode cX0_tellWaiting 35 = .ok (.ireturn, 1) := by decide +kernel
set_option maxHeartbeats 4000000 in
set_option maxRecDepth 100000 in
theorem c_X0_tellWaiting (l : Launch) (D : va_G) (T : Nat → ClassId) (h0 : Nat) (h0_gone : Int32) (h0_spent : Int32) (h0_states : Int32) (h0_endCount : Int32) (h0_ledHand : Nat) (h0_ledLength : Int32) (h0_path : Nat) (h0_pathLength : Int32) (h0_state : Nat) (h0_endState : Nat) (h0_endStuck : Nat) (sz : Nat) : Met l yX0_tellWaiting (WS (.code yX0_tellWaiting cX0_tellWaiting 1 (some .int))) ({ frames := 2, cells := 0, slots := 0, locals := 64 } : Room) (va_Pc [.ref h0] (PW D (TY T) [ob h0 0 [.int h0_gone, .int h0_spent, .int h0_states, .int h0_endCount, .ref h0_ledHand, .int h0_ledLength, .int 0, .ref h0_path, .int h0_pathLength, .ref h0_state, .ref h0_endState, .ref h0_endStuck]] sz)) (QI (X := Unit) D (fun rr xx => rr = 0) (fun _ => [ob h0 0 [.int h0_gone, .int h0_spent, .int h0_states, .int h0_endCount, .ref h0_ledHand, .int h0_ledLength, .int 0, .ref h0_path, .int h0_pathLength, .ref h0_state, .ref h0_endState, .ref h0_endStuck]]) (va_A [ob h0 0 [.int h0_gone, .int h0_spent, .int h0_states, .int h0_endCount, .ref h0_ledHand, .int h0_ledLength, .int 0, .ref h0_path, .int h0_pathLength, .ref h0_state, .ref h0_endState, .ref h0_endStuck]] sz)) 0 0 (va_A [ob h0 0 [.int h0_gone, .int h0_spent, .int h0_states, .int h0_endCount, .ref h0_ledHand, .int h0_ledLength, .int 0, .ref h0_path, .int h0_pathLength, .ref h0_state, .ref h0_endState, .ref h0_endStuck]] sz) := by
  refine mk_met (Qc := QI (X := Unit) D (fun rr xx => rr = 0) (fun _ => [ob h0 0 [.int h0_gone, .int h0_spent, .int h0_states, .int h0_endCount, .ref h0_ledHand, .int h0_ledLength, .int 0, .ref h0_path, .int h0_pathLength, .ref h0_state, .ref h0_endState, .ref h0_endStuck]])) (lv := [(0, .ref h0)]) (by decide +kernel) (Nat.le_of_ble_eq_true rfl) rfl (fun p e s m below meth c A ls H locs hx hb hml hr hlocks hown hin hg hN hA hP hK hD hS hl => ?_)
  refine lv_aload_n hx hb dX0_tellWaiting_0 rfl (lv_at hl 0 rfl) ?_
  refine va_get (D := D) (ci := 0) (v := .int 0) (C := RX0) (T := TX0) (N := 12) hx hb hg inX0 hown hK hP 0 rfl rfl 6 (by decide) (hg _ kf_X0_40) (fun _ h9 => h9) rfl dX0_tellWaiting_1 ?_
  refine lv_if_eq (tgt := 31) hx hb dX0_tellWaiting_4 (by decide) (fun _ => ?_) (fun hc => absurd (by decide) hc)
  refine lv_aload_n hx hb dX0_tellWaiting_31 rfl (lv_at hl 0 rfl) ?_
  refine va_get (D := D) (ci := 0) (v := .int 0) (C := RX0) (T := TX0) (N := 12) hx hb hg inX0 hown hK hP 0 rfl rfl 6 (by decide) (hg _ kf_X0_40) (fun _ h9 => h9) rfl dX0_tellWaiting_32 ?_
  exact ret_i (X := Unit) (()) hx hb hr hlocks hP hD hS [0] (by decide) rfl rfl rfl dX0_tellWaiting_35
theorem dX5_close_0 : decode cX5_close 0 = .ok (.aload_n 1, 1) := by decide +kernel
theorem dX5_close_1 : decode cX5_close 1 = .ok (.getfield 86, 3) := by decide +kernel
theorem dX5_close_4 : decode cX5_close 4 = .ok (.iconst 0, 1) := by decide +kernel
theorem dX5_close_5 : decode cX5_close 5 = .ok (.aload_n 0, 1) := by decide +kernel
theorem dX5_close_6 : decode cX5_close 6 = .ok (.getfield 33, 3) := by decide +kernel
theorem dX5_close_9 : decode cX5_close 9 = .ok (.iconst 0, 1) := by decide +kernel
theorem dX5_close_10 : decode cX5_close 10 = .ok (.bipush 8, 2) := by decide +kernel
theorem dX5_close_12 : decode cX5_close 12 = .ok (.invokestatic 65, 3) := by decide +kernel
theorem dX5_close_15 : decode cX5_close 15 = .ok (.aload_n 0, 1) := by decide +kernel
theorem dX5_close_16 : decode cX5_close 16 = .ok (.aload_n 1, 1) := by decide +kernel
theorem dX5_close_17 : decode cX5_close 17 = .ok (.invokevirtual 93, 3) := by decide +kernel
theorem dX5_close_20 : decode cX5_close 20 = .ok (.putfield 58, 3) := by decide +kernel
theorem dX5_close_23 : decode cX5_close 23 = .ok (.return_, 1) := by decide +kernel
set_option maxHeartbeats 4000000 in
set_option maxRecDepth 100000 in
theorem c_X5_close (l : Launch) (D : va_G) (T : Nat → ClassId) (h0 : Nat) (h0_n : Int32) (h0_hand : Nat) (h0_sort : Nat) (h0_arg : Nat) (h0_value : Nat) (h0_place : Nat) (h0_ahead : Nat) (h0_bolts : Nat) (h0_cells : Nat) (h0_stuck : Int32) (h0_joined : Int32) (h0_done : Nat) (h0_entered : Nat) (h0_openCount : Nat) (h0_openGate : Nat) (mm : Nat) (mm_cells : Nat) (mm_next : Nat) (mm_moved : Nat) (mm_holder : Nat) (mm_notes : Nat) (mm_started : Int32) (s0 : Nat) (f_mm_next : Nat → Int32) (s0_sort : Nat) (s0_arg : Nat) (s0_number : Nat) (s0_kind : Nat) (s0_skip : Nat) (s0_place : Nat) (s0_count : Nat) (s0_told : Int32) (sz : Nat) : Met l yX5_close (WS (.code yX5_close cX5_close 2 none)) ({ frames := 6, cells := 0, slots := 0, locals := 192 } : Room) (va_Pc [.ref h0, .ref mm] (PW D (TY T) [ob h0 5 [.int h0_n, .ref h0_hand, .ref h0_sort, .ref h0_arg, .ref h0_value, .ref h0_place, .ref h0_ahead, .ref h0_bolts, .ref h0_cells, .int h0_stuck, .int h0_joined, .ref h0_done, .ref h0_entered, .ref h0_openCount, .ref h0_openGate], ai T h0_cells 8 (cst 0), ob mm 6 [.ref mm_cells, .ref s0, .ref mm_next, .ref mm_moved, .ref mm_holder, .ref mm_notes, .int mm_started], ai T mm_cells 8 (cst 0), ai T mm_next 6 f_mm_next, ob s0 9 [.ref s0_sort, .ref s0_arg, .ref s0_number, .ref s0_kind, .ref s0_skip, .ref s0_place, .ref s0_count, .int s0_told], ai T s0_count 6 (cst 0)] sz)) (QV (X := Unit) D (fun _ => True) (fun _ => [ob h0 5 [.int h0_n, .ref h0_hand, .ref h0_sort, .ref h0_arg, .ref h0_value, .ref h0_place, .ref h0_ahead, .ref h0_bolts, .ref h0_cells, .int 0, .int h0_joined, .ref h0_done, .ref h0_entered, .ref h0_openCount, .ref h0_openGate], ai T h0_cells 8 (cst 0), ob mm 6 [.ref mm_cells, .ref s0, .ref mm_next, .ref mm_moved, .ref mm_holder, .ref mm_notes, .int mm_started], ai T mm_cells 8 (cst 0), ai T mm_next 6 f_mm_next, ob s0 9 [.ref s0_sort, .ref s0_arg, .ref s0_number, .ref s0_kind, .ref s0_skip, .ref s0_place, .ref s0_count, .int s0_told], ai T s0_count 6 (cst 0)]) (va_A [ob h0 5 [.int h0_n, .ref h0_hand, .ref h0_sort, .ref h0_arg, .ref h0_value, .ref h0_place, .ref h0_ahead, .ref h0_bolts, .ref h0_cells, .int h0_stuck, .int h0_joined, .ref h0_done, .ref h0_entered, .ref h0_openCount, .ref h0_openGate], ai T h0_cells 8 (cst 0), ob mm 6 [.ref mm_cells, .ref s0, .ref mm_next, .ref mm_moved, .ref mm_holder, .ref mm_notes, .int mm_started], ai T mm_cells 8 (cst 0), ai T mm_next 6 f_mm_next, ob s0 9 [.ref s0_sort, .ref s0_arg, .ref s0_number, .ref s0_kind, .ref s0_skip, .ref s0_place, .ref s0_count, .int s0_told], ai T s0_count 6 (cst 0)] sz)) 0 0 (va_A [ob h0 5 [.int h0_n, .ref h0_hand, .ref h0_sort, .ref h0_arg, .ref h0_value, .ref h0_place, .ref h0_ahead, .ref h0_bolts, .ref h0_cells, .int h0_stuck, .int h0_joined, .ref h0_done, .ref h0_entered, .ref h0_openCount, .ref h0_openGate], ai T h0_cells 8 (cst 0), ob mm 6 [.ref mm_cells, .ref s0, .ref mm_next, .ref mm_moved, .ref mm_holder, .ref mm_notes, .int mm_started], ai T mm_cells 8 (cst 0), ai T mm_next 6 f_mm_next, ob s0 9 [.ref s0_sort, .ref s0_arg, .ref s0_number, .ref s0_kind, .ref s0_skip, .ref s0_place, .ref s0_count, .int s0_told], ai T s0_count 6 (cst 0)] sz) := by
  refine mk_met (Qc := QV (X := Unit) D (fun _ => True) (fun _ => [ob h0 5 [.int h0_n, .ref h0_hand, .ref h0_sort, .ref h0_arg, .ref h0_value, .ref h0_place, .ref h0_ahead, .ref h0_bolts, .ref h0_cells, .int 0, .int h0_joined, .ref h0_done, .ref h0_entered, .ref h0_openCount, .ref h0_openGate], ai T h0_cells 8 (cst 0), ob mm 6 [.ref mm_cells, .ref s0, .ref mm_next, .ref mm_moved, .ref mm_holder, .ref mm_notes, .int mm_started], ai T mm_cells 8 (cst 0), ai T mm_next 6 f_mm_next, ob s0 9 [.ref s0_sort, .ref s0_arg, .ref s0_number, .ref s0_kind, .ref s0_skip, .ref s0_place, .ref s0_count, .int s0_told], ai T s0_count 6 (cst 0)])) (lv := [(0, .ref h0), (1, .ref mm)]) (by decide +kernel) (Nat.le_of_ble_eq_true rfl) rfl (fun p e s m below meth c A ls H locs hx hb hml hr hlocks hown hin hg hN hA hP hK hD hS hl => ?_)
  refine lv_aload_n hx hb dX5_close_0 rfl (lv_at hl 1 rfl) ?_
  refine va_get (D := D) (ci := 6) (v := .ref mm_cells) (C := RX6) (T := TX6) (N := 7) hx hb hg inX6 hown hK hP 2 rfl rfl 0 (by decide) (hg _ kf_X5_86) (fun _ h9 => h9) rfl dX5_close_1 ?_
  refine lv_iconst (v := 0) hx hb dX5_close_4 (by decide) ?_
  refine lv_aload_n hx hb dX5_close_5 rfl (lv_at hl 0 rfl) ?_
  refine va_get (D := D) (ci := 5) (v := .ref h0_cells) (C := RX5) (T := TX5) (N := 15) hx hb hg inX5 hown hK hP 0 rfl rfl 8 (by decide) (hg _ kf_X5_33) (fun _ h9 => h9) rfl dX5_close_6 ?_
  refine lv_iconst (v := 0) hx hb dX5_close_9 (by decide) ?_
  refine lv_bipush (v := 8) hx hb dX5_close_10 (by decide) ?_
  refine va_copyi (ty := .int) hx hb (by rw [hml]; exact hl.1.symm) hown (hg _ km_X5_65) (hg _ kv_arraycopy) (hg _ kt_arraycopy) (hg _ kz_J10) hK hP hD hS 3 1 0 0 rfl rfl rfl rfl rfl (by decide) (by decide) (by decide) (Nat.le_of_ble_eq_true rfl) (Nat.le_of_ble_eq_true rfl) (fun _ _ => rfl) (Nat.le_of_ble_eq_true rfl) (Nat.le_of_ble_eq_true rfl) dX5_close_12 (fun H locs hP hD hS => ?_)
  have hP : va_P D vwCl [ob h0 5 [.int h0_n, .ref h0_hand, .ref h0_sort, .ref h0_arg, .ref h0_value, .ref h0_place, .ref h0_ahead, .ref h0_bolts, .ref h0_cells, .int h0_stuck, .int h0_joined, .ref h0_done, .ref h0_entered, .ref h0_openCount, .ref h0_openGate], ai T h0_cells 8 (va_cpy (cst 0) (cst 0) ((0 : Int32)).toNatClampNeg ((0 : Int32)).toNatClampNeg ((8 : Int32)).toNatClampNeg), ob mm 6 [.ref mm_cells, .ref s0, .ref mm_next, .ref mm_moved, .ref mm_holder, .ref mm_notes, .int mm_started], ai T mm_cells 8 (cst 0), ai T mm_next 6 f_mm_next, ob s0 9 [.ref s0_sort, .ref s0_arg, .ref s0_number, .ref s0_kind, .ref s0_skip, .ref s0_place, .ref s0_count, .int s0_told], ai T s0_count 6 (cst 0)] H := hP
  have hD : va_D A [ob h0 5 [.int h0_n, .ref h0_hand, .ref h0_sort, .ref h0_arg, .ref h0_value, .ref h0_place, .ref h0_ahead, .ref h0_bolts, .ref h0_cells, .int h0_stuck, .int h0_joined, .ref h0_done, .ref h0_entered, .ref h0_openCount, .ref h0_openGate], ai T h0_cells 8 (va_cpy (cst 0) (cst 0) ((0 : Int32)).toNatClampNeg ((0 : Int32)).toNatClampNeg ((8 : Int32)).toNatClampNeg), ob mm 6 [.ref mm_cells, .ref s0, .ref mm_next, .ref mm_moved, .ref mm_holder, .ref mm_notes, .int mm_started], ai T mm_cells 8 (cst 0), ai T mm_next 6 f_mm_next, ob s0 9 [.ref s0_sort, .ref s0_arg, .ref s0_number, .ref s0_kind, .ref s0_skip, .ref s0_place, .ref s0_count, .int s0_told], ai T s0_count 6 (cst 0)] := hD
  have hP : va_P D vwCl [ob h0 5 [.int h0_n, .ref h0_hand, .ref h0_sort, .ref h0_arg, .ref h0_value, .ref h0_place, .ref h0_ahead, .ref h0_bolts, .ref h0_cells, .int h0_stuck, .int h0_joined, .ref h0_done, .ref h0_entered, .ref h0_openCount, .ref h0_openGate], ai T h0_cells 8 (cst 0), ob mm 6 [.ref mm_cells, .ref s0, .ref mm_next, .ref mm_moved, .ref mm_holder, .ref mm_notes, .int mm_started], ai T mm_cells 8 (cst 0), ai T mm_next 6 f_mm_next, ob s0 9 [.ref s0_sort, .ref s0_arg, .ref s0_number, .ref s0_kind, .ref s0_skip, .ref s0_place, .ref s0_count, .int s0_told], ai T s0_count 6 (cst 0)] H := by rw [cpy_cst] at hP; exact hP
  have hD : va_D A [ob h0 5 [.int h0_n, .ref h0_hand, .ref h0_sort, .ref h0_arg, .ref h0_value, .ref h0_place, .ref h0_ahead, .ref h0_bolts, .ref h0_cells, .int h0_stuck, .int h0_joined, .ref h0_done, .ref h0_entered, .ref h0_openCount, .ref h0_openGate], ai T h0_cells 8 (cst 0), ob mm 6 [.ref mm_cells, .ref s0, .ref mm_next, .ref mm_moved, .ref mm_holder, .ref mm_notes, .int mm_started], ai T mm_cells 8 (cst 0), ai T mm_next 6 f_mm_next, ob s0 9 [.ref s0_sort, .ref s0_arg, .ref s0_number, .ref s0_kind, .ref s0_skip, .ref s0_place, .ref s0_count, .int s0_told], ai T s0_count 6 (cst 0)] := by rw [cpy_cst] at hD; exact hD
  refine lv_aload_n hx hb dX5_close_15 rfl (lv_at hl 0 rfl) ?_
  refine lv_aload_n hx hb dX5_close_16 rfl (lv_at hl 1 rfl) ?_
  refine cont_i (Wr := [ob h0 5 [.int h0_n, .ref h0_hand, .ref h0_sort, .ref h0_arg, .ref h0_value, .ref h0_place, .ref h0_ahead, .ref h0_bolts, .ref h0_cells, .int h0_stuck, .int h0_joined, .ref h0_done, .ref h0_entered, .ref h0_openCount, .ref h0_openGate], ai T h0_cells 8 (cst 0), ai T mm_cells 8 (cst 0)]) [2, 4, 5, 6] [0, 1, 3] (run_V (n := 0) (As := []) (rest := [.ref h0]) 6 0 hx hb hml hown hg hN (c_X6_stuckBits l D T mm mm_cells mm_next mm_moved mm_holder mm_notes mm_started s0 f_mm_next s0_sort s0_arg s0_number s0_kind s0_skip s0_place s0_count s0_told  H.size) km_X5_93 ki_X6_stuckBits ks_X6_stuckBits kz_X6 kd_X6_stuckBits rfl rfl (by decide +kernel) ⟨Nat.le_of_ble_eq_true rfl, Nat.le_of_ble_eq_true rfl⟩ hK (P_sub hP [2, 4, 5, 6] rfl) (hD.sub [2, 4, 5, 6] (by decide) rfl) rfl rfl rfl hl.1 rfl (Nat.le_of_ble_eq_true rfl) dX5_close_17 ⟨Nat.le_of_ble_eq_true rfl, Nat.le_of_ble_eq_true rfl⟩) hP hD hS hA rfl rfl (by decide) (by decide) (fun rr xx H locs hq hP hD hS => ?_)
  obtain rfl : rr = 0 := hq
  have hP : va_P D vwCl [ob h0 5 [.int h0_n, .ref h0_hand, .ref h0_sort, .ref h0_arg, .ref h0_value, .ref h0_place, .ref h0_ahead, .ref h0_bolts, .ref h0_cells, .int h0_stuck, .int h0_joined, .ref h0_done, .ref h0_entered, .ref h0_openCount, .ref h0_openGate], ai T h0_cells 8 (cst 0), ai T mm_cells 8 (cst 0), ob mm 6 [.ref mm_cells, .ref s0, .ref mm_next, .ref mm_moved, .ref mm_holder, .ref mm_notes, .int mm_started], ai T mm_next 6 f_mm_next, ob s0 9 [.ref s0_sort, .ref s0_arg, .ref s0_number, .ref s0_kind, .ref s0_skip, .ref s0_place, .ref s0_count, .int s0_told], ai T s0_count 6 (cst 0)] H := hP
  have hD : va_D A [ob h0 5 [.int h0_n, .ref h0_hand, .ref h0_sort, .ref h0_arg, .ref h0_value, .ref h0_place, .ref h0_ahead, .ref h0_bolts, .ref h0_cells, .int h0_stuck, .int h0_joined, .ref h0_done, .ref h0_entered, .ref h0_openCount, .ref h0_openGate], ai T h0_cells 8 (cst 0), ai T mm_cells 8 (cst 0), ob mm 6 [.ref mm_cells, .ref s0, .ref mm_next, .ref mm_moved, .ref mm_holder, .ref mm_notes, .int mm_started], ai T mm_next 6 f_mm_next, ob s0 9 [.ref s0_sort, .ref s0_arg, .ref s0_number, .ref s0_kind, .ref s0_skip, .ref s0_place, .ref s0_count, .int s0_told], ai T s0_count 6 (cst 0)] := hD
  refine va_put (D := D) (ci := 5) (v := .int 0) (ty := .int) (C := RX5) (T := TX5) (N := 15) hx hb hg inX5 tyX5 tyX5_ok nmX5 hown hK hP hD hS 0 rfl rfl 9 (by decide) (hg _ kf_X5_58) (fun _ h9 => h9) rfl (by decide +kernel) rfl rfl (Nat.le_of_ble_eq_true rfl) dX5_close_20 (fun H locs hP hD hS => ?_)
  have hP : va_P D vwCl [ob h0 5 [.int h0_n, .ref h0_hand, .ref h0_sort, .ref h0_arg, .ref h0_value, .ref h0_place, .ref h0_ahead, .ref h0_bolts, .ref h0_cells, .int 0, .int h0_joined, .ref h0_done, .ref h0_entered, .ref h0_openCount, .ref h0_openGate], ai T h0_cells 8 (cst 0), ai T mm_cells 8 (cst 0), ob mm 6 [.ref mm_cells, .ref s0, .ref mm_next, .ref mm_moved, .ref mm_holder, .ref mm_notes, .int mm_started], ai T mm_next 6 f_mm_next, ob s0 9 [.ref s0_sort, .ref s0_arg, .ref s0_number, .ref s0_kind, .ref s0_skip, .ref s0_place, .ref s0_count, .int s0_told], ai T s0_count 6 (cst 0)] H := hP
  have hD : va_D A [ob h0 5 [.int h0_n, .ref h0_hand, .ref h0_sort, .ref h0_arg, .ref h0_value, .ref h0_place, .ref h0_ahead, .ref h0_bolts, .ref h0_cells, .int 0, .int h0_joined, .ref h0_done, .ref h0_entered, .ref h0_openCount, .ref h0_openGate], ai T h0_cells 8 (cst 0), ai T mm_cells 8 (cst 0), ob mm 6 [.ref mm_cells, .ref s0, .ref mm_next, .ref mm_moved, .ref mm_holder, .ref mm_notes, .int mm_started], ai T mm_next 6 f_mm_next, ob s0 9 [.ref s0_sort, .ref s0_arg, .ref s0_number, .ref s0_kind, .ref s0_skip, .ref s0_place, .ref s0_count, .int s0_told], ai T s0_count 6 (cst 0)] := hD
  exact ret_v (X := Unit) (()) hx hb hr hlocks hP hD hS [0, 1, 3, 2, 4, 5, 6] (by decide) rfl trivial dX5_close_23
theorem dX2_fill_0 : decode cX2_fill 0 = .ok (.aload_n 0, 1) := by decide +kernel
theorem dX2_fill_1 : decode cX2_fill 1 = .ok (.iload_n 3, 1) := by decide +kernel
theorem dX2_fill_2 : decode cX2_fill 2 = .ok (.putfield 18, 3) := by decide +kernel
theorem dX2_fill_5 : decode cX2_fill 5 = .ok (.aload_n 0, 1) := by decide +kernel
theorem dX2_fill_6 : decode cX2_fill 6 = .ok (.iload 4, 2) := by decide +kernel
theorem dX2_fill_8 : decode cX2_fill 8 = .ok (.putfield 22, 3) := by decide +kernel
theorem dX2_fill_11 : decode cX2_fill 11 = .ok (.iconst 0, 1) := by decide +kernel
theorem dX2_fill_12 : decode cX2_fill 12 = .ok (.istore 6, 2) := by decide +kernel
theorem dX2_fill_14 : decode cX2_fill 14 = .ok (.iload 6, 2) := by decide +kernel
theorem dX2_fill_16 : decode cX2_fill 16 = .ok (.aload_n 1, 1) := by decide +kernel
theorem dX2_fill_17 : decode cX2_fill 17 = .ok (.getfield 25, 3) := by decide +kernel
theorem dX2_fill_20 : decode cX2_fill 20 = .ok (.if_icmp .ge 193, 3) := by decide +kernel
theorem dX2_fill_213 : decode cX2_fill 213 = .ok (.return_, 1) := by decide +kernel
set_option maxHeartbeats 4000000 in
set_option maxRecDepth 100000 in
theorem c_X2_fill (l : Launch) (D : va_G) (T : Nat → ClassId) (h0 : Nat) (h0_clock : Nat) (h0_steps : Nat) (h0_laws : Int32) (h0_marks : Int32) (g0 : Nat) (g0_hand : Nat) (g0_sort : Nat) (g0_arg : Nat) (g0_value : Nat) (g0_place : Nat) (g0_ahead : Nat) (g0_bolts : Nat) (g0_cells : Nat) (g0_stuck : Int32) (g0_joined : Int32) (g0_done : Nat) (g0_entered : Nat) (g0_openCount : Nat) (g0_openGate : Nat) (k0 : Nat) (la : Int32) (ma : Int32) (gu : Int32) (sz : Nat) : Met l yX2_fill (WS (.code yX2_fill cX2_fill 11 none)) ({ frames := 2, cells := 0, slots := 0, locals := 64 } : Room) (va_Pc [.ref h0, .ref g0, .ref k0, .int la, .int ma, .int gu] (PW D (TY T) [ob h0 2 [.ref h0_clock, .ref h0_steps, .int h0_laws, .int h0_marks], ob g0 5 [.int 0, .ref g0_hand, .ref g0_sort, .ref g0_arg, .ref g0_value, .ref g0_place, .ref g0_ahead, .ref g0_bolts, .ref g0_cells, .int g0_stuck, .int g0_joined, .ref g0_done, .ref g0_entered, .ref g0_openCount, .ref g0_openGate]] sz)) (QV (X := Unit) D (fun _ => True) (fun _ => [ob h0 2 [.ref h0_clock, .ref h0_steps, .int la, .int ma], ob g0 5 [.int 0, .ref g0_hand, .ref g0_sort, .ref g0_arg, .ref g0_value, .ref g0_place, .ref g0_ahead, .ref g0_bolts, .ref g0_cells, .int g0_stuck, .int g0_joined, .ref g0_done, .ref g0_entered, .ref g0_openCount, .ref g0_openGate]]) (va_A [ob h0 2 [.ref h0_clock, .ref h0_steps, .int h0_laws, .int h0_marks], ob g0 5 [.int 0, .ref g0_hand, .ref g0_sort, .ref g0_arg, .ref g0_value, .ref g0_place, .ref g0_ahead, .ref g0_bolts, .ref g0_cells, .int g0_stuck, .int g0_joined, .ref g0_done, .ref g0_entered, .ref g0_openCount, .ref g0_openGate]] sz)) 0 0 (va_A [ob h0 2 [.ref h0_clock, .ref h0_steps, .int h0_laws, .int h0_marks], ob g0 5 [.int 0, .ref g0_hand, .ref g0_sort, .ref g0_arg, .ref g0_value, .ref g0_place, .ref g0_ahead, .ref g0_bolts, .ref g0_cells, .int g0_stuck, .int g0_joined, .ref g0_done, .ref g0_entered, .ref g0_openCount, .ref g0_openGate]] sz) := by
  refine mk_met (Qc := QV (X := Unit) D (fun _ => True) (fun _ => [ob h0 2 [.ref h0_clock, .ref h0_steps, .int la, .int ma], ob g0 5 [.int 0, .ref g0_hand, .ref g0_sort, .ref g0_arg, .ref g0_value, .ref g0_place, .ref g0_ahead, .ref g0_bolts, .ref g0_cells, .int g0_stuck, .int g0_joined, .ref g0_done, .ref g0_entered, .ref g0_openCount, .ref g0_openGate]])) (lv := [(0, .ref h0), (1, .ref g0), (2, .ref k0), (3, .int la), (4, .int ma), (5, .int gu)]) (by decide +kernel) (Nat.le_of_ble_eq_true rfl) rfl (fun p e s m below meth c A ls H locs hx hb hml hr hlocks hown hin hg hN hA hP hK hD hS hl => ?_)
  refine lv_aload_n hx hb dX2_fill_0 rfl (lv_at hl 0 rfl) ?_
  refine lv_iload_n hx hb dX2_fill_1 rfl (lv_at hl 3 rfl) ?_
  refine va_put (D := D) (ci := 2) (v := .int la) (ty := .int) (C := RX2) (T := TX2) (N := 4) hx hb hg inX2 tyX2 tyX2_ok nmX2 hown hK hP hD hS 0 rfl rfl 2 (by decide) (hg _ kf_X2_18) (fun _ h9 => h9) rfl (by decide +kernel) rfl rfl (Nat.le_of_ble_eq_true rfl) dX2_fill_2 (fun H locs hP hD hS => ?_)
  have hP : va_P D vwCl [ob h0 2 [.ref h0_clock, .ref h0_steps, .int la, .int h0_marks], ob g0 5 [.int 0, .ref g0_hand, .ref g0_sort, .ref g0_arg, .ref g0_value, .ref g0_place, .ref g0_ahead, .ref g0_bolts, .ref g0_cells, .int g0_stuck, .int g0_joined, .ref g0_done, .ref g0_entered, .ref g0_openCount, .ref g0_openGate]] H := hP
  have hD : va_D A [ob h0 2 [.ref h0_clock, .ref h0_steps, .int la, .int h0_marks], ob g0 5 [.int 0, .ref g0_hand, .ref g0_sort, .ref g0_arg, .ref g0_value, .ref g0_place, .ref g0_ahead, .ref g0_bolts, .ref g0_cells, .int g0_stuck, .int g0_joined, .ref g0_done, .ref g0_entered, .ref g0_openCount, .ref g0_openGate]] := hD
  refine lv_aload_n hx hb dX2_fill_5 rfl (lv_at hl 0 rfl) ?_
  refine lv_iload hx hb dX2_fill_6 (lv_at hl 4 rfl) ?_
  refine va_put (D := D) (ci := 2) (v := .int ma) (ty := .int) (C := RX2) (T := TX2) (N := 4) hx hb hg inX2 tyX2 tyX2_ok nmX2 hown hK hP hD hS 0 rfl rfl 3 (by decide) (hg _ kf_X2_22) (fun _ h9 => h9) rfl (by decide +kernel) rfl rfl (Nat.le_of_ble_eq_true rfl) dX2_fill_8 (fun H locs hP hD hS => ?_)
  have hP : va_P D vwCl [ob h0 2 [.ref h0_clock, .ref h0_steps, .int la, .int ma], ob g0 5 [.int 0, .ref g0_hand, .ref g0_sort, .ref g0_arg, .ref g0_value, .ref g0_place, .ref g0_ahead, .ref g0_bolts, .ref g0_cells, .int g0_stuck, .int g0_joined, .ref g0_done, .ref g0_entered, .ref g0_openCount, .ref g0_openGate]] H := hP
  have hD : va_D A [ob h0 2 [.ref h0_clock, .ref h0_steps, .int la, .int ma], ob g0 5 [.int 0, .ref g0_hand, .ref g0_sort, .ref g0_arg, .ref g0_value, .ref g0_place, .ref g0_ahead, .ref g0_bolts, .ref g0_cells, .int g0_stuck, .int g0_joined, .ref g0_done, .ref g0_entered, .ref g0_openCount, .ref g0_openGate]] := hD
  refine lv_iconst (v := 0) hx hb dX2_fill_11 (by decide) ?_
  refine lv_istore (lv' := [(6, .int 0), (0, .ref h0), (1, .ref g0), (2, .ref k0), (3, .int la), (4, .int ma), (5, .int gu)]) hx hb dX2_fill_12 hl (by decide) rfl (fun ls hl => ?_)
  refine lv_iload hx hb dX2_fill_14 (lv_at hl 0 rfl) ?_
  refine lv_aload_n hx hb dX2_fill_16 rfl (lv_at hl 2 rfl) ?_
  refine va_get (D := D) (ci := 5) (v := .int 0) (C := RX5) (T := TX5) (N := 15) hx hb hg inX5 hown hK hP 1 rfl rfl 0 (by decide) (hg _ kf_X2_25) (fun _ h9 => h9) rfl dX2_fill_17 ?_
  refine lv_icmp_ge (tgt := 213) hx hb dX2_fill_20 (by decide) (fun _ => ?_) (fun hc => absurd (by decide) hc)
  exact ret_v (X := Unit) (()) hx hb hr hlocks hP hD hS [0, 1] (by decide) rfl trivial dX2_fill_213
theorem dX2_countAll_0 : decode cX2_countAll 0 = .ok (.iconst 0, 1) := by decide +kernel
theorem dX2_countAll_1 : decode cX2_countAll 1 = .ok (.istore 4, 2) := by decide +kernel
theorem dX2_countAll_3 : decode cX2_countAll 3 = .ok (.iconst 0, 1) := by decide +kernel
theorem dX2_countAll_4 : decode cX2_countAll 4 = .ok (.istore 5, 2) := by decide +kernel
theorem dX2_countAll_6 : decode cX2_countAll 6 = .ok (.iload 5, 2) := by decide +kernel
theorem dX2_countAll_8 : decode cX2_countAll 8 = .ok (.aload_n 1, 1) := by decide +kernel
theorem dX2_countAll_9 : decode cX2_countAll 9 = .ok (.getfield 25, 3) := by decide +kernel
theorem dX2_countAll_12 : decode cX2_countAll 12 = .ok (.if_icmp .ge 28, 3) := by decide +kernel
theorem dX2_countAll_40 : decode cX2_countAll 40 = .ok (.iload 4, 2) := by decide +kernel
theorem dX2_countAll_42 : decode cX2_countAll 42 = .ok (.ireturn, 1) := by decide +kernel
set_option maxHeartbeats 4000000 in
set_option maxRecDepth 100000 in
theorem c_X2_countAll (l : Launch) (D : va_G) (T : Nat → ClassId) (h0 : Nat) (h0_clock : Nat) (h0_steps : Nat) (h0_laws : Int32) (h0_marks : Int32) (g0 : Nat) (g0_hand : Nat) (g0_sort : Nat) (g0_arg : Nat) (g0_value : Nat) (g0_place : Nat) (g0_ahead : Nat) (g0_bolts : Nat) (g0_cells : Nat) (g0_stuck : Int32) (g0_joined : Int32) (g0_done : Nat) (g0_entered : Nat) (g0_openCount : Nat) (g0_openGate : Nat) (k0 : Nat) (li : Int32) (sz : Nat) : Met l yX2_countAll (WS (.code yX2_countAll cX2_countAll 6 (some .int))) ({ frames := 2, cells := 0, slots := 0, locals := 64 } : Room) (va_Pc [.ref h0, .ref g0, .ref k0, .int li] (PW D (TY T) [ob h0 2 [.ref h0_clock, .ref h0_steps, .int h0_laws, .int h0_marks], ob g0 5 [.int 0, .ref g0_hand, .ref g0_sort, .ref g0_arg, .ref g0_value, .ref g0_place, .ref g0_ahead, .ref g0_bolts, .ref g0_cells, .int g0_stuck, .int g0_joined, .ref g0_done, .ref g0_entered, .ref g0_openCount, .ref g0_openGate]] sz)) (QI (X := Unit) D (fun rr xx => rr = 0) (fun _ => [ob h0 2 [.ref h0_clock, .ref h0_steps, .int h0_laws, .int h0_marks], ob g0 5 [.int 0, .ref g0_hand, .ref g0_sort, .ref g0_arg, .ref g0_value, .ref g0_place, .ref g0_ahead, .ref g0_bolts, .ref g0_cells, .int g0_stuck, .int g0_joined, .ref g0_done, .ref g0_entered, .ref g0_openCount, .ref g0_openGate]]) (va_A [ob h0 2 [.ref h0_clock, .ref h0_steps, .int h0_laws, .int h0_marks], ob g0 5 [.int 0, .ref g0_hand, .ref g0_sort, .ref g0_arg, .ref g0_value, .ref g0_place, .ref g0_ahead, .ref g0_bolts, .ref g0_cells, .int g0_stuck, .int g0_joined, .ref g0_done, .ref g0_entered, .ref g0_openCount, .ref g0_openGate]] sz)) 0 0 (va_A [ob h0 2 [.ref h0_clock, .ref h0_steps, .int h0_laws, .int h0_marks], ob g0 5 [.int 0, .ref g0_hand, .ref g0_sort, .ref g0_arg, .ref g0_value, .ref g0_place, .ref g0_ahead, .ref g0_bolts, .ref g0_cells, .int g0_stuck, .int g0_joined, .ref g0_done, .ref g0_entered, .ref g0_openCount, .ref g0_openGate]] sz) := by
  refine mk_met (Qc := QI (X := Unit) D (fun rr xx => rr = 0) (fun _ => [ob h0 2 [.ref h0_clock, .ref h0_steps, .int h0_laws, .int h0_marks], ob g0 5 [.int 0, .ref g0_hand, .ref g0_sort, .ref g0_arg, .ref g0_value, .ref g0_place, .ref g0_ahead, .ref g0_bolts, .ref g0_cells, .int g0_stuck, .int g0_joined, .ref g0_done, .ref g0_entered, .ref g0_openCount, .ref g0_openGate]])) (lv := [(0, .ref h0), (1, .ref g0), (2, .ref k0), (3, .int li)]) (by decide +kernel) (Nat.le_of_ble_eq_true rfl) rfl (fun p e s m below meth c A ls H locs hx hb hml hr hlocks hown hin hg hN hA hP hK hD hS hl => ?_)
  refine lv_iconst (v := 0) hx hb dX2_countAll_0 (by decide) ?_
  refine lv_istore (lv' := [(4, .int 0), (0, .ref h0), (1, .ref g0), (2, .ref k0), (3, .int li)]) hx hb dX2_countAll_1 hl (by decide) rfl (fun ls hl => ?_)
  refine lv_iconst (v := 0) hx hb dX2_countAll_3 (by decide) ?_
  refine lv_istore (lv' := [(5, .int 0), (4, .int 0), (0, .ref h0), (1, .ref g0), (2, .ref k0), (3, .int li)]) hx hb dX2_countAll_4 hl (by decide) rfl (fun ls hl => ?_)
  refine lv_iload hx hb dX2_countAll_6 (lv_at hl 0 rfl) ?_
  refine lv_aload_n hx hb dX2_countAll_8 rfl (lv_at hl 3 rfl) ?_
  refine va_get (D := D) (ci := 5) (v := .int 0) (C := RX5) (T := TX5) (N := 15) hx hb hg inX5 hown hK hP 1 rfl rfl 0 (by decide) (hg _ kf_X2_25) (fun _ h9 => h9) rfl dX2_countAll_9 ?_
  refine lv_icmp_ge (tgt := 40) hx hb dX2_countAll_12 (by decide) (fun _ => ?_) (fun hc => absurd (by decide) hc)
  refine lv_iload hx hb dX2_countAll_40 (lv_at hl 1 rfl) ?_
  exact ret_i (X := Unit) (()) hx hb hr hlocks hP hD hS [0, 1] (by decide) rfl rfl rfl dX2_countAll_42
theorem dX1_countLog_0 : decode cX1_countLog 0 = .ok (.iconst 0, 1) := by decide +kernel
theorem dX1_countLog_1 : decode cX1_countLog 1 = .ok (.istore_n 2, 1) := by decide +kernel
theorem dX1_countLog_2 : decode cX1_countLog 2 = .ok (.iload_n 2, 1) := by decide +kernel
theorem dX1_countLog_3 : decode cX1_countLog 3 = .ok (.aload_n 0, 1) := by decide +kernel
theorem dX1_countLog_4 : decode cX1_countLog 4 = .ok (.getfield 33, 3) := by decide +kernel
theorem dX1_countLog_7 : decode cX1_countLog 7 = .ok (.if_icmp .ge 63, 3) := by decide +kernel
theorem dX1_countLog_70 : decode cX1_countLog 70 = .ok (.aload_n 0, 1) := by decide +kernel
theorem dX1_countLog_71 : decode cX1_countLog 71 = .ok (.dup, 1) := by decide +kernel
theorem dX1_countLog_72 : decode cX1_countLog 72 = .ok (.getfield 37, 3) := by decide +kernel
theorem dX1_countLog_75 : decode cX1_countLog 75 = .ok (.iconst 1, 1) := by decide +kernel
theorem dX1_countLog_76 : decode cX1_countLog 76 = .ok (.iadd, 1) := by decide +kernel
theorem dX1_countLog_77 : decode cX1_countLog 77 = .ok (.putfield 37, 3) := by decide +kernel
theorem dX1_countLog_80 : decode cX1_countLog 80 = .ok (.return_, 1) := by decide +kernel
set_option maxHeartbeats 4000000 in
set_option maxRecDepth 100000 in
theorem c_X1_countLog (l : Launch) (D : va_G) (T : Nat → ClassId) (h0 : Nat) (h0_logs : Int32) (h0_low : Nat) (h0_high : Nat) (h0_about : Nat) (h0_times : Nat) (h0_from : Nat) (h0_till : Nat) (h0_marked : Nat) (sz : Nat) : Met l yX1_countLog (WS (.code yX1_countLog cX1_countLog 3 none)) ({ frames := 2, cells := 0, slots := 0, locals := 64 } : Room) (va_Pc [.ref h0, .int 0] (PW D (TY T) [ob h0 1 [.int 0, .int h0_logs, .ref h0_low, .ref h0_high, .ref h0_about, .ref h0_times, .ref h0_from, .ref h0_till, .ref h0_marked]] sz)) (QV (X := Int32) D (fun _ => True) (fun xx => [ob h0 1 [.int 0, .int xx, .ref h0_low, .ref h0_high, .ref h0_about, .ref h0_times, .ref h0_from, .ref h0_till, .ref h0_marked]]) (va_A [ob h0 1 [.int 0, .int h0_logs, .ref h0_low, .ref h0_high, .ref h0_about, .ref h0_times, .ref h0_from, .ref h0_till, .ref h0_marked]] sz)) 0 0 (va_A [ob h0 1 [.int 0, .int h0_logs, .ref h0_low, .ref h0_high, .ref h0_about, .ref h0_times, .ref h0_from, .ref h0_till, .ref h0_marked]] sz) := by
  refine mk_met (Qc := QV (X := Int32) D (fun _ => True) (fun xx => [ob h0 1 [.int 0, .int xx, .ref h0_low, .ref h0_high, .ref h0_about, .ref h0_times, .ref h0_from, .ref h0_till, .ref h0_marked]])) (lv := [(0, .ref h0), (1, .int 0)]) (by decide +kernel) (Nat.le_of_ble_eq_true rfl) rfl (fun p e s m below meth c A ls H locs hx hb hml hr hlocks hown hin hg hN hA hP hK hD hS hl => ?_)
  refine lv_iconst (v := 0) hx hb dX1_countLog_0 (by decide) ?_
  refine lv_istore_n (lv' := [(2, .int 0), (0, .ref h0), (1, .int 0)]) hx hb dX1_countLog_1 rfl hl (by decide) rfl (fun ls hl => ?_)
  refine lv_iload_n hx hb dX1_countLog_2 rfl (lv_at hl 0 rfl) ?_
  refine lv_aload_n hx hb dX1_countLog_3 rfl (lv_at hl 1 rfl) ?_
  refine va_get (D := D) (ci := 1) (v := .int 0) (C := RX1) (T := TX1) (N := 9) hx hb hg inX1 hown hK hP 0 rfl rfl 0 (by decide) (hg _ kf_X1_33) (fun _ h9 => h9) rfl dX1_countLog_4 ?_
  refine lv_icmp_ge (tgt := 70) hx hb dX1_countLog_7 (by decide) (fun _ => ?_) (fun hc => absurd (by decide) hc)
  refine lv_aload_n hx hb dX1_countLog_70 rfl (lv_at hl 1 rfl) ?_
  refine lv_dup hx hb dX1_countLog_71 rfl ?_
  refine va_get (D := D) (ci := 1) (v := .int h0_logs) (C := RX1) (T := TX1) (N := 9) hx hb hg inX1 hown hK hP 0 rfl rfl 1 (by decide) (hg _ kf_X1_37) (fun _ h9 => h9) rfl dX1_countLog_72 ?_
  refine lv_iconst (v := 1) hx hb dX1_countLog_75 (by decide) ?_
  refine lv_iadd hx hb dX1_countLog_76 ?_
  refine lv_topi (fun v1 _ => ?_)
  refine va_put (D := D) (ci := 1) (v := .int v1) (ty := .int) (C := RX1) (T := TX1) (N := 9) hx hb hg inX1 tyX1 tyX1_ok nmX1 hown hK hP hD hS 0 rfl rfl 1 (by decide) (hg _ kf_X1_37) (fun _ h9 => h9) rfl (by decide +kernel) rfl rfl (Nat.le_of_ble_eq_true rfl) dX1_countLog_77 (fun H locs hP hD hS => ?_)
  have hP : va_P D vwCl [ob h0 1 [.int 0, .int v1, .ref h0_low, .ref h0_high, .ref h0_about, .ref h0_times, .ref h0_from, .ref h0_till, .ref h0_marked]] H := hP
  have hD : va_D A [ob h0 1 [.int 0, .int v1, .ref h0_low, .ref h0_high, .ref h0_about, .ref h0_times, .ref h0_from, .ref h0_till, .ref h0_marked]] := hD
  exact ret_v (X := Int32) (v1) hx hb hr hlocks hP hD hS [0] (by decide) rfl trivial dX1_countLog_80
theorem dX1_enter_0 : decode cX1_enter 0 = .ok (.aload_n 0, 1) := by decide +kernel
theorem dX1_enter_1 : decode cX1_enter 1 = .ok (.getfield 30, 3) := by decide +kernel
theorem dX1_enter_4 : decode cX1_enter 4 = .ok (.iconst 0, 1) := by decide +kernel
theorem dX1_enter_5 : decode cX1_enter 5 = .ok (.invokestatic 46, 3) := by decide +kernel
theorem dX1_enter_8 : decode cX1_enter 8 = .ok (.aload_n 0, 1) := by decide +kernel
theorem dX1_enter_9 : decode cX1_enter 9 = .ok (.getfield 33, 3) := by decide +kernel
theorem dX1_enter_12 : decode cX1_enter 12 = .ok (.istore_n 3, 1) := by decide +kernel
theorem dX1_enter_13 : decode cX1_enter 13 = .ok (.iconst 0, 1) := by decide +kernel
theorem dX1_enter_14 : decode cX1_enter 14 = .ok (.istore 4, 2) := by decide +kernel
theorem dX1_enter_16 : decode cX1_enter 16 = .ok (.iload 4, 2) := by decide +kernel
theorem dX1_enter_18 : decode cX1_enter 18 = .ok (.aload_n 1, 1) := by decide +kernel
theorem dX1_enter_19 : decode cX1_enter 19 = .ok (.getfield 52, 3) := by decide +kernel
theorem dX1_enter_22 : decode cX1_enter 22 = .ok (.if_icmp .ge 68, 3) := by decide +kernel
theorem dX1_enter_90 : decode cX1_enter 90 = .ok (.iload_n 3, 1) := by decide +kernel
theorem dX1_enter_91 : decode cX1_enter 91 = .ok (.aload_n 0, 1) := by decide +kernel
theorem dX1_enter_92 : decode cX1_enter 92 = .ok (.getfield 33, 3) := by decide +kernel
theorem dX1_enter_95 : decode cX1_enter 95 = .ok (.isub, 1) := by decide +kernel
theorem dX1_enter_96 : decode cX1_enter 96 = .ok (.istore 4, 2) := by decide +kernel
theorem dX1_enter_98 : decode cX1_enter 98 = .ok (.aload_n 0, 1) := by decide +kernel
theorem dX1_enter_99 : decode cX1_enter 99 = .ok (.iload_n 3, 1) := by decide +kernel
theorem dX1_enter_100 : decode cX1_enter 100 = .ok (.putfield 33, 3) := by decide +kernel
theorem dX1_enter_103 : decode cX1_enter 103 = .ok (.aload_n 0, 1) := by decide +kernel
theorem dX1_enter_104 : decode cX1_enter 104 = .ok (.aload_n 0, 1) := by decide +kernel
theorem dX1_enter_105 : decode cX1_enter 105 = .ok (.getfield 33, 3) := by decide +kernel
theorem dX1_enter_108 : decode cX1_enter 108 = .ok (.iload 4, 2) := by decide +kernel
theorem dX1_enter_110 : decode cX1_enter 110 = .ok (.isub, 1) := by decide +kernel
theorem dX1_enter_111 : decode cX1_enter 111 = .ok (.invokevirtual 71, 3) := by decide +kernel
theorem dX1_enter_114 : decode cX1_enter 114 = .ok (.iload 4, 2) := by decide +kernel
theorem dX1_enter_116 : decode cX1_enter 116 = .ok (.ireturn, 1) := by decide +kernel
set_option maxHeartbeats 4000000 in
set_option maxRecDepth 100000 in
theorem c_X1_enter (l : Launch) (D : va_G) (T : Nat → ClassId) (h0 : Nat) (h0_logs : Int32) (h0_low : Nat) (h0_high : Nat) (h0_about : Nat) (h0_times : Nat) (h0_from : Nat) (h0_till : Nat) (h0_marked : Nat) (f_h0_marked : Nat → Int32) (g0 : Nat) (g0_hand : Nat) (g0_sort : Nat) (g0_arg : Nat) (g0_value : Nat) (g0_place : Nat) (g0_ahead : Nat) (g0_bolts : Nat) (g0_cells : Nat) (g0_stuck : Int32) (g0_joined : Int32) (g0_done : Nat) (g0_entered : Nat) (g0_openCount : Nat) (g0_openGate : Nat) (c0 : Nat) (sz : Nat) : Met l yX1_enter (WS (.code yX1_enter cX1_enter 7 (some .int))) ({ frames := 4, cells := 0, slots := 0, locals := 128 } : Room) (va_Pc [.ref h0, .ref g0, .ref c0] (PW D (TY T) [ob h0 1 [.int 0, .int h0_logs, .ref h0_low, .ref h0_high, .ref h0_about, .ref h0_times, .ref h0_from, .ref h0_till, .ref h0_marked], ai T h0_marked 100 f_h0_marked, ob g0 5 [.int 0, .ref g0_hand, .ref g0_sort, .ref g0_arg, .ref g0_value, .ref g0_place, .ref g0_ahead, .ref g0_bolts, .ref g0_cells, .int g0_stuck, .int g0_joined, .ref g0_done, .ref g0_entered, .ref g0_openCount, .ref g0_openGate]] sz)) (QI (X := Int32) D (fun rr xx => rr = 0) (fun xx => [ob h0 1 [.int 0, .int xx, .ref h0_low, .ref h0_high, .ref h0_about, .ref h0_times, .ref h0_from, .ref h0_till, .ref h0_marked], ai T h0_marked 100 (cst 0), ob g0 5 [.int 0, .ref g0_hand, .ref g0_sort, .ref g0_arg, .ref g0_value, .ref g0_place, .ref g0_ahead, .ref g0_bolts, .ref g0_cells, .int g0_stuck, .int g0_joined, .ref g0_done, .ref g0_entered, .ref g0_openCount, .ref g0_openGate]]) (va_A [ob h0 1 [.int 0, .int h0_logs, .ref h0_low, .ref h0_high, .ref h0_about, .ref h0_times, .ref h0_from, .ref h0_till, .ref h0_marked], ai T h0_marked 100 f_h0_marked, ob g0 5 [.int 0, .ref g0_hand, .ref g0_sort, .ref g0_arg, .ref g0_value, .ref g0_place, .ref g0_ahead, .ref g0_bolts, .ref g0_cells, .int g0_stuck, .int g0_joined, .ref g0_done, .ref g0_entered, .ref g0_openCount, .ref g0_openGate]] sz)) 0 0 (va_A [ob h0 1 [.int 0, .int h0_logs, .ref h0_low, .ref h0_high, .ref h0_about, .ref h0_times, .ref h0_from, .ref h0_till, .ref h0_marked], ai T h0_marked 100 f_h0_marked, ob g0 5 [.int 0, .ref g0_hand, .ref g0_sort, .ref g0_arg, .ref g0_value, .ref g0_place, .ref g0_ahead, .ref g0_bolts, .ref g0_cells, .int g0_stuck, .int g0_joined, .ref g0_done, .ref g0_entered, .ref g0_openCount, .ref g0_openGate]] sz) := by
  refine mk_met (Qc := QI (X := Int32) D (fun rr xx => rr = 0) (fun xx => [ob h0 1 [.int 0, .int xx, .ref h0_low, .ref h0_high, .ref h0_about, .ref h0_times, .ref h0_from, .ref h0_till, .ref h0_marked], ai T h0_marked 100 (cst 0), ob g0 5 [.int 0, .ref g0_hand, .ref g0_sort, .ref g0_arg, .ref g0_value, .ref g0_place, .ref g0_ahead, .ref g0_bolts, .ref g0_cells, .int g0_stuck, .int g0_joined, .ref g0_done, .ref g0_entered, .ref g0_openCount, .ref g0_openGate]])) (lv := [(0, .ref h0), (1, .ref g0), (2, .ref c0)]) (by decide +kernel) (Nat.le_of_ble_eq_true rfl) rfl (fun p e s m below meth c A ls H locs hx hb hml hr hlocks hown hin hg hN hA hP hK hD hS hl => ?_)
  refine lv_aload_n hx hb dX1_enter_0 rfl (lv_at hl 0 rfl) ?_
  refine va_get (D := D) (ci := 1) (v := .ref h0_marked) (C := RX1) (T := TX1) (N := 9) hx hb hg inX1 hown hK hP 0 rfl rfl 8 (by decide) (hg _ kf_X1_30) (fun _ h9 => h9) rfl dX1_enter_1 ?_
  refine lv_iconst (v := 0) hx hb dX1_enter_4 (by decide) ?_
  refine cont_v (Wr := [ob h0 1 [.int 0, .int h0_logs, .ref h0_low, .ref h0_high, .ref h0_about, .ref h0_times, .ref h0_from, .ref h0_till, .ref h0_marked], ob g0 5 [.int 0, .ref g0_hand, .ref g0_sort, .ref g0_arg, .ref g0_value, .ref g0_place, .ref g0_ahead, .ref g0_bolts, .ref g0_cells, .int g0_stuck, .int g0_joined, .ref g0_done, .ref g0_entered, .ref g0_openCount, .ref g0_openGate]]) [1] [0, 2] (run_S (n := 2) (As := [.ref h0_marked, .int 0]) (rest := []) hx hb hml hown hg hN (c_fill l D T h0_marked 100 f_h0_marked 0 (by decide)  H.size) km_X1_46 kt_J7_fill_53178 kz_J7 kd_J7_fill_53178 rfl rfl (by decide +kernel) ⟨Nat.le_of_ble_eq_true rfl, Nat.le_of_ble_eq_true rfl⟩ hK (P_sub hP [1] rfl) (hD.sub [1] (by decide) rfl) rfl hl.1 rfl (Nat.le_of_ble_eq_true rfl) dX1_enter_5 ⟨Nat.le_of_ble_eq_true rfl, Nat.le_of_ble_eq_true rfl⟩) hP hD hS hA rfl rfl (by decide) (by decide) (fun xx H locs hq hP hD hS => ?_)
  have hP : va_P D vwCl [ob h0 1 [.int 0, .int h0_logs, .ref h0_low, .ref h0_high, .ref h0_about, .ref h0_times, .ref h0_from, .ref h0_till, .ref h0_marked], ob g0 5 [.int 0, .ref g0_hand, .ref g0_sort, .ref g0_arg, .ref g0_value, .ref g0_place, .ref g0_ahead, .ref g0_bolts, .ref g0_cells, .int g0_stuck, .int g0_joined, .ref g0_done, .ref g0_entered, .ref g0_openCount, .ref g0_openGate], ai T h0_marked 100 (cst 0)] H := hP
  have hD : va_D A [ob h0 1 [.int 0, .int h0_logs, .ref h0_low, .ref h0_high, .ref h0_about, .ref h0_times, .ref h0_from, .ref h0_till, .ref h0_marked], ob g0 5 [.int 0, .ref g0_hand, .ref g0_sort, .ref g0_arg, .ref g0_value, .ref g0_place, .ref g0_ahead, .ref g0_bolts, .ref g0_cells, .int g0_stuck, .int g0_joined, .ref g0_done, .ref g0_entered, .ref g0_openCount, .ref g0_openGate], ai T h0_marked 100 (cst 0)] := hD
  refine lv_aload_n hx hb dX1_enter_8 rfl (lv_at hl 0 rfl) ?_
  refine va_get (D := D) (ci := 1) (v := .int 0) (C := RX1) (T := TX1) (N := 9) hx hb hg inX1 hown hK hP 0 rfl rfl 0 (by decide) (hg _ kf_X1_33) (fun _ h9 => h9) rfl dX1_enter_9 ?_
  refine lv_istore_n (lv' := [(3, .int 0), (0, .ref h0), (1, .ref g0), (2, .ref c0)]) hx hb dX1_enter_12 rfl hl (by decide) rfl (fun ls hl => ?_)
  refine lv_iconst (v := 0) hx hb dX1_enter_13 (by decide) ?_
  refine lv_istore (lv' := [(4, .int 0), (3, .int 0), (0, .ref h0), (1, .ref g0), (2, .ref c0)]) hx hb dX1_enter_14 hl (by decide) rfl (fun ls hl => ?_)
  refine lv_iload hx hb dX1_enter_16 (lv_at hl 0 rfl) ?_
  refine lv_aload_n hx hb dX1_enter_18 rfl (lv_at hl 3 rfl) ?_
  refine va_get (D := D) (ci := 5) (v := .int 0) (C := RX5) (T := TX5) (N := 15) hx hb hg inX5 hown hK hP 1 rfl rfl 0 (by decide) (hg _ kf_X1_52) (fun _ h9 => h9) rfl dX1_enter_19 ?_
  refine lv_icmp_ge (tgt := 90) hx hb dX1_enter_22 (by decide) (fun _ => ?_) (fun hc => absurd (by decide) hc)
  refine lv_iload_n hx hb dX1_enter_90 rfl (lv_at hl 1 rfl) ?_
  refine lv_aload_n hx hb dX1_enter_91 rfl (lv_at hl 2 rfl) ?_
  refine va_get (D := D) (ci := 1) (v := .int 0) (C := RX1) (T := TX1) (N := 9) hx hb hg inX1 hown hK hP 0 rfl rfl 0 (by decide) (hg _ kf_X1_33) (fun _ h9 => h9) rfl dX1_enter_92 ?_
  refine lv_isub hx hb dX1_enter_95 ?_
  refine z_top (v := 0) (by decide) ?_
  refine lv_istore (lv' := [(4, .int 0), (3, .int 0), (0, .ref h0), (1, .ref g0), (2, .ref c0)]) hx hb dX1_enter_96 hl (by decide) rfl (fun ls hl => ?_)
  refine lv_aload_n hx hb dX1_enter_98 rfl (lv_at hl 2 rfl) ?_
  refine lv_iload_n hx hb dX1_enter_99 rfl (lv_at hl 1 rfl) ?_
  refine va_put (D := D) (ci := 1) (v := .int 0) (ty := .int) (C := RX1) (T := TX1) (N := 9) hx hb hg inX1 tyX1 tyX1_ok nmX1 hown hK hP hD hS 0 rfl rfl 0 (by decide) (hg _ kf_X1_33) (fun _ h9 => h9) rfl (by decide +kernel) rfl rfl (Nat.le_of_ble_eq_true rfl) dX1_enter_100 (fun H locs hP hD hS => ?_)
  have hP : va_P D vwCl [ob h0 1 [.int 0, .int h0_logs, .ref h0_low, .ref h0_high, .ref h0_about, .ref h0_times, .ref h0_from, .ref h0_till, .ref h0_marked], ob g0 5 [.int 0, .ref g0_hand, .ref g0_sort, .ref g0_arg, .ref g0_value, .ref g0_place, .ref g0_ahead, .ref g0_bolts, .ref g0_cells, .int g0_stuck, .int g0_joined, .ref g0_done, .ref g0_entered, .ref g0_openCount, .ref g0_openGate], ai T h0_marked 100 (cst 0)] H := hP
  have hD : va_D A [ob h0 1 [.int 0, .int h0_logs, .ref h0_low, .ref h0_high, .ref h0_about, .ref h0_times, .ref h0_from, .ref h0_till, .ref h0_marked], ob g0 5 [.int 0, .ref g0_hand, .ref g0_sort, .ref g0_arg, .ref g0_value, .ref g0_place, .ref g0_ahead, .ref g0_bolts, .ref g0_cells, .int g0_stuck, .int g0_joined, .ref g0_done, .ref g0_entered, .ref g0_openCount, .ref g0_openGate], ai T h0_marked 100 (cst 0)] := hD
  refine lv_aload_n hx hb dX1_enter_103 rfl (lv_at hl 2 rfl) ?_
  refine lv_aload_n hx hb dX1_enter_104 rfl (lv_at hl 2 rfl) ?_
  refine va_get (D := D) (ci := 1) (v := .int 0) (C := RX1) (T := TX1) (N := 9) hx hb hg inX1 hown hK hP 0 rfl rfl 0 (by decide) (hg _ kf_X1_33) (fun _ h9 => h9) rfl dX1_enter_105 ?_
  refine lv_iload hx hb dX1_enter_108 (lv_at hl 0 rfl) ?_
  refine lv_isub hx hb dX1_enter_110 ?_
  refine z_top (v := 0) (by decide) ?_
  refine cont_v (Wr := [ob g0 5 [.int 0, .ref g0_hand, .ref g0_sort, .ref g0_arg, .ref g0_value, .ref g0_place, .ref g0_ahead, .ref g0_bolts, .ref g0_cells, .int g0_stuck, .int g0_joined, .ref g0_done, .ref g0_entered, .ref g0_openCount, .ref g0_openGate], ai T h0_marked 100 (cst 0)]) [0] [1, 2] (run_V (n := 1) (As := [.int 0]) (rest := []) 1 0 hx hb hml hown hg hN (c_X1_countLog l D T h0 h0_logs h0_low h0_high h0_about h0_times h0_from h0_till h0_marked  H.size) km_X1_71 ki_X1_countLog ks_X1_countLog kz_X1 kd_X1_countLog rfl rfl (by decide +kernel) ⟨Nat.le_of_ble_eq_true rfl, Nat.le_of_ble_eq_true rfl⟩ hK (P_sub hP [0] rfl) (hD.sub [0] (by decide) rfl) rfl rfl rfl hl.1 rfl (Nat.le_of_ble_eq_true rfl) dX1_enter_111 ⟨Nat.le_of_ble_eq_true rfl, Nat.le_of_ble_eq_true rfl⟩) hP hD hS hA rfl rfl (by decide) (by decide) (fun v1 H locs hq hP hD hS => ?_)
  have hP : va_P D vwCl [ob g0 5 [.int 0, .ref g0_hand, .ref g0_sort, .ref g0_arg, .ref g0_value, .ref g0_place, .ref g0_ahead, .ref g0_bolts, .ref g0_cells, .int g0_stuck, .int g0_joined, .ref g0_done, .ref g0_entered, .ref g0_openCount, .ref g0_openGate], ai T h0_marked 100 (cst 0), ob h0 1 [.int 0, .int v1, .ref h0_low, .ref h0_high, .ref h0_about, .ref h0_times, .ref h0_from, .ref h0_till, .ref h0_marked]] H := hP
  have hD : va_D A [ob g0 5 [.int 0, .ref g0_hand, .ref g0_sort, .ref g0_arg, .ref g0_value, .ref g0_place, .ref g0_ahead, .ref g0_bolts, .ref g0_cells, .int g0_stuck, .int g0_joined, .ref g0_done, .ref g0_entered, .ref g0_openCount, .ref g0_openGate], ai T h0_marked 100 (cst 0), ob h0 1 [.int 0, .int v1, .ref h0_low, .ref h0_high, .ref h0_about, .ref h0_times, .ref h0_from, .ref h0_till, .ref h0_marked]] := hD
  refine lv_iload hx hb dX1_enter_114 (lv_at hl 0 rfl) ?_
  exact ret_i (X := Int32) (v1) hx hb hr hlocks hP hD hS [2, 1, 0] (by decide) rfl rfl rfl dX1_enter_116
