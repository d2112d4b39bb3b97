theorem dJ7_fill_53178_0 : decode cJ7_fill_53178 0 = .ok (.iconst 0, 1) := by decide +kernel
theorem dJ7_fill_53178_1 : decode cJ7_fill_53178 1 = .ok (.istore_n 2, 1) := by decide +kernel
theorem dJ7_fill_53178_2 : decode cJ7_fill_53178 2 = .ok (.aload_n 0, 1) := by decide +kernel
theorem dJ7_fill_53178_3 : decode cJ7_fill_53178 3 = .ok (.arraylength, 1) := by decide +kernel
theorem dJ7_fill_53178_4 : decode cJ7_fill_53178 4 = .ok (.istore_n 3, 1) := by decide +kernel
theorem dJ7_fill_53178_5 : decode cJ7_fill_53178 5 = .ok (.iload_n 2, 1) := by decide +kernel
theorem dJ7_fill_53178_6 : decode cJ7_fill_53178 6 = .ok (.iload_n 3, 1) := by decide +kernel
theorem dJ7_fill_53178_7 : decode cJ7_fill_53178 7 = .ok (.if_icmp .ge 13, 3) := by decide +kernel
theorem dJ7_fill_53178_10 : decode cJ7_fill_53178 10 = .ok (.aload_n 0, 1) := by decide +kernel
theorem dJ7_fill_53178_11 : decode cJ7_fill_53178 11 = .ok (.iload_n 2, 1) := by decide +kernel
theorem dJ7_fill_53178_12 : decode cJ7_fill_53178 12 = .ok (.iload_n 1, 1) := by decide +kernel
theorem dJ7_fill_53178_13 : decode cJ7_fill_53178 13 = .ok (.iastore, 1) := by decide +kernel
theorem dJ7_fill_53178_14 : decode cJ7_fill_53178 14 = .ok (.iinc 2 1, 3) := by decide +kernel
theorem dJ7_fill_53178_17 : decode cJ7_fill_53178 17 = .ok (.goto (-12), 3) := by decide +kernel
theorem dJ7_fill_53178_20 : decode cJ7_fill_53178 20 = .ok (.return_, 1) := by decide +kernel
set_option maxHeartbeats 4000000 in
set_option maxRecDepth 100000 in
theorem c_fill (l : Launch) (D : va_G) (T : Nat → ClassId) (a : Nat) (n : Nat) (f : Nat → Int32) (v : Int32) (hn : n < 2147483648) (sz : Nat) : Met l yJ7_fill_53178 (WS (.code yJ7_fill_53178 cJ7_fill_53178 4 none)) ({ frames := 2, cells := 0, slots := 0, locals := 64 } : Room) (va_Pc [.ref a, .int v] (PW D (TY T) [ai T a n f] sz)) (QV (X := Unit) D (fun _ => True) (fun _ => [ai T a n (cst v)]) (va_A [ai T a n f] sz)) 0 0 (va_A [ai T a n f] sz) := by
  refine mk_met (Qc := QV (X := Unit) D (fun _ => True) (fun _ => [ai T a n (cst v)])) (lv := [(0, .ref a), (1, .int v)]) (by decide +kernel) (Nat.le_of_ble_eq_true rfl) rfl (fun p e s m below meth c A ls H locs hx hb hml hr hlocks hown hin hg hN hA hP hK hD hS hl => ?_)
  refine lv_iconst (v := 0) hx hb dJ7_fill_53178_0 (by decide) ?_
  refine lv_istore_n (lv' := [(2, .int 0), (0, .ref a), (1, .int v)]) hx hb dJ7_fill_53178_1 rfl hl (by decide) rfl (fun ls hl => ?_)
  refine lv_aload_n hx hb dJ7_fill_53178_2 rfl (lv_at hl 1 rfl) ?_
  refine va_alen (v := nI n) hx hb hK hP 0 0 rfl rfl rfl dJ7_fill_53178_3 ?_
  refine lv_istore_n (lv' := [(3, .int (nI n)), (2, .int 0), (0, .ref a), (1, .int v)]) hx hb dJ7_fill_53178_4 rfl hl (by decide) rfl (fun ls hl => ?_)
  refine loopW (σ := Unit) (Wf := fun H locs ls => W p l e ({ frames := 2, cells := 0, slots := 0, locals := 64 } : Room) s m ([.ref a, .int v] : List Value).toArray below meth c H locs 0 0 (MQ below ((QV (X := Unit) D (fun _ => True) (fun _ => [ai T a n (cst v)])) A) ([.ref a, .int v] : List Value).toArray s 0 0 A) (F0 m 5 ls [])) H locs ls (n) (fun ii xx H locs ls => va_P D vwCl [ai T a n (upr (f) (0) (ii) v)] H ∧ va_D A [ai T a n (upr (f) (0) (ii) v)] ∧ va_S A s.heap H locs ∧ lv_has ls 4 [(3, .int (nI n)), (2, .int (nI ii)), (0, .ref a), (1, .int v)]) ?_ ?_ (()) ⟨(by simp only [upr_0]; exact hP), (by simp only [upr_0]; exact hD), hS, lv_sub hl [0, 1, 2, 3] rfl⟩
  · intro xx H locs ls hI
    obtain ⟨hP, hD, hS, hl⟩ := hI
    have hP : va_P D vwCl [ai T a n (upr (f) (0) (n) v)] H := hP
    have hD : va_D A [ai T a n (upr (f) (0) (n) v)] := hD
    have hl : lv_has ls 4 [(3, .int (nI n)), (2, .int (nI n)), (0, .ref a), (1, .int v)] := hl
    have hP : va_P D vwCl [ai T a n (cst v)] H := P_cong hP 0 rfl rfl (fun j hj => upr_all hj)
    have hD : va_D A [ai T a n (cst v)] := D_cong hD 0 rfl rfl
    refine lv_iload_n hx hb dJ7_fill_53178_5 rfl (lv_at hl 1 rfl) ?_
    refine lv_iload_n hx hb dJ7_fill_53178_6 rfl (lv_at hl 0 rfl) ?_
    refine lv_icmp_ge (tgt := 20) hx hb dJ7_fill_53178_7 (by decide) (fun _ => ?_) (fun hc => absurd (nI_le (a := n) (b := n) (by omega) (by omega)) hc)
    exact ret_v (X := Unit) (()) hx hb hr hlocks hP hD hS [0] (by decide) rfl trivial dJ7_fill_53178_20
  · intro i1 xx hi_i1 ih H locs ls hI
    obtain ⟨hP, hD, hS, hl⟩ := hI
    have hP : va_P D vwCl [ai T a n (upr (f) (0) (i1) v)] H := hP
    have hD : va_D A [ai T a n (upr (f) (0) (i1) v)] := hD
    have hl : lv_has ls 4 [(3, .int (nI n)), (2, .int (nI i1)), (0, .ref a), (1, .int v)] := hl
    refine lv_iload_n hx hb dJ7_fill_53178_5 rfl (lv_at hl 1 rfl) ?_
    refine lv_iload_n hx hb dJ7_fill_53178_6 rfl (lv_at hl 0 rfl) ?_
    refine lv_icmp_ge (tgt := 20) hx hb dJ7_fill_53178_7 (by decide) (fun hc => absurd hc (nI_ge (a := i1) (b := n) (by omega) (by omega))) (fun _ => ?_)
    refine lv_aload_n hx hb dJ7_fill_53178_10 rfl (lv_at hl 2 rfl) ?_
    refine lv_iload_n hx hb dJ7_fill_53178_11 rfl (lv_at hl 1 rfl) ?_
    refine lv_iload_n hx hb dJ7_fill_53178_12 rfl (lv_at hl 3 rfl) ?_
    refine z_iast (g := upr (f) (0) (i1 + 1) v) (j := i1) hx hb hK hP hD hS 0 0 rfl rfl (vp_in_nI (show i1 < n by omega) (by omega)) (nI_clamp (by omega)) (upr_s0 _ _ _) dJ7_fill_53178_13 (fun H locs hP hD hS => ?_)
    have hP : va_P D vwCl [ai T a n (upr (f) (0) (i1 + 1) v)] H := hP
    have hD : va_D A [ai T a n (upr (f) (0) (i1 + 1) v)] := hD
    refine lv_iinc (v := nI (i1 + 1)) (lv' := [(2, .int (nI (i1 + 1))), (3, .int (nI n)), (0, .ref a), (1, .int v)]) hx hb dJ7_fill_53178_14 hl (k := 1) rfl (nI_1 (i1)) (by decide) rfl (fun ls hl => ?_)
    refine lv_goto (tgt := 5) hx hb dJ7_fill_53178_17 (by decide) ?_
    exact ih (()) _ _ _ ⟨hP, hD, hS, lv_sub hl [1, 0, 2, 3] rfl⟩
theorem dX9_init_0 : decode cX9_init 0 = .ok (.aload_n 0, 1) := by decide +kernel
theorem dX9_init_1 : decode cX9_init 1 = .ok (.invokespecial 3, 3) := by decide +kernel
theorem dX9_init_4 : decode cX9_init 4 = .ok (.aload_n 0, 1) := by decide +kernel
theorem dX9_init_5 : decode cX9_init 5 = .ok (.sipush 360, 3) := by decide +kernel
theorem dX9_init_8 : decode cX9_init 8 = .ok (.newarray .int, 2) := by decide +kernel
theorem dX9_init_10 : decode cX9_init 10 = .ok (.putfield 9, 3) := by decide +kernel
theorem dX9_init_13 : decode cX9_init 13 = .ok (.aload_n 0, 1) := by decide +kernel
theorem dX9_init_14 : decode cX9_init 14 = .ok (.sipush 360, 3) := by decide +kernel
theorem dX9_init_17 : decode cX9_init 17 = .ok (.newarray .int, 2) := by decide +kernel
theorem dX9_init_19 : decode cX9_init 19 = .ok (.putfield 15, 3) := by decide +kernel
theorem dX9_init_22 : decode cX9_init 22 = .ok (.aload_n 0, 1) := by decide +kernel
theorem dX9_init_23 : decode cX9_init 23 = .ok (.sipush 360, 3) := by decide +kernel
theorem dX9_init_26 : decode cX9_init 26 = .ok (.newarray .int, 2) := by decide +kernel
theorem dX9_init_28 : decode cX9_init 28 = .ok (.putfield 18, 3) := by decide +kernel
theorem dX9_init_31 : decode cX9_init 31 = .ok (.aload_n 0, 1) := by decide +kernel
theorem dX9_init_32 : decode cX9_init 32 = .ok (.sipush 360, 3) := by decide +kernel
theorem dX9_init_35 : decode cX9_init 35 = .ok (.newarray .int, 2) := by decide +kernel
theorem dX9_init_37 : decode cX9_init 37 = .ok (.putfield 21, 3) := by decide +kernel
theorem dX9_init_40 : decode cX9_init 40 = .ok (.aload_n 0, 1) := by decide +kernel
theorem dX9_init_41 : decode cX9_init 41 = .ok (.sipush 360, 3) := by decide +kernel
theorem dX9_init_44 : decode cX9_init 44 = .ok (.newarray .int, 2) := by decide +kernel
theorem dX9_init_46 : decode cX9_init 46 = .ok (.putfield 24, 3) := by decide +kernel
theorem dX9_init_49 : decode cX9_init 49 = .ok (.aload_n 0, 1) := by decide +kernel
theorem dX9_init_50 : decode cX9_init 50 = .ok (.sipush 360, 3) := by decide +kernel
theorem dX9_init_53 : decode cX9_init 53 = .ok (.newarray .int, 2) := by decide +kernel
theorem dX9_init_55 : decode cX9_init 55 = .ok (.putfield 27, 3) := by decide +kernel
theorem dX9_init_58 : decode cX9_init 58 = .ok (.aload_n 0, 1) := by decide +kernel
theorem dX9_init_59 : decode cX9_init 59 = .ok (.bipush 6, 2) := by decide +kernel
theorem dX9_init_61 : decode cX9_init 61 = .ok (.newarray .int, 2) := by decide +kernel
theorem dX9_init_63 : decode cX9_init 63 = .ok (.putfield 30, 3) := by decide +kernel
theorem dX9_init_66 : decode cX9_init 66 = .ok (.return_, 1) := by decide +kernel
set_option maxHeartbeats 4000000 in
set_option maxRecDepth 100000 in
theorem c_X9_init (l : Launch) (D : va_G) (T : Nat → ClassId) (h0 : Nat) (sz : Nat) : Met l yX9_init (WS (.code yX9_init cX9_init 1 none)) ({ frames := 2, cells := 7, slots := 2166, locals := 64 } : Room) (va_Pc [.ref h0] (PW D (TY T) [ob h0 9 [.null, .null, .null, .null, .null, .null, .null, .int 0]] sz)) (QV (X := Nat × Nat × Nat × Nat × Nat × Nat × Nat) D (fun _ => True) (fun xx => [ob h0 9 [.ref (xx.1), .ref (xx.2.1), .ref (xx.2.2.1), .ref (xx.2.2.2.1), .ref (xx.2.2.2.2.1), .ref (xx.2.2.2.2.2.1), .ref (xx.2.2.2.2.2.2), .int 0], ai T (xx.1) 360 (cst 0), ai T (xx.2.1) 360 (cst 0), ai T (xx.2.2.1) 360 (cst 0), ai T (xx.2.2.2.1) 360 (cst 0), ai T (xx.2.2.2.2.1) 360 (cst 0), ai T (xx.2.2.2.2.2.1) 360 (cst 0), ai T (xx.2.2.2.2.2.2) 6 (cst 0)]) (va_A [ob h0 9 [.null, .null, .null, .null, .null, .null, .null, .int 0]] sz)) 7 2166 (va_A [ob h0 9 [.null, .null, .null, .null, .null, .null, .null, .int 0]] sz) := by
  refine mk_met (Qc := QV (X := Nat × Nat × Nat × Nat × Nat × Nat × Nat) D (fun _ => True) (fun xx => [ob h0 9 [.ref (xx.1), .ref (xx.2.1), .ref (xx.2.2.1), .ref (xx.2.2.2.1), .ref (xx.2.2.2.2.1), .ref (xx.2.2.2.2.2.1), .ref (xx.2.2.2.2.2.2), .int 0], ai T (xx.1) 360 (cst 0), ai T (xx.2.1) 360 (cst 0), ai T (xx.2.2.1) 360 (cst 0), ai T (xx.2.2.2.1) 360 (cst 0), ai T (xx.2.2.2.2.1) 360 (cst 0), ai T (xx.2.2.2.2.2.1) 360 (cst 0), ai T (xx.2.2.2.2.2.2) 6 (cst 0)])) (lv := [(0, .ref h0)]) (by decide +kernel) (Nat.le_of_ble_eq_true rfl) rfl (fun p e s m below meth c A ls H locs hx hb hml hr hlocks hown hin hg hN hA hP hK hD hS hl => ?_)
  refine lv_aload_n hx hb dX9_init_0 rfl (lv_at hl 0 rfl) ?_
  refine W.objInit hx hb hown (hg _ km_X9_3) (hg _ ki_objectInit) (hg _ kd_objectInit) rfl (by rw [hml]; exact hl.1) rfl dX9_init_1 (Nat.le_of_ble_eq_true rfl) (Nat.le_of_ble_eq_true rfl) ?_
  refine W.eq (g2 := F0 m 4 ls []) rfl ?_
  refine lv_aload_n hx hb dX9_init_4 rfl (lv_at hl 0 rfl) ?_
  refine lv_sipush (v := 360) hx hb dX9_init_5 (by decide) ?_
  refine z_newa (atype := .int) (ty := .int) (N' := 360) (a0 := (360, (.inl (cst 0)))) hx hb (hg _ ka_int) rfl rfl hK hP hD hS hA 0 rfl (fun _ => rfl) (by decide) (by decide) (Nat.le_of_ble_eq_true rfl) (Nat.le_of_ble_eq_true rfl) (Nat.le_of_ble_eq_true rfl) dX9_init_8 (fun q1 H hP hD hS => ?_)
  have hP : va_P D vwCl [ob h0 9 [.null, .null, .null, .null, .null, .null, .null, .int 0], ai T q1 360 (cst 0)] H := hP
  have hD : va_D A [ob h0 9 [.null, .null, .null, .null, .null, .null, .null, .int 0], ai T q1 360 (cst 0)] := hD
  refine W.widen (k := 1) (n := 360) (Nat.le_of_ble_eq_true rfl) (Nat.le_of_ble_eq_true rfl) ?_
  refine va_putF (D := D) (ci := 9) (v := .ref q1) (ty := (.array .int)) (C := RX9) (T := TX9) (N := 8) hx hb hg inX9 tyX9 tyX9_ok nmX9 hown hK hP hD hS 0 rfl rfl 0 (by decide) (hg _ kf_X9_9) (fun _ h9 => h9) rfl hin rfl (by decide +kernel) rfl rfl (Nat.le_of_ble_eq_true rfl) dX9_init_10 (fun H locs hP hD hS => ?_)
  have hP : va_P D vwCl [ob h0 9 [.ref q1, .null, .null, .null, .null, .null, .null, .int 0], ai T q1 360 (cst 0)] H := hP
  have hD : va_D A [ob h0 9 [.ref q1, .null, .null, .null, .null, .null, .null, .int 0], ai T q1 360 (cst 0)] := hD
  refine lv_aload_n hx hb dX9_init_13 rfl (lv_at hl 0 rfl) ?_
  refine lv_sipush (v := 360) hx hb dX9_init_14 (by decide) ?_
  refine z_newa (atype := .int) (ty := .int) (N' := 360) (a0 := (360, (.inl (cst 0)))) hx hb (hg _ ka_int) rfl rfl hK hP hD hS hA 0 rfl (fun _ => rfl) (by decide) (by decide) (Nat.le_of_ble_eq_true rfl) (Nat.le_of_ble_eq_true rfl) (Nat.le_of_ble_eq_true rfl) dX9_init_17 (fun q2 H hP hD hS => ?_)
  have hP : va_P D vwCl [ob h0 9 [.ref q1, .null, .null, .null, .null, .null, .null, .int 0], ai T q1 360 (cst 0), ai T q2 360 (cst 0)] H := hP
  have hD : va_D A [ob h0 9 [.ref q1, .null, .null, .null, .null, .null, .null, .int 0], ai T q1 360 (cst 0), ai T q2 360 (cst 0)] := hD
  refine W.widen (k := 2) (n := 720) (Nat.le_of_ble_eq_true rfl) (Nat.le_of_ble_eq_true rfl) ?_
  refine va_putF (D := D) (ci := 9) (v := .ref q2) (ty := (.array .int)) (C := RX9) (T := TX9) (N := 8) hx hb hg inX9 tyX9 tyX9_ok nmX9 hown hK hP hD hS 0 rfl rfl 1 (by decide) (hg _ kf_X9_15) (fun _ h9 => h9) rfl hin rfl (by decide +kernel) rfl rfl (Nat.le_of_ble_eq_true rfl) dX9_init_19 (fun H locs hP hD hS => ?_)
  have hP : va_P D vwCl [ob h0 9 [.ref q1, .ref q2, .null, .null, .null, .null, .null, .int 0], ai T q1 360 (cst 0), ai T q2 360 (cst 0)] H := hP
  have hD : va_D A [ob h0 9 [.ref q1, .ref q2, .null, .null, .null, .null, .null, .int 0], ai T q1 360 (cst 0), ai T q2 360 (cst 0)] := hD
  refine lv_aload_n hx hb dX9_init_22 rfl (lv_at hl 0 rfl) ?_
  refine lv_sipush (v := 360) hx hb dX9_init_23 (by decide) ?_
  refine z_newa (atype := .int) (ty := .int) (N' := 360) (a0 := (360, (.inl (cst 0)))) hx hb (hg _ ka_int) rfl rfl hK hP hD hS hA 0 rfl (fun _ => rfl) (by decide) (by decide) (Nat.le_of_ble_eq_true rfl) (Nat.le_of_ble_eq_true rfl) (Nat.le_of_ble_eq_true rfl) dX9_init_26 (fun q3 H hP hD hS => ?_)
  have hP : va_P D vwCl [ob h0 9 [.ref q1, .ref q2, .null, .null, .null, .null, .null, .int 0], ai T q1 360 (cst 0), ai T q2 360 (cst 0), ai T q3 360 (cst 0)] H := hP
  have hD : va_D A [ob h0 9 [.ref q1, .ref q2, .null, .null, .null, .null, .null, .int 0], ai T q1 360 (cst 0), ai T q2 360 (cst 0), ai T q3 360 (cst 0)] := hD
  refine W.widen (k := 3) (n := 1080) (Nat.le_of_ble_eq_true rfl) (Nat.le_of_ble_eq_true rfl) ?_
  refine va_putF (D := D) (ci := 9) (v := .ref q3) (ty := (.array .int)) (C := RX9) (T := TX9) (N := 8) hx hb hg inX9 tyX9 tyX9_ok nmX9 hown hK hP hD hS 0 rfl rfl 2 (by decide) (hg _ kf_X9_18) (fun _ h9 => h9) rfl hin rfl (by decide +kernel) rfl rfl (Nat.le_of_ble_eq_true rfl) dX9_init_28 (fun H locs hP hD hS => ?_)
  have hP : va_P D vwCl [ob h0 9 [.ref q1, .ref q2, .ref q3, .null, .null, .null, .null, .int 0], ai T q1 360 (cst 0), ai T q2 360 (cst 0), ai T q3 360 (cst 0)] H := hP
  have hD : va_D A [ob h0 9 [.ref q1, .ref q2, .ref q3, .null, .null, .null, .null, .int 0], ai T q1 360 (cst 0), ai T q2 360 (cst 0), ai T q3 360 (cst 0)] := hD
  refine lv_aload_n hx hb dX9_init_31 rfl (lv_at hl 0 rfl) ?_
  refine lv_sipush (v := 360) hx hb dX9_init_32 (by decide) ?_
  refine z_newa (atype := .int) (ty := .int) (N' := 360) (a0 := (360, (.inl (cst 0)))) hx hb (hg _ ka_int) rfl rfl hK hP hD hS hA 0 rfl (fun _ => rfl) (by decide) (by decide) (Nat.le_of_ble_eq_true rfl) (Nat.le_of_ble_eq_true rfl) (Nat.le_of_ble_eq_true rfl) dX9_init_35 (fun q4 H hP hD hS => ?_)
  have hP : va_P D vwCl [ob h0 9 [.ref q1, .ref q2, .ref q3, .null, .null, .null, .null, .int 0], ai T q1 360 (cst 0), ai T q2 360 (cst 0), ai T q3 360 (cst 0), ai T q4 360 (cst 0)] H := hP
  have hD : va_D A [ob h0 9 [.ref q1, .ref q2, .ref q3, .null, .null, .null, .null, .int 0], ai T q1 360 (cst 0), ai T q2 360 (cst 0), ai T q3 360 (cst 0), ai T q4 360 (cst 0)] := hD
  refine W.widen (k := 4) (n := 1440) (Nat.le_of_ble_eq_true rfl) (Nat.le_of_ble_eq_true rfl) ?_
  refine va_putF (D := D) (ci := 9) (v := .ref q4) (ty := (.array .int)) (C := RX9) (T := TX9) (N := 8) hx hb hg inX9 tyX9 tyX9_ok nmX9 hown hK hP hD hS 0 rfl rfl 3 (by decide) (hg _ kf_X9_21) (fun _ h9 => h9) rfl hin rfl (by decide +kernel) rfl rfl (Nat.le_of_ble_eq_true rfl) dX9_init_37 (fun H locs hP hD hS => ?_)
  have hP : va_P D vwCl [ob h0 9 [.ref q1, .ref q2, .ref q3, .ref q4, .null, .null, .null, .int 0], ai T q1 360 (cst 0), ai T q2 360 (cst 0), ai T q3 360 (cst 0), ai T q4 360 (cst 0)] H := hP
  have hD : va_D A [ob h0 9 [.ref q1, .ref q2, .ref q3, .ref q4, .null, .null, .null, .int 0], ai T q1 360 (cst 0), ai T q2 360 (cst 0), ai T q3 360 (cst 0), ai T q4 360 (cst 0)] := hD
  refine lv_aload_n hx hb dX9_init_40 rfl (lv_at hl 0 rfl) ?_
  refine lv_sipush (v := 360) hx hb dX9_init_41 (by decide) ?_
  refine z_newa (atype := .int) (ty := .int) (N' := 360) (a0 := (360, (.inl (cst 0)))) hx hb (hg _ ka_int) rfl rfl hK hP hD hS hA 0 rfl (fun _ => rfl) (by decide) (by decide) (Nat.le_of_ble_eq_true rfl) (Nat.le_of_ble_eq_true rfl) (Nat.le_of_ble_eq_true rfl) dX9_init_44 (fun q5 H hP hD hS => ?_)
  have hP : va_P D vwCl [ob h0 9 [.ref q1, .ref q2, .ref q3, .ref q4, .null, .null, .null, .int 0], ai T q1 360 (cst 0), ai T q2 360 (cst 0), ai T q3 360 (cst 0), ai T q4 360 (cst 0), ai T q5 360 (cst 0)] H := hP
  have hD : va_D A [ob h0 9 [.ref q1, .ref q2, .ref q3, .ref q4, .null, .null, .null, .int 0], ai T q1 360 (cst 0), ai T q2 360 (cst 0), ai T q3 360 (cst 0), ai T q4 360 (cst 0), ai T q5 360 (cst 0)] := hD
  refine W.widen (k := 5) (n := 1800) (Nat.le_of_ble_eq_true rfl) (Nat.le_of_ble_eq_true rfl) ?_
  refine va_putF (D := D) (ci := 9) (v := .ref q5) (ty := (.array .int)) (C := RX9) (T := TX9) (N := 8) hx hb hg inX9 tyX9 tyX9_ok nmX9 hown hK hP hD hS 0 rfl rfl 4 (by decide) (hg _ kf_X9_24) (fun _ h9 => h9) rfl hin rfl (by decide +kernel) rfl rfl (Nat.le_of_ble_eq_true rfl) dX9_init_46 (fun H locs hP hD hS => ?_)
  have hP : va_P D vwCl [ob h0 9 [.ref q1, .ref q2, .ref q3, .ref q4, .ref q5, .null, .null, .int 0], ai T q1 360 (cst 0), ai T q2 360 (cst 0), ai T q3 360 (cst 0), ai T q4 360 (cst 0), ai T q5 360 (cst 0)] H := hP
  have hD : va_D A [ob h0 9 [.ref q1, .ref q2, .ref q3, .ref q4, .ref q5, .null, .null, .int 0], ai T q1 360 (cst 0), ai T q2 360 (cst 0), ai T q3 360 (cst 0), ai T q4 360 (cst 0), ai T q5 360 (cst 0)] := hD
  refine lv_aload_n hx hb dX9_init_49 rfl (lv_at hl 0 rfl) ?_
  refine lv_sipush (v := 360) hx hb dX9_init_50 (by decide) ?_
  refine z_newa (atype := .int) (ty := .int) (N' := 360) (a0 := (360, (.inl (cst 0)))) hx hb (hg _ ka_int) rfl rfl hK hP hD hS hA 0 rfl (fun _ => rfl) (by decide) (by decide) (Nat.le_of_ble_eq_true rfl) (Nat.le_of_ble_eq_true rfl) (Nat.le_of_ble_eq_true rfl) dX9_init_53 (fun q6 H hP hD hS => ?_)
  have hP : va_P D vwCl [ob h0 9 [.ref q1, .ref q2, .ref q3, .ref q4, .ref q5, .null, .null, .int 0], ai T q1 360 (cst 0), ai T q2 360 (cst 0), ai T q3 360 (cst 0), ai T q4 360 (cst 0), ai T q5 360 (cst 0), ai T q6 360 (cst 0)] H := hP
  have hD : va_D A [ob h0 9 [.ref q1, .ref q2, .ref q3, .ref q4, .ref q5, .null, .null, .int 0], ai T q1 360 (cst 0), ai T q2 360 (cst 0), ai T q3 360 (cst 0), ai T q4 360 (cst 0), ai T q5 360 (cst 0), ai T q6 360 (cst 0)] := hD
  refine W.widen (k := 6) (n := 2160) (Nat.le_of_ble_eq_true rfl) (Nat.le_of_ble_eq_true rfl) ?_
  refine va_putF (D := D) (ci := 9) (v := .ref q6) (ty := (.array .int)) (C := RX9) (T := TX9) (N := 8) hx hb hg inX9 tyX9 tyX9_ok nmX9 hown hK hP hD hS 0 rfl rfl 5 (by decide) (hg _ kf_X9_27) (fun _ h9 => h9) rfl hin rfl (by decide +kernel) rfl rfl (Nat.le_of_ble_eq_true rfl) dX9_init_55 (fun H locs hP hD hS => ?_)
  have hP : va_P D vwCl [ob h0 9 [.ref q1, .ref q2, .ref q3, .ref q4, .ref q5, .ref q6, .null, .int 0], ai T q1 360 (cst 0), ai T q2 360 (cst 0), ai T q3 360 (cst 0), ai T q4 360 (cst 0), ai T q5 360 (cst 0), ai T q6 360 (cst 0)] H := hP
  have hD : va_D A [ob h0 9 [.ref q1, .ref q2, .ref q3, .ref q4, .ref q5, .ref q6, .null, .int 0], ai T q1 360 (cst 0), ai T q2 360 (cst 0), ai T q3 360 (cst 0), ai T q4 360 (cst 0), ai T q5 360 (cst 0), ai T q6 360 (cst 0)] := hD
  refine lv_aload_n hx hb dX9_init_58 rfl (lv_at hl 0 rfl) ?_
  refine lv_bipush (v := 6) hx hb dX9_init_59 (by decide) ?_
  refine z_newa (atype := .int) (ty := .int) (N' := 6) (a0 := (6, (.inl (cst 0)))) hx hb (hg _ ka_int) rfl rfl hK hP hD hS hA 0 rfl (fun _ => rfl) (by decide) (by decide) (Nat.le_of_ble_eq_true rfl) (Nat.le_of_ble_eq_true rfl) (Nat.le_of_ble_eq_true rfl) dX9_init_61 (fun q7 H hP hD hS => ?_)
  have hP : va_P D vwCl [ob h0 9 [.ref q1, .ref q2, .ref q3, .ref q4, .ref q5, .ref q6, .null, .int 0], ai T q1 360 (cst 0), ai T q2 360 (cst 0), ai T q3 360 (cst 0), ai T q4 360 (cst 0), ai T q5 360 (cst 0), ai T q6 360 (cst 0), ai T q7 6 (cst 0)] H := hP
  have hD : va_D A [ob h0 9 [.ref q1, .ref q2, .ref q3, .ref q4, .ref q5, .ref q6, .null, .int 0], ai T q1 360 (cst 0), ai T q2 360 (cst 0), ai T q3 360 (cst 0), ai T q4 360 (cst 0), ai T q5 360 (cst 0), ai T q6 360 (cst 0), ai T q7 6 (cst 0)] := hD
  refine W.widen (k := 7) (n := 2166) (Nat.le_of_ble_eq_true rfl) (Nat.le_of_ble_eq_true rfl) ?_
  refine va_putF (D := D) (ci := 9) (v := .ref q7) (ty := (.array .int)) (C := RX9) (T := TX9) (N := 8) hx hb hg inX9 tyX9 tyX9_ok nmX9 hown hK hP hD hS 0 rfl rfl 6 (by decide) (hg _ kf_X9_30) (fun _ h9 => h9) rfl hin rfl (by decide +kernel) rfl rfl (Nat.le_of_ble_eq_true rfl) dX9_init_63 (fun H locs hP hD hS => ?_)
  have hP : va_P D vwCl [ob h0 9 [.ref q1, .ref q2, .ref q3, .ref q4, .ref q5, .ref q6, .ref q7, .int 0], ai T q1 360 (cst 0), ai T q2 360 (cst 0), ai T q3 360 (cst 0), ai T q4 360 (cst 0), ai T q5 360 (cst 0), ai T q6 360 (cst 0), ai T q7 6 (cst 0)] H := hP
  have hD : va_D A [ob h0 9 [.ref q1, .ref q2, .ref q3, .ref q4, .ref q5, .ref q6, .ref q7, .int 0], ai T q1 360 (cst 0), ai T q2 360 (cst 0), ai T q3 360 (cst 0), ai T q4 360 (cst 0), ai T q5 360 (cst 0), ai T q6 360 (cst 0), ai T q7 6 (cst 0)] := hD
  refine W.widen (k := 7) (n := 2166) (Nat.le_of_ble_eq_true rfl) (Nat.le_of_ble_eq_true rfl) ?_
  exact ret_v (X := Nat × Nat × Nat × Nat × Nat × Nat × Nat) ((q1, q2, q3, q4, q5, q6, q7)) hx hb hr hlocks hP hD hS [0, 1, 2, 3, 4, 5, 6, 7] (by decide) rfl trivial dX9_init_66
theorem dX8_init_0 : decode cX8_init 0 = .ok (.aload_n 0, 1) := by decide +kernel
theorem dX8_init_1 : decode cX8_init 1 = .ok (.invokespecial 3, 3) := by decide +kernel
theorem dX8_init_4 : decode cX8_init 4 = .ok (.aload_n 0, 1) := by decide +kernel
theorem dX8_init_5 : decode cX8_init 5 = .ok (.sipush 900, 3) := by decide +kernel
theorem dX8_init_8 : decode cX8_init 8 = .ok (.newarray .byte, 2) := by decide +kernel
theorem dX8_init_10 : decode cX8_init 10 = .ok (.putfield 9, 3) := by decide +kernel
theorem dX8_init_13 : decode cX8_init 13 = .ok (.aload_n 0, 1) := by decide +kernel
theorem dX8_init_14 : decode cX8_init 14 = .ok (.new 15, 3) := by decide +kernel
theorem dX8_init_17 : decode cX8_init 17 = .ok (.dup, 1) := by decide +kernel
theorem dX8_init_18 : decode cX8_init 18 = .ok (.invokespecial 17, 3) := by decide +kernel
theorem dX8_init_21 : decode cX8_init 21 = .ok (.putfield 18, 3) := by decide +kernel
theorem dX8_init_24 : decode cX8_init 24 = .ok (.aload_n 0, 1) := by decide +kernel
theorem dX8_init_25 : decode cX8_init 25 = .ok (.iconst (-1), 1) := by decide +kernel
theorem dX8_init_26 : decode cX8_init 26 = .ok (.putfield 22, 3) := by decide +kernel
theorem dX8_init_29 : decode cX8_init 29 = .ok (.aload_n 0, 1) := by decide +kernel
theorem dX8_init_30 : decode cX8_init 30 = .ok (.iconst 5, 1) := by decide +kernel
theorem dX8_init_31 : decode cX8_init 31 = .ok (.newarray .int, 2) := by decide +kernel
theorem dX8_init_33 : decode cX8_init 33 = .ok (.putfield 26, 3) := by decide +kernel
theorem dX8_init_36 : decode cX8_init 36 = .ok (.aload_n 0, 1) := by decide +kernel
theorem dX8_init_37 : decode cX8_init 37 = .ok (.iconst 5, 1) := by decide +kernel
theorem dX8_init_38 : decode cX8_init 38 = .ok (.newarray .int, 2) := by decide +kernel
theorem dX8_init_40 : decode cX8_init 40 = .ok (.putfield 30, 3) := by decide +kernel
theorem dX8_init_43 : decode cX8_init 43 = .ok (.aload_n 0, 1) := by decide +kernel
theorem dX8_init_44 : decode cX8_init 44 = .ok (.iconst 5, 1) := by decide +kernel
theorem dX8_init_45 : decode cX8_init 45 = .ok (.newarray .int, 2) := by decide +kernel
theorem dX8_init_47 : decode cX8_init 47 = .ok (.putfield 33, 3) := by decide +kernel
theorem dX8_init_50 : decode cX8_init 50 = .ok (.aload_n 0, 1) := by decide +kernel
theorem dX8_init_51 : decode cX8_init 51 = .ok (.iconst 5, 1) := by decide +kernel
theorem dX8_init_52 : decode cX8_init 52 = .ok (.newarray .int, 2) := by decide +kernel
theorem dX8_init_54 : decode cX8_init 54 = .ok (.putfield 36, 3) := by decide +kernel
theorem dX8_init_57 : decode cX8_init 57 = .ok (.return_, 1) := by decide +kernel
set_option maxHeartbeats 4000000 in
set_option maxRecDepth 100000 in
theorem c_X8_init (l : Launch) (D : va_G) (T : Nat → ClassId) (h0 : Nat) (sz : Nat) : Met l yX8_init (WS (.code yX8_init cX8_init 1 none)) ({ frames := 4, cells := 13, slots := 3094, locals := 128 } : Room) (va_Pc [.ref h0] (PW D (TY T) [ob h0 8 [.null, .int 0, .null, .int 0, .int 0, .int 0, .int 0, .int 0, .int 0, .int 0, .int 0, .null, .null, .null, .null]] sz)) (QV (X := Nat × Nat × Nat × Nat × Nat × Nat × Nat × Nat × Nat × Nat × Nat × Nat × Nat) D (fun _ => True) (fun xx => [ob h0 8 [.ref (xx.1), .int 0, .ref (xx.2.1), .int 0, .int (-1), .int 0, .int 0, .int 0, .int 0, .int 0, .int 0, .ref (xx.2.2.2.2.2.2.2.2.2.1), .ref (xx.2.2.2.2.2.2.2.2.2.2.1), .ref (xx.2.2.2.2.2.2.2.2.2.2.2.1), .ref (xx.2.2.2.2.2.2.2.2.2.2.2.2)], ab T (xx.1) 900 (cst 0), ob (xx.2.1) 9 [.ref (xx.2.2.1), .ref (xx.2.2.2.1), .ref (xx.2.2.2.2.1), .ref (xx.2.2.2.2.2.1), .ref (xx.2.2.2.2.2.2.1), .ref (xx.2.2.2.2.2.2.2.1), .ref (xx.2.2.2.2.2.2.2.2.1), .int 0], ai T (xx.2.2.1) 360 (cst 0), ai T (xx.2.2.2.1) 360 (cst 0), ai T (xx.2.2.2.2.1) 360 (cst 0), ai T (xx.2.2.2.2.2.1) 360 (cst 0), ai T (xx.2.2.2.2.2.2.1) 360 (cst 0), ai T (xx.2.2.2.2.2.2.2.1) 360 (cst 0), ai T (xx.2.2.2.2.2.2.2.2.1) 6 (cst 0)]) (va_A [ob h0 8 [.null, .int 0, .null, .int 0, .int 0, .int 0, .int 0, .int 0, .int 0, .int 0, .int 0, .null, .null, .null, .null]] sz)) 13 3094 (va_A [ob h0 8 [.null, .int 0, .null, .int 0, .int 0, .int 0, .int 0, .int 0, .int 0, .int 0, .int 0, .null, .null, .null, .null]] sz) := by
  refine mk_met (Qc := QV (X := Nat × Nat × Nat × Nat × Nat × Nat × Nat × Nat × Nat × Nat × Nat × Nat × Nat) D (fun _ => True) (fun xx => [ob h0 8 [.ref (xx.1), .int 0, .ref (xx.2.1), .int 0, .int (-1), .int 0, .int 0, .int 0, .int 0, .int 0, .int 0, .ref (xx.2.2.2.2.2.2.2.2.2.1), .ref (xx.2.2.2.2.2.2.2.2.2.2.1), .ref (xx.2.2.2.2.2.2.2.2.2.2.2.1), .ref (xx.2.2.2.2.2.2.2.2.2.2.2.2)], ab T (xx.1) 900 (cst 0), ob (xx.2.1) 9 [.ref (xx.2.2.1), .ref (xx.2.2.2.1), .ref (xx.2.2.2.2.1), .ref (xx.2.2.2.2.2.1), .ref (xx.2.2.2.2.2.2.1), .ref (xx.2.2.2.2.2.2.2.1), .ref (xx.2.2.2.2.2.2.2.2.1), .int 0], ai T (xx.2.2.1) 360 (cst 0), ai T (xx.2.2.2.1) 360 (cst 0), ai T (xx.2.2.2.2.1) 360 (cst 0), ai T (xx.2.2.2.2.2.1) 360 (cst 0), ai T (xx.2.2.2.2.2.2.1) 360 (cst 0), ai T (xx.2.2.2.2.2.2.2.1) 360 (cst 0), ai T (xx.2.2.2.2.2.2.2.2.1) 6 (cst 0)])) (lv := [(0, .ref h0)]) (by decide +kernel) (Nat.le_of_ble_eq_true rfl) rfl (fun p e s m below meth c A ls H locs hx hb hml hr hlocks hown hin hg hN hA hP hK hD hS hl => ?_)
  refine lv_aload_n hx hb dX8_init_0 rfl (lv_at hl 0 rfl) ?_
  refine W.objInit hx hb hown (hg _ km_X8_3) (hg _ ki_objectInit) (hg _ kd_objectInit) rfl (by rw [hml]; exact hl.1) rfl dX8_init_1 (Nat.le_of_ble_eq_true rfl) (Nat.le_of_ble_eq_true rfl) ?_
  refine W.eq (g2 := F0 m 4 ls []) rfl ?_
  refine lv_aload_n hx hb dX8_init_4 rfl (lv_at hl 0 rfl) ?_
  refine lv_sipush (v := 900) hx hb dX8_init_5 (by decide) ?_
  refine z_newa (atype := .byte) (ty := .byte) (N' := 900) (a0 := (900, (.inl (cst 0)))) hx hb (hg _ ka_byte) rfl rfl hK hP hD hS hA 1 rfl (fun _ => rfl) (by decide) (by decide) (Nat.le_of_ble_eq_true rfl) (Nat.le_of_ble_eq_true rfl) (Nat.le_of_ble_eq_true rfl) dX8_init_8 (fun q1 H hP hD hS => ?_)
  have hP : va_P D vwCl [ob h0 8 [.null, .int 0, .null, .int 0, .int 0, .int 0, .int 0, .int 0, .int 0, .int 0, .int 0, .null, .null, .null, .null], ab T q1 900 (cst 0)] H := hP
  have hD : va_D A [ob h0 8 [.null, .int 0, .null, .int 0, .int 0, .int 0, .int 0, .int 0, .int 0, .int 0, .int 0, .null, .null, .null, .null], ab T q1 900 (cst 0)] := hD
  refine W.widen (k := 1) (n := 900) (Nat.le_of_ble_eq_true rfl) (Nat.le_of_ble_eq_true rfl) ?_
  refine va_putF (D := D) (ci := 8) (v := .ref q1) (ty := (.array .byte)) (C := RX8) (T := TX8) (N := 15) hx hb hg inX8 tyX8 tyX8_ok nmX8 hown hK hP hD hS 0 rfl rfl 0 (by decide) (hg _ kf_X8_9) (fun _ h9 => h9) rfl hin rfl (by decide +kernel) rfl rfl (Nat.le_of_ble_eq_true rfl) dX8_init_10 (fun H locs hP hD hS => ?_)
  have hP : va_P D vwCl [ob h0 8 [.ref q1, .int 0, .null, .int 0, .int 0, .int 0, .int 0, .int 0, .int 0, .int 0, .int 0, .null, .null, .null, .null], ab T q1 900 (cst 0)] H := hP
  have hD : va_D A [ob h0 8 [.ref q1, .int 0, .null, .int 0, .int 0, .int 0, .int 0, .int 0, .int 0, .int 0, .int 0, .null, .null, .null, .null], ab T q1 900 (cst 0)] := hD
  refine lv_aload_n hx hb dX8_init_13 rfl (lv_at hl 0 rfl) ?_
  refine va_new (ci := 9) (fs := [.null, .null, .null, .null, .null, .null, .null, .int 0]) (C := RX9) (T := TX9) (N := 8) hx hb hg inX9 tyX9 tyX9_ok hown (hg _ kc_X8_15) (hg _ kq_X9) (hg _ kz_X9) hK hP hD hS hA rfl (fun j hj => by rcases (show j = 0 ∨ j = 1 ∨ j = 2 ∨ j = 3 ∨ j = 4 ∨ j = 5 ∨ j = 6 ∨ j = 7 by omega) with rfl | rfl | rfl | rfl | rfl | rfl | rfl | rfl <;> rfl) (Nat.le_of_ble_eq_true rfl) (Nat.le_of_ble_eq_true rfl) dX8_init_14 (fun q2 H hP hD hS => ?_)
  have hP : va_P D vwCl [ob h0 8 [.ref q1, .int 0, .null, .int 0, .int 0, .int 0, .int 0, .int 0, .int 0, .int 0, .int 0, .null, .null, .null, .null], ab T q1 900 (cst 0), ob q2 9 [.null, .null, .null, .null, .null, .null, .null, .int 0]] H := hP
  have hD : va_D A [ob h0 8 [.ref q1, .int 0, .null, .int 0, .int 0, .int 0, .int 0, .int 0, .int 0, .int 0, .int 0, .null, .null, .null, .null], ab T q1 900 (cst 0), ob q2 9 [.null, .null, .null, .null, .null, .null, .null, .int 0]] := hD
  refine W.widen (k := 2) (n := 908) (Nat.le_of_ble_eq_true rfl) (Nat.le_of_ble_eq_true rfl) ?_
  refine lv_dup hx hb dX8_init_17 rfl ?_
  refine cont_v (Wr := [ob h0 8 [.ref q1, .int 0, .null, .int 0, .int 0, .int 0, .int 0, .int 0, .int 0, .int 0, .int 0, .null, .null, .null, .null], ab T q1 900 (cst 0)]) [2] [0, 1] (run_N (n := 0) (As := []) (rest := [.ref q2, .ref h0]) hx hb hml hown hg hN (c_X9_init l D T q2  H.size) kn_X8_17 ki_X9_init kz_X9 kd_X9_init rfl rfl rfl (by decide +kernel) ⟨Nat.le_of_ble_eq_true rfl, Nat.le_of_ble_eq_true rfl⟩ hK (P_sub hP [2] rfl) (hD.sub [2] (by decide) rfl) rfl hl.1 rfl (Nat.le_of_ble_eq_true rfl) dX8_init_18 ⟨Nat.le_of_ble_eq_true rfl, Nat.le_of_ble_eq_true rfl⟩) hP hD hS hA rfl rfl (by decide) (by decide) (fun xx H locs hq hP hD hS => ?_)
  obtain ⟨q3, q4, q5, q6, q7, q8, q9⟩ := xx
  have hP : va_P D vwCl [ob h0 8 [.ref q1, .int 0, .null, .int 0, .int 0, .int 0, .int 0, .int 0, .int 0, .int 0, .int 0, .null, .null, .null, .null], ab T q1 900 (cst 0), ob q2 9 [.ref q3, .ref q4, .ref q5, .ref q6, .ref q7, .ref q8, .ref q9, .int 0], ai T q3 360 (cst 0), ai T q4 360 (cst 0), ai T q5 360 (cst 0), ai T q6 360 (cst 0), ai T q7 360 (cst 0), ai T q8 360 (cst 0), ai T q9 6 (cst 0)] H := hP
  have hD : va_D A [ob h0 8 [.ref q1, .int 0, .null, .int 0, .int 0, .int 0, .int 0, .int 0, .int 0, .int 0, .int 0, .null, .null, .null, .null], ab T q1 900 (cst 0), ob q2 9 [.ref q3, .ref q4, .ref q5, .ref q6, .ref q7, .ref q8, .ref q9, .int 0], ai T q3 360 (cst 0), ai T q4 360 (cst 0), ai T q5 360 (cst 0), ai T q6 360 (cst 0), ai T q7 360 (cst 0), ai T q8 360 (cst 0), ai T q9 6 (cst 0)] := hD
  refine W.widen (k := 9) (n := 3074) (Nat.le_of_ble_eq_true rfl) (Nat.le_of_ble_eq_true rfl) ?_
  refine va_putF (D := D) (ci := 8) (v := .ref q2) (ty := (.object "OneCup$Script")) (C := RX8) (T := TX8) (N := 15) hx hb hg inX8 tyX8 tyX8_ok nmX8 hown hK hP hD hS 0 rfl rfl 2 (by decide) (hg _ kf_X8_18) (fun _ h9 => h9) rfl hin rfl (by decide +kernel) rfl rfl (Nat.le_of_ble_eq_true rfl) dX8_init_21 (fun H locs hP hD hS => ?_)
  have hP : va_P D vwCl [ob h0 8 [.ref q1, .int 0, .ref q2, .int 0, .int 0, .int 0, .int 0, .int 0, .int 0, .int 0, .int 0, .null, .null, .null, .null], ab T q1 900 (cst 0), ob q2 9 [.ref q3, .ref q4, .ref q5, .ref q6, .ref q7, .ref q8, .ref q9, .int 0], ai T q3 360 (cst 0), ai T q4 360 (cst 0), ai T q5 360 (cst 0), ai T q6 360 (cst 0), ai T q7 360 (cst 0), ai T q8 360 (cst 0), ai T q9 6 (cst 0)] H := hP
  have hD : va_D A [ob h0 8 [.ref q1, .int 0, .ref q2, .int 0, .int 0, .int 0, .int 0, .int 0, .int 0, .int 0, .int 0, .null, .null, .null, .null], ab T q1 900 (cst 0), ob q2 9 [.ref q3, .ref q4, .ref q5, .ref q6, .ref q7, .ref q8, .ref q9, .int 0], ai T q3 360 (cst 0), ai T q4 360 (cst 0), ai T q5 360 (cst 0), ai T q6 360 (cst 0), ai T q7 360 (cst 0), ai T q8 360 (cst 0), ai T q9 6 (cst 0)] := hD
  refine lv_aload_n hx hb dX8_init_24 rfl (lv_at hl 0 rfl) ?_
  refine lv_iconst (v := (-1)) hx hb dX8_init_25 (by decide) ?_
  refine va_put (D := D) (ci := 8) (v := .int (-1)) (ty := .int) (C := RX8) (T := TX8) (N := 15) hx hb hg inX8 tyX8 tyX8_ok nmX8 hown hK hP hD hS 0 rfl rfl 4 (by decide) (hg _ kf_X8_22) (fun _ h9 => h9) rfl (by decide +kernel) rfl rfl (Nat.le_of_ble_eq_true rfl) dX8_init_26 (fun H locs hP hD hS => ?_)
  have hP : va_P D vwCl [ob h0 8 [.ref q1, .int 0, .ref q2, .int 0, .int (-1), .int 0, .int 0, .int 0, .int 0, .int 0, .int 0, .null, .null, .null, .null], ab T q1 900 (cst 0), ob q2 9 [.ref q3, .ref q4, .ref q5, .ref q6, .ref q7, .ref q8, .ref q9, .int 0], ai T q3 360 (cst 0), ai T q4 360 (cst 0), ai T q5 360 (cst 0), ai T q6 360 (cst 0), ai T q7 360 (cst 0), ai T q8 360 (cst 0), ai T q9 6 (cst 0)] H := hP
  have hD : va_D A [ob h0 8 [.ref q1, .int 0, .ref q2, .int 0, .int (-1), .int 0, .int 0, .int 0, .int 0, .int 0, .int 0, .null, .null, .null, .null], ab T q1 900 (cst 0), ob q2 9 [.ref q3, .ref q4, .ref q5, .ref q6, .ref q7, .ref q8, .ref q9, .int 0], ai T q3 360 (cst 0), ai T q4 360 (cst 0), ai T q5 360 (cst 0), ai T q6 360 (cst 0), ai T q7 360 (cst 0), ai T q8 360 (cst 0), ai T q9 6 (cst 0)] := hD
  refine lv_aload_n hx hb dX8_init_29 rfl (lv_at hl 0 rfl) ?_
  refine lv_iconst (v := 5) hx hb dX8_init_30 (by decide) ?_
  refine z_newa (atype := .int) (ty := .int) (N' := 5) (a0 := (5, (.inl (cst 0)))) hx hb (hg _ ka_int) rfl rfl hK hP hD hS hA 0 rfl (fun _ => rfl) (by decide) (by decide) (Nat.le_of_ble_eq_true rfl) (Nat.le_of_ble_eq_true rfl) (Nat.le_of_ble_eq_true rfl) dX8_init_31 (fun q10 H hP hD hS => ?_)
  have hP : va_P D vwCl [ob h0 8 [.ref q1, .int 0, .ref q2, .int 0, .int (-1), .int 0, .int 0, .int 0, .int 0, .int 0, .int 0, .null, .null, .null, .null], ab T q1 900 (cst 0), ob q2 9 [.ref q3, .ref q4, .ref q5, .ref q6, .ref q7, .ref q8, .ref q9, .int 0], ai T q3 360 (cst 0), ai T q4 360 (cst 0), ai T q5 360 (cst 0), ai T q6 360 (cst 0), ai T q7 360 (cst 0), ai T q8 360 (cst 0), ai T q9 6 (cst 0), ai T q10 5 (cst 0)] H := hP
  have hD : va_D A [ob h0 8 [.ref q1, .int 0, .ref q2, .int 0, .int (-1), .int 0, .int 0, .int 0, .int 0, .int 0, .int 0, .null, .null, .null, .null], ab T q1 900 (cst 0), ob q2 9 [.ref q3, .ref q4, .ref q5, .ref q6, .ref q7, .ref q8, .ref q9, .int 0], ai T q3 360 (cst 0), ai T q4 360 (cst 0), ai T q5 360 (cst 0), ai T q6 360 (cst 0), ai T q7 360 (cst 0), ai T q8 360 (cst 0), ai T q9 6 (cst 0), ai T q10 5 (cst 0)] := hD
  refine W.widen (k := 10) (n := 3079) (Nat.le_of_ble_eq_true rfl) (Nat.le_of_ble_eq_true rfl) ?_
  refine va_putF (D := D) (ci := 8) (v := .ref q10) (ty := (.array .int)) (C := RX8) (T := TX8) (N := 15) hx hb hg inX8 tyX8 tyX8_ok nmX8 hown hK hP hD hS 0 rfl rfl 11 (by decide) (hg _ kf_X8_26) (fun _ h9 => h9) rfl hin rfl (by decide +kernel) rfl rfl (Nat.le_of_ble_eq_true rfl) dX8_init_33 (fun H locs hP hD hS => ?_)
  have hP : va_P D vwCl [ob h0 8 [.ref q1, .int 0, .ref q2, .int 0, .int (-1), .int 0, .int 0, .int 0, .int 0, .int 0, .int 0, .ref q10, .null, .null, .null], ab T q1 900 (cst 0), ob q2 9 [.ref q3, .ref q4, .ref q5, .ref q6, .ref q7, .ref q8, .ref q9, .int 0], ai T q3 360 (cst 0), ai T q4 360 (cst 0), ai T q5 360 (cst 0), ai T q6 360 (cst 0), ai T q7 360 (cst 0), ai T q8 360 (cst 0), ai T q9 6 (cst 0), ai T q10 5 (cst 0)] H := hP
  have hD : va_D A [ob h0 8 [.ref q1, .int 0, .ref q2, .int 0, .int (-1), .int 0, .int 0, .int 0, .int 0, .int 0, .int 0, .ref q10, .null, .null, .null], ab T q1 900 (cst 0), ob q2 9 [.ref q3, .ref q4, .ref q5, .ref q6, .ref q7, .ref q8, .ref q9, .int 0], ai T q3 360 (cst 0), ai T q4 360 (cst 0), ai T q5 360 (cst 0), ai T q6 360 (cst 0), ai T q7 360 (cst 0), ai T q8 360 (cst 0), ai T q9 6 (cst 0), ai T q10 5 (cst 0)] := hD
  refine lv_aload_n hx hb dX8_init_36 rfl (lv_at hl 0 rfl) ?_
  refine lv_iconst (v := 5) hx hb dX8_init_37 (by decide) ?_
  refine z_newa (atype := .int) (ty := .int) (N' := 5) (a0 := (5, (.inl (cst 0)))) hx hb (hg _ ka_int) rfl rfl hK hP hD hS hA 0 rfl (fun _ => rfl) (by decide) (by decide) (Nat.le_of_ble_eq_true rfl) (Nat.le_of_ble_eq_true rfl) (Nat.le_of_ble_eq_true rfl) dX8_init_38 (fun q11 H hP hD hS => ?_)
  have hP : va_P D vwCl [ob h0 8 [.ref q1, .int 0, .ref q2, .int 0, .int (-1), .int 0, .int 0, .int 0, .int 0, .int 0, .int 0, .ref q10, .null, .null, .null], ab T q1 900 (cst 0), ob q2 9 [.ref q3, .ref q4, .ref q5, .ref q6, .ref q7, .ref q8, .ref q9, .int 0], ai T q3 360 (cst 0), ai T q4 360 (cst 0), ai T q5 360 (cst 0), ai T q6 360 (cst 0), ai T q7 360 (cst 0), ai T q8 360 (cst 0), ai T q9 6 (cst 0), ai T q10 5 (cst 0), ai T q11 5 (cst 0)] H := hP
  have hD : va_D A [ob h0 8 [.ref q1, .int 0, .ref q2, .int 0, .int (-1), .int 0, .int 0, .int 0, .int 0, .int 0, .int 0, .ref q10, .null, .null, .null], ab T q1 900 (cst 0), ob q2 9 [.ref q3, .ref q4, .ref q5, .ref q6, .ref q7, .ref q8, .ref q9, .int 0], ai T q3 360 (cst 0), ai T q4 360 (cst 0), ai T q5 360 (cst 0), ai T q6 360 (cst 0), ai T q7 360 (cst 0), ai T q8 360 (cst 0), ai T q9 6 (cst 0), ai T q10 5 (cst 0), ai T q11 5 (cst 0)] := hD
  refine W.widen (k := 11) (n := 3084) (Nat.le_of_ble_eq_true rfl) (Nat.le_of_ble_eq_true rfl) ?_
  refine va_putF (D := D) (ci := 8) (v := .ref q11) (ty := (.array .int)) (C := RX8) (T := TX8) (N := 15) hx hb hg inX8 tyX8 tyX8_ok nmX8 hown hK hP hD hS 0 rfl rfl 12 (by decide) (hg _ kf_X8_30) (fun _ h9 => h9) rfl hin rfl (by decide +kernel) rfl rfl (Nat.le_of_ble_eq_true rfl) dX8_init_40 (fun H locs hP hD hS => ?_)
  have hP : va_P D vwCl [ob h0 8 [.ref q1, .int 0, .ref q2, .int 0, .int (-1), .int 0, .int 0, .int 0, .int 0, .int 0, .int 0, .ref q10, .ref q11, .null, .null], ab T q1 900 (cst 0), ob q2 9 [.ref q3, .ref q4, .ref q5, .ref q6, .ref q7, .ref q8, .ref q9, .int 0], ai T q3 360 (cst 0), ai T q4 360 (cst 0), ai T q5 360 (cst 0), ai T q6 360 (cst 0), ai T q7 360 (cst 0), ai T q8 360 (cst 0), ai T q9 6 (cst 0), ai T q10 5 (cst 0), ai T q11 5 (cst 0)] H := hP
  have hD : va_D A [ob h0 8 [.ref q1, .int 0, .ref q2, .int 0, .int (-1), .int 0, .int 0, .int 0, .int 0, .int 0, .int 0, .ref q10, .ref q11, .null, .null], ab T q1 900 (cst 0), ob q2 9 [.ref q3, .ref q4, .ref q5, .ref q6, .ref q7, .ref q8, .ref q9, .int 0], ai T q3 360 (cst 0), ai T q4 360 (cst 0), ai T q5 360 (cst 0), ai T q6 360 (cst 0), ai T q7 360 (cst 0), ai T q8 360 (cst 0), ai T q9 6 (cst 0), ai T q10 5 (cst 0), ai T q11 5 (cst 0)] := hD
  refine lv_aload_n hx hb dX8_init_43 rfl (lv_at hl 0 rfl) ?_
  refine lv_iconst (v := 5) hx hb dX8_init_44 (by decide) ?_
  refine z_newa (atype := .int) (ty := .int) (N' := 5) (a0 := (5, (.inl (cst 0)))) hx hb (hg _ ka_int) rfl rfl hK hP hD hS hA 0 rfl (fun _ => rfl) (by decide) (by decide) (Nat.le_of_ble_eq_true rfl) (Nat.le_of_ble_eq_true rfl) (Nat.le_of_ble_eq_true rfl) dX8_init_45 (fun q12 H hP hD hS => ?_)
  have hP : va_P D vwCl [ob h0 8 [.ref q1, .int 0, .ref q2, .int 0, .int (-1), .int 0, .int 0, .int 0, .int 0, .int 0, .int 0, .ref q10, .ref q11, .null, .null], ab T q1 900 (cst 0), ob q2 9 [.ref q3, .ref q4, .ref q5, .ref q6, .ref q7, .ref q8, .ref q9, .int 0], ai T q3 360 (cst 0), ai T q4 360 (cst 0), ai T q5 360 (cst 0), ai T q6 360 (cst 0), ai T q7 360 (cst 0), ai T q8 360 (cst 0), ai T q9 6 (cst 0), ai T q10 5 (cst 0), ai T q11 5 (cst 0), ai T q12 5 (cst 0)] H := hP
  have hD : va_D A [ob h0 8 [.ref q1, .int 0, .ref q2, .int 0, .int (-1), .int 0, .int 0, .int 0, .int 0, .int 0, .int 0, .ref q10, .ref q11, .null, .null], ab T q1 900 (cst 0), ob q2 9 [.ref q3, .ref q4, .ref q5, .ref q6, .ref q7, .ref q8, .ref q9, .int 0], ai T q3 360 (cst 0), ai T q4 360 (cst 0), ai T q5 360 (cst 0), ai T q6 360 (cst 0), ai T q7 360 (cst 0), ai T q8 360 (cst 0), ai T q9 6 (cst 0), ai T q10 5 (cst 0), ai T q11 5 (cst 0), ai T q12 5 (cst 0)] := hD
  refine W.widen (k := 12) (n := 3089) (Nat.le_of_ble_eq_true rfl) (Nat.le_of_ble_eq_true rfl) ?_
  refine va_putF (D := D) (ci := 8) (v := .ref q12) (ty := (.array .int)) (C := RX8) (T := TX8) (N := 15) hx hb hg inX8 tyX8 tyX8_ok nmX8 hown hK hP hD hS 0 rfl rfl 13 (by decide) (hg _ kf_X8_33) (fun _ h9 => h9) rfl hin rfl (by decide +kernel) rfl rfl (Nat.le_of_ble_eq_true rfl) dX8_init_47 (fun H locs hP hD hS => ?_)
  have hP : va_P D vwCl [ob h0 8 [.ref q1, .int 0, .ref q2, .int 0, .int (-1), .int 0, .int 0, .int 0, .int 0, .int 0, .int 0, .ref q10, .ref q11, .ref q12, .null], ab T q1 900 (cst 0), ob q2 9 [.ref q3, .ref q4, .ref q5, .ref q6, .ref q7, .ref q8, .ref q9, .int 0], ai T q3 360 (cst 0), ai T q4 360 (cst 0), ai T q5 360 (cst 0), ai T q6 360 (cst 0), ai T q7 360 (cst 0), ai T q8 360 (cst 0), ai T q9 6 (cst 0), ai T q10 5 (cst 0), ai T q11 5 (cst 0), ai T q12 5 (cst 0)] H := hP
  have hD : va_D A [ob h0 8 [.ref q1, .int 0, .ref q2, .int 0, .int (-1), .int 0, .int 0, .int 0, .int 0, .int 0, .int 0, .ref q10, .ref q11, .ref q12, .null], ab T q1 900 (cst 0), ob q2 9 [.ref q3, .ref q4, .ref q5, .ref q6, .ref q7, .ref q8, .ref q9, .int 0], ai T q3 360 (cst 0), ai T q4 360 (cst 0), ai T q5 360 (cst 0), ai T q6 360 (cst 0), ai T q7 360 (cst 0), ai T q8 360 (cst 0), ai T q9 6 (cst 0), ai T q10 5 (cst 0), ai T q11 5 (cst 0), ai T q12 5 (cst 0)] := hD
  refine lv_aload_n hx hb dX8_init_50 rfl (lv_at hl 0 rfl) ?_
  refine lv_iconst (v := 5) hx hb dX8_init_51 (by decide) ?_
  refine z_newa (atype := .int) (ty := .int) (N' := 5) (a0 := (5, (.inl (cst 0)))) hx hb (hg _ ka_int) rfl rfl hK hP hD hS hA 0 rfl (fun _ => rfl) (by decide) (by decide) (Nat.le_of_ble_eq_true rfl) (Nat.le_of_ble_eq_true rfl) (Nat.le_of_ble_eq_true rfl) dX8_init_52 (fun q13 H hP hD hS => ?_)
  have hP : va_P D vwCl [ob h0 8 [.ref q1, .int 0, .ref q2, .int 0, .int (-1), .int 0, .int 0, .int 0, .int 0, .int 0, .int 0, .ref q10, .ref q11, .ref q12, .null], ab T q1 900 (cst 0), ob q2 9 [.ref q3, .ref q4, .ref q5, .ref q6, .ref q7, .ref q8, .ref q9, .int 0], ai T q3 360 (cst 0), ai T q4 360 (cst 0), ai T q5 360 (cst 0), ai T q6 360 (cst 0), ai T q7 360 (cst 0), ai T q8 360 (cst 0), ai T q9 6 (cst 0), ai T q10 5 (cst 0), ai T q11 5 (cst 0), ai T q12 5 (cst 0), ai T q13 5 (cst 0)] H := hP
  have hD : va_D A [ob h0 8 [.ref q1, .int 0, .ref q2, .int 0, .int (-1), .int 0, .int 0, .int 0, .int 0, .int 0, .int 0, .ref q10, .ref q11, .ref q12, .null], ab T q1 900 (cst 0), ob q2 9 [.ref q3, .ref q4, .ref q5, .ref q6, .ref q7, .ref q8, .ref q9, .int 0], ai T q3 360 (cst 0), ai T q4 360 (cst 0), ai T q5 360 (cst 0), ai T q6 360 (cst 0), ai T q7 360 (cst 0), ai T q8 360 (cst 0), ai T q9 6 (cst 0), ai T q10 5 (cst 0), ai T q11 5 (cst 0), ai T q12 5 (cst 0), ai T q13 5 (cst 0)] := hD
  refine W.widen (k := 13) (n := 3094) (Nat.le_of_ble_eq_true rfl) (Nat.le_of_ble_eq_true rfl) ?_
  refine va_putF (D := D) (ci := 8) (v := .ref q13) (ty := (.array .int)) (C := RX8) (T := TX8) (N := 15) hx hb hg inX8 tyX8 tyX8_ok nmX8 hown hK hP hD hS 0 rfl rfl 14 (by decide) (hg _ kf_X8_36) (fun _ h9 => h9) rfl hin rfl (by decide +kernel) rfl rfl (Nat.le_of_ble_eq_true rfl) dX8_init_54 (fun H locs hP hD hS => ?_)
  have hP : va_P D vwCl [ob h0 8 [.ref q1, .int 0, .ref q2, .int 0, .int (-1), .int 0, .int 0, .int 0, .int 0, .int 0, .int 0, .ref q10, .ref q11, .ref q12, .ref q13], ab T q1 900 (cst 0), ob q2 9 [.ref q3, .ref q4, .ref q5, .ref q6, .ref q7, .ref q8, .ref q9, .int 0], ai T q3 360 (cst 0), ai T q4 360 (cst 0), ai T q5 360 (cst 0), ai T q6 360 (cst 0), ai T q7 360 (cst 0), ai T q8 360 (cst 0), ai T q9 6 (cst 0), ai T q10 5 (cst 0), ai T q11 5 (cst 0), ai T q12 5 (cst 0), ai T q13 5 (cst 0)] H := hP
  have hD : va_D A [ob h0 8 [.ref q1, .int 0, .ref q2, .int 0, .int (-1), .int 0, .int 0, .int 0, .int 0, .int 0, .int 0, .ref q10, .ref q11, .ref q12, .ref q13], ab T q1 900 (cst 0), ob q2 9 [.ref q3, .ref q4, .ref q5, .ref q6, .ref q7, .ref q8, .ref q9, .int 0], ai T q3 360 (cst 0), ai T q4 360 (cst 0), ai T q5 360 (cst 0), ai T q6 360 (cst 0), ai T q7 360 (cst 0), ai T q8 360 (cst 0), ai T q9 6 (cst 0), ai T q10 5 (cst 0), ai T q11 5 (cst 0), ai T q12 5 (cst 0), ai T q13 5 (cst 0)] := hD
  refine W.widen (k := 13) (n := 3094) (Nat.le_of_ble_eq_true rfl) (Nat.le_of_ble_eq_true rfl) ?_
  exact ret_v (X := Nat × Nat × Nat × Nat × Nat × Nat × Nat × Nat × Nat × Nat × Nat × Nat × Nat) ((q1, q2, q3, q4, q5, q6, q7, q8, q9, q10, q11, q12, q13)) hx hb hr hlocks hP hD hS [0, 1, 2, 3, 4, 5, 6, 7, 8, 9] (by decide) rfl trivial dX8_init_57
theorem dX5_init_0 : decode cX5_init 0 = .ok (.aload_n 0, 1) := by decide +kernel
theorem dX5_init_1 : decode cX5_init 1 = .ok (.invokespecial 3, 3) := by decide +kernel
theorem dX5_init_4 : decode cX5_init 4 = .ok (.aload_n 0, 1) := by decide +kernel
theorem dX5_init_5 : decode cX5_init 5 = .ok (.sipush 360, 3) := by decide +kernel
theorem dX5_init_8 : decode cX5_init 8 = .ok (.newarray .int, 2) := by decide +kernel
theorem dX5_init_10 : decode cX5_init 10 = .ok (.putfield 9, 3) := by decide +kernel
theorem dX5_init_13 : decode cX5_init 13 = .ok (.aload_n 0, 1) := by decide +kernel
theorem dX5_init_14 : decode cX5_init 14 = .ok (.sipush 360, 3) := by decide +kernel
theorem dX5_init_17 : decode cX5_init 17 = .ok (.newarray .int, 2) := by decide +kernel
theorem dX5_init_19 : decode cX5_init 19 = .ok (.putfield 15, 3) := by decide +kernel
theorem dX5_init_22 : decode cX5_init 22 = .ok (.aload_n 0, 1) := by decide +kernel
theorem dX5_init_23 : decode cX5_init 23 = .ok (.sipush 360, 3) := by decide +kernel
theorem dX5_init_26 : decode cX5_init 26 = .ok (.newarray .int, 2) := by decide +kernel
theorem dX5_init_28 : decode cX5_init 28 = .ok (.putfield 18, 3) := by decide +kernel
theorem dX5_init_31 : decode cX5_init 31 = .ok (.aload_n 0, 1) := by decide +kernel
theorem dX5_init_32 : decode cX5_init 32 = .ok (.sipush 360, 3) := by decide +kernel
theorem dX5_init_35 : decode cX5_init 35 = .ok (.newarray .int, 2) := by decide +kernel
theorem dX5_init_37 : decode cX5_init 37 = .ok (.putfield 21, 3) := by decide +kernel
theorem dX5_init_40 : decode cX5_init 40 = .ok (.aload_n 0, 1) := by decide +kernel
theorem dX5_init_41 : decode cX5_init 41 = .ok (.sipush 360, 3) := by decide +kernel
theorem dX5_init_44 : decode cX5_init 44 = .ok (.newarray .int, 2) := by decide +kernel
theorem dX5_init_46 : decode cX5_init 46 = .ok (.putfield 24, 3) := by decide +kernel
theorem dX5_init_49 : decode cX5_init 49 = .ok (.aload_n 0, 1) := by decide +kernel
theorem dX5_init_50 : decode cX5_init 50 = .ok (.sipush 360, 3) := by decide +kernel
theorem dX5_init_53 : decode cX5_init 53 = .ok (.newarray .int, 2) := by decide +kernel
theorem dX5_init_55 : decode cX5_init 55 = .ok (.putfield 27, 3) := by decide +kernel
theorem dX5_init_58 : decode cX5_init 58 = .ok (.aload_n 0, 1) := by decide +kernel
theorem dX5_init_59 : decode cX5_init 59 = .ok (.sipush 360, 3) := by decide +kernel
theorem dX5_init_62 : decode cX5_init 62 = .ok (.newarray .int, 2) := by decide +kernel
theorem dX5_init_64 : decode cX5_init 64 = .ok (.putfield 30, 3) := by decide +kernel
theorem dX5_init_67 : decode cX5_init 67 = .ok (.aload_n 0, 1) := by decide +kernel
theorem dX5_init_68 : decode cX5_init 68 = .ok (.bipush 8, 2) := by decide +kernel
theorem dX5_init_70 : decode cX5_init 70 = .ok (.newarray .int, 2) := by decide +kernel
theorem dX5_init_72 : decode cX5_init 72 = .ok (.putfield 33, 3) := by decide +kernel
theorem dX5_init_75 : decode cX5_init 75 = .ok (.aload_n 0, 1) := by decide +kernel
theorem dX5_init_76 : decode cX5_init 76 = .ok (.bipush 6, 2) := by decide +kernel
theorem dX5_init_78 : decode cX5_init 78 = .ok (.newarray .int, 2) := by decide +kernel
theorem dX5_init_80 : decode cX5_init 80 = .ok (.putfield 36, 3) := by decide +kernel
theorem dX5_init_83 : decode cX5_init 83 = .ok (.aload_n 0, 1) := by decide +kernel
theorem dX5_init_84 : decode cX5_init 84 = .ok (.bipush 6, 2) := by decide +kernel
theorem dX5_init_86 : decode cX5_init 86 = .ok (.newarray .int, 2) := by decide +kernel
theorem dX5_init_88 : decode cX5_init 88 = .ok (.putfield 39, 3) := by decide +kernel
theorem dX5_init_91 : decode cX5_init 91 = .ok (.aload_n 0, 1) := by decide +kernel
theorem dX5_init_92 : decode cX5_init 92 = .ok (.bipush 6, 2) := by decide +kernel
theorem dX5_init_94 : decode cX5_init 94 = .ok (.newarray .int, 2) := by decide +kernel
theorem dX5_init_96 : decode cX5_init 96 = .ok (.putfield 42, 3) := by decide +kernel
theorem dX5_init_99 : decode cX5_init 99 = .ok (.aload_n 0, 1) := by decide +kernel
theorem dX5_init_100 : decode cX5_init 100 = .ok (.bipush 24, 2) := by decide +kernel
theorem dX5_init_102 : decode cX5_init 102 = .ok (.newarray .int, 2) := by decide +kernel
theorem dX5_init_104 : decode cX5_init 104 = .ok (.putfield 45, 3) := by decide +kernel
theorem dX5_init_107 : decode cX5_init 107 = .ok (.return_, 1) := by decide +kernel
set_option maxHeartbeats 4000000 in
set_option maxRecDepth 100000 in
theorem c_X5_init (l : Launch) (D : va_G) (T : Nat → ClassId) (h0 : Nat) (sz : Nat) : Met l yX5_init (WS (.code yX5_init cX5_init 1 none)) ({ frames := 2, cells := 12, slots := 2570, locals := 64 } : Room) (va_Pc [.ref h0] (PW D (TY T) [ob h0 5 [.int 0, .null, .null, .null, .null, .null, .null, .null, .null, .int 0, .int 0, .null, .null, .null, .null]] sz)) (QV (X := Nat × Nat × Nat × Nat × Nat × Nat × Nat × Nat × Nat × Nat × Nat × Nat) D (fun _ => True) (fun xx => [ob h0 5 [.int 0, .ref (xx.1), .ref (xx.2.1), .ref (xx.2.2.1), .ref (xx.2.2.2.1), .ref (xx.2.2.2.2.1), .ref (xx.2.2.2.2.2.1), .ref (xx.2.2.2.2.2.2.1), .ref (xx.2.2.2.2.2.2.2.1), .int 0, .int 0, .ref (xx.2.2.2.2.2.2.2.2.1), .ref (xx.2.2.2.2.2.2.2.2.2.1), .ref (xx.2.2.2.2.2.2.2.2.2.2.1), .ref (xx.2.2.2.2.2.2.2.2.2.2.2)], ai T (xx.1) 360 (cst 0), ai T (xx.2.1) 360 (cst 0), ai T (xx.2.2.1) 360 (cst 0), ai T (xx.2.2.2.1) 360 (cst 0), ai T (xx.2.2.2.2.1) 360 (cst 0), ai T (xx.2.2.2.2.2.1) 360 (cst 0), ai T (xx.2.2.2.2.2.2.1) 360 (cst 0), ai T (xx.2.2.2.2.2.2.2.1) 8 (cst 0), ai T (xx.2.2.2.2.2.2.2.2.1) 6 (cst 0), ai T (xx.2.2.2.2.2.2.2.2.2.1) 6 (cst 0), ai T (xx.2.2.2.2.2.2.2.2.2.2.1) 6 (cst 0)]) (va_A [ob h0 5 [.int 0, .null, .null, .null, .null, .null, .null, .null, .null, .int 0, .int 0, .null, .null, .null, .null]] sz)) 12 2570 (va_A [ob h0 5 [.int 0, .null, .null, .null, .null, .null, .null, .null, .null, .int 0, .int 0, .null, .null, .null, .null]] sz) := by
  refine mk_met (Qc := QV (X := Nat × Nat × Nat × Nat × Nat × Nat × Nat × Nat × Nat × Nat × Nat × Nat) D (fun _ => True) (fun xx => [ob h0 5 [.int 0, .ref (xx.1), .ref (xx.2.1), .ref (xx.2.2.1), .ref (xx.2.2.2.1), .ref (xx.2.2.2.2.1), .ref (xx.2.2.2.2.2.1), .ref (xx.2.2.2.2.2.2.1), .ref (xx.2.2.2.2.2.2.2.1), .int 0, .int 0, .ref (xx.2.2.2.2.2.2.2.2.1), .ref (xx.2.2.2.2.2.2.2.2.2.1), .ref (xx.2.2.2.2.2.2.2.2.2.2.1), .ref (xx.2.2.2.2.2.2.2.2.2.2.2)], ai T (xx.1) 360 (cst 0), ai T (xx.2.1) 360 (cst 0), ai T (xx.2.2.1) 360 (cst 0), ai T (xx.2.2.2.1) 360 (cst 0), ai T (xx.2.2.2.2.1) 360 (cst 0), ai T (xx.2.2.2.2.2.1) 360 (cst 0), ai T (xx.2.2.2.2.2.2.1) 360 (cst 0), ai T (xx.2.2.2.2.2.2.2.1) 8 (cst 0), ai T (xx.2.2.2.2.2.2.2.2.1) 6 (cst 0), ai T (xx.2.2.2.2.2.2.2.2.2.1) 6 (cst 0), ai T (xx.2.2.2.2.2.2.2.2.2.2.1) 6 (cst 0)])) (lv := [(0, .ref h0)]) (by decide +kernel) (Nat.le_of_ble_eq_true rfl) rfl (fun p e s m below meth c A ls H locs hx hb hml hr hlocks hown hin hg hN hA hP hK hD hS hl => ?_)
  refine lv_aload_n hx hb dX5_init_0 rfl (lv_at hl 0 rfl) ?_
  refine W.objInit hx hb hown (hg _ km_X5_3) (hg _ ki_objectInit) (hg _ kd_objectInit) rfl (by rw [hml]; exact hl.1) rfl dX5_init_1 (Nat.le_of_ble_eq_true rfl) (Nat.le_of_ble_eq_true rfl) ?_
  refine W.eq (g2 := F0 m 4 ls []) rfl ?_
  refine lv_aload_n hx hb dX5_init_4 rfl (lv_at hl 0 rfl) ?_
  refine lv_sipush (v := 360) hx hb dX5_init_5 (by decide) ?_
  refine z_newa (atype := .int) (ty := .int) (N' := 360) (a0 := (360, (.inl (cst 0)))) hx hb (hg _ ka_int) rfl rfl hK hP hD hS hA 0 rfl (fun _ => rfl) (by decide) (by decide) (Nat.le_of_ble_eq_true rfl) (Nat.le_of_ble_eq_true rfl) (Nat.le_of_ble_eq_true rfl) dX5_init_8 (fun q1 H hP hD hS => ?_)
  have hP : va_P D vwCl [ob h0 5 [.int 0, .null, .null, .null, .null, .null, .null, .null, .null, .int 0, .int 0, .null, .null, .null, .null], ai T q1 360 (cst 0)] H := hP
  have hD : va_D A [ob h0 5 [.int 0, .null, .null, .null, .null, .null, .null, .null, .null, .int 0, .int 0, .null, .null, .null, .null], ai T q1 360 (cst 0)] := hD
  refine W.widen (k := 1) (n := 360) (Nat.le_of_ble_eq_true rfl) (Nat.le_of_ble_eq_true rfl) ?_
  refine va_putF (D := D) (ci := 5) (v := .ref q1) (ty := (.array .int)) (C := RX5) (T := TX5) (N := 15) hx hb hg inX5 tyX5 tyX5_ok nmX5 hown hK hP hD hS 0 rfl rfl 1 (by decide) (hg _ kf_X5_9) (fun _ h9 => h9) rfl hin rfl (by decide +kernel) rfl rfl (Nat.le_of_ble_eq_true rfl) dX5_init_10 (fun H locs hP hD hS => ?_)
  have hP : va_P D vwCl [ob h0 5 [.int 0, .ref q1, .null, .null, .null, .null, .null, .null, .null, .int 0, .int 0, .null, .null, .null, .null], ai T q1 360 (cst 0)] H := hP
  have hD : va_D A [ob h0 5 [.int 0, .ref q1, .null, .null, .null, .null, .null, .null, .null, .int 0, .int 0, .null, .null, .null, .null], ai T q1 360 (cst 0)] := hD
  refine lv_aload_n hx hb dX5_init_13 rfl (lv_at hl 0 rfl) ?_
  refine lv_sipush (v := 360) hx hb dX5_init_14 (by decide) ?_
  refine z_newa (atype := .int) (ty := .int) (N' := 360) (a0 := (360, (.inl (cst 0)))) hx hb (hg _ ka_int) rfl rfl hK hP hD hS hA 0 rfl (fun _ => rfl) (by decide) (by decide) (Nat.le_of_ble_eq_true rfl) (Nat.le_of_ble_eq_true rfl) (Nat.le_of_ble_eq_true rfl) dX5_init_17 (fun q2 H hP hD hS => ?_)
  have hP : va_P D vwCl [ob h0 5 [.int 0, .ref q1, .null, .null, .null, .null, .null, .null, .null, .int 0, .int 0, .null, .null, .null, .null], ai T q1 360 (cst 0), ai T q2 360 (cst 0)] H := hP
  have hD : va_D A [ob h0 5 [.int 0, .ref q1, .null, .null, .null, .null, .null, .null, .null, .int 0, .int 0, .null, .null, .null, .null], ai T q1 360 (cst 0), ai T q2 360 (cst 0)] := hD
  refine W.widen (k := 2) (n := 720) (Nat.le_of_ble_eq_true rfl) (Nat.le_of_ble_eq_true rfl) ?_
  refine va_putF (D := D) (ci := 5) (v := .ref q2) (ty := (.array .int)) (C := RX5) (T := TX5) (N := 15) hx hb hg inX5 tyX5 tyX5_ok nmX5 hown hK hP hD hS 0 rfl rfl 2 (by decide) (hg _ kf_X5_15) (fun _ h9 => h9) rfl hin rfl (by decide +kernel) rfl rfl (Nat.le_of_ble_eq_true rfl) dX5_init_19 (fun H locs hP hD hS => ?_)
  have hP : va_P D vwCl [ob h0 5 [.int 0, .ref q1, .ref q2, .null, .null, .null, .null, .null, .null, .int 0, .int 0, .null, .null, .null, .null], ai T q1 360 (cst 0), ai T q2 360 (cst 0)] H := hP
  have hD : va_D A [ob h0 5 [.int 0, .ref q1, .ref q2, .null, .null, .null, .null, .null, .null, .int 0, .int 0, .null, .null, .null, .null], ai T q1 360 (cst 0), ai T q2 360 (cst 0)] := hD
  refine lv_aload_n hx hb dX5_init_22 rfl (lv_at hl 0 rfl) ?_
  refine lv_sipush (v := 360) hx hb dX5_init_23 (by decide) ?_
  refine z_newa (atype := .int) (ty := .int) (N' := 360) (a0 := (360, (.inl (cst 0)))) hx hb (hg _ ka_int) rfl rfl hK hP hD hS hA 0 rfl (fun _ => rfl) (by decide) (by decide) (Nat.le_of_ble_eq_true rfl) (Nat.le_of_ble_eq_true rfl) (Nat.le_of_ble_eq_true rfl) dX5_init_26 (fun q3 H hP hD hS => ?_)
  have hP : va_P D vwCl [ob h0 5 [.int 0, .ref q1, .ref q2, .null, .null, .null, .null, .null, .null, .int 0, .int 0, .null, .null, .null, .null], ai T q1 360 (cst 0), ai T q2 360 (cst 0), ai T q3 360 (cst 0)] H := hP
  have hD : va_D A [ob h0 5 [.int 0, .ref q1, .ref q2, .null, .null, .null, .null, .null, .null, .int 0, .int 0, .null, .null, .null, .null], ai T q1 360 (cst 0), ai T q2 360 (cst 0), ai T q3 360 (cst 0)] := hD
  refine W.widen (k := 3) (n := 1080) (Nat.le_of_ble_eq_true rfl) (Nat.le_of_ble_eq_true rfl) ?_
  refine va_putF (D := D) (ci := 5) (v := .ref q3) (ty := (.array .int)) (C := RX5) (T := TX5) (N := 15) hx hb hg inX5 tyX5 tyX5_ok nmX5 hown hK hP hD hS 0 rfl rfl 3 (by decide) (hg _ kf_X5_18) (fun _ h9 => h9) rfl hin rfl (by decide +kernel) rfl rfl (Nat.le_of_ble_eq_true rfl) dX5_init_28 (fun H locs hP hD hS => ?_)
  have hP : va_P D vwCl [ob h0 5 [.int 0, .ref q1, .ref q2, .ref q3, .null, .null, .null, .null, .null, .int 0, .int 0, .null, .null, .null, .null], ai T q1 360 (cst 0), ai T q2 360 (cst 0), ai T q3 360 (cst 0)] H := hP
  have hD : va_D A [ob h0 5 [.int 0, .ref q1, .ref q2, .ref q3, .null, .null, .null, .null, .null, .int 0, .int 0, .null, .null, .null, .null], ai T q1 360 (cst 0), ai T q2 360 (cst 0), ai T q3 360 (cst 0)] := hD
  refine lv_aload_n hx hb dX5_init_31 rfl (lv_at hl 0 rfl) ?_
  refine lv_sipush (v := 360) hx hb dX5_init_32 (by decide) ?_
  refine z_newa (atype := .int) (ty := .int) (N' := 360) (a0 := (360, (.inl (cst 0)))) hx hb (hg _ ka_int) rfl rfl hK hP hD hS hA 0 rfl (fun _ => rfl) (by decide) (by decide) (Nat.le_of_ble_eq_true rfl) (Nat.le_of_ble_eq_true rfl) (Nat.le_of_ble_eq_true rfl) dX5_init_35 (fun q4 H hP hD hS => ?_)
  have hP : va_P D vwCl [ob h0 5 [.int 0, .ref q1, .ref q2, .ref q3, .null, .null, .null, .null, .null, .int 0, .int 0, .null, .null, .null, .null], ai T q1 360 (cst 0), ai T q2 360 (cst 0), ai T q3 360 (cst 0), ai T q4 360 (cst 0)] H := hP
  have hD : va_D A [ob h0 5 [.int 0, .ref q1, .ref q2, .ref q3, .null, .null, .null, .null, .null, .int 0, .int 0, .null, .null, .null, .null], ai T q1 360 (cst 0), ai T q2 360 (cst 0), ai T q3 360 (cst 0), ai T q4 360 (cst 0)] := hD
  refine W.widen (k := 4) (n := 1440) (Nat.le_of_ble_eq_true rfl) (Nat.le_of_ble_eq_true rfl) ?_
  refine va_putF (D := D) (ci := 5) (v := .ref q4) (ty := (.array .int)) (C := RX5) (T := TX5) (N := 15) hx hb hg inX5 tyX5 tyX5_ok nmX5 hown hK hP hD hS 0 rfl rfl 4 (by decide) (hg _ kf_X5_21) (fun _ h9 => h9) rfl hin rfl (by decide +kernel) rfl rfl (Nat.le_of_ble_eq_true rfl) dX5_init_37 (fun H locs hP hD hS => ?_)
  have hP : va_P D vwCl [ob h0 5 [.int 0, .ref q1, .ref q2, .ref q3, .ref q4, .null, .null, .null, .null, .int 0, .int 0, .null, .null, .null, .null], ai T q1 360 (cst 0), ai T q2 360 (cst 0), ai T q3 360 (cst 0), ai T q4 360 (cst 0)] H := hP
  have hD : va_D A [ob h0 5 [.int 0, .ref q1, .ref q2, .ref q3, .ref q4, .null, .null, .null, .null, .int 0, .int 0, .null, .null, .null, .null], ai T q1 360 (cst 0), ai T q2 360 (cst 0), ai T q3 360 (cst 0), ai T q4 360 (cst 0)] := hD
  refine lv_aload_n hx hb dX5_init_40 rfl (lv_at hl 0 rfl) ?_
  refine lv_sipush (v := 360) hx hb dX5_init_41 (by decide) ?_
  refine z_newa (atype := .int) (ty := .int) (N' := 360) (a0 := (360, (.inl (cst 0)))) hx hb (hg _ ka_int) rfl rfl hK hP hD hS hA 0 rfl (fun _ => rfl) (by decide) (by decide) (Nat.le_of_ble_eq_true rfl) (Nat.le_of_ble_eq_true rfl) (Nat.le_of_ble_eq_true rfl) dX5_init_44 (fun q5 H hP hD hS => ?_)
  have hP : va_P D vwCl [ob h0 5 [.int 0, .ref q1, .ref q2, .ref q3, .ref q4, .null, .null, .null, .null, .int 0, .int 0, .null, .null, .null, .null], ai T q1 360 (cst 0), ai T q2 360 (cst 0), ai T q3 360 (cst 0), ai T q4 360 (cst 0), ai T q5 360 (cst 0)] H := hP
  have hD : va_D A [ob h0 5 [.int 0, .ref q1, .ref q2, .ref q3, .ref q4, .null, .null, .null, .null, .int 0, .int 0, .null, .null, .null, .null], ai T q1 360 (cst 0), ai T q2 360 (cst 0), ai T q3 360 (cst 0), ai T q4 360 (cst 0), ai T q5 360 (cst 0)] := hD
  refine W.widen (k := 5) (n := 1800) (Nat.le_of_ble_eq_true rfl) (Nat.le_of_ble_eq_true rfl) ?_
  refine va_putF (D := D) (ci := 5) (v := .ref q5) (ty := (.array .int)) (C := RX5) (T := TX5) (N := 15) hx hb hg inX5 tyX5 tyX5_ok nmX5 hown hK hP hD hS 0 rfl rfl 5 (by decide) (hg _ kf_X5_24) (fun _ h9 => h9) rfl hin rfl (by decide +kernel) rfl rfl (Nat.le_of_ble_eq_true rfl) dX5_init_46 (fun H locs hP hD hS => ?_)
  have hP : va_P D vwCl [ob h0 5 [.int 0, .ref q1, .ref q2, .ref q3, .ref q4, .ref q5, .null, .null, .null, .int 0, .int 0, .null, .null, .null, .null], ai T q1 360 (cst 0), ai T q2 360 (cst 0), ai T q3 360 (cst 0), ai T q4 360 (cst 0), ai T q5 360 (cst 0)] H := hP
  have hD : va_D A [ob h0 5 [.int 0, .ref q1, .ref q2, .ref q3, .ref q4, .ref q5, .null, .null, .null, .int 0, .int 0, .null, .null, .null, .null], ai T q1 360 (cst 0), ai T q2 360 (cst 0), ai T q3 360 (cst 0), ai T q4 360 (cst 0), ai T q5 360 (cst 0)] := hD
  refine lv_aload_n hx hb dX5_init_49 rfl (lv_at hl 0 rfl) ?_
  refine lv_sipush (v := 360) hx hb dX5_init_50 (by decide) ?_
  refine z_newa (atype := .int) (ty := .int) (N' := 360) (a0 := (360, (.inl (cst 0)))) hx hb (hg _ ka_int) rfl rfl hK hP hD hS hA 0 rfl (fun _ => rfl) (by decide) (by decide) (Nat.le_of_ble_eq_true rfl) (Nat.le_of_ble_eq_true rfl) (Nat.le_of_ble_eq_true rfl) dX5_init_53 (fun q6 H hP hD hS => ?_)
  have hP : va_P D vwCl [ob h0 5 [.int 0, .ref q1, .ref q2, .ref q3, .ref q4, .ref q5, .null, .null, .null, .int 0, .int 0, .null, .null, .null, .null], ai T q1 360 (cst 0), ai T q2 360 (cst 0), ai T q3 360 (cst 0), ai T q4 360 (cst 0), ai T q5 360 (cst 0), ai T q6 360 (cst 0)] H := hP
  have hD : va_D A [ob h0 5 [.int 0, .ref q1, .ref q2, .ref q3, .ref q4, .ref q5, .null, .null, .null, .int 0, .int 0, .null, .null, .null, .null], ai T q1 360 (cst 0), ai T q2 360 (cst 0), ai T q3 360 (cst 0), ai T q4 360 (cst 0), ai T q5 360 (cst 0), ai T q6 360 (cst 0)] := hD
  refine W.widen (k := 6) (n := 2160) (Nat.le_of_ble_eq_true rfl) (Nat.le_of_ble_eq_true rfl) ?_
  refine va_putF (D := D) (ci := 5) (v := .ref q6) (ty := (.array .int)) (C := RX5) (T := TX5) (N := 15) hx hb hg inX5 tyX5 tyX5_ok nmX5 hown hK hP hD hS 0 rfl rfl 6 (by decide) (hg _ kf_X5_27) (fun _ h9 => h9) rfl hin rfl (by decide +kernel) rfl rfl (Nat.le_of_ble_eq_true rfl) dX5_init_55 (fun H locs hP hD hS => ?_)
  have hP : va_P D vwCl [ob h0 5 [.int 0, .ref q1, .ref q2, .ref q3, .ref q4, .ref q5, .ref q6, .null, .null, .int 0, .int 0, .null, .null, .null, .null], ai T q1 360 (cst 0), ai T q2 360 (cst 0), ai T q3 360 (cst 0), ai T q4 360 (cst 0), ai T q5 360 (cst 0), ai T q6 360 (cst 0)] H := hP
  have hD : va_D A [ob h0 5 [.int 0, .ref q1, .ref q2, .ref q3, .ref q4, .ref q5, .ref q6, .null, .null, .int 0, .int 0, .null, .null, .null, .null], ai T q1 360 (cst 0), ai T q2 360 (cst 0), ai T q3 360 (cst 0), ai T q4 360 (cst 0), ai T q5 360 (cst 0), ai T q6 360 (cst 0)] := hD
  refine lv_aload_n hx hb dX5_init_58 rfl (lv_at hl 0 rfl) ?_
  refine lv_sipush (v := 360) hx hb dX5_init_59 (by decide) ?_
  refine z_newa (atype := .int) (ty := .int) (N' := 360) (a0 := (360, (.inl (cst 0)))) hx hb (hg _ ka_int) rfl rfl hK hP hD hS hA 0 rfl (fun _ => rfl) (by decide) (by decide) (Nat.le_of_ble_eq_true rfl) (Nat.le_of_ble_eq_true rfl) (Nat.le_of_ble_eq_true rfl) dX5_init_62 (fun q7 H hP hD hS => ?_)
  have hP : va_P D vwCl [ob h0 5 [.int 0, .ref q1, .ref q2, .ref q3, .ref q4, .ref q5, .ref q6, .null, .null, .int 0, .int 0, .null, .null, .null, .null], ai T q1 360 (cst 0), ai T q2 360 (cst 0), ai T q3 360 (cst 0), ai T q4 360 (cst 0), ai T q5 360 (cst 0), ai T q6 360 (cst 0), ai T q7 360 (cst 0)] H := hP
  have hD : va_D A [ob h0 5 [.int 0, .ref q1, .ref q2, .ref q3, .ref q4, .ref q5, .ref q6, .null, .null, .int 0, .int 0, .null, .null, .null, .null], ai T q1 360 (cst 0), ai T q2 360 (cst 0), ai T q3 360 (cst 0), ai T q4 360 (cst 0), ai T q5 360 (cst 0), ai T q6 360 (cst 0), ai T q7 360 (cst 0)] := hD
  refine W.widen (k := 7) (n := 2520) (Nat.le_of_ble_eq_true rfl) (Nat.le_of_ble_eq_true rfl) ?_
  refine va_putF (D := D) (ci := 5) (v := .ref q7) (ty := (.array .int)) (C := RX5) (T := TX5) (N := 15) hx hb hg inX5 tyX5 tyX5_ok nmX5 hown hK hP hD hS 0 rfl rfl 7 (by decide) (hg _ kf_X5_30) (fun _ h9 => h9) rfl hin rfl (by decide +kernel) rfl rfl (Nat.le_of_ble_eq_true rfl) dX5_init_64 (fun H locs hP hD hS => ?_)
  have hP : va_P D vwCl [ob h0 5 [.int 0, .ref q1, .ref q2, .ref q3, .ref q4, .ref q5, .ref q6, .ref q7, .null, .int 0, .int 0, .null, .null, .null, .null], ai T q1 360 (cst 0), ai T q2 360 (cst 0), ai T q3 360 (cst 0), ai T q4 360 (cst 0), ai T q5 360 (cst 0), ai T q6 360 (cst 0), ai T q7 360 (cst 0)] H := hP
  have hD : va_D A [ob h0 5 [.int 0, .ref q1, .ref q2, .ref q3, .ref q4, .ref q5, .ref q6, .ref q7, .null, .int 0, .int 0, .null, .null, .null, .null], ai T q1 360 (cst 0), ai T q2 360 (cst 0), ai T q3 360 (cst 0), ai T q4 360 (cst 0), ai T q5 360 (cst 0), ai T q6 360 (cst 0), ai T q7 360 (cst 0)] := hD
  refine lv_aload_n hx hb dX5_init_67 rfl (lv_at hl 0 rfl) ?_
  refine lv_bipush (v := 8) hx hb dX5_init_68 (by decide) ?_
  refine z_newa (atype := .int) (ty := .int) (N' := 8) (a0 := (8, (.inl (cst 0)))) hx hb (hg _ ka_int) rfl rfl hK hP hD hS hA 0 rfl (fun _ => rfl) (by decide) (by decide) (Nat.le_of_ble_eq_true rfl) (Nat.le_of_ble_eq_true rfl) (Nat.le_of_ble_eq_true rfl) dX5_init_70 (fun q8 H hP hD hS => ?_)
  have hP : va_P D vwCl [ob h0 5 [.int 0, .ref q1, .ref q2, .ref q3, .ref q4, .ref q5, .ref q6, .ref q7, .null, .int 0, .int 0, .null, .null, .null, .null], ai T q1 360 (cst 0), ai T q2 360 (cst 0), ai T q3 360 (cst 0), ai T q4 360 (cst 0), ai T q5 360 (cst 0), ai T q6 360 (cst 0), ai T q7 360 (cst 0), ai T q8 8 (cst 0)] H := hP
  have hD : va_D A [ob h0 5 [.int 0, .ref q1, .ref q2, .ref q3, .ref q4, .ref q5, .ref q6, .ref q7, .null, .int 0, .int 0, .null, .null, .null, .null], ai T q1 360 (cst 0), ai T q2 360 (cst 0), ai T q3 360 (cst 0), ai T q4 360 (cst 0), ai T q5 360 (cst 0), ai T q6 360 (cst 0), ai T q7 360 (cst 0), ai T q8 8 (cst 0)] := hD
  refine W.widen (k := 8) (n := 2528) (Nat.le_of_ble_eq_true rfl) (Nat.le_of_ble_eq_true rfl) ?_
  refine va_putF (D := D) (ci := 5) (v := .ref q8) (ty := (.array .int)) (C := RX5) (T := TX5) (N := 15) hx hb hg inX5 tyX5 tyX5_ok nmX5 hown hK hP hD hS 0 rfl rfl 8 (by decide) (hg _ kf_X5_33) (fun _ h9 => h9) rfl hin rfl (by decide +kernel) rfl rfl (Nat.le_of_ble_eq_true rfl) dX5_init_72 (fun H locs hP hD hS => ?_)
  have hP : va_P D vwCl [ob h0 5 [.int 0, .ref q1, .ref q2, .ref q3, .ref q4, .ref q5, .ref q6, .ref q7, .ref q8, .int 0, .int 0, .null, .null, .null, .null], ai T q1 360 (cst 0), ai T q2 360 (cst 0), ai T q3 360 (cst 0), ai T q4 360 (cst 0), ai T q5 360 (cst 0), ai T q6 360 (cst 0), ai T q7 360 (cst 0), ai T q8 8 (cst 0)] H := hP
  have hD : va_D A [ob h0 5 [.int 0, .ref q1, .ref q2, .ref q3, .ref q4, .ref q5, .ref q6, .ref q7, .ref q8, .int 0, .int 0, .null, .null, .null, .null], ai T q1 360 (cst 0), ai T q2 360 (cst 0), ai T q3 360 (cst 0), ai T q4 360 (cst 0), ai T q5 360 (cst 0), ai T q6 360 (cst 0), ai T q7 360 (cst 0), ai T q8 8 (cst 0)] := hD
  refine lv_aload_n hx hb dX5_init_75 rfl (lv_at hl 0 rfl) ?_
  refine lv_bipush (v := 6) hx hb dX5_init_76 (by decide) ?_
  refine z_newa (atype := .int) (ty := .int) (N' := 6) (a0 := (6, (.inl (cst 0)))) hx hb (hg _ ka_int) rfl rfl hK hP hD hS hA 0 rfl (fun _ => rfl) (by decide) (by decide) (Nat.le_of_ble_eq_true rfl) (Nat.le_of_ble_eq_true rfl) (Nat.le_of_ble_eq_true rfl) dX5_init_78 (fun q9 H hP hD hS => ?_)
  have hP : va_P D vwCl [ob h0 5 [.int 0, .ref q1, .ref q2, .ref q3, .ref q4, .ref q5, .ref q6, .ref q7, .ref q8, .int 0, .int 0, .null, .null, .null, .null], ai T q1 360 (cst 0), ai T q2 360 (cst 0), ai T q3 360 (cst 0), ai T q4 360 (cst 0), ai T q5 360 (cst 0), ai T q6 360 (cst 0), ai T q7 360 (cst 0), ai T q8 8 (cst 0), ai T q9 6 (cst 0)] H := hP
  have hD : va_D A [ob h0 5 [.int 0, .ref q1, .ref q2, .ref q3, .ref q4, .ref q5, .ref q6, .ref q7, .ref q8, .int 0, .int 0, .null, .null, .null, .null], ai T q1 360 (cst 0), ai T q2 360 (cst 0), ai T q3 360 (cst 0), ai T q4 360 (cst 0), ai T q5 360 (cst 0), ai T q6 360 (cst 0), ai T q7 360 (cst 0), ai T q8 8 (cst 0), ai T q9 6 (cst 0)] := hD
  refine W.widen (k := 9) (n := 2534) (Nat.le_of_ble_eq_true rfl) (Nat.le_of_ble_eq_true rfl) ?_
  refine va_putF (D := D) (ci := 5) (v := .ref q9) (ty := (.array .int)) (C := RX5) (T := TX5) (N := 15) hx hb hg inX5 tyX5 tyX5_ok nmX5 hown hK hP hD hS 0 rfl rfl 11 (by decide) (hg _ kf_X5_36) (fun _ h9 => h9) rfl hin rfl (by decide +kernel) rfl rfl (Nat.le_of_ble_eq_true rfl) dX5_init_80 (fun H locs hP hD hS => ?_)
  have hP : va_P D vwCl [ob h0 5 [.int 0, .ref q1, .ref q2, .ref q3, .ref q4, .ref q5, .ref q6, .ref q7, .ref q8, .int 0, .int 0, .ref q9, .null, .null, .null], ai T q1 360 (cst 0), ai T q2 360 (cst 0), ai T q3 360 (cst 0), ai T q4 360 (cst 0), ai T q5 360 (cst 0), ai T q6 360 (cst 0), ai T q7 360 (cst 0), ai T q8 8 (cst 0), ai T q9 6 (cst 0)] H := hP
  have hD : va_D A [ob h0 5 [.int 0, .ref q1, .ref q2, .ref q3, .ref q4, .ref q5, .ref q6, .ref q7, .ref q8, .int 0, .int 0, .ref q9, .null, .null, .null], ai T q1 360 (cst 0), ai T q2 360 (cst 0), ai T q3 360 (cst 0), ai T q4 360 (cst 0), ai T q5 360 (cst 0), ai T q6 360 (cst 0), ai T q7 360 (cst 0), ai T q8 8 (cst 0), ai T q9 6 (cst 0)] := hD
  refine lv_aload_n hx hb dX5_init_83 rfl (lv_at hl 0 rfl) ?_
  refine lv_bipush (v := 6) hx hb dX5_init_84 (by decide) ?_
  refine z_newa (atype := .int) (ty := .int) (N' := 6) (a0 := (6, (.inl (cst 0)))) hx hb (hg _ ka_int) rfl rfl hK hP hD hS hA 0 rfl (fun _ => rfl) (by decide) (by decide) (Nat.le_of_ble_eq_true rfl) (Nat.le_of_ble_eq_true rfl) (Nat.le_of_ble_eq_true rfl) dX5_init_86 (fun q10 H hP hD hS => ?_)
  have hP : va_P D vwCl [ob h0 5 [.int 0, .ref q1, .ref q2, .ref q3, .ref q4, .ref q5, .ref q6, .ref q7, .ref q8, .int 0, .int 0, .ref q9, .null, .null, .null], ai T q1 360 (cst 0), ai T q2 360 (cst 0), ai T q3 360 (cst 0), ai T q4 360 (cst 0), ai T q5 360 (cst 0), ai T q6 360 (cst 0), ai T q7 360 (cst 0), ai T q8 8 (cst 0), ai T q9 6 (cst 0), ai T q10 6 (cst 0)] H := hP
  have hD : va_D A [ob h0 5 [.int 0, .ref q1, .ref q2, .ref q3, .ref q4, .ref q5, .ref q6, .ref q7, .ref q8, .int 0, .int 0, .ref q9, .null, .null, .null], ai T q1 360 (cst 0), ai T q2 360 (cst 0), ai T q3 360 (cst 0), ai T q4 360 (cst 0), ai T q5 360 (cst 0), ai T q6 360 (cst 0), ai T q7 360 (cst 0), ai T q8 8 (cst 0), ai T q9 6 (cst 0), ai T q10 6 (cst 0)] := hD
  refine W.widen (k := 10) (n := 2540) (Nat.le_of_ble_eq_true rfl) (Nat.le_of_ble_eq_true rfl) ?_
  refine va_putF (D := D) (ci := 5) (v := .ref q10) (ty := (.array .int)) (C := RX5) (T := TX5) (N := 15) hx hb hg inX5 tyX5 tyX5_ok nmX5 hown hK hP hD hS 0 rfl rfl 12 (by decide) (hg _ kf_X5_39) (fun _ h9 => h9) rfl hin rfl (by decide +kernel) rfl rfl (Nat.le_of_ble_eq_true rfl) dX5_init_88 (fun H locs hP hD hS => ?_)
  have hP : va_P D vwCl [ob h0 5 [.int 0, .ref q1, .ref q2, .ref q3, .ref q4, .ref q5, .ref q6, .ref q7, .ref q8, .int 0, .int 0, .ref q9, .ref q10, .null, .null], ai T q1 360 (cst 0), ai T q2 360 (cst 0), ai T q3 360 (cst 0), ai T q4 360 (cst 0), ai T q5 360 (cst 0), ai T q6 360 (cst 0), ai T q7 360 (cst 0), ai T q8 8 (cst 0), ai T q9 6 (cst 0), ai T q10 6 (cst 0)] H := hP
  have hD : va_D A [ob h0 5 [.int 0, .ref q1, .ref q2, .ref q3, .ref q4, .ref q5, .ref q6, .ref q7, .ref q8, .int 0, .int 0, .ref q9, .ref q10, .null, .null], ai T q1 360 (cst 0), ai T q2 360 (cst 0), ai T q3 360 (cst 0), ai T q4 360 (cst 0), ai T q5 360 (cst 0), ai T q6 360 (cst 0), ai T q7 360 (cst 0), ai T q8 8 (cst 0), ai T q9 6 (cst 0), ai T q10 6 (cst 0)] := hD
  refine lv_aload_n hx hb dX5_init_91 rfl (lv_at hl 0 rfl) ?_
  refine lv_bipush (v := 6) hx hb dX5_init_92 (by decide) ?_
  refine z_newa (atype := .int) (ty := .int) (N' := 6) (a0 := (6, (.inl (cst 0)))) hx hb (hg _ ka_int) rfl rfl hK hP hD hS hA 0 rfl (fun _ => rfl) (by decide) (by decide) (Nat.le_of_ble_eq_true rfl) (Nat.le_of_ble_eq_true rfl) (Nat.le_of_ble_eq_true rfl) dX5_init_94 (fun q11 H hP hD hS => ?_)
  have hP : va_P D vwCl [ob h0 5 [.int 0, .ref q1, .ref q2, .ref q3, .ref q4, .ref q5, .ref q6, .ref q7, .ref q8, .int 0, .int 0, .ref q9, .ref q10, .null, .null], ai T q1 360 (cst 0), ai T q2 360 (cst 0), ai T q3 360 (cst 0), ai T q4 360 (cst 0), ai T q5 360 (cst 0), ai T q6 360 (cst 0), ai T q7 360 (cst 0), ai T q8 8 (cst 0), ai T q9 6 (cst 0), ai T q10 6 (cst 0), ai T q11 6 (cst 0)] H := hP
  have hD : va_D A [ob h0 5 [.int 0, .ref q1, .ref q2, .ref q3, .ref q4, .ref q5, .ref q6, .ref q7, .ref q8, .int 0, .int 0, .ref q9, .ref q10, .null, .null], ai T q1 360 (cst 0), ai T q2 360 (cst 0), ai T q3 360 (cst 0), ai T q4 360 (cst 0), ai T q5 360 (cst 0), ai T q6 360 (cst 0), ai T q7 360 (cst 0), ai T q8 8 (cst 0), ai T q9 6 (cst 0), ai T q10 6 (cst 0), ai T q11 6 (cst 0)] := hD
  refine W.widen (k := 11) (n := 2546) (Nat.le_of_ble_eq_true rfl) (Nat.le_of_ble_eq_true rfl) ?_
  refine va_putF (D := D) (ci := 5) (v := .ref q11) (ty := (.array .int)) (C := RX5) (T := TX5) (N := 15) hx hb hg inX5 tyX5 tyX5_ok nmX5 hown hK hP hD hS 0 rfl rfl 13 (by decide) (hg _ kf_X5_42) (fun _ h9 => h9) rfl hin rfl (by decide +kernel) rfl rfl (Nat.le_of_ble_eq_true rfl) dX5_init_96 (fun H locs hP hD hS => ?_)
  have hP : va_P D vwCl [ob h0 5 [.int 0, .ref q1, .ref q2, .ref q3, .ref q4, .ref q5, .ref q6, .ref q7, .ref q8, .int 0, .int 0, .ref q9, .ref q10, .ref q11, .null], ai T q1 360 (cst 0), ai T q2 360 (cst 0), ai T q3 360 (cst 0), ai T q4 360 (cst 0), ai T q5 360 (cst 0), ai T q6 360 (cst 0), ai T q7 360 (cst 0), ai T q8 8 (cst 0), ai T q9 6 (cst 0), ai T q10 6 (cst 0), ai T q11 6 (cst 0)] H := hP
  have hD : va_D A [ob h0 5 [.int 0, .ref q1, .ref q2, .ref q3, .ref q4, .ref q5, .ref q6, .ref q7, .ref q8, .int 0, .int 0, .ref q9, .ref q10, .ref q11, .null], ai T q1 360 (cst 0), ai T q2 360 (cst 0), ai T q3 360 (cst 0), ai T q4 360 (cst 0), ai T q5 360 (cst 0), ai T q6 360 (cst 0), ai T q7 360 (cst 0), ai T q8 8 (cst 0), ai T q9 6 (cst 0), ai T q10 6 (cst 0), ai T q11 6 (cst 0)] := hD
  refine lv_aload_n hx hb dX5_init_99 rfl (lv_at hl 0 rfl) ?_
  refine lv_bipush (v := 24) hx hb dX5_init_100 (by decide) ?_
  refine z_newa (atype := .int) (ty := .int) (N' := 24) (a0 := (24, (.inl (cst 0)))) hx hb (hg _ ka_int) rfl rfl hK hP hD hS hA 0 rfl (fun _ => rfl) (by decide) (by decide) (Nat.le_of_ble_eq_true rfl) (Nat.le_of_ble_eq_true rfl) (Nat.le_of_ble_eq_true rfl) dX5_init_102 (fun q12 H hP hD hS => ?_)
  have hP : va_P D vwCl [ob h0 5 [.int 0, .ref q1, .ref q2, .ref q3, .ref q4, .ref q5, .ref q6, .ref q7, .ref q8, .int 0, .int 0, .ref q9, .ref q10, .ref q11, .null], ai T q1 360 (cst 0), ai T q2 360 (cst 0), ai T q3 360 (cst 0), ai T q4 360 (cst 0), ai T q5 360 (cst 0), ai T q6 360 (cst 0), ai T q7 360 (cst 0), ai T q8 8 (cst 0), ai T q9 6 (cst 0), ai T q10 6 (cst 0), ai T q11 6 (cst 0), ai T q12 24 (cst 0)] H := hP
  have hD : va_D A [ob h0 5 [.int 0, .ref q1, .ref q2, .ref q3, .ref q4, .ref q5, .ref q6, .ref q7, .ref q8, .int 0, .int 0, .ref q9, .ref q10, .ref q11, .null], ai T q1 360 (cst 0), ai T q2 360 (cst 0), ai T q3 360 (cst 0), ai T q4 360 (cst 0), ai T q5 360 (cst 0), ai T q6 360 (cst 0), ai T q7 360 (cst 0), ai T q8 8 (cst 0), ai T q9 6 (cst 0), ai T q10 6 (cst 0), ai T q11 6 (cst 0), ai T q12 24 (cst 0)] := hD
  refine W.widen (k := 12) (n := 2570) (Nat.le_of_ble_eq_true rfl) (Nat.le_of_ble_eq_true rfl) ?_
  refine va_putF (D := D) (ci := 5) (v := .ref q12) (ty := (.array .int)) (C := RX5) (T := TX5) (N := 15) hx hb hg inX5 tyX5 tyX5_ok nmX5 hown hK hP hD hS 0 rfl rfl 14 (by decide) (hg _ kf_X5_45) (fun _ h9 => h9) rfl hin rfl (by decide +kernel) rfl rfl (Nat.le_of_ble_eq_true rfl) dX5_init_104 (fun H locs hP hD hS => ?_)
  have hP : va_P D vwCl [ob h0 5 [.int 0, .ref q1, .ref q2, .ref q3, .ref q4, .ref q5, .ref q6, .ref q7, .ref q8, .int 0, .int 0, .ref q9, .ref q10, .ref q11, .ref q12], ai T q1 360 (cst 0), ai T q2 360 (cst 0), ai T q3 360 (cst 0), ai T q4 360 (cst 0), ai T q5 360 (cst 0), ai T q6 360 (cst 0), ai T q7 360 (cst 0), ai T q8 8 (cst 0), ai T q9 6 (cst 0), ai T q10 6 (cst 0), ai T q11 6 (cst 0), ai T q12 24 (cst 0)] H := hP
  have hD : va_D A [ob h0 5 [.int 0, .ref q1, .ref q2, .ref q3, .ref q4, .ref q5, .ref q6, .ref q7, .ref q8, .int 0, .int 0, .ref q9, .ref q10, .ref q11, .ref q12], ai T q1 360 (cst 0), ai T q2 360 (cst 0), ai T q3 360 (cst 0), ai T q4 360 (cst 0), ai T q5 360 (cst 0), ai T q6 360 (cst 0), ai T q7 360 (cst 0), ai T q8 8 (cst 0), ai T q9 6 (cst 0), ai T q10 6 (cst 0), ai T q11 6 (cst 0), ai T q12 24 (cst 0)] := hD
  refine W.widen (k := 12) (n := 2570) (Nat.le_of_ble_eq_true rfl) (Nat.le_of_ble_eq_true rfl) ?_
  exact ret_v (X := Nat × Nat × Nat × Nat × Nat × Nat × Nat × Nat × Nat × Nat × Nat × Nat) ((q1, q2, q3, q4, q5, q6, q7, q8, q9, q10, q11, q12)) hx hb hr hlocks hP hD hS [0, 1, 2, 3, 4, 5, 6, 7, 8, 9, 10, 11] (by decide) rfl trivial dX5_init_107
theorem dX1_init_0 : decode cX1_init 0 = .ok (.aload_n 0, 1) := by decide +kernel
theorem dX1_init_1 : decode cX1_init 1 = .ok (.invokespecial 3, 3) := by decide +kernel
theorem dX1_init_4 : decode cX1_init 4 = .ok (.aload_n 0, 1) := by decide +kernel
theorem dX1_init_5 : decode cX1_init 5 = .ok (.bipush 100, 2) := by decide +kernel
theorem dX1_init_7 : decode cX1_init 7 = .ok (.newarray .int, 2) := by decide +kernel
theorem dX1_init_9 : decode cX1_init 9 = .ok (.putfield 9, 3) := by decide +kernel
theorem dX1_init_12 : decode cX1_init 12 = .ok (.aload_n 0, 1) := by decide +kernel
theorem dX1_init_13 : decode cX1_init 13 = .ok (.bipush 100, 2) := by decide +kernel
theorem dX1_init_15 : decode cX1_init 15 = .ok (.newarray .int, 2) := by decide +kernel
theorem dX1_init_17 : decode cX1_init 17 = .ok (.putfield 15, 3) := by decide +kernel
theorem dX1_init_20 : decode cX1_init 20 = .ok (.aload_n 0, 1) := by decide +kernel
theorem dX1_init_21 : decode cX1_init 21 = .ok (.bipush 100, 2) := by decide +kernel
theorem dX1_init_23 : decode cX1_init 23 = .ok (.newarray .int, 2) := by decide +kernel
theorem dX1_init_25 : decode cX1_init 25 = .ok (.putfield 18, 3) := by decide +kernel
theorem dX1_init_28 : decode cX1_init 28 = .ok (.aload_n 0, 1) := by decide +kernel
theorem dX1_init_29 : decode cX1_init 29 = .ok (.bipush 100, 2) := by decide +kernel
theorem dX1_init_31 : decode cX1_init 31 = .ok (.newarray .int, 2) := by decide +kernel
theorem dX1_init_33 : decode cX1_init 33 = .ok (.putfield 21, 3) := by decide +kernel
theorem dX1_init_36 : decode cX1_init 36 = .ok (.aload_n 0, 1) := by decide +kernel
theorem dX1_init_37 : decode cX1_init 37 = .ok (.bipush 100, 2) := by decide +kernel
theorem dX1_init_39 : decode cX1_init 39 = .ok (.newarray .int, 2) := by decide +kernel
theorem dX1_init_41 : decode cX1_init 41 = .ok (.putfield 24, 3) := by decide +kernel
theorem dX1_init_44 : decode cX1_init 44 = .ok (.aload_n 0, 1) := by decide +kernel
theorem dX1_init_45 : decode cX1_init 45 = .ok (.bipush 100, 2) := by decide +kernel
theorem dX1_init_47 : decode cX1_init 47 = .ok (.newarray .int, 2) := by decide +kernel
theorem dX1_init_49 : decode cX1_init 49 = .ok (.putfield 27, 3) := by decide +kernel
theorem dX1_init_52 : decode cX1_init 52 = .ok (.aload_n 0, 1) := by decide +kernel
theorem dX1_init_53 : decode cX1_init 53 = .ok (.bipush 100, 2) := by decide +kernel
theorem dX1_init_55 : decode cX1_init 55 = .ok (.newarray .int, 2) := by decide +kernel
theorem dX1_init_57 : decode cX1_init 57 = .ok (.putfield 30, 3) := by decide +kernel
theorem dX1_init_60 : decode cX1_init 60 = .ok (.return_, 1) := by decide +kernel
set_option maxHeartbeats 4000000 in
set_option maxRecDepth 100000 in
theorem c_X1_init (l : Launch) (D : va_G) (T : Nat → ClassId) (h0 : Nat) (sz : Nat) : Met l yX1_init (WS (.code yX1_init cX1_init 1 none)) ({ frames := 2, cells := 7, slots := 700, locals := 64 } : Room) (va_Pc [.ref h0] (PW D (TY T) [ob h0 1 [.int 0, .int 0, .null, .null, .null, .null, .null, .null, .null]] sz)) (QV (X := Nat × Nat × Nat × Nat × Nat × Nat × Nat) D (fun _ => True) (fun xx => [ob h0 1 [.int 0, .int 0, .ref (xx.1), .ref (xx.2.1), .ref (xx.2.2.1), .ref (xx.2.2.2.1), .ref (xx.2.2.2.2.1), .ref (xx.2.2.2.2.2.1), .ref (xx.2.2.2.2.2.2)], ai T (xx.1) 100 (cst 0), ai T (xx.2.1) 100 (cst 0), ai T (xx.2.2.1) 100 (cst 0), ai T (xx.2.2.2.1) 100 (cst 0), ai T (xx.2.2.2.2.1) 100 (cst 0), ai T (xx.2.2.2.2.2.1) 100 (cst 0), ai T (xx.2.2.2.2.2.2) 100 (cst 0)]) (va_A [ob h0 1 [.int 0, .int 0, .null, .null, .null, .null, .null, .null, .null]] sz)) 7 700 (va_A [ob h0 1 [.int 0, .int 0, .null, .null, .null, .null, .null, .null, .null]] sz) := by
  refine mk_met (Qc := QV (X := Nat × Nat × Nat × Nat × Nat × Nat × Nat) D (fun _ => True) (fun xx => [ob h0 1 [.int 0, .int 0, .ref (xx.1), .ref (xx.2.1), .ref (xx.2.2.1), .ref (xx.2.2.2.1), .ref (xx.2.2.2.2.1), .ref (xx.2.2.2.2.2.1), .ref (xx.2.2.2.2.2.2)], ai T (xx.1) 100 (cst 0), ai T (xx.2.1) 100 (cst 0), ai T (xx.2.2.1) 100 (cst 0), ai T (xx.2.2.2.1) 100 (cst 0), ai T (xx.2.2.2.2.1) 100 (cst 0), ai T (xx.2.2.2.2.2.1) 100 (cst 0), ai T (xx.2.2.2.2.2.2) 100 (cst 0)])) (lv := [(0, .ref h0)]) (by decide +kernel) (Nat.le_of_ble_eq_true rfl) rfl (fun p e s m below meth c A ls H locs hx hb hml hr hlocks hown hin hg hN hA hP hK hD hS hl => ?_)
  refine lv_aload_n hx hb dX1_init_0 rfl (lv_at hl 0 rfl) ?_
  refine W.objInit hx hb hown (hg _ km_X1_3) (hg _ ki_objectInit) (hg _ kd_objectInit) rfl (by rw [hml]; exact hl.1) rfl dX1_init_1 (Nat.le_of_ble_eq_true rfl) (Nat.le_of_ble_eq_true rfl) ?_
  refine W.eq (g2 := F0 m 4 ls []) rfl ?_
  refine lv_aload_n hx hb dX1_init_4 rfl (lv_at hl 0 rfl) ?_
  refine lv_bipush (v := 100) hx hb dX1_init_5 (by decide) ?_
  refine z_newa (atype := .int) (ty := .int) (N' := 100) (a0 := (100, (.inl (cst 0)))) hx hb (hg _ ka_int) rfl rfl hK hP hD hS hA 0 rfl (fun _ => rfl) (by decide) (by decide) (Nat.le_of_ble_eq_true rfl) (Nat.le_of_ble_eq_true rfl) (Nat.le_of_ble_eq_true rfl) dX1_init_7 (fun q1 H hP hD hS => ?_)
  have hP : va_P D vwCl [ob h0 1 [.int 0, .int 0, .null, .null, .null, .null, .null, .null, .null], ai T q1 100 (cst 0)] H := hP
  have hD : va_D A [ob h0 1 [.int 0, .int 0, .null, .null, .null, .null, .null, .null, .null], ai T q1 100 (cst 0)] := hD
  refine W.widen (k := 1) (n := 100) (Nat.le_of_ble_eq_true rfl) (Nat.le_of_ble_eq_true rfl) ?_
  refine va_putF (D := D) (ci := 1) (v := .ref q1) (ty := (.array .int)) (C := RX1) (T := TX1) (N := 9) hx hb hg inX1 tyX1 tyX1_ok nmX1 hown hK hP hD hS 0 rfl rfl 2 (by decide) (hg _ kf_X1_9) (fun _ h9 => h9) rfl hin rfl (by decide +kernel) rfl rfl (Nat.le_of_ble_eq_true rfl) dX1_init_9 (fun H locs hP hD hS => ?_)
  have hP : va_P D vwCl [ob h0 1 [.int 0, .int 0, .ref q1, .null, .null, .null, .null, .null, .null], ai T q1 100 (cst 0)] H := hP
  have hD : va_D A [ob h0 1 [.int 0, .int 0, .ref q1, .null, .null, .null, .null, .null, .null], ai T q1 100 (cst 0)] := hD
  refine lv_aload_n hx hb dX1_init_12 rfl (lv_at hl 0 rfl) ?_
  refine lv_bipush (v := 100) hx hb dX1_init_13 (by decide) ?_
  refine z_newa (atype := .int) (ty := .int) (N' := 100) (a0 := (100, (.inl (cst 0)))) hx hb (hg _ ka_int) rfl rfl hK hP hD hS hA 0 rfl (fun _ => rfl) (by decide) (by decide) (Nat.le_of_ble_eq_true rfl) (Nat.le_of_ble_eq_true rfl) (Nat.le_of_ble_eq_true rfl) dX1_init_15 (fun q2 H hP hD hS => ?_)
  have hP : va_P D vwCl [ob h0 1 [.int 0, .int 0, .ref q1, .null, .null, .null, .null, .null, .null], ai T q1 100 (cst 0), ai T q2 100 (cst 0)] H := hP
  have hD : va_D A [ob h0 1 [.int 0, .int 0, .ref q1, .null, .null, .null, .null, .null, .null], ai T q1 100 (cst 0), ai T q2 100 (cst 0)] := hD
  refine W.widen (k := 2) (n := 200) (Nat.le_of_ble_eq_true rfl) (Nat.le_of_ble_eq_true rfl) ?_
  refine va_putF (D := D) (ci := 1) (v := .ref q2) (ty := (.array .int)) (C := RX1) (T := TX1) (N := 9) hx hb hg inX1 tyX1 tyX1_ok nmX1 hown hK hP hD hS 0 rfl rfl 3 (by decide) (hg _ kf_X1_15) (fun _ h9 => h9) rfl hin rfl (by decide +kernel) rfl rfl (Nat.le_of_ble_eq_true rfl) dX1_init_17 (fun H locs hP hD hS => ?_)
  have hP : va_P D vwCl [ob h0 1 [.int 0, .int 0, .ref q1, .ref q2, .null, .null, .null, .null, .null], ai T q1 100 (cst 0), ai T q2 100 (cst 0)] H := hP
  have hD : va_D A [ob h0 1 [.int 0, .int 0, .ref q1, .ref q2, .null, .null, .null, .null, .null], ai T q1 100 (cst 0), ai T q2 100 (cst 0)] := hD
  refine lv_aload_n hx hb dX1_init_20 rfl (lv_at hl 0 rfl) ?_
  refine lv_bipush (v := 100) hx hb dX1_init_21 (by decide) ?_
  refine z_newa (atype := .int) (ty := .int) (N' := 100) (a0 := (100, (.inl (cst 0)))) hx hb (hg _ ka_int) rfl rfl hK hP hD hS hA 0 rfl (fun _ => rfl) (by decide) (by decide) (Nat.le_of_ble_eq_true rfl) (Nat.le_of_ble_eq_true rfl) (Nat.le_of_ble_eq_true rfl) dX1_init_23 (fun q3 H hP hD hS => ?_)
  have hP : va_P D vwCl [ob h0 1 [.int 0, .int 0, .ref q1, .ref q2, .null, .null, .null, .null, .null], ai T q1 100 (cst 0), ai T q2 100 (cst 0), ai T q3 100 (cst 0)] H := hP
  have hD : va_D A [ob h0 1 [.int 0, .int 0, .ref q1, .ref q2, .null, .null, .null, .null, .null], ai T q1 100 (cst 0), ai T q2 100 (cst 0), ai T q3 100 (cst 0)] := hD
  refine W.widen (k := 3) (n := 300) (Nat.le_of_ble_eq_true rfl) (Nat.le_of_ble_eq_true rfl) ?_
  refine va_putF (D := D) (ci := 1) (v := .ref q3) (ty := (.array .int)) (C := RX1) (T := TX1) (N := 9) hx hb hg inX1 tyX1 tyX1_ok nmX1 hown hK hP hD hS 0 rfl rfl 4 (by decide) (hg _ kf_X1_18) (fun _ h9 => h9) rfl hin rfl (by decide +kernel) rfl rfl (Nat.le_of_ble_eq_true rfl) dX1_init_25 (fun H locs hP hD hS => ?_)
  have hP : va_P D vwCl [ob h0 1 [.int 0, .int 0, .ref q1, .ref q2, .ref q3, .null, .null, .null, .null], ai T q1 100 (cst 0), ai T q2 100 (cst 0), ai T q3 100 (cst 0)] H := hP
  have hD : va_D A [ob h0 1 [.int 0, .int 0, .ref q1, .ref q2, .ref q3, .null, .null, .null, .null], ai T q1 100 (cst 0), ai T q2 100 (cst 0), ai T q3 100 (cst 0)] := hD
  refine lv_aload_n hx hb dX1_init_28 rfl (lv_at hl 0 rfl) ?_
  refine lv_bipush (v := 100) hx hb dX1_init_29 (by decide) ?_
  refine z_newa (atype := .int) (ty := .int) (N' := 100) (a0 := (100, (.inl (cst 0)))) hx hb (hg _ ka_int) rfl rfl hK hP hD hS hA 0 rfl (fun _ => rfl) (by decide) (by decide) (Nat.le_of_ble_eq_true rfl) (Nat.le_of_ble_eq_true rfl) (Nat.le_of_ble_eq_true rfl) dX1_init_31 (fun q4 H hP hD hS => ?_)
  have hP : va_P D vwCl [ob h0 1 [.int 0, .int 0, .ref q1, .ref q2, .ref q3, .null, .null, .null, .null], ai T q1 100 (cst 0), ai T q2 100 (cst 0), ai T q3 100 (cst 0), ai T q4 100 (cst 0)] H := hP
  have hD : va_D A [ob h0 1 [.int 0, .int 0, .ref q1, .ref q2, .ref q3, .null, .null, .null, .null], ai T q1 100 (cst 0), ai T q2 100 (cst 0), ai T q3 100 (cst 0), ai T q4 100 (cst 0)] := hD
  refine W.widen (k := 4) (n := 400) (Nat.le_of_ble_eq_true rfl) (Nat.le_of_ble_eq_true rfl) ?_
  refine va_putF (D := D) (ci := 1) (v := .ref q4) (ty := (.array .int)) (C := RX1) (T := TX1) (N := 9) hx hb hg inX1 tyX1 tyX1_ok nmX1 hown hK hP hD hS 0 rfl rfl 5 (by decide) (hg _ kf_X1_21) (fun _ h9 => h9) rfl hin rfl (by decide +kernel) rfl rfl (Nat.le_of_ble_eq_true rfl) dX1_init_33 (fun H locs hP hD hS => ?_)
  have hP : va_P D vwCl [ob h0 1 [.int 0, .int 0, .ref q1, .ref q2, .ref q3, .ref q4, .null, .null, .null], ai T q1 100 (cst 0), ai T q2 100 (cst 0), ai T q3 100 (cst 0), ai T q4 100 (cst 0)] H := hP
  have hD : va_D A [ob h0 1 [.int 0, .int 0, .ref q1, .ref q2, .ref q3, .ref q4, .null, .null, .null], ai T q1 100 (cst 0), ai T q2 100 (cst 0), ai T q3 100 (cst 0), ai T q4 100 (cst 0)] := hD
  refine lv_aload_n hx hb dX1_init_36 rfl (lv_at hl 0 rfl) ?_
  refine lv_bipush (v := 100) hx hb dX1_init_37 (by decide) ?_
  refine z_newa (atype := .int) (ty := .int) (N' := 100) (a0 := (100, (.inl (cst 0)))) hx hb (hg _ ka_int) rfl rfl hK hP hD hS hA 0 rfl (fun _ => rfl) (by decide) (by decide) (Nat.le_of_ble_eq_true rfl) (Nat.le_of_ble_eq_true rfl) (Nat.le_of_ble_eq_true rfl) dX1_init_39 (fun q5 H hP hD hS => ?_)
  have hP : va_P D vwCl [ob h0 1 [.int 0, .int 0, .ref q1, .ref q2, .ref q3, .ref q4, .null, .null, .null], ai T q1 100 (cst 0), ai T q2 100 (cst 0), ai T q3 100 (cst 0), ai T q4 100 (cst 0), ai T q5 100 (cst 0)] H := hP
  have hD : va_D A [ob h0 1 [.int 0, .int 0, .ref q1, .ref q2, .ref q3, .ref q4, .null, .null, .null], ai T q1 100 (cst 0), ai T q2 100 (cst 0), ai T q3 100 (cst 0), ai T q4 100 (cst 0), ai T q5 100 (cst 0)] := hD
  refine W.widen (k := 5) (n := 500) (Nat.le_of_ble_eq_true rfl) (Nat.le_of_ble_eq_true rfl) ?_
  refine va_putF (D := D) (ci := 1) (v := .ref q5) (ty := (.array .int)) (C := RX1) (T := TX1) (N := 9) hx hb hg inX1 tyX1 tyX1_ok nmX1 hown hK hP hD hS 0 rfl rfl 6 (by decide) (hg _ kf_X1_24) (fun _ h9 => h9) rfl hin rfl (by decide +kernel) rfl rfl (Nat.le_of_ble_eq_true rfl) dX1_init_41 (fun H locs hP hD hS => ?_)
  have hP : va_P D vwCl [ob h0 1 [.int 0, .int 0, .ref q1, .ref q2, .ref q3, .ref q4, .ref q5, .null, .null], ai T q1 100 (cst 0), ai T q2 100 (cst 0), ai T q3 100 (cst 0), ai T q4 100 (cst 0), ai T q5 100 (cst 0)] H := hP
  have hD : va_D A [ob h0 1 [.int 0, .int 0, .ref q1, .ref q2, .ref q3, .ref q4, .ref q5, .null, .null], ai T q1 100 (cst 0), ai T q2 100 (cst 0), ai T q3 100 (cst 0), ai T q4 100 (cst 0), ai T q5 100 (cst 0)] := hD
  refine lv_aload_n hx hb dX1_init_44 rfl (lv_at hl 0 rfl) ?_
  refine lv_bipush (v := 100) hx hb dX1_init_45 (by decide) ?_
  refine z_newa (atype := .int) (ty := .int) (N' := 100) (a0 := (100, (.inl (cst 0)))) hx hb (hg _ ka_int) rfl rfl hK hP hD hS hA 0 rfl (fun _ => rfl) (by decide) (by decide) (Nat.le_of_ble_eq_true rfl) (Nat.le_of_ble_eq_true rfl) (Nat.le_of_ble_eq_true rfl) dX1_init_47 (fun q6 H hP hD hS => ?_)
  have hP : va_P D vwCl [ob h0 1 [.int 0, .int 0, .ref q1, .ref q2, .ref q3, .ref q4, .ref q5, .null, .null], ai T q1 100 (cst 0), ai T q2 100 (cst 0), ai T q3 100 (cst 0), ai T q4 100 (cst 0), ai T q5 100 (cst 0), ai T q6 100 (cst 0)] H := hP
  have hD : va_D A [ob h0 1 [.int 0, .int 0, .ref q1, .ref q2, .ref q3, .ref q4, .ref q5, .null, .null], ai T q1 100 (cst 0), ai T q2 100 (cst 0), ai T q3 100 (cst 0), ai T q4 100 (cst 0), ai T q5 100 (cst 0), ai T q6 100 (cst 0)] := hD
  refine W.widen (k := 6) (n := 600) (Nat.le_of_ble_eq_true rfl) (Nat.le_of_ble_eq_true rfl) ?_
  refine va_putF (D := D) (ci := 1) (v := .ref q6) (ty := (.array .int)) (C := RX1) (T := TX1) (N := 9) hx hb hg inX1 tyX1 tyX1_ok nmX1 hown hK hP hD hS 0 rfl rfl 7 (by decide) (hg _ kf_X1_27) (fun _ h9 => h9) rfl hin rfl (by decide +kernel) rfl rfl (Nat.le_of_ble_eq_true rfl) dX1_init_49 (fun H locs hP hD hS => ?_)
  have hP : va_P D vwCl [ob h0 1 [.int 0, .int 0, .ref q1, .ref q2, .ref q3, .ref q4, .ref q5, .ref q6, .null], ai T q1 100 (cst 0), ai T q2 100 (cst 0), ai T q3 100 (cst 0), ai T q4 100 (cst 0), ai T q5 100 (cst 0), ai T q6 100 (cst 0)] H := hP
  have hD : va_D A [ob h0 1 [.int 0, .int 0, .ref q1, .ref q2, .ref q3, .ref q4, .ref q5, .ref q6, .null], ai T q1 100 (cst 0), ai T q2 100 (cst 0), ai T q3 100 (cst 0), ai T q4 100 (cst 0), ai T q5 100 (cst 0), ai T q6 100 (cst 0)] := hD
  refine lv_aload_n hx hb dX1_init_52 rfl (lv_at hl 0 rfl) ?_
  refine lv_bipush (v := 100) hx hb dX1_init_53 (by decide) ?_
  refine z_newa (atype := .int) (ty := .int) (N' := 100) (a0 := (100, (.inl (cst 0)))) hx hb (hg _ ka_int) rfl rfl hK hP hD hS hA 0 rfl (fun _ => rfl) (by decide) (by decide) (Nat.le_of_ble_eq_true rfl) (Nat.le_of_ble_eq_true rfl) (Nat.le_of_ble_eq_true rfl) dX1_init_55 (fun q7 H hP hD hS => ?_)
  have hP : va_P D vwCl [ob h0 1 [.int 0, .int 0, .ref q1, .ref q2, .ref q3, .ref q4, .ref q5, .ref q6, .null], ai T q1 100 (cst 0), ai T q2 100 (cst 0), ai T q3 100 (cst 0), ai T q4 100 (cst 0), ai T q5 100 (cst 0), ai T q6 100 (cst 0), ai T q7 100 (cst 0)] H := hP
  have hD : va_D A [ob h0 1 [.int 0, .int 0, .ref q1, .ref q2, .ref q3, .ref q4, .ref q5, .ref q6, .null], ai T q1 100 (cst 0), ai T q2 100 (cst 0), ai T q3 100 (cst 0), ai T q4 100 (cst 0), ai T q5 100 (cst 0), ai T q6 100 (cst 0), ai T q7 100 (cst 0)] := hD
  refine W.widen (k := 7) (n := 700) (Nat.le_of_ble_eq_true rfl) (Nat.le_of_ble_eq_true rfl) ?_
  refine va_putF (D := D) (ci := 1) (v := .ref q7) (ty := (.array .int)) (C := RX1) (T := TX1) (N := 9) hx hb hg inX1 tyX1 tyX1_ok nmX1 hown hK hP hD hS 0 rfl rfl 8 (by decide) (hg _ kf_X1_30) (fun _ h9 => h9) rfl hin rfl (by decide +kernel) rfl rfl (Nat.le_of_ble_eq_true rfl) dX1_init_57 (fun H locs hP hD hS => ?_)
  have hP : va_P D vwCl [ob h0 1 [.int 0, .int 0, .ref q1, .ref q2, .ref q3, .ref q4, .ref q5, .ref q6, .ref q7], ai T q1 100 (cst 0), ai T q2 100 (cst 0), ai T q3 100 (cst 0), ai T q4 100 (cst 0), ai T q5 100 (cst 0), ai T q6 100 (cst 0), ai T q7 100 (cst 0)] H := hP
  have hD : va_D A [ob h0 1 [.int 0, .int 0, .ref q1, .ref q2, .ref q3, .ref q4, .ref q5, .ref q6, .ref q7], ai T q1 100 (cst 0), ai T q2 100 (cst 0), ai T q3 100 (cst 0), ai T q4 100 (cst 0), ai T q5 100 (cst 0), ai T q6 100 (cst 0), ai T q7 100 (cst 0)] := hD
  refine W.widen (k := 7) (n := 700) (Nat.le_of_ble_eq_true rfl) (Nat.le_of_ble_eq_true rfl) ?_
  exact ret_v (X := Nat × Nat × Nat × Nat × Nat × Nat × Nat) ((q1, q2, q3, q4, q5, q6, q7)) hx hb hr hlocks hP hD hS [0, 1, 2, 3, 4, 5, 6, 7] (by decide) rfl trivial dX1_init_60
theorem dX3_init_0 : decode cX3_init 0 = .ok (.aload_n 0, 1) := by decide +kernel
theorem dX3_init_1 : decode cX3_init 1 = .ok (.invokespecial 3, 3) := by decide +kernel
theorem dX3_init_4 : decode cX3_init 4 = .ok (.aload_n 0, 1) := by decide +kernel
theorem dX3_init_5 : decode cX3_init 5 = .ok (.new 9, 3) := by decide +kernel
theorem dX3_init_8 : decode cX3_init 8 = .ok (.dup, 1) := by decide +kernel
theorem dX3_init_9 : decode cX3_init 9 = .ok (.invokespecial 11, 3) := by decide +kernel
theorem dX3_init_12 : decode cX3_init 12 = .ok (.putfield 12, 3) := by decide +kernel
theorem dX3_init_15 : decode cX3_init 15 = .ok (.aload_n 0, 1) := by decide +kernel
theorem dX3_init_16 : decode cX3_init 16 = .ok (.new 18, 3) := by decide +kernel
theorem dX3_init_19 : decode cX3_init 19 = .ok (.dup, 1) := by decide +kernel
theorem dX3_init_20 : decode cX3_init 20 = .ok (.invokespecial 20, 3) := by decide +kernel
theorem dX3_init_23 : decode cX3_init 23 = .ok (.putfield 21, 3) := by decide +kernel
theorem dX3_init_26 : decode cX3_init 26 = .ok (.aload_n 0, 1) := by decide +kernel
theorem dX3_init_27 : decode cX3_init 27 = .ok (.new 25, 3) := by decide +kernel
theorem dX3_init_30 : decode cX3_init 30 = .ok (.dup, 1) := by decide +kernel
theorem dX3_init_31 : decode cX3_init 31 = .ok (.invokespecial 27, 3) := by decide +kernel
theorem dX3_init_34 : decode cX3_init 34 = .ok (.putfield 28, 3) := by decide +kernel
theorem dX3_init_37 : decode cX3_init 37 = .ok (.aload_n 0, 1) := by decide +kernel
theorem dX3_init_38 : decode cX3_init 38 = .ok (.bipush 31, 2) := by decide +kernel
theorem dX3_init_40 : decode cX3_init 40 = .ok (.putfield 32, 3) := by decide +kernel
theorem dX3_init_43 : decode cX3_init 43 = .ok (.return_, 1) := by decide +kernel
set_option maxHeartbeats 4000000 in
set_option maxRecDepth 100000 in
theorem c_X3_init (l : Launch) (D : va_G) (T : Nat → ClassId) (h0 : Nat) (sz : Nat) : Met l yX3_init (WS (.code yX3_init cX3_init 1 none)) ({ frames := 4, cells := 29, slots := 5468, locals := 128 } : Room) (va_Pc [.ref h0] (PW D (TY T) [ob h0 3 [.null, .null, .null, .int 0, .int 0, .int 0]] sz)) (QV (X := Nat × Nat × Nat × Nat × Nat × Nat × Nat × Nat × Nat × Nat × Nat × Nat × Nat × Nat × Nat × Nat × Nat × Nat × Nat × Nat × Nat × Nat × Nat × Nat × Nat × Nat × Nat × Nat × Nat) D (fun _ => True) (fun xx => [ob h0 3 [.ref (xx.1), .ref (xx.2.2.2.2.2.2.2.2.1), .ref (xx.2.2.2.2.2.2.2.2.2.2.2.2.2.2.2.2.2.2.2.2.2.1), .int 31, .int 0, .int 0], ob (xx.1) 9 [.ref (xx.2.1), .ref (xx.2.2.1), .ref (xx.2.2.2.1), .ref (xx.2.2.2.2.1), .ref (xx.2.2.2.2.2.1), .ref (xx.2.2.2.2.2.2.1), .ref (xx.2.2.2.2.2.2.2.1), .int 0], ai T (xx.2.1) 360 (cst 0), ai T (xx.2.2.1) 360 (cst 0), ai T (xx.2.2.2.1) 360 (cst 0), ai T (xx.2.2.2.2.1) 360 (cst 0), ai T (xx.2.2.2.2.2.1) 360 (cst 0), ai T (xx.2.2.2.2.2.2.1) 360 (cst 0), ai T (xx.2.2.2.2.2.2.2.1) 6 (cst 0), ob (xx.2.2.2.2.2.2.2.2.1) 5 [.int 0, .ref (xx.2.2.2.2.2.2.2.2.2.1), .ref (xx.2.2.2.2.2.2.2.2.2.2.1), .ref (xx.2.2.2.2.2.2.2.2.2.2.2.1), .ref (xx.2.2.2.2.2.2.2.2.2.2.2.2.1), .ref (xx.2.2.2.2.2.2.2.2.2.2.2.2.2.1), .ref (xx.2.2.2.2.2.2.2.2.2.2.2.2.2.2.1), .ref (xx.2.2.2.2.2.2.2.2.2.2.2.2.2.2.2.1), .ref (xx.2.2.2.2.2.2.2.2.2.2.2.2.2.2.2.2.1), .int 0, .int 0, .ref (xx.2.2.2.2.2.2.2.2.2.2.2.2.2.2.2.2.2.1), .ref (xx.2.2.2.2.2.2.2.2.2.2.2.2.2.2.2.2.2.2.1), .ref (xx.2.2.2.2.2.2.2.2.2.2.2.2.2.2.2.2.2.2.2.1), .ref (xx.2.2.2.2.2.2.2.2.2.2.2.2.2.2.2.2.2.2.2.2.1)], ai T (xx.2.2.2.2.2.2.2.2.2.1) 360 (cst 0), ai T (xx.2.2.2.2.2.2.2.2.2.2.1) 360 (cst 0), ai T (xx.2.2.2.2.2.2.2.2.2.2.2.1) 360 (cst 0), ai T (xx.2.2.2.2.2.2.2.2.2.2.2.2.1) 360 (cst 0), ai T (xx.2.2.2.2.2.2.2.2.2.2.2.2.2.1) 360 (cst 0), ai T (xx.2.2.2.2.2.2.2.2.2.2.2.2.2.2.1) 360 (cst 0), ai T (xx.2.2.2.2.2.2.2.2.2.2.2.2.2.2.2.1) 360 (cst 0), ai T (xx.2.2.2.2.2.2.2.2.2.2.2.2.2.2.2.2.1) 8 (cst 0), ai T (xx.2.2.2.2.2.2.2.2.2.2.2.2.2.2.2.2.2.1) 6 (cst 0), ai T (xx.2.2.2.2.2.2.2.2.2.2.2.2.2.2.2.2.2.2.1) 6 (cst 0), ai T (xx.2.2.2.2.2.2.2.2.2.2.2.2.2.2.2.2.2.2.2.1) 6 (cst 0), ob (xx.2.2.2.2.2.2.2.2.2.2.2.2.2.2.2.2.2.2.2.2.2.1) 1 [.int 0, .int 0, .ref (xx.2.2.2.2.2.2.2.2.2.2.2.2.2.2.2.2.2.2.2.2.2.2.1), .ref (xx.2.2.2.2.2.2.2.2.2.2.2.2.2.2.2.2.2.2.2.2.2.2.2.1), .ref (xx.2.2.2.2.2.2.2.2.2.2.2.2.2.2.2.2.2.2.2.2.2.2.2.2.1), .ref (xx.2.2.2.2.2.2.2.2.2.2.2.2.2.2.2.2.2.2.2.2.2.2.2.2.2.1), .ref (xx.2.2.2.2.2.2.2.2.2.2.2.2.2.2.2.2.2.2.2.2.2.2.2.2.2.2.1), .ref (xx.2.2.2.2.2.2.2.2.2.2.2.2.2.2.2.2.2.2.2.2.2.2.2.2.2.2.2.1), .ref (xx.2.2.2.2.2.2.2.2.2.2.2.2.2.2.2.2.2.2.2.2.2.2.2.2.2.2.2.2)], ai T (xx.2.2.2.2.2.2.2.2.2.2.2.2.2.2.2.2.2.2.2.2.2.2.1) 100 (cst 0), ai T (xx.2.2.2.2.2.2.2.2.2.2.2.2.2.2.2.2.2.2.2.2.2.2.2.1) 100 (cst 0), ai T (xx.2.2.2.2.2.2.2.2.2.2.2.2.2.2.2.2.2.2.2.2.2.2.2.2.1) 100 (cst 0), ai T (xx.2.2.2.2.2.2.2.2.2.2.2.2.2.2.2.2.2.2.2.2.2.2.2.2.2.1) 100 (cst 0), ai T (xx.2.2.2.2.2.2.2.2.2.2.2.2.2.2.2.2.2.2.2.2.2.2.2.2.2.2.1) 100 (cst 0), ai T (xx.2.2.2.2.2.2.2.2.2.2.2.2.2.2.2.2.2.2.2.2.2.2.2.2.2.2.2.1) 100 (cst 0), ai T (xx.2.2.2.2.2.2.2.2.2.2.2.2.2.2.2.2.2.2.2.2.2.2.2.2.2.2.2.2) 100 (cst 0)]) (va_A [ob h0 3 [.null, .null, .null, .int 0, .int 0, .int 0]] sz)) 29 5468 (va_A [ob h0 3 [.null, .null, .null, .int 0, .int 0, .int 0]] sz) := by
  refine mk_met (Qc := QV (X := Nat × Nat × Nat × Nat × Nat × Nat × Nat × Nat × Nat × Nat × Nat × Nat × Nat × Nat × Nat × Nat × Nat × Nat × Nat × Nat × Nat × Nat × Nat × Nat × Nat × Nat × Nat × Nat × Nat) D (fun _ => True) (fun xx => [ob h0 3 [.ref (xx.1), .ref (xx.2.2.2.2.2.2.2.2.1), .ref (xx.2.2.2.2.2.2.2.2.2.2.2.2.2.2.2.2.2.2.2.2.2.1), .int 31, .int 0, .int 0], ob (xx.1) 9 [.ref (xx.2.1), .ref (xx.2.2.1), .ref (xx.2.2.2.1), .ref (xx.2.2.2.2.1), .ref (xx.2.2.2.2.2.1), .ref (xx.2.2.2.2.2.2.1), .ref (xx.2.2.2.2.2.2.2.1), .int 0], ai T (xx.2.1) 360 (cst 0), ai T (xx.2.2.1) 360 (cst 0), ai T (xx.2.2.2.1) 360 (cst 0), ai T (xx.2.2.2.2.1) 360 (cst 0), ai T (xx.2.2.2.2.2.1) 360 (cst 0), ai T (xx.2.2.2.2.2.2.1) 360 (cst 0), ai T (xx.2.2.2.2.2.2.2.1) 6 (cst 0), ob (xx.2.2.2.2.2.2.2.2.1) 5 [.int 0, .ref (xx.2.2.2.2.2.2.2.2.2.1), .ref (xx.2.2.2.2.2.2.2.2.2.2.1), .ref (xx.2.2.2.2.2.2.2.2.2.2.2.1), .ref (xx.2.2.2.2.2.2.2.2.2.2.2.2.1), .ref (xx.2.2.2.2.2.2.2.2.2.2.2.2.2.1), .ref (xx.2.2.2.2.2.2.2.2.2.2.2.2.2.2.1), .ref (xx.2.2.2.2.2.2.2.2.2.2.2.2.2.2.2.1), .ref (xx.2.2.2.2.2.2.2.2.2.2.2.2.2.2.2.2.1), .int 0, .int 0, .ref (xx.2.2.2.2.2.2.2.2.2.2.2.2.2.2.2.2.2.1), .ref (xx.2.2.2.2.2.2.2.2.2.2.2.2.2.2.2.2.2.2.1), .ref (xx.2.2.2.2.2.2.2.2.2.2.2.2.2.2.2.2.2.2.2.1), .ref (xx.2.2.2.2.2.2.2.2.2.2.2.2.2.2.2.2.2.2.2.2.1)], ai T (xx.2.2.2.2.2.2.2.2.2.1) 360 (cst 0), ai T (xx.2.2.2.2.2.2.2.2.2.2.1) 360 (cst 0), ai T (xx.2.2.2.2.2.2.2.2.2.2.2.1) 360 (cst 0), ai T (xx.2.2.2.2.2.2.2.2.2.2.2.2.1) 360 (cst 0), ai T (xx.2.2.2.2.2.2.2.2.2.2.2.2.2.1) 360 (cst 0), ai T (xx.2.2.2.2.2.2.2.2.2.2.2.2.2.2.1) 360 (cst 0), ai T (xx.2.2.2.2.2.2.2.2.2.2.2.2.2.2.2.1) 360 (cst 0), ai T (xx.2.2.2.2.2.2.2.2.2.2.2.2.2.2.2.2.1) 8 (cst 0), ai T (xx.2.2.2.2.2.2.2.2.2.2.2.2.2.2.2.2.2.1) 6 (cst 0), ai T (xx.2.2.2.2.2.2.2.2.2.2.2.2.2.2.2.2.2.2.1) 6 (cst 0), ai T (xx.2.2.2.2.2.2.2.2.2.2.2.2.2.2.2.2.2.2.2.1) 6 (cst 0), ob (xx.2.2.2.2.2.2.2.2.2.2.2.2.2.2.2.2.2.2.2.2.2.1) 1 [.int 0, .int 0, .ref (xx.2.2.2.2.2.2.2.2.2.2.2.2.2.2.2.2.2.2.2.2.2.2.1), .ref (xx.2.2.2.2.2.2.2.2.2.2.2.2.2.2.2.2.2.2.2.2.2.2.2.1), .ref (xx.2.2.2.2.2.2.2.2.2.2.2.2.2.2.2.2.2.2.2.2.2.2.2.2.1), .ref (xx.2.2.2.2.2.2.2.2.2.2.2.2.2.2.2.2.2.2.2.2.2.2.2.2.2.1), .ref (xx.2.2.2.2.2.2.2.2.2.2.2.2.2.2.2.2.2.2.2.2.2.2.2.2.2.2.1), .ref (xx.2.2.2.2.2.2.2.2.2.2.2.2.2.2.2.2.2.2.2.2.2.2.2.2.2.2.2.1), .ref (xx.2.2.2.2.2.2.2.2.2.2.2.2.2.2.2.2.2.2.2.2.2.2.2.2.2.2.2.2)], ai T (xx.2.2.2.2.2.2.2.2.2.2.2.2.2.2.2.2.2.2.2.2.2.2.1) 100 (cst 0), ai T (xx.2.2.2.2.2.2.2.2.2.2.2.2.2.2.2.2.2.2.2.2.2.2.2.1) 100 (cst 0), ai T (xx.2.2.2.2.2.2.2.2.2.2.2.2.2.2.2.2.2.2.2.2.2.2.2.2.1) 100 (cst 0), ai T (xx.2.2.2.2.2.2.2.2.2.2.2.2.2.2.2.2.2.2.2.2.2.2.2.2.2.1) 100 (cst 0), ai T (xx.2.2.2.2.2.2.2.2.2.2.2.2.2.2.2.2.2.2.2.2.2.2.2.2.2.2.1) 100 (cst 0), ai T (xx.2.2.2.2.2.2.2.2.2.2.2.2.2.2.2.2.2.2.2.2.2.2.2.2.2.2.2.1) 100 (cst 0), ai T (xx.2.2.2.2.2.2.2.2.2.2.2.2.2.2.2.2.2.2.2.2.2.2.2.2.2.2.2.2) 100 (cst 0)])) (lv := [(0, .ref h0)]) (by decide +kernel) (Nat.le_of_ble_eq_true rfl) rfl (fun p e s m below meth c A ls H locs hx hb hml hr hlocks hown hin hg hN hA hP hK hD hS hl => ?_)
  refine lv_aload_n hx hb dX3_init_0 rfl (lv_at hl 0 rfl) ?_
  refine W.objInit hx hb hown (hg _ km_X3_3) (hg _ ki_objectInit) (hg _ kd_objectInit) rfl (by rw [hml]; exact hl.1) rfl dX3_init_1 (Nat.le_of_ble_eq_true rfl) (Nat.le_of_ble_eq_true rfl) ?_
  refine W.eq (g2 := F0 m 4 ls []) rfl ?_
  refine lv_aload_n hx hb dX3_init_4 rfl (lv_at hl 0 rfl) ?_
  refine va_new (ci := 9) (fs := [.null, .null, .null, .null, .null, .null, .null, .int 0]) (C := RX9) (T := TX9) (N := 8) hx hb hg inX9 tyX9 tyX9_ok hown (hg _ kc_X3_9) (hg _ kq_X9) (hg _ kz_X9) hK hP hD hS hA rfl (fun j hj => by rcases (show j = 0 ∨ j = 1 ∨ j = 2 ∨ j = 3 ∨ j = 4 ∨ j = 5 ∨ j = 6 ∨ j = 7 by omega) with rfl | rfl | rfl | rfl | rfl | rfl | rfl | rfl <;> rfl) (Nat.le_of_ble_eq_true rfl) (Nat.le_of_ble_eq_true rfl) dX3_init_5 (fun q1 H hP hD hS => ?_)
  have hP : va_P D vwCl [ob h0 3 [.null, .null, .null, .int 0, .int 0, .int 0], ob q1 9 [.null, .null, .null, .null, .null, .null, .null, .int 0]] H := hP
  have hD : va_D A [ob h0 3 [.null, .null, .null, .int 0, .int 0, .int 0], ob q1 9 [.null, .null, .null, .null, .null, .null, .null, .int 0]] := hD
  refine W.widen (k := 1) (n := 8) (Nat.le_of_ble_eq_true rfl) (Nat.le_of_ble_eq_true rfl) ?_
  refine lv_dup hx hb dX3_init_8 rfl ?_
  refine cont_v (Wr := [ob h0 3 [.null, .null, .null, .int 0, .int 0, .int 0]]) [1] [0] (run_N (n := 0) (As := []) (rest := [.ref q1, .ref h0]) hx hb hml hown hg hN (c_X9_init l D T q1  H.size) kn_X3_11 ki_X9_init kz_X9 kd_X9_init rfl rfl rfl (by decide +kernel) ⟨Nat.le_of_ble_eq_true rfl, Nat.le_of_ble_eq_true rfl⟩ hK (P_sub hP [1] rfl) (hD.sub [1] (by decide) rfl) rfl hl.1 rfl (Nat.le_of_ble_eq_true rfl) dX3_init_9 ⟨Nat.le_of_ble_eq_true rfl, Nat.le_of_ble_eq_true rfl⟩) hP hD hS hA rfl rfl (by decide) (by decide) (fun xx H locs hq hP hD hS => ?_)
  obtain ⟨q2, q3, q4, q5, q6, q7, q8⟩ := xx
  have hP : va_P D vwCl [ob h0 3 [.null, .null, .null, .int 0, .int 0, .int 0], ob q1 9 [.ref q2, .ref q3, .ref q4, .ref q5, .ref q6, .ref q7, .ref q8, .int 0], ai T q2 360 (cst 0), ai T q3 360 (cst 0), ai T q4 360 (cst 0), ai T q5 360 (cst 0), ai T q6 360 (cst 0), ai T q7 360 (cst 0), ai T q8 6 (cst 0)] H := hP
  have hD : va_D A [ob h0 3 [.null, .null, .null, .int 0, .int 0, .int 0], ob q1 9 [.ref q2, .ref q3, .ref q4, .ref q5, .ref q6, .ref q7, .ref q8, .int 0], ai T q2 360 (cst 0), ai T q3 360 (cst 0), ai T q4 360 (cst 0), ai T q5 360 (cst 0), ai T q6 360 (cst 0), ai T q7 360 (cst 0), ai T q8 6 (cst 0)] := hD
  refine W.widen (k := 8) (n := 2174) (Nat.le_of_ble_eq_true rfl) (Nat.le_of_ble_eq_true rfl) ?_
  refine va_putF (D := D) (ci := 3) (v := .ref q1) (ty := (.object "OneCup$Script")) (C := RX3) (T := TX3) (N := 6) hx hb hg inX3 tyX3 tyX3_ok nmX3 hown hK hP hD hS 0 rfl rfl 0 (by decide) (hg _ kf_X3_12) (fun _ h9 => h9) rfl hin rfl (by decide +kernel) rfl rfl (Nat.le_of_ble_eq_true rfl) dX3_init_12 (fun H locs hP hD hS => ?_)
  have hP : va_P D vwCl [ob h0 3 [.ref q1, .null, .null, .int 0, .int 0, .int 0], ob q1 9 [.ref q2, .ref q3, .ref q4, .ref q5, .ref q6, .ref q7, .ref q8, .int 0], ai T q2 360 (cst 0), ai T q3 360 (cst 0), ai T q4 360 (cst 0), ai T q5 360 (cst 0), ai T q6 360 (cst 0), ai T q7 360 (cst 0), ai T q8 6 (cst 0)] H := hP
  have hD : va_D A [ob h0 3 [.ref q1, .null, .null, .int 0, .int 0, .int 0], ob q1 9 [.ref q2, .ref q3, .ref q4, .ref q5, .ref q6, .ref q7, .ref q8, .int 0], ai T q2 360 (cst 0), ai T q3 360 (cst 0), ai T q4 360 (cst 0), ai T q5 360 (cst 0), ai T q6 360 (cst 0), ai T q7 360 (cst 0), ai T q8 6 (cst 0)] := hD
  refine lv_aload_n hx hb dX3_init_15 rfl (lv_at hl 0 rfl) ?_
  refine va_new (ci := 5) (fs := [.int 0, .null, .null, .null, .null, .null, .null, .null, .null, .int 0, .int 0, .null, .null, .null, .null]) (C := RX5) (T := TX5) (N := 15) hx hb hg inX5 tyX5 tyX5_ok hown (hg _ kc_X3_18) (hg _ kq_X5) (hg _ kz_X5) hK hP hD hS hA rfl (fun j hj => by rcases (show j = 0 ∨ j = 1 ∨ j = 2 ∨ j = 3 ∨ j = 4 ∨ j = 5 ∨ j = 6 ∨ j = 7 ∨ j = 8 ∨ j = 9 ∨ j = 10 ∨ j = 11 ∨ j = 12 ∨ j = 13 ∨ j = 14 by omega) with rfl | rfl | rfl | rfl | rfl | rfl | rfl | rfl | rfl | rfl | rfl | rfl | rfl | rfl | rfl <;> rfl) (Nat.le_of_ble_eq_true rfl) (Nat.le_of_ble_eq_true rfl) dX3_init_16 (fun q9 H hP hD hS => ?_)
  have hP : va_P D vwCl [ob h0 3 [.ref q1, .null, .null, .int 0, .int 0, .int 0], ob q1 9 [.ref q2, .ref q3, .ref q4, .ref q5, .ref q6, .ref q7, .ref q8, .int 0], ai T q2 360 (cst 0), ai T q3 360 (cst 0), ai T q4 360 (cst 0), ai T q5 360 (cst 0), ai T q6 360 (cst 0), ai T q7 360 (cst 0), ai T q8 6 (cst 0), ob q9 5 [.int 0, .null, .null, .null, .null, .null, .null, .null, .null, .int 0, .int 0, .null, .null, .null, .null]] H := hP
  have hD : va_D A [ob h0 3 [.ref q1, .null, .null, .int 0, .int 0, .int 0], ob q1 9 [.ref q2, .ref q3, .ref q4, .ref q5, .ref q6, .ref q7, .ref q8, .int 0], ai T q2 360 (cst 0), ai T q3 360 (cst 0), ai T q4 360 (cst 0), ai T q5 360 (cst 0), ai T q6 360 (cst 0), ai T q7 360 (cst 0), ai T q8 6 (cst 0), ob q9 5 [.int 0, .null, .null, .null, .null, .null, .null, .null, .null, .int 0, .int 0, .null, .null, .null, .null]] := hD
  refine W.widen (k := 9) (n := 2189) (Nat.le_of_ble_eq_true rfl) (Nat.le_of_ble_eq_true rfl) ?_
  refine lv_dup hx hb dX3_init_19 rfl ?_
  refine cont_v (Wr := [ob h0 3 [.ref q1, .null, .null, .int 0, .int 0, .int 0], ob q1 9 [.ref q2, .ref q3, .ref q4, .ref q5, .ref q6, .ref q7, .ref q8, .int 0], ai T q2 360 (cst 0), ai T q3 360 (cst 0), ai T q4 360 (cst 0), ai T q5 360 (cst 0), ai T q6 360 (cst 0), ai T q7 360 (cst 0), ai T q8 6 (cst 0)]) [9] [0, 1, 2, 3, 4, 5, 6, 7, 8] (run_N (n := 0) (As := []) (rest := [.ref q9, .ref h0]) hx hb hml hown hg hN (c_X5_init l D T q9  H.size) kn_X3_20 ki_X5_init kz_X5 kd_X5_init rfl rfl rfl (by decide +kernel) ⟨Nat.le_of_ble_eq_true rfl, Nat.le_of_ble_eq_true rfl⟩ hK (P_sub hP [9] rfl) (hD.sub [9] (by decide) rfl) rfl hl.1 rfl (Nat.le_of_ble_eq_true rfl) dX3_init_20 ⟨Nat.le_of_ble_eq_true rfl, Nat.le_of_ble_eq_true rfl⟩) hP hD hS hA rfl rfl (by decide) (by decide) (fun xx H locs hq hP hD hS => ?_)
  obtain ⟨q10, q11, q12, q13, q14, q15, q16, q17, q18, q19, q20, q21⟩ := xx
  have hP : va_P D vwCl [ob h0 3 [.ref q1, .null, .null, .int 0, .int 0, .int 0], ob q1 9 [.ref q2, .ref q3, .ref q4, .ref q5, .ref q6, .ref q7, .ref q8, .int 0], ai T q2 360 (cst 0), ai T q3 360 (cst 0), ai T q4 360 (cst 0), ai T q5 360 (cst 0), ai T q6 360 (cst 0), ai T q7 360 (cst 0), ai T q8 6 (cst 0), ob q9 5 [.int 0, .ref q10, .ref q11, .ref q12, .ref q13, .ref q14, .ref q15, .ref q16, .ref q17, .int 0, .int 0, .ref q18, .ref q19, .ref q20, .ref q21], ai T q10 360 (cst 0), ai T q11 360 (cst 0), ai T q12 360 (cst 0), ai T q13 360 (cst 0), ai T q14 360 (cst 0), ai T q15 360 (cst 0), ai T q16 360 (cst 0), ai T q17 8 (cst 0), ai T q18 6 (cst 0), ai T q19 6 (cst 0), ai T q20 6 (cst 0)] H := hP
  have hD : va_D A [ob h0 3 [.ref q1, .null, .null, .int 0, .int 0, .int 0], ob q1 9 [.ref q2, .ref q3, .ref q4, .ref q5, .ref q6, .ref q7, .ref q8, .int 0], ai T q2 360 (cst 0), ai T q3 360 (cst 0), ai T q4 360 (cst 0), ai T q5 360 (cst 0), ai T q6 360 (cst 0), ai T q7 360 (cst 0), ai T q8 6 (cst 0), ob q9 5 [.int 0, .ref q10, .ref q11, .ref q12, .ref q13, .ref q14, .ref q15, .ref q16, .ref q17, .int 0, .int 0, .ref q18, .ref q19, .ref q20, .ref q21], ai T q10 360 (cst 0), ai T q11 360 (cst 0), ai T q12 360 (cst 0), ai T q13 360 (cst 0), ai T q14 360 (cst 0), ai T q15 360 (cst 0), ai T q16 360 (cst 0), ai T q17 8 (cst 0), ai T q18 6 (cst 0), ai T q19 6 (cst 0), ai T q20 6 (cst 0)] := hD
  refine W.widen (k := 21) (n := 4759) (Nat.le_of_ble_eq_true rfl) (Nat.le_of_ble_eq_true rfl) ?_
  refine va_putF (D := D) (ci := 3) (v := .ref q9) (ty := (.object "OneCup$Log")) (C := RX3) (T := TX3) (N := 6) hx hb hg inX3 tyX3 tyX3_ok nmX3 hown hK hP hD hS 0 rfl rfl 1 (by decide) (hg _ kf_X3_21) (fun _ h9 => h9) rfl hin rfl (by decide +kernel) rfl rfl (Nat.le_of_ble_eq_true rfl) dX3_init_23 (fun H locs hP hD hS => ?_)
  have hP : va_P D vwCl [ob h0 3 [.ref q1, .ref q9, .null, .int 0, .int 0, .int 0], ob q1 9 [.ref q2, .ref q3, .ref q4, .ref q5, .ref q6, .ref q7, .ref q8, .int 0], ai T q2 360 (cst 0), ai T q3 360 (cst 0), ai T q4 360 (cst 0), ai T q5 360 (cst 0), ai T q6 360 (cst 0), ai T q7 360 (cst 0), ai T q8 6 (cst 0), ob q9 5 [.int 0, .ref q10, .ref q11, .ref q12, .ref q13, .ref q14, .ref q15, .ref q16, .ref q17, .int 0, .int 0, .ref q18, .ref q19, .ref q20, .ref q21], ai T q10 360 (cst 0), ai T q11 360 (cst 0), ai T q12 360 (cst 0), ai T q13 360 (cst 0), ai T q14 360 (cst 0), ai T q15 360 (cst 0), ai T q16 360 (cst 0), ai T q17 8 (cst 0), ai T q18 6 (cst 0), ai T q19 6 (cst 0), ai T q20 6 (cst 0)] H := hP
  have hD : va_D A [ob h0 3 [.ref q1, .ref q9, .null, .int 0, .int 0, .int 0], ob q1 9 [.ref q2, .ref q3, .ref q4, .ref q5, .ref q6, .ref q7, .ref q8, .int 0], ai T q2 360 (cst 0), ai T q3 360 (cst 0), ai T q4 360 (cst 0), ai T q5 360 (cst 0), ai T q6 360 (cst 0), ai T q7 360 (cst 0), ai T q8 6 (cst 0), ob q9 5 [.int 0, .ref q10, .ref q11, .ref q12, .ref q13, .ref q14, .ref q15, .ref q16, .ref q17, .int 0, .int 0, .ref q18, .ref q19, .ref q20, .ref q21], ai T q10 360 (cst 0), ai T q11 360 (cst 0), ai T q12 360 (cst 0), ai T q13 360 (cst 0), ai T q14 360 (cst 0), ai T q15 360 (cst 0), ai T q16 360 (cst 0), ai T q17 8 (cst 0), ai T q18 6 (cst 0), ai T q19 6 (cst 0), ai T q20 6 (cst 0)] := hD
  refine lv_aload_n hx hb dX3_init_26 rfl (lv_at hl 0 rfl) ?_
  refine va_new (ci := 1) (fs := [.int 0, .int 0, .null, .null, .null, .null, .null, .null, .null]) (C := RX1) (T := TX1) (N := 9) hx hb hg inX1 tyX1 tyX1_ok hown (hg _ kc_X3_25) (hg _ kq_X1) (hg _ kz_X1) hK hP hD hS hA rfl (fun j hj => by rcases (show j = 0 ∨ j = 1 ∨ j = 2 ∨ j = 3 ∨ j = 4 ∨ j = 5 ∨ j = 6 ∨ j = 7 ∨ j = 8 by omega) with rfl | rfl | rfl | rfl | rfl | rfl | rfl | rfl | rfl <;> rfl) (Nat.le_of_ble_eq_true rfl) (Nat.le_of_ble_eq_true rfl) dX3_init_27 (fun q22 H hP hD hS => ?_)
  have hP : va_P D vwCl [ob h0 3 [.ref q1, .ref q9, .null, .int 0, .int 0, .int 0], ob q1 9 [.ref q2, .ref q3, .ref q4, .ref q5, .ref q6, .ref q7, .ref q8, .int 0], ai T q2 360 (cst 0), ai T q3 360 (cst 0), ai T q4 360 (cst 0), ai T q5 360 (cst 0), ai T q6 360 (cst 0), ai T q7 360 (cst 0), ai T q8 6 (cst 0), ob q9 5 [.int 0, .ref q10, .ref q11, .ref q12, .ref q13, .ref q14, .ref q15, .ref q16, .ref q17, .int 0, .int 0, .ref q18, .ref q19, .ref q20, .ref q21], ai T q10 360 (cst 0), ai T q11 360 (cst 0), ai T q12 360 (cst 0), ai T q13 360 (cst 0), ai T q14 360 (cst 0), ai T q15 360 (cst 0), ai T q16 360 (cst 0), ai T q17 8 (cst 0), ai T q18 6 (cst 0), ai T q19 6 (cst 0), ai T q20 6 (cst 0), ob q22 1 [.int 0, .int 0, .null, .null, .null, .null, .null, .null, .null]] H := hP
  have hD : va_D A [ob h0 3 [.ref q1, .ref q9, .null, .int 0, .int 0, .int 0], ob q1 9 [.ref q2, .ref q3, .ref q4, .ref q5, .ref q6, .ref q7, .ref q8, .int 0], ai T q2 360 (cst 0), ai T q3 360 (cst 0), ai T q4 360 (cst 0), ai T q5 360 (cst 0), ai T q6 360 (cst 0), ai T q7 360 (cst 0), ai T q8 6 (cst 0), ob q9 5 [.int 0, .ref q10, .ref q11, .ref q12, .ref q13, .ref q14, .ref q15, .ref q16, .ref q17, .int 0, .int 0, .ref q18, .ref q19, .ref q20, .ref q21], ai T q10 360 (cst 0), ai T q11 360 (cst 0), ai T q12 360 (cst 0), ai T q13 360 (cst 0), ai T q14 360 (cst 0), ai T q15 360 (cst 0), ai T q16 360 (cst 0), ai T q17 8 (cst 0), ai T q18 6 (cst 0), ai T q19 6 (cst 0), ai T q20 6 (cst 0), ob q22 1 [.int 0, .int 0, .null, .null, .null, .null, .null, .null, .null]] := hD
  refine W.widen (k := 22) (n := 4768) (Nat.le_of_ble_eq_true rfl) (Nat.le_of_ble_eq_true rfl) ?_
  refine lv_dup hx hb dX3_init_30 rfl ?_
  refine cont_v (Wr := [ob h0 3 [.ref q1, .ref q9, .null, .int 0, .int 0, .int 0], ob q1 9 [.ref q2, .ref q3, .ref q4, .ref q5, .ref q6, .ref q7, .ref q8, .int 0], ai T q2 360 (cst 0), ai T q3 360 (cst 0), ai T q4 360 (cst 0), ai T q5 360 (cst 0), ai T q6 360 (cst 0), ai T q7 360 (cst 0), ai T q8 6 (cst 0), ob q9 5 [.int 0, .ref q10, .ref q11, .ref q12, .ref q13, .ref q14, .ref q15, .ref q16, .ref q17, .int 0, .int 0, .ref q18, .ref q19, .ref q20, .ref q21], ai T q10 360 (cst 0), ai T q11 360 (cst 0), ai T q12 360 (cst 0), ai T q13 360 (cst 0), ai T q14 360 (cst 0), ai T q15 360 (cst 0), ai T q16 360 (cst 0), ai T q17 8 (cst 0), ai T q18 6 (cst 0), ai T q19 6 (cst 0), ai T q20 6 (cst 0)]) [21] [0, 1, 2, 3, 4, 5, 6, 7, 8, 9, 10, 11, 12, 13, 14, 15, 16, 17, 18, 19, 20] (run_N (n := 0) (As := []) (rest := [.ref q22, .ref h0]) hx hb hml hown hg hN (c_X1_init l D T q22  H.size) kn_X3_27 ki_X1_init kz_X1 kd_X1_init rfl rfl rfl (by decide +kernel) ⟨Nat.le_of_ble_eq_true rfl, Nat.le_of_ble_eq_true rfl⟩ hK (P_sub hP [21] rfl) (hD.sub [21] (by decide) rfl) rfl hl.1 rfl (Nat.le_of_ble_eq_true rfl) dX3_init_31 ⟨Nat.le_of_ble_eq_true rfl, Nat.le_of_ble_eq_true rfl⟩) hP hD hS hA rfl rfl (by decide) (by decide) (fun xx H locs hq hP hD hS => ?_)
  obtain ⟨q23, q24, q25, q26, q27, q28, q29⟩ := xx
  have hP : va_P D vwCl [ob h0 3 [.ref q1, .ref q9, .null, .int 0, .int 0, .int 0], ob q1 9 [.ref q2, .ref q3, .ref q4, .ref q5, .ref q6, .ref q7, .ref q8, .int 0], ai T q2 360 (cst 0), ai T q3 360 (cst 0), ai T q4 360 (cst 0), ai T q5 360 (cst 0), ai T q6 360 (cst 0), ai T q7 360 (cst 0), ai T q8 6 (cst 0), ob q9 5 [.int 0, .ref q10, .ref q11, .ref q12, .ref q13, .ref q14, .ref q15, .ref q16, .ref q17, .int 0, .int 0, .ref q18, .ref q19, .ref q20, .ref q21], ai T q10 360 (cst 0), ai T q11 360 (cst 0), ai T q12 360 (cst 0), ai T q13 360 (cst 0), ai T q14 360 (cst 0), ai T q15 360 (cst 0), ai T q16 360 (cst 0), ai T q17 8 (cst 0), ai T q18 6 (cst 0), ai T q19 6 (cst 0), ai T q20 6 (cst 0), ob q22 1 [.int 0, .int 0, .ref q23, .ref q24, .ref q25, .ref q26, .ref q27, .ref q28, .ref q29], ai T q23 100 (cst 0), ai T q24 100 (cst 0), ai T q25 100 (cst 0), ai T q26 100 (cst 0), ai T q27 100 (cst 0), ai T q28 100 (cst 0), ai T q29 100 (cst 0)] H := hP
  have hD : va_D A [ob h0 3 [.ref q1, .ref q9, .null, .int 0, .int 0, .int 0], ob q1 9 [.ref q2, .ref q3, .ref q4, .ref q5, .ref q6, .ref q7, .ref q8, .int 0], ai T q2 360 (cst 0), ai T q3 360 (cst 0), ai T q4 360 (cst 0), ai T q5 360 (cst 0), ai T q6 360 (cst 0), ai T q7 360 (cst 0), ai T q8 6 (cst 0), ob q9 5 [.int 0, .ref q10, .ref q11, .ref q12, .ref q13, .ref q14, .ref q15, .ref q16, .ref q17, .int 0, .int 0, .ref q18, .ref q19, .ref q20, .ref q21], ai T q10 360 (cst 0), ai T q11 360 (cst 0), ai T q12 360 (cst 0), ai T q13 360 (cst 0), ai T q14 360 (cst 0), ai T q15 360 (cst 0), ai T q16 360 (cst 0), ai T q17 8 (cst 0), ai T q18 6 (cst 0), ai T q19 6 (cst 0), ai T q20 6 (cst 0), ob q22 1 [.int 0, .int 0, .ref q23, .ref q24, .ref q25, .ref q26, .ref q27, .ref q28, .ref q29], ai T q23 100 (cst 0), ai T q24 100 (cst 0), ai T q25 100 (cst 0), ai T q26 100 (cst 0), ai T q27 100 (cst 0), ai T q28 100 (cst 0), ai T q29 100 (cst 0)] := hD
  refine W.widen (k := 29) (n := 5468) (Nat.le_of_ble_eq_true rfl) (Nat.le_of_ble_eq_true rfl) ?_
  refine va_putF (D := D) (ci := 3) (v := .ref q22) (ty := (.object "OneCup$Book")) (C := RX3) (T := TX3) (N := 6) hx hb hg inX3 tyX3 tyX3_ok nmX3 hown hK hP hD hS 0 rfl rfl 2 (by decide) (hg _ kf_X3_28) (fun _ h9 => h9) rfl hin rfl (by decide +kernel) rfl rfl (Nat.le_of_ble_eq_true rfl) dX3_init_34 (fun H locs hP hD hS => ?_)
  have hP : va_P D vwCl [ob h0 3 [.ref q1, .ref q9, .ref q22, .int 0, .int 0, .int 0], ob q1 9 [.ref q2, .ref q3, .ref q4, .ref q5, .ref q6, .ref q7, .ref q8, .int 0], ai T q2 360 (cst 0), ai T q3 360 (cst 0), ai T q4 360 (cst 0), ai T q5 360 (cst 0), ai T q6 360 (cst 0), ai T q7 360 (cst 0), ai T q8 6 (cst 0), ob q9 5 [.int 0, .ref q10, .ref q11, .ref q12, .ref q13, .ref q14, .ref q15, .ref q16, .ref q17, .int 0, .int 0, .ref q18, .ref q19, .ref q20, .ref q21], ai T q10 360 (cst 0), ai T q11 360 (cst 0), ai T q12 360 (cst 0), ai T q13 360 (cst 0), ai T q14 360 (cst 0), ai T q15 360 (cst 0), ai T q16 360 (cst 0), ai T q17 8 (cst 0), ai T q18 6 (cst 0), ai T q19 6 (cst 0), ai T q20 6 (cst 0), ob q22 1 [.int 0, .int 0, .ref q23, .ref q24, .ref q25, .ref q26, .ref q27, .ref q28, .ref q29], ai T q23 100 (cst 0), ai T q24 100 (cst 0), ai T q25 100 (cst 0), ai T q26 100 (cst 0), ai T q27 100 (cst 0), ai T q28 100 (cst 0), ai T q29 100 (cst 0)] H := hP
  have hD : va_D A [ob h0 3 [.ref q1, .ref q9, .ref q22, .int 0, .int 0, .int 0], ob q1 9 [.ref q2, .ref q3, .ref q4, .ref q5, .ref q6, .ref q7, .ref q8, .int 0], ai T q2 360 (cst 0), ai T q3 360 (cst 0), ai T q4 360 (cst 0), ai T q5 360 (cst 0), ai T q6 360 (cst 0), ai T q7 360 (cst 0), ai T q8 6 (cst 0), ob q9 5 [.int 0, .ref q10, .ref q11, .ref q12, .ref q13, .ref q14, .ref q15, .ref q16, .ref q17, .int 0, .int 0, .ref q18, .ref q19, .ref q20, .ref q21], ai T q10 360 (cst 0), ai T q11 360 (cst 0), ai T q12 360 (cst 0), ai T q13 360 (cst 0), ai T q14 360 (cst 0), ai T q15 360 (cst 0), ai T q16 360 (cst 0), ai T q17 8 (cst 0), ai T q18 6 (cst 0), ai T q19 6 (cst 0), ai T q20 6 (cst 0), ob q22 1 [.int 0, .int 0, .ref q23, .ref q24, .ref q25, .ref q26, .ref q27, .ref q28, .ref q29], ai T q23 100 (cst 0), ai T q24 100 (cst 0), ai T q25 100 (cst 0), ai T q26 100 (cst 0), ai T q27 100 (cst 0), ai T q28 100 (cst 0), ai T q29 100 (cst 0)] := hD
  refine lv_aload_n hx hb dX3_init_37 rfl (lv_at hl 0 rfl) ?_
  refine lv_bipush (v := 31) hx hb dX3_init_38 (by decide) ?_
  refine va_put (D := D) (ci := 3) (v := .int 31) (ty := .int) (C := RX3) (T := TX3) (N := 6) hx hb hg inX3 tyX3 tyX3_ok nmX3 hown hK hP hD hS 0 rfl rfl 3 (by decide) (hg _ kf_X3_32) (fun _ h9 => h9) rfl (by decide +kernel) rfl rfl (Nat.le_of_ble_eq_true rfl) dX3_init_40 (fun H locs hP hD hS => ?_)
  have hP : va_P D vwCl [ob h0 3 [.ref q1, .ref q9, .ref q22, .int 31, .int 0, .int 0], ob q1 9 [.ref q2, .ref q3, .ref q4, .ref q5, .ref q6, .ref q7, .ref q8, .int 0], ai T q2 360 (cst 0), ai T q3 360 (cst 0), ai T q4 360 (cst 0), ai T q5 360 (cst 0), ai T q6 360 (cst 0), ai T q7 360 (cst 0), ai T q8 6 (cst 0), ob q9 5 [.int 0, .ref q10, .ref q11, .ref q12, .ref q13, .ref q14, .ref q15, .ref q16, .ref q17, .int 0, .int 0, .ref q18, .ref q19, .ref q20, .ref q21], ai T q10 360 (cst 0), ai T q11 360 (cst 0), ai T q12 360 (cst 0), ai T q13 360 (cst 0), ai T q14 360 (cst 0), ai T q15 360 (cst 0), ai T q16 360 (cst 0), ai T q17 8 (cst 0), ai T q18 6 (cst 0), ai T q19 6 (cst 0), ai T q20 6 (cst 0), ob q22 1 [.int 0, .int 0, .ref q23, .ref q24, .ref q25, .ref q26, .ref q27, .ref q28, .ref q29], ai T q23 100 (cst 0), ai T q24 100 (cst 0), ai T q25 100 (cst 0), ai T q26 100 (cst 0), ai T q27 100 (cst 0), ai T q28 100 (cst 0), ai T q29 100 (cst 0)] H := hP
  have hD : va_D A [ob h0 3 [.ref q1, .ref q9, .ref q22, .int 31, .int 0, .int 0], ob q1 9 [.ref q2, .ref q3, .ref q4, .ref q5, .ref q6, .ref q7, .ref q8, .int 0], ai T q2 360 (cst 0), ai T q3 360 (cst 0), ai T q4 360 (cst 0), ai T q5 360 (cst 0), ai T q6 360 (cst 0), ai T q7 360 (cst 0), ai T q8 6 (cst 0), ob q9 5 [.int 0, .ref q10, .ref q11, .ref q12, .ref q13, .ref q14, .ref q15, .ref q16, .ref q17, .int 0, .int 0, .ref q18, .ref q19, .ref q20, .ref q21], ai T q10 360 (cst 0), ai T q11 360 (cst 0), ai T q12 360 (cst 0), ai T q13 360 (cst 0), ai T q14 360 (cst 0), ai T q15 360 (cst 0), ai T q16 360 (cst 0), ai T q17 8 (cst 0), ai T q18 6 (cst 0), ai T q19 6 (cst 0), ai T q20 6 (cst 0), ob q22 1 [.int 0, .int 0, .ref q23, .ref q24, .ref q25, .ref q26, .ref q27, .ref q28, .ref q29], ai T q23 100 (cst 0), ai T q24 100 (cst 0), ai T q25 100 (cst 0), ai T q26 100 (cst 0), ai T q27 100 (cst 0), ai T q28 100 (cst 0), ai T q29 100 (cst 0)] := hD
  refine W.widen (k := 29) (n := 5468) (Nat.le_of_ble_eq_true rfl) (Nat.le_of_ble_eq_true rfl) ?_
  exact ret_v (X := Nat × Nat × Nat × Nat × Nat × Nat × Nat × Nat × Nat × Nat × Nat × Nat × Nat × Nat × Nat × Nat × Nat × Nat × Nat × Nat × Nat × Nat × Nat × Nat × Nat × Nat × Nat × Nat × Nat) ((q1, q2, q3, q4, q5, q6, q7, q8, q9, q10, q11, q12, q13, q14, q15, q16, q17, q18, q19, q20, q21, q22, q23, q24, q25, q26, q27, q28, q29)) hx hb hr hlocks hP hD hS [0, 1, 2, 3, 4, 5, 6, 7, 8, 9, 10, 11, 12, 13, 14, 15, 16, 17, 18, 19, 20, 21, 22, 23, 24, 25, 26, 27, 28] (by decide) rfl trivial dX3_init_43
theorem dX4_init_0 : decode cX4_init 0 = .ok (.aload_n 0, 1) := by decide +kernel
theorem dX4_init_1 : decode cX4_init 1 = .ok (.invokespecial 5, 3) := by decide +kernel
theorem dX4_init_4 : decode cX4_init 4 = .ok (.aload_n 0, 1) := by decide +kernel
theorem dX4_init_5 : decode cX4_init 5 = .ok (.sipush 360, 3) := by decide +kernel
theorem dX4_init_8 : decode cX4_init 8 = .ok (.newarray .int, 2) := by decide +kernel
theorem dX4_init_10 : decode cX4_init 10 = .ok (.putfield 11, 3) := by decide +kernel
theorem dX4_init_13 : decode cX4_init 13 = .ok (.aload_n 0, 1) := by decide +kernel
theorem dX4_init_14 : decode cX4_init 14 = .ok (.sipush 360, 3) := by decide +kernel
theorem dX4_init_17 : decode cX4_init 17 = .ok (.newarray .int, 2) := by decide +kernel
theorem dX4_init_19 : decode cX4_init 19 = .ok (.putfield 15, 3) := by decide +kernel
theorem dX4_init_22 : decode cX4_init 22 = .ok (.aload_n 0, 1) := by decide +kernel
theorem dX4_init_23 : decode cX4_init 23 = .ok (.sipush 360, 3) := by decide +kernel
theorem dX4_init_26 : decode cX4_init 26 = .ok (.newarray .int, 2) := by decide +kernel
theorem dX4_init_28 : decode cX4_init 28 = .ok (.putfield 18, 3) := by decide +kernel
theorem dX4_init_31 : decode cX4_init 31 = .ok (.aload_n 0, 1) := by decide +kernel
theorem dX4_init_32 : decode cX4_init 32 = .ok (.sipush 360, 3) := by decide +kernel
theorem dX4_init_35 : decode cX4_init 35 = .ok (.newarray .int, 2) := by decide +kernel
theorem dX4_init_37 : decode cX4_init 37 = .ok (.putfield 21, 3) := by decide +kernel
theorem dX4_init_40 : decode cX4_init 40 = .ok (.aload_n 0, 1) := by decide +kernel
theorem dX4_init_41 : decode cX4_init 41 = .ok (.sipush 360, 3) := by decide +kernel
theorem dX4_init_44 : decode cX4_init 44 = .ok (.newarray .int, 2) := by decide +kernel
theorem dX4_init_46 : decode cX4_init 46 = .ok (.putfield 24, 3) := by decide +kernel
theorem dX4_init_49 : decode cX4_init 49 = .ok (.aload_n 0, 1) := by decide +kernel
theorem dX4_init_50 : decode cX4_init 50 = .ok (.sipush 360, 3) := by decide +kernel
theorem dX4_init_53 : decode cX4_init 53 = .ok (.newarray .int, 2) := by decide +kernel
theorem dX4_init_55 : decode cX4_init 55 = .ok (.putfield 27, 3) := by decide +kernel
theorem dX4_init_58 : decode cX4_init 58 = .ok (.aload_n 0, 1) := by decide +kernel
theorem dX4_init_59 : decode cX4_init 59 = .ok (.bipush 6, 2) := by decide +kernel
theorem dX4_init_61 : decode cX4_init 61 = .ok (.newarray .int, 2) := by decide +kernel
theorem dX4_init_63 : decode cX4_init 63 = .ok (.putfield 30, 3) := by decide +kernel
theorem dX4_init_66 : decode cX4_init 66 = .ok (.aload_n 0, 1) := by decide +kernel
theorem dX4_init_67 : decode cX4_init 67 = .ok (.bipush 6, 2) := by decide +kernel
theorem dX4_init_69 : decode cX4_init 69 = .ok (.newarray .int, 2) := by decide +kernel
theorem dX4_init_71 : decode cX4_init 71 = .ok (.putfield 33, 3) := by decide +kernel
theorem dX4_init_74 : decode cX4_init 74 = .ok (.aload_n 0, 1) := by decide +kernel
theorem dX4_init_75 : decode cX4_init 75 = .ok (.bipush 18, 2) := by decide +kernel
theorem dX4_init_77 : decode cX4_init 77 = .ok (.newarray .int, 2) := by decide +kernel
theorem dX4_init_79 : decode cX4_init 79 = .ok (.putfield 36, 3) := by decide +kernel
theorem dX4_init_82 : decode cX4_init 82 = .ok (.aload_n 0, 1) := by decide +kernel
theorem dX4_init_83 : decode cX4_init 83 = .ok (.bipush 18, 2) := by decide +kernel
theorem dX4_init_85 : decode cX4_init 85 = .ok (.newarray .int, 2) := by decide +kernel
theorem dX4_init_87 : decode cX4_init 87 = .ok (.putfield 39, 3) := by decide +kernel
theorem dX4_init_90 : decode cX4_init 90 = .ok (.aload_n 0, 1) := by decide +kernel
theorem dX4_init_91 : decode cX4_init 91 = .ok (.bipush 8, 2) := by decide +kernel
theorem dX4_init_93 : decode cX4_init 93 = .ok (.newarray .int, 2) := by decide +kernel
theorem dX4_init_95 : decode cX4_init 95 = .ok (.putfield 42, 3) := by decide +kernel
theorem dX4_init_98 : decode cX4_init 98 = .ok (.aload_n 0, 1) := by decide +kernel
theorem dX4_init_99 : decode cX4_init 99 = .ok (.bipush 8, 2) := by decide +kernel
theorem dX4_init_101 : decode cX4_init 101 = .ok (.newarray .int, 2) := by decide +kernel
theorem dX4_init_103 : decode cX4_init 103 = .ok (.putfield 45, 3) := by decide +kernel
theorem dX4_init_106 : decode cX4_init 106 = .ok (.aload_n 0, 1) := by decide +kernel
theorem dX4_init_107 : decode cX4_init 107 = .ok (.sipush 2928, 3) := by decide +kernel
theorem dX4_init_110 : decode cX4_init 110 = .ok (.newarray .int, 2) := by decide +kernel
theorem dX4_init_112 : decode cX4_init 112 = .ok (.putfield 48, 3) := by decide +kernel
theorem dX4_init_115 : decode cX4_init 115 = .ok (.aload_n 0, 1) := by decide +kernel
theorem dX4_init_116 : decode cX4_init 116 = .ok (.sipush 2160, 3) := by decide +kernel
theorem dX4_init_119 : decode cX4_init 119 = .ok (.newarray .int, 2) := by decide +kernel
theorem dX4_init_121 : decode cX4_init 121 = .ok (.putfield 51, 3) := by decide +kernel
theorem dX4_init_124 : decode cX4_init 124 = .ok (.aload_n 0, 1) := by decide +kernel
theorem dX4_init_125 : decode cX4_init 125 = .ok (.sipush 360, 3) := by decide +kernel
theorem dX4_init_128 : decode cX4_init 128 = .ok (.newarray .int, 2) := by decide +kernel
theorem dX4_init_130 : decode cX4_init 130 = .ok (.putfield 54, 3) := by decide +kernel
theorem dX4_init_133 : decode cX4_init 133 = .ok (.aload_n 0, 1) := by decide +kernel
theorem dX4_init_134 : decode cX4_init 134 = .ok (.sipush 360, 3) := by decide +kernel
theorem dX4_init_137 : decode cX4_init 137 = .ok (.newarray .int, 2) := by decide +kernel
theorem dX4_init_139 : decode cX4_init 139 = .ok (.putfield 57, 3) := by decide +kernel
theorem dX4_init_142 : decode cX4_init 142 = .ok (.aload_n 0, 1) := by decide +kernel
theorem dX4_init_143 : decode cX4_init 143 = .ok (.sipush 360, 3) := by decide +kernel
theorem dX4_init_146 : decode cX4_init 146 = .ok (.newarray .int, 2) := by decide +kernel
theorem dX4_init_148 : decode cX4_init 148 = .ok (.putfield 60, 3) := by decide +kernel
theorem dX4_init_151 : decode cX4_init 151 = .ok (.return_, 1) := by decide +kernel
set_option maxHeartbeats 4000000 in
set_option maxRecDepth 100000 in
theorem c_X4_init (l : Launch) (D : va_G) (T : Nat → ClassId) (h0 : Nat) (sz : Nat) : Met l yX4_init (WS (.code yX4_init cX4_init 1 none)) ({ frames := 2, cells := 17, slots := 8392, locals := 64 } : Room) (va_Pc [.ref h0] (PW D (TY T) [ob h0 4 [.null, .null, .null, .null, .null, .null, .null, .null, .null, .null, .null, .null, .null, .null, .int 0, .int 0, .null, .null, .null]] sz)) (QV (X := Nat × Nat × Nat × Nat × Nat × Nat × Nat × Nat × Nat × Nat × Nat × Nat × Nat × Nat × Nat × Nat × Nat) D (fun _ => True) (fun xx => [ob h0 4 [.ref (xx.1), .ref (xx.2.1), .ref (xx.2.2.1), .ref (xx.2.2.2.1), .ref (xx.2.2.2.2.1), .ref (xx.2.2.2.2.2.1), .ref (xx.2.2.2.2.2.2.1), .ref (xx.2.2.2.2.2.2.2.1), .ref (xx.2.2.2.2.2.2.2.2.1), .ref (xx.2.2.2.2.2.2.2.2.2.1), .ref (xx.2.2.2.2.2.2.2.2.2.2.1), .ref (xx.2.2.2.2.2.2.2.2.2.2.2.1), .ref (xx.2.2.2.2.2.2.2.2.2.2.2.2.1), .ref (xx.2.2.2.2.2.2.2.2.2.2.2.2.2.1), .int 0, .int 0, .ref (xx.2.2.2.2.2.2.2.2.2.2.2.2.2.2.1), .ref (xx.2.2.2.2.2.2.2.2.2.2.2.2.2.2.2.1), .ref (xx.2.2.2.2.2.2.2.2.2.2.2.2.2.2.2.2)], ai T (xx.2.2.2.2.2.2.1) 6 (cst 0), ai T (xx.2.2.2.2.2.2.2.1) 6 (cst 0), ai T (xx.2.2.2.2.2.2.2.2.1) 18 (cst 0), ai T (xx.2.2.2.2.2.2.2.2.2.1) 18 (cst 0), ai T (xx.2.2.2.2.2.2.2.2.2.2.1) 8 (cst 0), ai T (xx.2.2.2.2.2.2.2.2.2.2.2.1) 8 (cst 0), ai T (xx.2.2.2.2.2.2.2.2.2.2.2.2.1) 2928 (cst 0)]) (va_A [ob h0 4 [.null, .null, .null, .null, .null, .null, .null, .null, .null, .null, .null, .null, .null, .null, .int 0, .int 0, .null, .null, .null]] sz)) 17 8392 (va_A [ob h0 4 [.null, .null, .null, .null, .null, .null, .null, .null, .null, .null, .null, .null, .null, .null, .int 0, .int 0, .null, .null, .null]] sz) := by
  refine mk_met (Qc := QV (X := Nat × Nat × Nat × Nat × Nat × Nat × Nat × Nat × Nat × Nat × Nat × Nat × Nat × Nat × Nat × Nat × Nat) D (fun _ => True) (fun xx => [ob h0 4 [.ref (xx.1), .ref (xx.2.1), .ref (xx.2.2.1), .ref (xx.2.2.2.1), .ref (xx.2.2.2.2.1), .ref (xx.2.2.2.2.2.1), .ref (xx.2.2.2.2.2.2.1), .ref (xx.2.2.2.2.2.2.2.1), .ref (xx.2.2.2.2.2.2.2.2.1), .ref (xx.2.2.2.2.2.2.2.2.2.1), .ref (xx.2.2.2.2.2.2.2.2.2.2.1), .ref (xx.2.2.2.2.2.2.2.2.2.2.2.1), .ref (xx.2.2.2.2.2.2.2.2.2.2.2.2.1), .ref (xx.2.2.2.2.2.2.2.2.2.2.2.2.2.1), .int 0, .int 0, .ref (xx.2.2.2.2.2.2.2.2.2.2.2.2.2.2.1), .ref (xx.2.2.2.2.2.2.2.2.2.2.2.2.2.2.2.1), .ref (xx.2.2.2.2.2.2.2.2.2.2.2.2.2.2.2.2)], ai T (xx.2.2.2.2.2.2.1) 6 (cst 0), ai T (xx.2.2.2.2.2.2.2.1) 6 (cst 0), ai T (xx.2.2.2.2.2.2.2.2.1) 18 (cst 0), ai T (xx.2.2.2.2.2.2.2.2.2.1) 18 (cst 0), ai T (xx.2.2.2.2.2.2.2.2.2.2.1) 8 (cst 0), ai T (xx.2.2.2.2.2.2.2.2.2.2.2.1) 8 (cst 0), ai T (xx.2.2.2.2.2.2.2.2.2.2.2.2.1) 2928 (cst 0)])) (lv := [(0, .ref h0)]) (by decide +kernel) (Nat.le_of_ble_eq_true rfl) rfl (fun p e s m below meth c A ls H locs hx hb hml hr hlocks hown hin hg hN hA hP hK hD hS hl => ?_)
  refine lv_aload_n hx hb dX4_init_0 rfl (lv_at hl 0 rfl) ?_
  refine W.objInit hx hb hown (hg _ km_X4_5) (hg _ ki_objectInit) (hg _ kd_objectInit) rfl (by rw [hml]; exact hl.1) rfl dX4_init_1 (Nat.le_of_ble_eq_true rfl) (Nat.le_of_ble_eq_true rfl) ?_
  refine W.eq (g2 := F0 m 4 ls []) rfl ?_
  refine lv_aload_n hx hb dX4_init_4 rfl (lv_at hl 0 rfl) ?_
  refine lv_sipush (v := 360) hx hb dX4_init_5 (by decide) ?_
  refine z_newa (atype := .int) (ty := .int) (N' := 360) (a0 := (360, (.inl (cst 0)))) hx hb (hg _ ka_int) rfl rfl hK hP hD hS hA 0 rfl (fun _ => rfl) (by decide) (by decide) (Nat.le_of_ble_eq_true rfl) (Nat.le_of_ble_eq_true rfl) (Nat.le_of_ble_eq_true rfl) dX4_init_8 (fun q1 H hP hD hS => ?_)
  have hP : va_P D vwCl [ob h0 4 [.null, .null, .null, .null, .null, .null, .null, .null, .null, .null, .null, .null, .null, .null, .int 0, .int 0, .null, .null, .null], ai T q1 360 (cst 0)] H := hP
  have hD : va_D A [ob h0 4 [.null, .null, .null, .null, .null, .null, .null, .null, .null, .null, .null, .null, .null, .null, .int 0, .int 0, .null, .null, .null], ai T q1 360 (cst 0)] := hD
  refine W.widen (k := 1) (n := 360) (Nat.le_of_ble_eq_true rfl) (Nat.le_of_ble_eq_true rfl) ?_
  refine va_putF (D := D) (ci := 4) (v := .ref q1) (ty := (.array .int)) (C := RX4) (T := TX4) (N := 19) hx hb hg inX4 tyX4 tyX4_ok nmX4 hown hK hP hD hS 0 rfl rfl 0 (by decide) (hg _ kf_X4_11) (fun _ h9 => h9) rfl hin rfl (by decide +kernel) rfl rfl (Nat.le_of_ble_eq_true rfl) dX4_init_10 (fun H locs hP hD hS => ?_)
  have hP : va_P D vwCl [ob h0 4 [.ref q1, .null, .null, .null, .null, .null, .null, .null, .null, .null, .null, .null, .null, .null, .int 0, .int 0, .null, .null, .null], ai T q1 360 (cst 0)] H := hP
  have hD : va_D A [ob h0 4 [.ref q1, .null, .null, .null, .null, .null, .null, .null, .null, .null, .null, .null, .null, .null, .int 0, .int 0, .null, .null, .null], ai T q1 360 (cst 0)] := hD
  refine lv_aload_n hx hb dX4_init_13 rfl (lv_at hl 0 rfl) ?_
  refine lv_sipush (v := 360) hx hb dX4_init_14 (by decide) ?_
  refine z_newa (atype := .int) (ty := .int) (N' := 360) (a0 := (360, (.inl (cst 0)))) hx hb (hg _ ka_int) rfl rfl hK hP hD hS hA 0 rfl (fun _ => rfl) (by decide) (by decide) (Nat.le_of_ble_eq_true rfl) (Nat.le_of_ble_eq_true rfl) (Nat.le_of_ble_eq_true rfl) dX4_init_17 (fun q2 H hP hD hS => ?_)
  have hP : va_P D vwCl [ob h0 4 [.ref q1, .null, .null, .null, .null, .null, .null, .null, .null, .null, .null, .null, .null, .null, .int 0, .int 0, .null, .null, .null], ai T q1 360 (cst 0), ai T q2 360 (cst 0)] H := hP
  have hD : va_D A [ob h0 4 [.ref q1, .null, .null, .null, .null, .null, .null, .null, .null, .null, .null, .null, .null, .null, .int 0, .int 0, .null, .null, .null], ai T q1 360 (cst 0), ai T q2 360 (cst 0)] := hD
  refine W.widen (k := 2) (n := 720) (Nat.le_of_ble_eq_true rfl) (Nat.le_of_ble_eq_true rfl) ?_
  refine va_putF (D := D) (ci := 4) (v := .ref q2) (ty := (.array .int)) (C := RX4) (T := TX4) (N := 19) hx hb hg inX4 tyX4 tyX4_ok nmX4 hown hK hP hD hS 0 rfl rfl 1 (by decide) (hg _ kf_X4_15) (fun _ h9 => h9) rfl hin rfl (by decide +kernel) rfl rfl (Nat.le_of_ble_eq_true rfl) dX4_init_19 (fun H locs hP hD hS => ?_)
  have hP : va_P D vwCl [ob h0 4 [.ref q1, .ref q2, .null, .null, .null, .null, .null, .null, .null, .null, .null, .null, .null, .null, .int 0, .int 0, .null, .null, .null], ai T q1 360 (cst 0), ai T q2 360 (cst 0)] H := hP
  have hD : va_D A [ob h0 4 [.ref q1, .ref q2, .null, .null, .null, .null, .null, .null, .null, .null, .null, .null, .null, .null, .int 0, .int 0, .null, .null, .null], ai T q1 360 (cst 0), ai T q2 360 (cst 0)] := hD
  refine lv_aload_n hx hb dX4_init_22 rfl (lv_at hl 0 rfl) ?_
  refine lv_sipush (v := 360) hx hb dX4_init_23 (by decide) ?_
  refine z_newa (atype := .int) (ty := .int) (N' := 360) (a0 := (360, (.inl (cst 0)))) hx hb (hg _ ka_int) rfl rfl hK hP hD hS hA 0 rfl (fun _ => rfl) (by decide) (by decide) (Nat.le_of_ble_eq_true rfl) (Nat.le_of_ble_eq_true rfl) (Nat.le_of_ble_eq_true rfl) dX4_init_26 (fun q3 H hP hD hS => ?_)
  have hP : va_P D vwCl [ob h0 4 [.ref q1, .ref q2, .null, .null, .null, .null, .null, .null, .null, .null, .null, .null, .null, .null, .int 0, .int 0, .null, .null, .null], ai T q1 360 (cst 0), ai T q2 360 (cst 0), ai T q3 360 (cst 0)] H := hP
  have hD : va_D A [ob h0 4 [.ref q1, .ref q2, .null, .null, .null, .null, .null, .null, .null, .null, .null, .null, .null, .null, .int 0, .int 0, .null, .null, .null], ai T q1 360 (cst 0), ai T q2 360 (cst 0), ai T q3 360 (cst 0)] := hD
  refine W.widen (k := 3) (n := 1080) (Nat.le_of_ble_eq_true rfl) (Nat.le_of_ble_eq_true rfl) ?_
  refine va_putF (D := D) (ci := 4) (v := .ref q3) (ty := (.array .int)) (C := RX4) (T := TX4) (N := 19) hx hb hg inX4 tyX4 tyX4_ok nmX4 hown hK hP hD hS 0 rfl rfl 2 (by decide) (hg _ kf_X4_18) (fun _ h9 => h9) rfl hin rfl (by decide +kernel) rfl rfl (Nat.le_of_ble_eq_true rfl) dX4_init_28 (fun H locs hP hD hS => ?_)
  have hP : va_P D vwCl [ob h0 4 [.ref q1, .ref q2, .ref q3, .null, .null, .null, .null, .null, .null, .null, .null, .null, .null, .null, .int 0, .int 0, .null, .null, .null], ai T q1 360 (cst 0), ai T q2 360 (cst 0), ai T q3 360 (cst 0)] H := hP
  have hD : va_D A [ob h0 4 [.ref q1, .ref q2, .ref q3, .null, .null, .null, .null, .null, .null, .null, .null, .null, .null, .null, .int 0, .int 0, .null, .null, .null], ai T q1 360 (cst 0), ai T q2 360 (cst 0), ai T q3 360 (cst 0)] := hD
  refine lv_aload_n hx hb dX4_init_31 rfl (lv_at hl 0 rfl) ?_
  refine lv_sipush (v := 360) hx hb dX4_init_32 (by decide) ?_
  refine z_newa (atype := .int) (ty := .int) (N' := 360) (a0 := (360, (.inl (cst 0)))) hx hb (hg _ ka_int) rfl rfl hK hP hD hS hA 0 rfl (fun _ => rfl) (by decide) (by decide) (Nat.le_of_ble_eq_true rfl) (Nat.le_of_ble_eq_true rfl) (Nat.le_of_ble_eq_true rfl) dX4_init_35 (fun q4 H hP hD hS => ?_)
  have hP : va_P D vwCl [ob h0 4 [.ref q1, .ref q2, .ref q3, .null, .null, .null, .null, .null, .null, .null, .null, .null, .null, .null, .int 0, .int 0, .null, .null, .null], ai T q1 360 (cst 0), ai T q2 360 (cst 0), ai T q3 360 (cst 0), ai T q4 360 (cst 0)] H := hP
  have hD : va_D A [ob h0 4 [.ref q1, .ref q2, .ref q3, .null, .null, .null, .null, .null, .null, .null, .null, .null, .null, .null, .int 0, .int 0, .null, .null, .null], ai T q1 360 (cst 0), ai T q2 360 (cst 0), ai T q3 360 (cst 0), ai T q4 360 (cst 0)] := hD
  refine W.widen (k := 4) (n := 1440) (Nat.le_of_ble_eq_true rfl) (Nat.le_of_ble_eq_true rfl) ?_
  refine va_putF (D := D) (ci := 4) (v := .ref q4) (ty := (.array .int)) (C := RX4) (T := TX4) (N := 19) hx hb hg inX4 tyX4 tyX4_ok nmX4 hown hK hP hD hS 0 rfl rfl 3 (by decide) (hg _ kf_X4_21) (fun _ h9 => h9) rfl hin rfl (by decide +kernel) rfl rfl (Nat.le_of_ble_eq_true rfl) dX4_init_37 (fun H locs hP hD hS => ?_)
  have hP : va_P D vwCl [ob h0 4 [.ref q1, .ref q2, .ref q3, .ref q4, .null, .null, .null, .null, .null, .null, .null, .null, .null, .null, .int 0, .int 0, .null, .null, .null], ai T q1 360 (cst 0), ai T q2 360 (cst 0), ai T q3 360 (cst 0), ai T q4 360 (cst 0)] H := hP
  have hD : va_D A [ob h0 4 [.ref q1, .ref q2, .ref q3, .ref q4, .null, .null, .null, .null, .null, .null, .null, .null, .null, .null, .int 0, .int 0, .null, .null, .null], ai T q1 360 (cst 0), ai T q2 360 (cst 0), ai T q3 360 (cst 0), ai T q4 360 (cst 0)] := hD
  refine lv_aload_n hx hb dX4_init_40 rfl (lv_at hl 0 rfl) ?_
  refine lv_sipush (v := 360) hx hb dX4_init_41 (by decide) ?_
  refine z_newa (atype := .int) (ty := .int) (N' := 360) (a0 := (360, (.inl (cst 0)))) hx hb (hg _ ka_int) rfl rfl hK hP hD hS hA 0 rfl (fun _ => rfl) (by decide) (by decide) (Nat.le_of_ble_eq_true rfl) (Nat.le_of_ble_eq_true rfl) (Nat.le_of_ble_eq_true rfl) dX4_init_44 (fun q5 H hP hD hS => ?_)
  have hP : va_P D vwCl [ob h0 4 [.ref q1, .ref q2, .ref q3, .ref q4, .null, .null, .null, .null, .null, .null, .null, .null, .null, .null, .int 0, .int 0, .null, .null, .null], ai T q1 360 (cst 0), ai T q2 360 (cst 0), ai T q3 360 (cst 0), ai T q4 360 (cst 0), ai T q5 360 (cst 0)] H := hP
  have hD : va_D A [ob h0 4 [.ref q1, .ref q2, .ref q3, .ref q4, .null, .null, .null, .null, .null, .null, .null, .null, .null, .null, .int 0, .int 0, .null, .null, .null], ai T q1 360 (cst 0), ai T q2 360 (cst 0), ai T q3 360 (cst 0), ai T q4 360 (cst 0), ai T q5 360 (cst 0)] := hD
  refine W.widen (k := 5) (n := 1800) (Nat.le_of_ble_eq_true rfl) (Nat.le_of_ble_eq_true rfl) ?_
  refine va_putF (D := D) (ci := 4) (v := .ref q5) (ty := (.array .int)) (C := RX4) (T := TX4) (N := 19) hx hb hg inX4 tyX4 tyX4_ok nmX4 hown hK hP hD hS 0 rfl rfl 4 (by decide) (hg _ kf_X4_24) (fun _ h9 => h9) rfl hin rfl (by decide +kernel) rfl rfl (Nat.le_of_ble_eq_true rfl) dX4_init_46 (fun H locs hP hD hS => ?_)
  have hP : va_P D vwCl [ob h0 4 [.ref q1, .ref q2, .ref q3, .ref q4, .ref q5, .null, .null, .null, .null, .null, .null, .null, .null, .null, .int 0, .int 0, .null, .null, .null], ai T q1 360 (cst 0), ai T q2 360 (cst 0), ai T q3 360 (cst 0), ai T q4 360 (cst 0), ai T q5 360 (cst 0)] H := hP
  have hD : va_D A [ob h0 4 [.ref q1, .ref q2, .ref q3, .ref q4, .ref q5, .null, .null, .null, .null, .null, .null, .null, .null, .null, .int 0, .int 0, .null, .null, .null], ai T q1 360 (cst 0), ai T q2 360 (cst 0), ai T q3 360 (cst 0), ai T q4 360 (cst 0), ai T q5 360 (cst 0)] := hD
  refine lv_aload_n hx hb dX4_init_49 rfl (lv_at hl 0 rfl) ?_
  refine lv_sipush (v := 360) hx hb dX4_init_50 (by decide) ?_
  refine z_newa (atype := .int) (ty := .int) (N' := 360) (a0 := (360, (.inl (cst 0)))) hx hb (hg _ ka_int) rfl rfl hK hP hD hS hA 0 rfl (fun _ => rfl) (by decide) (by decide) (Nat.le_of_ble_eq_true rfl) (Nat.le_of_ble_eq_true rfl) (Nat.le_of_ble_eq_true rfl) dX4_init_53 (fun q6 H hP hD hS => ?_)
  have hP : va_P D vwCl [ob h0 4 [.ref q1, .ref q2, .ref q3, .ref q4, .ref q5, .null, .null, .null, .null, .null, .null, .null, .null, .null, .int 0, .int 0, .null, .null, .null], ai T q1 360 (cst 0), ai T q2 360 (cst 0), ai T q3 360 (cst 0), ai T q4 360 (cst 0), ai T q5 360 (cst 0), ai T q6 360 (cst 0)] H := hP
  have hD : va_D A [ob h0 4 [.ref q1, .ref q2, .ref q3, .ref q4, .ref q5, .null, .null, .null, .null, .null, .null, .null, .null, .null, .int 0, .int 0, .null, .null, .null], ai T q1 360 (cst 0), ai T q2 360 (cst 0), ai T q3 360 (cst 0), ai T q4 360 (cst 0), ai T q5 360 (cst 0), ai T q6 360 (cst 0)] := hD
  refine W.widen (k := 6) (n := 2160) (Nat.le_of_ble_eq_true rfl) (Nat.le_of_ble_eq_true rfl) ?_
  refine va_putF (D := D) (ci := 4) (v := .ref q6) (ty := (.array .int)) (C := RX4) (T := TX4) (N := 19) hx hb hg inX4 tyX4 tyX4_ok nmX4 hown hK hP hD hS 0 rfl rfl 5 (by decide) (hg _ kf_X4_27) (fun _ h9 => h9) rfl hin rfl (by decide +kernel) rfl rfl (Nat.le_of_ble_eq_true rfl) dX4_init_55 (fun H locs hP hD hS => ?_)
  have hP : va_P D vwCl [ob h0 4 [.ref q1, .ref q2, .ref q3, .ref q4, .ref q5, .ref q6, .null, .null, .null, .null, .null, .null, .null, .null, .int 0, .int 0, .null, .null, .null], ai T q1 360 (cst 0), ai T q2 360 (cst 0), ai T q3 360 (cst 0), ai T q4 360 (cst 0), ai T q5 360 (cst 0), ai T q6 360 (cst 0)] H := hP
  have hD : va_D A [ob h0 4 [.ref q1, .ref q2, .ref q3, .ref q4, .ref q5, .ref q6, .null, .null, .null, .null, .null, .null, .null, .null, .int 0, .int 0, .null, .null, .null], ai T q1 360 (cst 0), ai T q2 360 (cst 0), ai T q3 360 (cst 0), ai T q4 360 (cst 0), ai T q5 360 (cst 0), ai T q6 360 (cst 0)] := hD
  refine lv_aload_n hx hb dX4_init_58 rfl (lv_at hl 0 rfl) ?_
  refine lv_bipush (v := 6) hx hb dX4_init_59 (by decide) ?_
  refine z_newa (atype := .int) (ty := .int) (N' := 6) (a0 := (6, (.inl (cst 0)))) hx hb (hg _ ka_int) rfl rfl hK hP hD hS hA 0 rfl (fun _ => rfl) (by decide) (by decide) (Nat.le_of_ble_eq_true rfl) (Nat.le_of_ble_eq_true rfl) (Nat.le_of_ble_eq_true rfl) dX4_init_61 (fun q7 H hP hD hS => ?_)
  have hP : va_P D vwCl [ob h0 4 [.ref q1, .ref q2, .ref q3, .ref q4, .ref q5, .ref q6, .null, .null, .null, .null, .null, .null, .null, .null, .int 0, .int 0, .null, .null, .null], ai T q1 360 (cst 0), ai T q2 360 (cst 0), ai T q3 360 (cst 0), ai T q4 360 (cst 0), ai T q5 360 (cst 0), ai T q6 360 (cst 0), ai T q7 6 (cst 0)] H := hP
  have hD : va_D A [ob h0 4 [.ref q1, .ref q2, .ref q3, .ref q4, .ref q5, .ref q6, .null, .null, .null, .null, .null, .null, .null, .null, .int 0, .int 0, .null, .null, .null], ai T q1 360 (cst 0), ai T q2 360 (cst 0), ai T q3 360 (cst 0), ai T q4 360 (cst 0), ai T q5 360 (cst 0), ai T q6 360 (cst 0), ai T q7 6 (cst 0)] := hD
  refine W.widen (k := 7) (n := 2166) (Nat.le_of_ble_eq_true rfl) (Nat.le_of_ble_eq_true rfl) ?_
  refine va_putF (D := D) (ci := 4) (v := .ref q7) (ty := (.array .int)) (C := RX4) (T := TX4) (N := 19) hx hb hg inX4 tyX4 tyX4_ok nmX4 hown hK hP hD hS 0 rfl rfl 6 (by decide) (hg _ kf_X4_30) (fun _ h9 => h9) rfl hin rfl (by decide +kernel) rfl rfl (Nat.le_of_ble_eq_true rfl) dX4_init_63 (fun H locs hP hD hS => ?_)
  have hP : va_P D vwCl [ob h0 4 [.ref q1, .ref q2, .ref q3, .ref q4, .ref q5, .ref q6, .ref q7, .null, .null, .null, .null, .null, .null, .null, .int 0, .int 0, .null, .null, .null], ai T q1 360 (cst 0), ai T q2 360 (cst 0), ai T q3 360 (cst 0), ai T q4 360 (cst 0), ai T q5 360 (cst 0), ai T q6 360 (cst 0), ai T q7 6 (cst 0)] H := hP
  have hD : va_D A [ob h0 4 [.ref q1, .ref q2, .ref q3, .ref q4, .ref q5, .ref q6, .ref q7, .null, .null, .null, .null, .null, .null, .null, .int 0, .int 0, .null, .null, .null], ai T q1 360 (cst 0), ai T q2 360 (cst 0), ai T q3 360 (cst 0), ai T q4 360 (cst 0), ai T q5 360 (cst 0), ai T q6 360 (cst 0), ai T q7 6 (cst 0)] := hD
  refine lv_aload_n hx hb dX4_init_66 rfl (lv_at hl 0 rfl) ?_
  refine lv_bipush (v := 6) hx hb dX4_init_67 (by decide) ?_
  refine z_newa (atype := .int) (ty := .int) (N' := 6) (a0 := (6, (.inl (cst 0)))) hx hb (hg _ ka_int) rfl rfl hK hP hD hS hA 0 rfl (fun _ => rfl) (by decide) (by decide) (Nat.le_of_ble_eq_true rfl) (Nat.le_of_ble_eq_true rfl) (Nat.le_of_ble_eq_true rfl) dX4_init_69 (fun q8 H hP hD hS => ?_)
  have hP : va_P D vwCl [ob h0 4 [.ref q1, .ref q2, .ref q3, .ref q4, .ref q5, .ref q6, .ref q7, .null, .null, .null, .null, .null, .null, .null, .int 0, .int 0, .null, .null, .null], ai T q1 360 (cst 0), ai T q2 360 (cst 0), ai T q3 360 (cst 0), ai T q4 360 (cst 0), ai T q5 360 (cst 0), ai T q6 360 (cst 0), ai T q7 6 (cst 0), ai T q8 6 (cst 0)] H := hP
  have hD : va_D A [ob h0 4 [.ref q1, .ref q2, .ref q3, .ref q4, .ref q5, .ref q6, .ref q7, .null, .null, .null, .null, .null, .null, .null, .int 0, .int 0, .null, .null, .null], ai T q1 360 (cst 0), ai T q2 360 (cst 0), ai T q3 360 (cst 0), ai T q4 360 (cst 0), ai T q5 360 (cst 0), ai T q6 360 (cst 0), ai T q7 6 (cst 0), ai T q8 6 (cst 0)] := hD
  refine W.widen (k := 8) (n := 2172) (Nat.le_of_ble_eq_true rfl) (Nat.le_of_ble_eq_true rfl) ?_
  refine va_putF (D := D) (ci := 4) (v := .ref q8) (ty := (.array .int)) (C := RX4) (T := TX4) (N := 19) hx hb hg inX4 tyX4 tyX4_ok nmX4 hown hK hP hD hS 0 rfl rfl 7 (by decide) (hg _ kf_X4_33) (fun _ h9 => h9) rfl hin rfl (by decide +kernel) rfl rfl (Nat.le_of_ble_eq_true rfl) dX4_init_71 (fun H locs hP hD hS => ?_)
  have hP : va_P D vwCl [ob h0 4 [.ref q1, .ref q2, .ref q3, .ref q4, .ref q5, .ref q6, .ref q7, .ref q8, .null, .null, .null, .null, .null, .null, .int 0, .int 0, .null, .null, .null], ai T q1 360 (cst 0), ai T q2 360 (cst 0), ai T q3 360 (cst 0), ai T q4 360 (cst 0), ai T q5 360 (cst 0), ai T q6 360 (cst 0), ai T q7 6 (cst 0), ai T q8 6 (cst 0)] H := hP
  have hD : va_D A [ob h0 4 [.ref q1, .ref q2, .ref q3, .ref q4, .ref q5, .ref q6, .ref q7, .ref q8, .null, .null, .null, .null, .null, .null, .int 0, .int 0, .null, .null, .null], ai T q1 360 (cst 0), ai T q2 360 (cst 0), ai T q3 360 (cst 0), ai T q4 360 (cst 0), ai T q5 360 (cst 0), ai T q6 360 (cst 0), ai T q7 6 (cst 0), ai T q8 6 (cst 0)] := hD
  refine lv_aload_n hx hb dX4_init_74 rfl (lv_at hl 0 rfl) ?_
  refine lv_bipush (v := 18) hx hb dX4_init_75 (by decide) ?_
  refine z_newa (atype := .int) (ty := .int) (N' := 18) (a0 := (18, (.inl (cst 0)))) hx hb (hg _ ka_int) rfl rfl hK hP hD hS hA 0 rfl (fun _ => rfl) (by decide) (by decide) (Nat.le_of_ble_eq_true rfl) (Nat.le_of_ble_eq_true rfl) (Nat.le_of_ble_eq_true rfl) dX4_init_77 (fun q9 H hP hD hS => ?_)
  have hP : va_P D vwCl [ob h0 4 [.ref q1, .ref q2, .ref q3, .ref q4, .ref q5, .ref q6, .ref q7, .ref q8, .null, .null, .null, .null, .null, .null, .int 0, .int 0, .null, .null, .null], ai T q1 360 (cst 0), ai T q2 360 (cst 0), ai T q3 360 (cst 0), ai T q4 360 (cst 0), ai T q5 360 (cst 0), ai T q6 360 (cst 0), ai T q7 6 (cst 0), ai T q8 6 (cst 0), ai T q9 18 (cst 0)] H := hP
  have hD : va_D A [ob h0 4 [.ref q1, .ref q2, .ref q3, .ref q4, .ref q5, .ref q6, .ref q7, .ref q8, .null, .null, .null, .null, .null, .null, .int 0, .int 0, .null, .null, .null], ai T q1 360 (cst 0), ai T q2 360 (cst 0), ai T q3 360 (cst 0), ai T q4 360 (cst 0), ai T q5 360 (cst 0), ai T q6 360 (cst 0), ai T q7 6 (cst 0), ai T q8 6 (cst 0), ai T q9 18 (cst 0)] := hD
  refine W.widen (k := 9) (n := 2190) (Nat.le_of_ble_eq_true rfl) (Nat.le_of_ble_eq_true rfl) ?_
  refine va_putF (D := D) (ci := 4) (v := .ref q9) (ty := (.array .int)) (C := RX4) (T := TX4) (N := 19) hx hb hg inX4 tyX4 tyX4_ok nmX4 hown hK hP hD hS 0 rfl rfl 8 (by decide) (hg _ kf_X4_36) (fun _ h9 => h9) rfl hin rfl (by decide +kernel) rfl rfl (Nat.le_of_ble_eq_true rfl) dX4_init_79 (fun H locs hP hD hS => ?_)
  have hP : va_P D vwCl [ob h0 4 [.ref q1, .ref q2, .ref q3, .ref q4, .ref q5, .ref q6, .ref q7, .ref q8, .ref q9, .null, .null, .null, .null, .null, .int 0, .int 0, .null, .null, .null], ai T q1 360 (cst 0), ai T q2 360 (cst 0), ai T q3 360 (cst 0), ai T q4 360 (cst 0), ai T q5 360 (cst 0), ai T q6 360 (cst 0), ai T q7 6 (cst 0), ai T q8 6 (cst 0), ai T q9 18 (cst 0)] H := hP
  have hD : va_D A [ob h0 4 [.ref q1, .ref q2, .ref q3, .ref q4, .ref q5, .ref q6, .ref q7, .ref q8, .ref q9, .null, .null, .null, .null, .null, .int 0, .int 0, .null, .null, .null], ai T q1 360 (cst 0), ai T q2 360 (cst 0), ai T q3 360 (cst 0), ai T q4 360 (cst 0), ai T q5 360 (cst 0), ai T q6 360 (cst 0), ai T q7 6 (cst 0), ai T q8 6 (cst 0), ai T q9 18 (cst 0)] := hD
  refine lv_aload_n hx hb dX4_init_82 rfl (lv_at hl 0 rfl) ?_
  refine lv_bipush (v := 18) hx hb dX4_init_83 (by decide) ?_
  refine z_newa (atype := .int) (ty := .int) (N' := 18) (a0 := (18, (.inl (cst 0)))) hx hb (hg _ ka_int) rfl rfl hK hP hD hS hA 0 rfl (fun _ => rfl) (by decide) (by decide) (Nat.le_of_ble_eq_true rfl) (Nat.le_of_ble_eq_true rfl) (Nat.le_of_ble_eq_true rfl) dX4_init_85 (fun q10 H hP hD hS => ?_)
  have hP : va_P D vwCl [ob h0 4 [.ref q1, .ref q2, .ref q3, .ref q4, .ref q5, .ref q6, .ref q7, .ref q8, .ref q9, .null, .null, .null, .null, .null, .int 0, .int 0, .null, .null, .null], ai T q1 360 (cst 0), ai T q2 360 (cst 0), ai T q3 360 (cst 0), ai T q4 360 (cst 0), ai T q5 360 (cst 0), ai T q6 360 (cst 0), ai T q7 6 (cst 0), ai T q8 6 (cst 0), ai T q9 18 (cst 0), ai T q10 18 (cst 0)] H := hP
  have hD : va_D A [ob h0 4 [.ref q1, .ref q2, .ref q3, .ref q4, .ref q5, .ref q6, .ref q7, .ref q8, .ref q9, .null, .null, .null, .null, .null, .int 0, .int 0, .null, .null, .null], ai T q1 360 (cst 0), ai T q2 360 (cst 0), ai T q3 360 (cst 0), ai T q4 360 (cst 0), ai T q5 360 (cst 0), ai T q6 360 (cst 0), ai T q7 6 (cst 0), ai T q8 6 (cst 0), ai T q9 18 (cst 0), ai T q10 18 (cst 0)] := hD
  refine W.widen (k := 10) (n := 2208) (Nat.le_of_ble_eq_true rfl) (Nat.le_of_ble_eq_true rfl) ?_
  refine va_putF (D := D) (ci := 4) (v := .ref q10) (ty := (.array .int)) (C := RX4) (T := TX4) (N := 19) hx hb hg inX4 tyX4 tyX4_ok nmX4 hown hK hP hD hS 0 rfl rfl 9 (by decide) (hg _ kf_X4_39) (fun _ h9 => h9) rfl hin rfl (by decide +kernel) rfl rfl (Nat.le_of_ble_eq_true rfl) dX4_init_87 (fun H locs hP hD hS => ?_)
  have hP : va_P D vwCl [ob h0 4 [.ref q1, .ref q2, .ref q3, .ref q4, .ref q5, .ref q6, .ref q7, .ref q8, .ref q9, .ref q10, .null, .null, .null, .null, .int 0, .int 0, .null, .null, .null], ai T q1 360 (cst 0), ai T q2 360 (cst 0), ai T q3 360 (cst 0), ai T q4 360 (cst 0), ai T q5 360 (cst 0), ai T q6 360 (cst 0), ai T q7 6 (cst 0), ai T q8 6 (cst 0), ai T q9 18 (cst 0), ai T q10 18 (cst 0)] H := hP
  have hD : va_D A [ob h0 4 [.ref q1, .ref q2, .ref q3, .ref q4, .ref q5, .ref q6, .ref q7, .ref q8, .ref q9, .ref q10, .null, .null, .null, .null, .int 0, .int 0, .null, .null, .null], ai T q1 360 (cst 0), ai T q2 360 (cst 0), ai T q3 360 (cst 0), ai T q4 360 (cst 0), ai T q5 360 (cst 0), ai T q6 360 (cst 0), ai T q7 6 (cst 0), ai T q8 6 (cst 0), ai T q9 18 (cst 0), ai T q10 18 (cst 0)] := hD
  refine lv_aload_n hx hb dX4_init_90 rfl (lv_at hl 0 rfl) ?_
  refine lv_bipush (v := 8) hx hb dX4_init_91 (by decide) ?_
  refine z_newa (atype := .int) (ty := .int) (N' := 8) (a0 := (8, (.inl (cst 0)))) hx hb (hg _ ka_int) rfl rfl hK hP hD hS hA 0 rfl (fun _ => rfl) (by decide) (by decide) (Nat.le_of_ble_eq_true rfl) (Nat.le_of_ble_eq_true rfl) (Nat.le_of_ble_eq_true rfl) dX4_init_93 (fun q11 H hP hD hS => ?_)
  have hP : va_P D vwCl [ob h0 4 [.ref q1, .ref q2, .ref q3, .ref q4, .ref q5, .ref q6, .ref q7, .ref q8, .ref q9, .ref q10, .null, .null, .null, .null, .int 0, .int 0, .null, .null, .null], ai T q1 360 (cst 0), ai T q2 360 (cst 0), ai T q3 360 (cst 0), ai T q4 360 (cst 0), ai T q5 360 (cst 0), ai T q6 360 (cst 0), ai T q7 6 (cst 0), ai T q8 6 (cst 0), ai T q9 18 (cst 0), ai T q10 18 (cst 0), ai T q11 8 (cst 0)] H := hP
  have hD : va_D A [ob h0 4 [.ref q1, .ref q2, .ref q3, .ref q4, .ref q5, .ref q6, .ref q7, .ref q8, .ref q9, .ref q10, .null, .null, .null, .null, .int 0, .int 0, .null, .null, .null], ai T q1 360 (cst 0), ai T q2 360 (cst 0), ai T q3 360 (cst 0), ai T q4 360 (cst 0), ai T q5 360 (cst 0), ai T q6 360 (cst 0), ai T q7 6 (cst 0), ai T q8 6 (cst 0), ai T q9 18 (cst 0), ai T q10 18 (cst 0), ai T q11 8 (cst 0)] := hD
  refine W.widen (k := 11) (n := 2216) (Nat.le_of_ble_eq_true rfl) (Nat.le_of_ble_eq_true rfl) ?_
  refine va_putF (D := D) (ci := 4) (v := .ref q11) (ty := (.array .int)) (C := RX4) (T := TX4) (N := 19) hx hb hg inX4 tyX4 tyX4_ok nmX4 hown hK hP hD hS 0 rfl rfl 10 (by decide) (hg _ kf_X4_42) (fun _ h9 => h9) rfl hin rfl (by decide +kernel) rfl rfl (Nat.le_of_ble_eq_true rfl) dX4_init_95 (fun H locs hP hD hS => ?_)
  have hP : va_P D vwCl [ob h0 4 [.ref q1, .ref q2, .ref q3, .ref q4, .ref q5, .ref q6, .ref q7, .ref q8, .ref q9, .ref q10, .ref q11, .null, .null, .null, .int 0, .int 0, .null, .null, .null], ai T q1 360 (cst 0), ai T q2 360 (cst 0), ai T q3 360 (cst 0), ai T q4 360 (cst 0), ai T q5 360 (cst 0), ai T q6 360 (cst 0), ai T q7 6 (cst 0), ai T q8 6 (cst 0), ai T q9 18 (cst 0), ai T q10 18 (cst 0), ai T q11 8 (cst 0)] H := hP
  have hD : va_D A [ob h0 4 [.ref q1, .ref q2, .ref q3, .ref q4, .ref q5, .ref q6, .ref q7, .ref q8, .ref q9, .ref q10, .ref q11, .null, .null, .null, .int 0, .int 0, .null, .null, .null], ai T q1 360 (cst 0), ai T q2 360 (cst 0), ai T q3 360 (cst 0), ai T q4 360 (cst 0), ai T q5 360 (cst 0), ai T q6 360 (cst 0), ai T q7 6 (cst 0), ai T q8 6 (cst 0), ai T q9 18 (cst 0), ai T q10 18 (cst 0), ai T q11 8 (cst 0)] := hD
  refine lv_aload_n hx hb dX4_init_98 rfl (lv_at hl 0 rfl) ?_
  refine lv_bipush (v := 8) hx hb dX4_init_99 (by decide) ?_
  refine z_newa (atype := .int) (ty := .int) (N' := 8) (a0 := (8, (.inl (cst 0)))) hx hb (hg _ ka_int) rfl rfl hK hP hD hS hA 0 rfl (fun _ => rfl) (by decide) (by decide) (Nat.le_of_ble_eq_true rfl) (Nat.le_of_ble_eq_true rfl) (Nat.le_of_ble_eq_true rfl) dX4_init_101 (fun q12 H hP hD hS => ?_)
  have hP : va_P D vwCl [ob h0 4 [.ref q1, .ref q2, .ref q3, .ref q4, .ref q5, .ref q6, .ref q7, .ref q8, .ref q9, .ref q10, .ref q11, .null, .null, .null, .int 0, .int 0, .null, .null, .null], ai T q1 360 (cst 0), ai T q2 360 (cst 0), ai T q3 360 (cst 0), ai T q4 360 (cst 0), ai T q5 360 (cst 0), ai T q6 360 (cst 0), ai T q7 6 (cst 0), ai T q8 6 (cst 0), ai T q9 18 (cst 0), ai T q10 18 (cst 0), ai T q11 8 (cst 0), ai T q12 8 (cst 0)] H := hP
  have hD : va_D A [ob h0 4 [.ref q1, .ref q2, .ref q3, .ref q4, .ref q5, .ref q6, .ref q7, .ref q8, .ref q9, .ref q10, .ref q11, .null, .null, .null, .int 0, .int 0, .null, .null, .null], ai T q1 360 (cst 0), ai T q2 360 (cst 0), ai T q3 360 (cst 0), ai T q4 360 (cst 0), ai T q5 360 (cst 0), ai T q6 360 (cst 0), ai T q7 6 (cst 0), ai T q8 6 (cst 0), ai T q9 18 (cst 0), ai T q10 18 (cst 0), ai T q11 8 (cst 0), ai T q12 8 (cst 0)] := hD
  refine W.widen (k := 12) (n := 2224) (Nat.le_of_ble_eq_true rfl) (Nat.le_of_ble_eq_true rfl) ?_
  refine va_putF (D := D) (ci := 4) (v := .ref q12) (ty := (.array .int)) (C := RX4) (T := TX4) (N := 19) hx hb hg inX4 tyX4 tyX4_ok nmX4 hown hK hP hD hS 0 rfl rfl 11 (by decide) (hg _ kf_X4_45) (fun _ h9 => h9) rfl hin rfl (by decide +kernel) rfl rfl (Nat.le_of_ble_eq_true rfl) dX4_init_103 (fun H locs hP hD hS => ?_)
  have hP : va_P D vwCl [ob h0 4 [.ref q1, .ref q2, .ref q3, .ref q4, .ref q5, .ref q6, .ref q7, .ref q8, .ref q9, .ref q10, .ref q11, .ref q12, .null, .null, .int 0, .int 0, .null, .null, .null], ai T q1 360 (cst 0), ai T q2 360 (cst 0), ai T q3 360 (cst 0), ai T q4 360 (cst 0), ai T q5 360 (cst 0), ai T q6 360 (cst 0), ai T q7 6 (cst 0), ai T q8 6 (cst 0), ai T q9 18 (cst 0), ai T q10 18 (cst 0), ai T q11 8 (cst 0), ai T q12 8 (cst 0)] H := hP
  have hD : va_D A [ob h0 4 [.ref q1, .ref q2, .ref q3, .ref q4, .ref q5, .ref q6, .ref q7, .ref q8, .ref q9, .ref q10, .ref q11, .ref q12, .null, .null, .int 0, .int 0, .null, .null, .null], ai T q1 360 (cst 0), ai T q2 360 (cst 0), ai T q3 360 (cst 0), ai T q4 360 (cst 0), ai T q5 360 (cst 0), ai T q6 360 (cst 0), ai T q7 6 (cst 0), ai T q8 6 (cst 0), ai T q9 18 (cst 0), ai T q10 18 (cst 0), ai T q11 8 (cst 0), ai T q12 8 (cst 0)] := hD
  refine lv_aload_n hx hb dX4_init_106 rfl (lv_at hl 0 rfl) ?_
  refine lv_sipush (v := 2928) hx hb dX4_init_107 (by decide) ?_
  refine z_newa (atype := .int) (ty := .int) (N' := 2928) (a0 := (2928, (.inl (cst 0)))) hx hb (hg _ ka_int) rfl rfl hK hP hD hS hA 0 rfl (fun _ => rfl) (by decide) (by decide) (Nat.le_of_ble_eq_true rfl) (Nat.le_of_ble_eq_true rfl) (Nat.le_of_ble_eq_true rfl) dX4_init_110 (fun q13 H hP hD hS => ?_)
  have hP : va_P D vwCl [ob h0 4 [.ref q1, .ref q2, .ref q3, .ref q4, .ref q5, .ref q6, .ref q7, .ref q8, .ref q9, .ref q10, .ref q11, .ref q12, .null, .null, .int 0, .int 0, .null, .null, .null], ai T q1 360 (cst 0), ai T q2 360 (cst 0), ai T q3 360 (cst 0), ai T q4 360 (cst 0), ai T q5 360 (cst 0), ai T q6 360 (cst 0), ai T q7 6 (cst 0), ai T q8 6 (cst 0), ai T q9 18 (cst 0), ai T q10 18 (cst 0), ai T q11 8 (cst 0), ai T q12 8 (cst 0), ai T q13 2928 (cst 0)] H := hP
  have hD : va_D A [ob h0 4 [.ref q1, .ref q2, .ref q3, .ref q4, .ref q5, .ref q6, .ref q7, .ref q8, .ref q9, .ref q10, .ref q11, .ref q12, .null, .null, .int 0, .int 0, .null, .null, .null], ai T q1 360 (cst 0), ai T q2 360 (cst 0), ai T q3 360 (cst 0), ai T q4 360 (cst 0), ai T q5 360 (cst 0), ai T q6 360 (cst 0), ai T q7 6 (cst 0), ai T q8 6 (cst 0), ai T q9 18 (cst 0), ai T q10 18 (cst 0), ai T q11 8 (cst 0), ai T q12 8 (cst 0), ai T q13 2928 (cst 0)] := hD
  refine W.widen (k := 13) (n := 5152) (Nat.le_of_ble_eq_true rfl) (Nat.le_of_ble_eq_true rfl) ?_
  refine va_putF (D := D) (ci := 4) (v := .ref q13) (ty := (.array .int)) (C := RX4) (T := TX4) (N := 19) hx hb hg inX4 tyX4 tyX4_ok nmX4 hown hK hP hD hS 0 rfl rfl 12 (by decide) (hg _ kf_X4_48) (fun _ h9 => h9) rfl hin rfl (by decide +kernel) rfl rfl (Nat.le_of_ble_eq_true rfl) dX4_init_112 (fun H locs hP hD hS => ?_)
  have hP : va_P D vwCl [ob h0 4 [.ref q1, .ref q2, .ref q3, .ref q4, .ref q5, .ref q6, .ref q7, .ref q8, .ref q9, .ref q10, .ref q11, .ref q12, .ref q13, .null, .int 0, .int 0, .null, .null, .null], ai T q1 360 (cst 0), ai T q2 360 (cst 0), ai T q3 360 (cst 0), ai T q4 360 (cst 0), ai T q5 360 (cst 0), ai T q6 360 (cst 0), ai T q7 6 (cst 0), ai T q8 6 (cst 0), ai T q9 18 (cst 0), ai T q10 18 (cst 0), ai T q11 8 (cst 0), ai T q12 8 (cst 0), ai T q13 2928 (cst 0)] H := hP
  have hD : va_D A [ob h0 4 [.ref q1, .ref q2, .ref q3, .ref q4, .ref q5, .ref q6, .ref q7, .ref q8, .ref q9, .ref q10, .ref q11, .ref q12, .ref q13, .null, .int 0, .int 0, .null, .null, .null], ai T q1 360 (cst 0), ai T q2 360 (cst 0), ai T q3 360 (cst 0), ai T q4 360 (cst 0), ai T q5 360 (cst 0), ai T q6 360 (cst 0), ai T q7 6 (cst 0), ai T q8 6 (cst 0), ai T q9 18 (cst 0), ai T q10 18 (cst 0), ai T q11 8 (cst 0), ai T q12 8 (cst 0), ai T q13 2928 (cst 0)] := hD
  refine lv_aload_n hx hb dX4_init_115 rfl (lv_at hl 0 rfl) ?_
  refine lv_sipush (v := 2160) hx hb dX4_init_116 (by decide) ?_
  refine z_newa (atype := .int) (ty := .int) (N' := 2160) (a0 := (2160, (.inl (cst 0)))) hx hb (hg _ ka_int) rfl rfl hK hP hD hS hA 0 rfl (fun _ => rfl) (by decide) (by decide) (Nat.le_of_ble_eq_true rfl) (Nat.le_of_ble_eq_true rfl) (Nat.le_of_ble_eq_true rfl) dX4_init_119 (fun q14 H hP hD hS => ?_)
  have hP : va_P D vwCl [ob h0 4 [.ref q1, .ref q2, .ref q3, .ref q4, .ref q5, .ref q6, .ref q7, .ref q8, .ref q9, .ref q10, .ref q11, .ref q12, .ref q13, .null, .int 0, .int 0, .null, .null, .null], ai T q1 360 (cst 0), ai T q2 360 (cst 0), ai T q3 360 (cst 0), ai T q4 360 (cst 0), ai T q5 360 (cst 0), ai T q6 360 (cst 0), ai T q7 6 (cst 0), ai T q8 6 (cst 0), ai T q9 18 (cst 0), ai T q10 18 (cst 0), ai T q11 8 (cst 0), ai T q12 8 (cst 0), ai T q13 2928 (cst 0), ai T q14 2160 (cst 0)] H := hP
  have hD : va_D A [ob h0 4 [.ref q1, .ref q2, .ref q3, .ref q4, .ref q5, .ref q6, .ref q7, .ref q8, .ref q9, .ref q10, .ref q11, .ref q12, .ref q13, .null, .int 0, .int 0, .null, .null, .null], ai T q1 360 (cst 0), ai T q2 360 (cst 0), ai T q3 360 (cst 0), ai T q4 360 (cst 0), ai T q5 360 (cst 0), ai T q6 360 (cst 0), ai T q7 6 (cst 0), ai T q8 6 (cst 0), ai T q9 18 (cst 0), ai T q10 18 (cst 0), ai T q11 8 (cst 0), ai T q12 8 (cst 0), ai T q13 2928 (cst 0), ai T q14 2160 (cst 0)] := hD
  refine W.widen (k := 14) (n := 7312) (Nat.le_of_ble_eq_true rfl) (Nat.le_of_ble_eq_true rfl) ?_
  refine va_putF (D := D) (ci := 4) (v := .ref q14) (ty := (.array .int)) (C := RX4) (T := TX4) (N := 19) hx hb hg inX4 tyX4 tyX4_ok nmX4 hown hK hP hD hS 0 rfl rfl 13 (by decide) (hg _ kf_X4_51) (fun _ h9 => h9) rfl hin rfl (by decide +kernel) rfl rfl (Nat.le_of_ble_eq_true rfl) dX4_init_121 (fun H locs hP hD hS => ?_)
  have hP : va_P D vwCl [ob h0 4 [.ref q1, .ref q2, .ref q3, .ref q4, .ref q5, .ref q6, .ref q7, .ref q8, .ref q9, .ref q10, .ref q11, .ref q12, .ref q13, .ref q14, .int 0, .int 0, .null, .null, .null], ai T q1 360 (cst 0), ai T q2 360 (cst 0), ai T q3 360 (cst 0), ai T q4 360 (cst 0), ai T q5 360 (cst 0), ai T q6 360 (cst 0), ai T q7 6 (cst 0), ai T q8 6 (cst 0), ai T q9 18 (cst 0), ai T q10 18 (cst 0), ai T q11 8 (cst 0), ai T q12 8 (cst 0), ai T q13 2928 (cst 0), ai T q14 2160 (cst 0)] H := hP
  have hD : va_D A [ob h0 4 [.ref q1, .ref q2, .ref q3, .ref q4, .ref q5, .ref q6, .ref q7, .ref q8, .ref q9, .ref q10, .ref q11, .ref q12, .ref q13, .ref q14, .int 0, .int 0, .null, .null, .null], ai T q1 360 (cst 0), ai T q2 360 (cst 0), ai T q3 360 (cst 0), ai T q4 360 (cst 0), ai T q5 360 (cst 0), ai T q6 360 (cst 0), ai T q7 6 (cst 0), ai T q8 6 (cst 0), ai T q9 18 (cst 0), ai T q10 18 (cst 0), ai T q11 8 (cst 0), ai T q12 8 (cst 0), ai T q13 2928 (cst 0), ai T q14 2160 (cst 0)] := hD
  refine lv_aload_n hx hb dX4_init_124 rfl (lv_at hl 0 rfl) ?_
  refine lv_sipush (v := 360) hx hb dX4_init_125 (by decide) ?_
  refine z_newa (atype := .int) (ty := .int) (N' := 360) (a0 := (360, (.inl (cst 0)))) hx hb (hg _ ka_int) rfl rfl hK hP hD hS hA 0 rfl (fun _ => rfl) (by decide) (by decide) (Nat.le_of_ble_eq_true rfl) (Nat.le_of_ble_eq_true rfl) (Nat.le_of_ble_eq_true rfl) dX4_init_128 (fun q15 H hP hD hS => ?_)
  have hP : va_P D vwCl [ob h0 4 [.ref q1, .ref q2, .ref q3, .ref q4, .ref q5, .ref q6, .ref q7, .ref q8, .ref q9, .ref q10, .ref q11, .ref q12, .ref q13, .ref q14, .int 0, .int 0, .null, .null, .null], ai T q1 360 (cst 0), ai T q2 360 (cst 0), ai T q3 360 (cst 0), ai T q4 360 (cst 0), ai T q5 360 (cst 0), ai T q6 360 (cst 0), ai T q7 6 (cst 0), ai T q8 6 (cst 0), ai T q9 18 (cst 0), ai T q10 18 (cst 0), ai T q11 8 (cst 0), ai T q12 8 (cst 0), ai T q13 2928 (cst 0), ai T q14 2160 (cst 0), ai T q15 360 (cst 0)] H := hP
  have hD : va_D A [ob h0 4 [.ref q1, .ref q2, .ref q3, .ref q4, .ref q5, .ref q6, .ref q7, .ref q8, .ref q9, .ref q10, .ref q11, .ref q12, .ref q13, .ref q14, .int 0, .int 0, .null, .null, .null], ai T q1 360 (cst 0), ai T q2 360 (cst 0), ai T q3 360 (cst 0), ai T q4 360 (cst 0), ai T q5 360 (cst 0), ai T q6 360 (cst 0), ai T q7 6 (cst 0), ai T q8 6 (cst 0), ai T q9 18 (cst 0), ai T q10 18 (cst 0), ai T q11 8 (cst 0), ai T q12 8 (cst 0), ai T q13 2928 (cst 0), ai T q14 2160 (cst 0), ai T q15 360 (cst 0)] := hD
  refine W.widen (k := 15) (n := 7672) (Nat.le_of_ble_eq_true rfl) (Nat.le_of_ble_eq_true rfl) ?_
  refine va_putF (D := D) (ci := 4) (v := .ref q15) (ty := (.array .int)) (C := RX4) (T := TX4) (N := 19) hx hb hg inX4 tyX4 tyX4_ok nmX4 hown hK hP hD hS 0 rfl rfl 16 (by decide) (hg _ kf_X4_54) (fun _ h9 => h9) rfl hin rfl (by decide +kernel) rfl rfl (Nat.le_of_ble_eq_true rfl) dX4_init_130 (fun H locs hP hD hS => ?_)
  have hP : va_P D vwCl [ob h0 4 [.ref q1, .ref q2, .ref q3, .ref q4, .ref q5, .ref q6, .ref q7, .ref q8, .ref q9, .ref q10, .ref q11, .ref q12, .ref q13, .ref q14, .int 0, .int 0, .ref q15, .null, .null], ai T q1 360 (cst 0), ai T q2 360 (cst 0), ai T q3 360 (cst 0), ai T q4 360 (cst 0), ai T q5 360 (cst 0), ai T q6 360 (cst 0), ai T q7 6 (cst 0), ai T q8 6 (cst 0), ai T q9 18 (cst 0), ai T q10 18 (cst 0), ai T q11 8 (cst 0), ai T q12 8 (cst 0), ai T q13 2928 (cst 0), ai T q14 2160 (cst 0), ai T q15 360 (cst 0)] H := hP
  have hD : va_D A [ob h0 4 [.ref q1, .ref q2, .ref q3, .ref q4, .ref q5, .ref q6, .ref q7, .ref q8, .ref q9, .ref q10, .ref q11, .ref q12, .ref q13, .ref q14, .int 0, .int 0, .ref q15, .null, .null], ai T q1 360 (cst 0), ai T q2 360 (cst 0), ai T q3 360 (cst 0), ai T q4 360 (cst 0), ai T q5 360 (cst 0), ai T q6 360 (cst 0), ai T q7 6 (cst 0), ai T q8 6 (cst 0), ai T q9 18 (cst 0), ai T q10 18 (cst 0), ai T q11 8 (cst 0), ai T q12 8 (cst 0), ai T q13 2928 (cst 0), ai T q14 2160 (cst 0), ai T q15 360 (cst 0)] := hD
  refine lv_aload_n hx hb dX4_init_133 rfl (lv_at hl 0 rfl) ?_
  refine lv_sipush (v := 360) hx hb dX4_init_134 (by decide) ?_
  refine z_newa (atype := .int) (ty := .int) (N' := 360) (a0 := (360, (.inl (cst 0)))) hx hb (hg _ ka_int) rfl rfl hK hP hD hS hA 0 rfl (fun _ => rfl) (by decide) (by decide) (Nat.le_of_ble_eq_true rfl) (Nat.le_of_ble_eq_true rfl) (Nat.le_of_ble_eq_true rfl) dX4_init_137 (fun q16 H hP hD hS => ?_)
  have hP : va_P D vwCl [ob h0 4 [.ref q1, .ref q2, .ref q3, .ref q4, .ref q5, .ref q6, .ref q7, .ref q8, .ref q9, .ref q10, .ref q11, .ref q12, .ref q13, .ref q14, .int 0, .int 0, .ref q15, .null, .null], ai T q1 360 (cst 0), ai T q2 360 (cst 0), ai T q3 360 (cst 0), ai T q4 360 (cst 0), ai T q5 360 (cst 0), ai T q6 360 (cst 0), ai T q7 6 (cst 0), ai T q8 6 (cst 0), ai T q9 18 (cst 0), ai T q10 18 (cst 0), ai T q11 8 (cst 0), ai T q12 8 (cst 0), ai T q13 2928 (cst 0), ai T q14 2160 (cst 0), ai T q15 360 (cst 0), ai T q16 360 (cst 0)] H := hP
  have hD : va_D A [ob h0 4 [.ref q1, .ref q2, .ref q3, .ref q4, .ref q5, .ref q6, .ref q7, .ref q8, .ref q9, .ref q10, .ref q11, .ref q12, .ref q13, .ref q14, .int 0, .int 0, .ref q15, .null, .null], ai T q1 360 (cst 0), ai T q2 360 (cst 0), ai T q3 360 (cst 0), ai T q4 360 (cst 0), ai T q5 360 (cst 0), ai T q6 360 (cst 0), ai T q7 6 (cst 0), ai T q8 6 (cst 0), ai T q9 18 (cst 0), ai T q10 18 (cst 0), ai T q11 8 (cst 0), ai T q12 8 (cst 0), ai T q13 2928 (cst 0), ai T q14 2160 (cst 0), ai T q15 360 (cst 0), ai T q16 360 (cst 0)] := hD
  refine W.widen (k := 16) (n := 8032) (Nat.le_of_ble_eq_true rfl) (Nat.le_of_ble_eq_true rfl) ?_
  refine va_putF (D := D) (ci := 4) (v := .ref q16) (ty := (.array .int)) (C := RX4) (T := TX4) (N := 19) hx hb hg inX4 tyX4 tyX4_ok nmX4 hown hK hP hD hS 0 rfl rfl 17 (by decide) (hg _ kf_X4_57) (fun _ h9 => h9) rfl hin rfl (by decide +kernel) rfl rfl (Nat.le_of_ble_eq_true rfl) dX4_init_139 (fun H locs hP hD hS => ?_)
  have hP : va_P D vwCl [ob h0 4 [.ref q1, .ref q2, .ref q3, .ref q4, .ref q5, .ref q6, .ref q7, .ref q8, .ref q9, .ref q10, .ref q11, .ref q12, .ref q13, .ref q14, .int 0, .int 0, .ref q15, .ref q16, .null], ai T q1 360 (cst 0), ai T q2 360 (cst 0), ai T q3 360 (cst 0), ai T q4 360 (cst 0), ai T q5 360 (cst 0), ai T q6 360 (cst 0), ai T q7 6 (cst 0), ai T q8 6 (cst 0), ai T q9 18 (cst 0), ai T q10 18 (cst 0), ai T q11 8 (cst 0), ai T q12 8 (cst 0), ai T q13 2928 (cst 0), ai T q14 2160 (cst 0), ai T q15 360 (cst 0), ai T q16 360 (cst 0)] H := hP
  have hD : va_D A [ob h0 4 [.ref q1, .ref q2, .ref q3, .ref q4, .ref q5, .ref q6, .ref q7, .ref q8, .ref q9, .ref q10, .ref q11, .ref q12, .ref q13, .ref q14, .int 0, .int 0, .ref q15, .ref q16, .null], ai T q1 360 (cst 0), ai T q2 360 (cst 0), ai T q3 360 (cst 0), ai T q4 360 (cst 0), ai T q5 360 (cst 0), ai T q6 360 (cst 0), ai T q7 6 (cst 0), ai T q8 6 (cst 0), ai T q9 18 (cst 0), ai T q10 18 (cst 0), ai T q11 8 (cst 0), ai T q12 8 (cst 0), ai T q13 2928 (cst 0), ai T q14 2160 (cst 0), ai T q15 360 (cst 0), ai T q16 360 (cst 0)] := hD
  refine lv_aload_n hx hb dX4_init_142 rfl (lv_at hl 0 rfl) ?_
  refine lv_sipush (v := 360) hx hb dX4_init_143 (by decide) ?_
  refine z_newa (atype := .int) (ty := .int) (N' := 360) (a0 := (360, (.inl (cst 0)))) hx hb (hg _ ka_int) rfl rfl hK hP hD hS hA 0 rfl (fun _ => rfl) (by decide) (by decide) (Nat.le_of_ble_eq_true rfl) (Nat.le_of_ble_eq_true rfl) (Nat.le_of_ble_eq_true rfl) dX4_init_146 (fun q17 H hP hD hS => ?_)
  have hP : va_P D vwCl [ob h0 4 [.ref q1, .ref q2, .ref q3, .ref q4, .ref q5, .ref q6, .ref q7, .ref q8, .ref q9, .ref q10, .ref q11, .ref q12, .ref q13, .ref q14, .int 0, .int 0, .ref q15, .ref q16, .null], ai T q1 360 (cst 0), ai T q2 360 (cst 0), ai T q3 360 (cst 0), ai T q4 360 (cst 0), ai T q5 360 (cst 0), ai T q6 360 (cst 0), ai T q7 6 (cst 0), ai T q8 6 (cst 0), ai T q9 18 (cst 0), ai T q10 18 (cst 0), ai T q11 8 (cst 0), ai T q12 8 (cst 0), ai T q13 2928 (cst 0), ai T q14 2160 (cst 0), ai T q15 360 (cst 0), ai T q16 360 (cst 0), ai T q17 360 (cst 0)] H := hP
  have hD : va_D A [ob h0 4 [.ref q1, .ref q2, .ref q3, .ref q4, .ref q5, .ref q6, .ref q7, .ref q8, .ref q9, .ref q10, .ref q11, .ref q12, .ref q13, .ref q14, .int 0, .int 0, .ref q15, .ref q16, .null], ai T q1 360 (cst 0), ai T q2 360 (cst 0), ai T q3 360 (cst 0), ai T q4 360 (cst 0), ai T q5 360 (cst 0), ai T q6 360 (cst 0), ai T q7 6 (cst 0), ai T q8 6 (cst 0), ai T q9 18 (cst 0), ai T q10 18 (cst 0), ai T q11 8 (cst 0), ai T q12 8 (cst 0), ai T q13 2928 (cst 0), ai T q14 2160 (cst 0), ai T q15 360 (cst 0), ai T q16 360 (cst 0), ai T q17 360 (cst 0)] := hD
  refine W.widen (k := 17) (n := 8392) (Nat.le_of_ble_eq_true rfl) (Nat.le_of_ble_eq_true rfl) ?_
  refine va_putF (D := D) (ci := 4) (v := .ref q17) (ty := (.array .int)) (C := RX4) (T := TX4) (N := 19) hx hb hg inX4 tyX4 tyX4_ok nmX4 hown hK hP hD hS 0 rfl rfl 18 (by decide) (hg _ kf_X4_60) (fun _ h9 => h9) rfl hin rfl (by decide +kernel) rfl rfl (Nat.le_of_ble_eq_true rfl) dX4_init_148 (fun H locs hP hD hS => ?_)
  have hP : va_P D vwCl [ob h0 4 [.ref q1, .ref q2, .ref q3, .ref q4, .ref q5, .ref q6, .ref q7, .ref q8, .ref q9, .ref q10, .ref q11, .ref q12, .ref q13, .ref q14, .int 0, .int 0, .ref q15, .ref q16, .ref q17], ai T q1 360 (cst 0), ai T q2 360 (cst 0), ai T q3 360 (cst 0), ai T q4 360 (cst 0), ai T q5 360 (cst 0), ai T q6 360 (cst 0), ai T q7 6 (cst 0), ai T q8 6 (cst 0), ai T q9 18 (cst 0), ai T q10 18 (cst 0), ai T q11 8 (cst 0), ai T q12 8 (cst 0), ai T q13 2928 (cst 0), ai T q14 2160 (cst 0), ai T q15 360 (cst 0), ai T q16 360 (cst 0), ai T q17 360 (cst 0)] H := hP
  have hD : va_D A [ob h0 4 [.ref q1, .ref q2, .ref q3, .ref q4, .ref q5, .ref q6, .ref q7, .ref q8, .ref q9, .ref q10, .ref q11, .ref q12, .ref q13, .ref q14, .int 0, .int 0, .ref q15, .ref q16, .ref q17], ai T q1 360 (cst 0), ai T q2 360 (cst 0), ai T q3 360 (cst 0), ai T q4 360 (cst 0), ai T q5 360 (cst 0), ai T q6 360 (cst 0), ai T q7 6 (cst 0), ai T q8 6 (cst 0), ai T q9 18 (cst 0), ai T q10 18 (cst 0), ai T q11 8 (cst 0), ai T q12 8 (cst 0), ai T q13 2928 (cst 0), ai T q14 2160 (cst 0), ai T q15 360 (cst 0), ai T q16 360 (cst 0), ai T q17 360 (cst 0)] := hD
  refine W.widen (k := 17) (n := 8392) (Nat.le_of_ble_eq_true rfl) (Nat.le_of_ble_eq_true rfl) ?_
  exact ret_v (X := Nat × Nat × Nat × Nat × Nat × Nat × Nat × Nat × Nat × Nat × Nat × Nat × Nat × Nat × Nat × Nat × Nat) ((q1, q2, q3, q4, q5, q6, q7, q8, q9, q10, q11, q12, q13, q14, q15, q16, q17)) hx hb hr hlocks hP hD hS [0, 7, 8, 9, 10, 11, 12, 13] (by decide) rfl trivial dX4_init_151
theorem dX2_init_0 : decode cX2_init 0 = .ok (.aload_n 0, 1) := by decide +kernel
theorem dX2_init_1 : decode cX2_init 1 = .ok (.invokespecial 3, 3) := by decide +kernel
theorem dX2_init_4 : decode cX2_init 4 = .ok (.aload_n 0, 1) := by decide +kernel
theorem dX2_init_5 : decode cX2_init 5 = .ok (.sipush 2160, 3) := by decide +kernel
theorem dX2_init_8 : decode cX2_init 8 = .ok (.newarray .int, 2) := by decide +kernel
theorem dX2_init_10 : decode cX2_init 10 = .ok (.putfield 9, 3) := by decide +kernel
theorem dX2_init_13 : decode cX2_init 13 = .ok (.aload_n 0, 1) := by decide +kernel
theorem dX2_init_14 : decode cX2_init 14 = .ok (.sipush 360, 3) := by decide +kernel
theorem dX2_init_17 : decode cX2_init 17 = .ok (.newarray .int, 2) := by decide +kernel
theorem dX2_init_19 : decode cX2_init 19 = .ok (.putfield 15, 3) := by decide +kernel
theorem dX2_init_22 : decode cX2_init 22 = .ok (.return_, 1) := by decide +kernel
set_option maxHeartbeats 4000000 in
set_option maxRecDepth 100000 in
theorem c_X2_init (l : Launch) (D : va_G) (T : Nat → ClassId) (h0 : Nat) (sz : Nat) : Met l yX2_init (WS (.code yX2_init cX2_init 1 none)) ({ frames := 2, cells := 2, slots := 2520, locals := 64 } : Room) (va_Pc [.ref h0] (PW D (TY T) [ob h0 2 [.null, .null, .int 0, .int 0]] sz)) (QV (X := Nat × Nat) D (fun _ => True) (fun xx => [ob h0 2 [.ref (xx.1), .ref (xx.2), .int 0, .int 0]]) (va_A [ob h0 2 [.null, .null, .int 0, .int 0]] sz)) 2 2520 (va_A [ob h0 2 [.null, .null, .int 0, .int 0]] sz) := by
  refine mk_met (Qc := QV (X := Nat × Nat) D (fun _ => True) (fun xx => [ob h0 2 [.ref (xx.1), .ref (xx.2), .int 0, .int 0]])) (lv := [(0, .ref h0)]) (by decide +kernel) (Nat.le_of_ble_eq_true rfl) rfl (fun p e s m below meth c A ls H locs hx hb hml hr hlocks hown hin hg hN hA hP hK hD hS hl => ?_)
  refine lv_aload_n hx hb dX2_init_0 rfl (lv_at hl 0 rfl) ?_
  refine W.objInit hx hb hown (hg _ km_X2_3) (hg _ ki_objectInit) (hg _ kd_objectInit) rfl (by rw [hml]; exact hl.1) rfl dX2_init_1 (Nat.le_of_ble_eq_true rfl) (Nat.le_of_ble_eq_true rfl) ?_
  refine W.eq (g2 := F0 m 4 ls []) rfl ?_
  refine lv_aload_n hx hb dX2_init_4 rfl (lv_at hl 0 rfl) ?_
  refine lv_sipush (v := 2160) hx hb dX2_init_5 (by decide) ?_
  refine z_newa (atype := .int) (ty := .int) (N' := 2160) (a0 := (2160, (.inl (cst 0)))) hx hb (hg _ ka_int) rfl rfl hK hP hD hS hA 0 rfl (fun _ => rfl) (by decide) (by decide) (Nat.le_of_ble_eq_true rfl) (Nat.le_of_ble_eq_true rfl) (Nat.le_of_ble_eq_true rfl) dX2_init_8 (fun q1 H hP hD hS => ?_)
  have hP : va_P D vwCl [ob h0 2 [.null, .null, .int 0, .int 0], ai T q1 2160 (cst 0)] H := hP
  have hD : va_D A [ob h0 2 [.null, .null, .int 0, .int 0], ai T q1 2160 (cst 0)] := hD
  refine W.widen (k := 1) (n := 2160) (Nat.le_of_ble_eq_true rfl) (Nat.le_of_ble_eq_true rfl) ?_
  refine va_putF (D := D) (ci := 2) (v := .ref q1) (ty := (.array .int)) (C := RX2) (T := TX2) (N := 4) hx hb hg inX2 tyX2 tyX2_ok nmX2 hown hK hP hD hS 0 rfl rfl 0 (by decide) (hg _ kf_X2_9) (fun _ h9 => h9) rfl hin rfl (by decide +kernel) rfl rfl (Nat.le_of_ble_eq_true rfl) dX2_init_10 (fun H locs hP hD hS => ?_)
  have hP : va_P D vwCl [ob h0 2 [.ref q1, .null, .int 0, .int 0], ai T q1 2160 (cst 0)] H := hP
  have hD : va_D A [ob h0 2 [.ref q1, .null, .int 0, .int 0], ai T q1 2160 (cst 0)] := hD
  refine lv_aload_n hx hb dX2_init_13 rfl (lv_at hl 0 rfl) ?_
  refine lv_sipush (v := 360) hx hb dX2_init_14 (by decide) ?_
  refine z_newa (atype := .int) (ty := .int) (N' := 360) (a0 := (360, (.inl (cst 0)))) hx hb (hg _ ka_int) rfl rfl hK hP hD hS hA 0 rfl (fun _ => rfl) (by decide) (by decide) (Nat.le_of_ble_eq_true rfl) (Nat.le_of_ble_eq_true rfl) (Nat.le_of_ble_eq_true rfl) dX2_init_17 (fun q2 H hP hD hS => ?_)
  have hP : va_P D vwCl [ob h0 2 [.ref q1, .null, .int 0, .int 0], ai T q1 2160 (cst 0), ai T q2 360 (cst 0)] H := hP
  have hD : va_D A [ob h0 2 [.ref q1, .null, .int 0, .int 0], ai T q1 2160 (cst 0), ai T q2 360 (cst 0)] := hD
  refine W.widen (k := 2) (n := 2520) (Nat.le_of_ble_eq_true rfl) (Nat.le_of_ble_eq_true rfl) ?_
  refine va_putF (D := D) (ci := 2) (v := .ref q2) (ty := (.array .int)) (C := RX2) (T := TX2) (N := 4) hx hb hg inX2 tyX2 tyX2_ok nmX2 hown hK hP hD hS 0 rfl rfl 1 (by decide) (hg _ kf_X2_15) (fun _ h9 => h9) rfl hin rfl (by decide +kernel) rfl rfl (Nat.le_of_ble_eq_true rfl) dX2_init_19 (fun H locs hP hD hS => ?_)
  have hP : va_P D vwCl [ob h0 2 [.ref q1, .ref q2, .int 0, .int 0], ai T q1 2160 (cst 0), ai T q2 360 (cst 0)] H := hP
  have hD : va_D A [ob h0 2 [.ref q1, .ref q2, .int 0, .int 0], ai T q1 2160 (cst 0), ai T q2 360 (cst 0)] := hD
  refine W.widen (k := 2) (n := 2520) (Nat.le_of_ble_eq_true rfl) (Nat.le_of_ble_eq_true rfl) ?_
  exact ret_v (X := Nat × Nat) ((q1, q2)) hx hb hr hlocks hP hD hS [0] (by decide) rfl trivial dX2_init_22
theorem dX6_init_0 : decode cX6_init 0 = .ok (.aload_n 0, 1) := by decide +kernel
theorem dX6_init_1 : decode cX6_init 1 = .ok (.invokespecial 3, 3) := by decide +kernel
theorem dX6_init_4 : decode cX6_init 4 = .ok (.aload_n 0, 1) := by decide +kernel
theorem dX6_init_5 : decode cX6_init 5 = .ok (.bipush 8, 2) := by decide +kernel
theorem dX6_init_7 : decode cX6_init 7 = .ok (.newarray .int, 2) := by decide +kernel
theorem dX6_init_9 : decode cX6_init 9 = .ok (.putfield 9, 3) := by decide +kernel
theorem dX6_init_12 : decode cX6_init 12 = .ok (.aload_n 0, 1) := by decide +kernel
theorem dX6_init_13 : decode cX6_init 13 = .ok (.bipush 6, 2) := by decide +kernel
theorem dX6_init_15 : decode cX6_init 15 = .ok (.newarray .int, 2) := by decide +kernel
theorem dX6_init_17 : decode cX6_init 17 = .ok (.putfield 15, 3) := by decide +kernel
theorem dX6_init_20 : decode cX6_init 20 = .ok (.aload_n 0, 1) := by decide +kernel
theorem dX6_init_21 : decode cX6_init 21 = .ok (.bipush 6, 2) := by decide +kernel
theorem dX6_init_23 : decode cX6_init 23 = .ok (.newarray .int, 2) := by decide +kernel
theorem dX6_init_25 : decode cX6_init 25 = .ok (.putfield 18, 3) := by decide +kernel
theorem dX6_init_28 : decode cX6_init 28 = .ok (.aload_n 0, 1) := by decide +kernel
theorem dX6_init_29 : decode cX6_init 29 = .ok (.iconst 4, 1) := by decide +kernel
theorem dX6_init_30 : decode cX6_init 30 = .ok (.newarray .int, 2) := by decide +kernel
theorem dX6_init_32 : decode cX6_init 32 = .ok (.putfield 21, 3) := by decide +kernel
theorem dX6_init_35 : decode cX6_init 35 = .ok (.aload_n 0, 1) := by decide +kernel
theorem dX6_init_36 : decode cX6_init 36 = .ok (.iconst 3, 1) := by decide +kernel
theorem dX6_init_37 : decode cX6_init 37 = .ok (.newarray .int, 2) := by decide +kernel
theorem dX6_init_39 : decode cX6_init 39 = .ok (.putfield 24, 3) := by decide +kernel
theorem dX6_init_42 : decode cX6_init 42 = .ok (.return_, 1) := by decide +kernel
set_option maxHeartbeats 4000000 in
set_option maxRecDepth 100000 in
theorem c_X6_init (l : Launch) (D : va_G) (T : Nat → ClassId) (h0 : Nat) (sz : Nat) : Met l yX6_init (WS (.code yX6_init cX6_init 1 none)) ({ frames := 2, cells := 5, slots := 27, locals := 64 } : Room) (va_Pc [.ref h0] (PW D (TY T) [ob h0 6 [.null, .null, .null, .null, .null, .null, .int 0]] sz)) (QV (X := Nat × Nat × Nat × Nat × Nat) D (fun _ => True) (fun xx => [ob h0 6 [.ref (xx.1), .null, .ref (xx.2.1), .ref (xx.2.2.1), .ref (xx.2.2.2.1), .ref (xx.2.2.2.2), .int 0], ai T (xx.1) 8 (cst 0), ai T (xx.2.1) 6 (cst 0), ai T (xx.2.2.1) 6 (cst 0), ai T (xx.2.2.2.1) 4 (cst 0), ai T (xx.2.2.2.2) 3 (cst 0)]) (va_A [ob h0 6 [.null, .null, .null, .null, .null, .null, .int 0]] sz)) 5 27 (va_A [ob h0 6 [.null, .null, .null, .null, .null, .null, .int 0]] sz) := by
  refine mk_met (Qc := QV (X := Nat × Nat × Nat × Nat × Nat) D (fun _ => True) (fun xx => [ob h0 6 [.ref (xx.1), .null, .ref (xx.2.1), .ref (xx.2.2.1), .ref (xx.2.2.2.1), .ref (xx.2.2.2.2), .int 0], ai T (xx.1) 8 (cst 0), ai T (xx.2.1) 6 (cst 0), ai T (xx.2.2.1) 6 (cst 0), ai T (xx.2.2.2.1) 4 (cst 0), ai T (xx.2.2.2.2) 3 (cst 0)])) (lv := [(0, .ref h0)]) (by decide +kernel) (Nat.le_of_ble_eq_true rfl) rfl (fun p e s m below meth c A ls H locs hx hb hml hr hlocks hown hin hg hN hA hP hK hD hS hl => ?_)
  refine lv_aload_n hx hb dX6_init_0 rfl (lv_at hl 0 rfl) ?_
  refine W.objInit hx hb hown (hg _ km_X6_3) (hg _ ki_objectInit) (hg _ kd_objectInit) rfl (by rw [hml]; exact hl.1) rfl dX6_init_1 (Nat.le_of_ble_eq_true rfl) (Nat.le_of_ble_eq_true rfl) ?_
  refine W.eq (g2 := F0 m 4 ls []) rfl ?_
  refine lv_aload_n hx hb dX6_init_4 rfl (lv_at hl 0 rfl) ?_
  refine lv_bipush (v := 8) hx hb dX6_init_5 (by decide) ?_
  refine z_newa (atype := .int) (ty := .int) (N' := 8) (a0 := (8, (.inl (cst 0)))) hx hb (hg _ ka_int) rfl rfl hK hP hD hS hA 0 rfl (fun _ => rfl) (by decide) (by decide) (Nat.le_of_ble_eq_true rfl) (Nat.le_of_ble_eq_true rfl) (Nat.le_of_ble_eq_true rfl) dX6_init_7 (fun q1 H hP hD hS => ?_)
  have hP : va_P D vwCl [ob h0 6 [.null, .null, .null, .null, .null, .null, .int 0], ai T q1 8 (cst 0)] H := hP
  have hD : va_D A [ob h0 6 [.null, .null, .null, .null, .null, .null, .int 0], ai T q1 8 (cst 0)] := hD
  refine W.widen (k := 1) (n := 8) (Nat.le_of_ble_eq_true rfl) (Nat.le_of_ble_eq_true rfl) ?_
  refine va_putF (D := D) (ci := 6) (v := .ref q1) (ty := (.array .int)) (C := RX6) (T := TX6) (N := 7) hx hb hg inX6 tyX6 tyX6_ok nmX6 hown hK hP hD hS 0 rfl rfl 0 (by decide) (hg _ kf_X6_9) (fun _ h9 => h9) rfl hin rfl (by decide +kernel) rfl rfl (Nat.le_of_ble_eq_true rfl) dX6_init_9 (fun H locs hP hD hS => ?_)
  have hP : va_P D vwCl [ob h0 6 [.ref q1, .null, .null, .null, .null, .null, .int 0], ai T q1 8 (cst 0)] H := hP
  have hD : va_D A [ob h0 6 [.ref q1, .null, .null, .null, .null, .null, .int 0], ai T q1 8 (cst 0)] := hD
  refine lv_aload_n hx hb dX6_init_12 rfl (lv_at hl 0 rfl) ?_
  refine lv_bipush (v := 6) hx hb dX6_init_13 (by decide) ?_
  refine z_newa (atype := .int) (ty := .int) (N' := 6) (a0 := (6, (.inl (cst 0)))) hx hb (hg _ ka_int) rfl rfl hK hP hD hS hA 0 rfl (fun _ => rfl) (by decide) (by decide) (Nat.le_of_ble_eq_true rfl) (Nat.le_of_ble_eq_true rfl) (Nat.le_of_ble_eq_true rfl) dX6_init_15 (fun q2 H hP hD hS => ?_)
  have hP : va_P D vwCl [ob h0 6 [.ref q1, .null, .null, .null, .null, .null, .int 0], ai T q1 8 (cst 0), ai T q2 6 (cst 0)] H := hP
  have hD : va_D A [ob h0 6 [.ref q1, .null, .null, .null, .null, .null, .int 0], ai T q1 8 (cst 0), ai T q2 6 (cst 0)] := hD
  refine W.widen (k := 2) (n := 14) (Nat.le_of_ble_eq_true rfl) (Nat.le_of_ble_eq_true rfl) ?_
  refine va_putF (D := D) (ci := 6) (v := .ref q2) (ty := (.array .int)) (C := RX6) (T := TX6) (N := 7) hx hb hg inX6 tyX6 tyX6_ok nmX6 hown hK hP hD hS 0 rfl rfl 2 (by decide) (hg _ kf_X6_15) (fun _ h9 => h9) rfl hin rfl (by decide +kernel) rfl rfl (Nat.le_of_ble_eq_true rfl) dX6_init_17 (fun H locs hP hD hS => ?_)
  have hP : va_P D vwCl [ob h0 6 [.ref q1, .null, .ref q2, .null, .null, .null, .int 0], ai T q1 8 (cst 0), ai T q2 6 (cst 0)] H := hP
  have hD : va_D A [ob h0 6 [.ref q1, .null, .ref q2, .null, .null, .null, .int 0], ai T q1 8 (cst 0), ai T q2 6 (cst 0)] := hD
  refine lv_aload_n hx hb dX6_init_20 rfl (lv_at hl 0 rfl) ?_
  refine lv_bipush (v := 6) hx hb dX6_init_21 (by decide) ?_
  refine z_newa (atype := .int) (ty := .int) (N' := 6) (a0 := (6, (.inl (cst 0)))) hx hb (hg _ ka_int) rfl rfl hK hP hD hS hA 0 rfl (fun _ => rfl) (by decide) (by decide) (Nat.le_of_ble_eq_true rfl) (Nat.le_of_ble_eq_true rfl) (Nat.le_of_ble_eq_true rfl) dX6_init_23 (fun q3 H hP hD hS => ?_)
  have hP : va_P D vwCl [ob h0 6 [.ref q1, .null, .ref q2, .null, .null, .null, .int 0], ai T q1 8 (cst 0), ai T q2 6 (cst 0), ai T q3 6 (cst 0)] H := hP
  have hD : va_D A [ob h0 6 [.ref q1, .null, .ref q2, .null, .null, .null, .int 0], ai T q1 8 (cst 0), ai T q2 6 (cst 0), ai T q3 6 (cst 0)] := hD
  refine W.widen (k := 3) (n := 20) (Nat.le_of_ble_eq_true rfl) (Nat.le_of_ble_eq_true rfl) ?_
  refine va_putF (D := D) (ci := 6) (v := .ref q3) (ty := (.array .int)) (C := RX6) (T := TX6) (N := 7) hx hb hg inX6 tyX6 tyX6_ok nmX6 hown hK hP hD hS 0 rfl rfl 3 (by decide) (hg _ kf_X6_18) (fun _ h9 => h9) rfl hin rfl (by decide +kernel) rfl rfl (Nat.le_of_ble_eq_true rfl) dX6_init_25 (fun H locs hP hD hS => ?_)
  have hP : va_P D vwCl [ob h0 6 [.ref q1, .null, .ref q2, .ref q3, .null, .null, .int 0], ai T q1 8 (cst 0), ai T q2 6 (cst 0), ai T q3 6 (cst 0)] H := hP
  have hD : va_D A [ob h0 6 [.ref q1, .null, .ref q2, .ref q3, .null, .null, .int 0], ai T q1 8 (cst 0), ai T q2 6 (cst 0), ai T q3 6 (cst 0)] := hD
  refine lv_aload_n hx hb dX6_init_28 rfl (lv_at hl 0 rfl) ?_
  refine lv_iconst (v := 4) hx hb dX6_init_29 (by decide) ?_
  refine z_newa (atype := .int) (ty := .int) (N' := 4) (a0 := (4, (.inl (cst 0)))) hx hb (hg _ ka_int) rfl rfl hK hP hD hS hA 0 rfl (fun _ => rfl) (by decide) (by decide) (Nat.le_of_ble_eq_true rfl) (Nat.le_of_ble_eq_true rfl) (Nat.le_of_ble_eq_true rfl) dX6_init_30 (fun q4 H hP hD hS => ?_)
  have hP : va_P D vwCl [ob h0 6 [.ref q1, .null, .ref q2, .ref q3, .null, .null, .int 0], ai T q1 8 (cst 0), ai T q2 6 (cst 0), ai T q3 6 (cst 0), ai T q4 4 (cst 0)] H := hP
  have hD : va_D A [ob h0 6 [.ref q1, .null, .ref q2, .ref q3, .null, .null, .int 0], ai T q1 8 (cst 0), ai T q2 6 (cst 0), ai T q3 6 (cst 0), ai T q4 4 (cst 0)] := hD
  refine W.widen (k := 4) (n := 24) (Nat.le_of_ble_eq_true rfl) (Nat.le_of_ble_eq_true rfl) ?_
  refine va_putF (D := D) (ci := 6) (v := .ref q4) (ty := (.array .int)) (C := RX6) (T := TX6) (N := 7) hx hb hg inX6 tyX6 tyX6_ok nmX6 hown hK hP hD hS 0 rfl rfl 4 (by decide) (hg _ kf_X6_21) (fun _ h9 => h9) rfl hin rfl (by decide +kernel) rfl rfl (Nat.le_of_ble_eq_true rfl) dX6_init_32 (fun H locs hP hD hS => ?_)
  have hP : va_P D vwCl [ob h0 6 [.ref q1, .null, .ref q2, .ref q3, .ref q4, .null, .int 0], ai T q1 8 (cst 0), ai T q2 6 (cst 0), ai T q3 6 (cst 0), ai T q4 4 (cst 0)] H := hP
  have hD : va_D A [ob h0 6 [.ref q1, .null, .ref q2, .ref q3, .ref q4, .null, .int 0], ai T q1 8 (cst 0), ai T q2 6 (cst 0), ai T q3 6 (cst 0), ai T q4 4 (cst 0)] := hD
  refine lv_aload_n hx hb dX6_init_35 rfl (lv_at hl 0 rfl) ?_
  refine lv_iconst (v := 3) hx hb dX6_init_36 (by decide) ?_
  refine z_newa (atype := .int) (ty := .int) (N' := 3) (a0 := (3, (.inl (cst 0)))) hx hb (hg _ ka_int) rfl rfl hK hP hD hS hA 0 rfl (fun _ => rfl) (by decide) (by decide) (Nat.le_of_ble_eq_true rfl) (Nat.le_of_ble_eq_true rfl) (Nat.le_of_ble_eq_true rfl) dX6_init_37 (fun q5 H hP hD hS => ?_)
  have hP : va_P D vwCl [ob h0 6 [.ref q1, .null, .ref q2, .ref q3, .ref q4, .null, .int 0], ai T q1 8 (cst 0), ai T q2 6 (cst 0), ai T q3 6 (cst 0), ai T q4 4 (cst 0), ai T q5 3 (cst 0)] H := hP
  have hD : va_D A [ob h0 6 [.ref q1, .null, .ref q2, .ref q3, .ref q4, .null, .int 0], ai T q1 8 (cst 0), ai T q2 6 (cst 0), ai T q3 6 (cst 0), ai T q4 4 (cst 0), ai T q5 3 (cst 0)] := hD
  refine W.widen (k := 5) (n := 27) (Nat.le_of_ble_eq_true rfl) (Nat.le_of_ble_eq_true rfl) ?_
  refine va_putF (D := D) (ci := 6) (v := .ref q5) (ty := (.array .int)) (C := RX6) (T := TX6) (N := 7) hx hb hg inX6 tyX6 tyX6_ok nmX6 hown hK hP hD hS 0 rfl rfl 5 (by decide) (hg _ kf_X6_24) (fun _ h9 => h9) rfl hin rfl (by decide +kernel) rfl rfl (Nat.le_of_ble_eq_true rfl) dX6_init_39 (fun H locs hP hD hS => ?_)
  have hP : va_P D vwCl [ob h0 6 [.ref q1, .null, .ref q2, .ref q3, .ref q4, .ref q5, .int 0], ai T q1 8 (cst 0), ai T q2 6 (cst 0), ai T q3 6 (cst 0), ai T q4 4 (cst 0), ai T q5 3 (cst 0)] H := hP
  have hD : va_D A [ob h0 6 [.ref q1, .null, .ref q2, .ref q3, .ref q4, .ref q5, .int 0], ai T q1 8 (cst 0), ai T q2 6 (cst 0), ai T q3 6 (cst 0), ai T q4 4 (cst 0), ai T q5 3 (cst 0)] := hD
  refine W.widen (k := 5) (n := 27) (Nat.le_of_ble_eq_true rfl) (Nat.le_of_ble_eq_true rfl) ?_
  exact ret_v (X := Nat × Nat × Nat × Nat × Nat) ((q1, q2, q3, q4, q5)) hx hb hr hlocks hP hD hS [0, 1, 2, 3, 4, 5] (by decide) rfl trivial dX6_init_42
theorem dX10_init_0 : decode cX10_init 0 = .ok (.aload_n 0, 1) := by decide +kernel
theorem dX10_init_1 : decode cX10_init 1 = .ok (.invokespecial 3, 3) := by decide +kernel
theorem dX10_init_4 : decode cX10_init 4 = .ok (.aload_n 0, 1) := by decide +kernel
theorem dX10_init_5 : decode cX10_init 5 = .ok (.ldc 11, 2) := by decide +kernel
theorem dX10_init_7 : decode cX10_init 7 = .ok (.newarray .int, 2) := by decide +kernel
theorem dX10_init_9 : decode cX10_init 9 = .ok (.putfield 12, 3) := by decide +kernel
theorem dX10_init_12 : decode cX10_init 12 = .ok (.aload_n 0, 1) := by decide +kernel
theorem dX10_init_13 : decode cX10_init 13 = .ok (.sipush 3000, 3) := by decide +kernel
theorem dX10_init_16 : decode cX10_init 16 = .ok (.newarray .int, 2) := by decide +kernel
theorem dX10_init_18 : decode cX10_init 18 = .ok (.putfield 18, 3) := by decide +kernel
theorem dX10_init_21 : decode cX10_init 21 = .ok (.aload_n 0, 1) := by decide +kernel
theorem dX10_init_22 : decode cX10_init 22 = .ok (.sipush 3000, 3) := by decide +kernel
theorem dX10_init_25 : decode cX10_init 25 = .ok (.newarray .int, 2) := by decide +kernel
theorem dX10_init_27 : decode cX10_init 27 = .ok (.putfield 21, 3) := by decide +kernel
theorem dX10_init_30 : decode cX10_init 30 = .ok (.aload_n 0, 1) := by decide +kernel
theorem dX10_init_31 : decode cX10_init 31 = .ok (.sipush 8192, 3) := by decide +kernel
theorem dX10_init_34 : decode cX10_init 34 = .ok (.newarray .int, 2) := by decide +kernel
theorem dX10_init_36 : decode cX10_init 36 = .ok (.putfield 24, 3) := by decide +kernel
theorem dX10_init_39 : decode cX10_init 39 = .ok (.return_, 1) := by decide +kernel
set_option maxHeartbeats 4000000 in
set_option maxRecDepth 100000 in
theorem c_X10_init (l : Launch) (D : va_G) (T : Nat → ClassId) (h0 : Nat) (sz : Nat) : Met l yX10_init (WS (.code yX10_init cX10_init 1 none)) ({ frames := 2, cells := 4, slots := 65192, locals := 64 } : Room) (va_Pc [.ref h0] (PW D (TY T) [ob h0 10 [.int 0, .int 0, .null, .null, .null, .null]] sz)) (QV (X := Nat × Nat × Nat × Nat) D (fun _ => True) (fun xx => [ob h0 10 [.int 0, .int 0, .ref (xx.1), .ref (xx.2.1), .ref (xx.2.2.1), .ref (xx.2.2.2)], ai T (xx.1) 51000 (cst 0), ai T (xx.2.1) 3000 (cst 0), ai T (xx.2.2.1) 3000 (cst 0), ai T (xx.2.2.2) 8192 (cst 0)]) (va_A [ob h0 10 [.int 0, .int 0, .null, .null, .null, .null]] sz)) 4 65192 (va_A [ob h0 10 [.int 0, .int 0, .null, .null, .null, .null]] sz) := by
  refine mk_met (Qc := QV (X := Nat × Nat × Nat × Nat) D (fun _ => True) (fun xx => [ob h0 10 [.int 0, .int 0, .ref (xx.1), .ref (xx.2.1), .ref (xx.2.2.1), .ref (xx.2.2.2)], ai T (xx.1) 51000 (cst 0), ai T (xx.2.1) 3000 (cst 0), ai T (xx.2.2.1) 3000 (cst 0), ai T (xx.2.2.2) 8192 (cst 0)])) (lv := [(0, .ref h0)]) (by decide +kernel) (Nat.le_of_ble_eq_true rfl) rfl (fun p e s m below meth c A ls H locs hx hb hml hr hlocks hown hin hg hN hA hP hK hD hS hl => ?_)
  refine lv_aload_n hx hb dX10_init_0 rfl (lv_at hl 0 rfl) ?_
  refine W.objInit hx hb hown (hg _ km_X10_3) (hg _ ki_objectInit) (hg _ kd_objectInit) rfl (by rw [hml]; exact hl.1) rfl dX10_init_1 (Nat.le_of_ble_eq_true rfl) (Nat.le_of_ble_eq_true rfl) ?_
  refine W.eq (g2 := F0 m 4 ls []) rfl ?_
  refine lv_aload_n hx hb dX10_init_4 rfl (lv_at hl 0 rfl) ?_
  refine lv_ldc hx hb hown (hg _ kk_X10_11) dX10_init_5 ?_
  refine z_newa (atype := .int) (ty := .int) (N' := 51000) (a0 := (51000, (.inl (cst 0)))) hx hb (hg _ ka_int) rfl rfl hK hP hD hS hA 0 rfl (fun _ => rfl) (by decide) (by decide) (Nat.le_of_ble_eq_true rfl) (Nat.le_of_ble_eq_true rfl) (Nat.le_of_ble_eq_true rfl) dX10_init_7 (fun q1 H hP hD hS => ?_)
  have hP : va_P D vwCl [ob h0 10 [.int 0, .int 0, .null, .null, .null, .null], ai T q1 51000 (cst 0)] H := hP
  have hD : va_D A [ob h0 10 [.int 0, .int 0, .null, .null, .null, .null], ai T q1 51000 (cst 0)] := hD
  refine W.widen (k := 1) (n := 51000) (Nat.le_of_ble_eq_true rfl) (Nat.le_of_ble_eq_true rfl) ?_
  refine va_putF (D := D) (ci := 10) (v := .ref q1) (ty := (.array .int)) (C := RX10) (T := TX10) (N := 6) hx hb hg inX10 tyX10 tyX10_ok nmX10 hown hK hP hD hS 0 rfl rfl 2 (by decide) (hg _ kf_X10_12) (fun _ h9 => h9) rfl hin rfl (by decide +kernel) rfl rfl (Nat.le_of_ble_eq_true rfl) dX10_init_9 (fun H locs hP hD hS => ?_)
  have hP : va_P D vwCl [ob h0 10 [.int 0, .int 0, .ref q1, .null, .null, .null], ai T q1 51000 (cst 0)] H := hP
  have hD : va_D A [ob h0 10 [.int 0, .int 0, .ref q1, .null, .null, .null], ai T q1 51000 (cst 0)] := hD
  refine lv_aload_n hx hb dX10_init_12 rfl (lv_at hl 0 rfl) ?_
  refine lv_sipush (v := 3000) hx hb dX10_init_13 (by decide) ?_
  refine z_newa (atype := .int) (ty := .int) (N' := 3000) (a0 := (3000, (.inl (cst 0)))) hx hb (hg _ ka_int) rfl rfl hK hP hD hS hA 0 rfl (fun _ => rfl) (by decide) (by decide) (Nat.le_of_ble_eq_true rfl) (Nat.le_of_ble_eq_true rfl) (Nat.le_of_ble_eq_true rfl) dX10_init_16 (fun q2 H hP hD hS => ?_)
  have hP : va_P D vwCl [ob h0 10 [.int 0, .int 0, .ref q1, .null, .null, .null], ai T q1 51000 (cst 0), ai T q2 3000 (cst 0)] H := hP
  have hD : va_D A [ob h0 10 [.int 0, .int 0, .ref q1, .null, .null, .null], ai T q1 51000 (cst 0), ai T q2 3000 (cst 0)] := hD
  refine W.widen (k := 2) (n := 54000) (Nat.le_of_ble_eq_true rfl) (Nat.le_of_ble_eq_true rfl) ?_
  refine va_putF (D := D) (ci := 10) (v := .ref q2) (ty := (.array .int)) (C := RX10) (T := TX10) (N := 6) hx hb hg inX10 tyX10 tyX10_ok nmX10 hown hK hP hD hS 0 rfl rfl 3 (by decide) (hg _ kf_X10_18) (fun _ h9 => h9) rfl hin rfl (by decide +kernel) rfl rfl (Nat.le_of_ble_eq_true rfl) dX10_init_18 (fun H locs hP hD hS => ?_)
  have hP : va_P D vwCl [ob h0 10 [.int 0, .int 0, .ref q1, .ref q2, .null, .null], ai T q1 51000 (cst 0), ai T q2 3000 (cst 0)] H := hP
  have hD : va_D A [ob h0 10 [.int 0, .int 0, .ref q1, .ref q2, .null, .null], ai T q1 51000 (cst 0), ai T q2 3000 (cst 0)] := hD
  refine lv_aload_n hx hb dX10_init_21 rfl (lv_at hl 0 rfl) ?_
  refine lv_sipush (v := 3000) hx hb dX10_init_22 (by decide) ?_
  refine z_newa (atype := .int) (ty := .int) (N' := 3000) (a0 := (3000, (.inl (cst 0)))) hx hb (hg _ ka_int) rfl rfl hK hP hD hS hA 0 rfl (fun _ => rfl) (by decide) (by decide) (Nat.le_of_ble_eq_true rfl) (Nat.le_of_ble_eq_true rfl) (Nat.le_of_ble_eq_true rfl) dX10_init_25 (fun q3 H hP hD hS => ?_)
  have hP : va_P D vwCl [ob h0 10 [.int 0, .int 0, .ref q1, .ref q2, .null, .null], ai T q1 51000 (cst 0), ai T q2 3000 (cst 0), ai T q3 3000 (cst 0)] H := hP
  have hD : va_D A [ob h0 10 [.int 0, .int 0, .ref q1, .ref q2, .null, .null], ai T q1 51000 (cst 0), ai T q2 3000 (cst 0), ai T q3 3000 (cst 0)] := hD
  refine W.widen (k := 3) (n := 57000) (Nat.le_of_ble_eq_true rfl) (Nat.le_of_ble_eq_true rfl) ?_
  refine va_putF (D := D) (ci := 10) (v := .ref q3) (ty := (.array .int)) (C := RX10) (T := TX10) (N := 6) hx hb hg inX10 tyX10 tyX10_ok nmX10 hown hK hP hD hS 0 rfl rfl 4 (by decide) (hg _ kf_X10_21) (fun _ h9 => h9) rfl hin rfl (by decide +kernel) rfl rfl (Nat.le_of_ble_eq_true rfl) dX10_init_27 (fun H locs hP hD hS => ?_)
  have hP : va_P D vwCl [ob h0 10 [.int 0, .int 0, .ref q1, .ref q2, .ref q3, .null], ai T q1 51000 (cst 0), ai T q2 3000 (cst 0), ai T q3 3000 (cst 0)] H := hP
  have hD : va_D A [ob h0 10 [.int 0, .int 0, .ref q1, .ref q2, .ref q3, .null], ai T q1 51000 (cst 0), ai T q2 3000 (cst 0), ai T q3 3000 (cst 0)] := hD
  refine lv_aload_n hx hb dX10_init_30 rfl (lv_at hl 0 rfl) ?_
  refine lv_sipush (v := 8192) hx hb dX10_init_31 (by decide) ?_
  refine z_newa (atype := .int) (ty := .int) (N' := 8192) (a0 := (8192, (.inl (cst 0)))) hx hb (hg _ ka_int) rfl rfl hK hP hD hS hA 0 rfl (fun _ => rfl) (by decide) (by decide) (Nat.le_of_ble_eq_true rfl) (Nat.le_of_ble_eq_true rfl) (Nat.le_of_ble_eq_true rfl) dX10_init_34 (fun q4 H hP hD hS => ?_)
  have hP : va_P D vwCl [ob h0 10 [.int 0, .int 0, .ref q1, .ref q2, .ref q3, .null], ai T q1 51000 (cst 0), ai T q2 3000 (cst 0), ai T q3 3000 (cst 0), ai T q4 8192 (cst 0)] H := hP
  have hD : va_D A [ob h0 10 [.int 0, .int 0, .ref q1, .ref q2, .ref q3, .null], ai T q1 51000 (cst 0), ai T q2 3000 (cst 0), ai T q3 3000 (cst 0), ai T q4 8192 (cst 0)] := hD
  refine W.widen (k := 4) (n := 65192) (Nat.le_of_ble_eq_true rfl) (Nat.le_of_ble_eq_true rfl) ?_
  refine va_putF (D := D) (ci := 10) (v := .ref q4) (ty := (.array .int)) (C := RX10) (T := TX10) (N := 6) hx hb hg inX10 tyX10 tyX10_ok nmX10 hown hK hP hD hS 0 rfl rfl 5 (by decide) (hg _ kf_X10_24) (fun _ h9 => h9) rfl hin rfl (by decide +kernel) rfl rfl (Nat.le_of_ble_eq_true rfl) dX10_init_36 (fun H locs hP hD hS => ?_)
  have hP : va_P D vwCl [ob h0 10 [.int 0, .int 0, .ref q1, .ref q2, .ref q3, .ref q4], ai T q1 51000 (cst 0), ai T q2 3000 (cst 0), ai T q3 3000 (cst 0), ai T q4 8192 (cst 0)] H := hP
  have hD : va_D A [ob h0 10 [.int 0, .int 0, .ref q1, .ref q2, .ref q3, .ref q4], ai T q1 51000 (cst 0), ai T q2 3000 (cst 0), ai T q3 3000 (cst 0), ai T q4 8192 (cst 0)] := hD
  refine W.widen (k := 4) (n := 65192) (Nat.le_of_ble_eq_true rfl) (Nat.le_of_ble_eq_true rfl) ?_
  exact ret_v (X := Nat × Nat × Nat × Nat) ((q1, q2, q3, q4)) hx hb hr hlocks hP hD hS [0, 1, 2, 3, 4] (by decide) rfl trivial dX10_init_39
theorem dX7_init_0 : decode cX7_init 0 = .ok (.aload_n 0, 1) := by decide +kernel
theorem dX7_init_1 : decode cX7_init 1 = .ok (.invokespecial 3, 3) := by decide +kernel
theorem dX7_init_4 : decode cX7_init 4 = .ok (.aload_n 0, 1) := by decide +kernel
theorem dX7_init_5 : decode cX7_init 5 = .ok (.sipush 360, 3) := by decide +kernel
theorem dX7_init_8 : decode cX7_init 8 = .ok (.newarray .int, 2) := by decide +kernel
theorem dX7_init_10 : decode cX7_init 10 = .ok (.putfield 9, 3) := by decide +kernel
theorem dX7_init_13 : decode cX7_init 13 = .ok (.aload_n 0, 1) := by decide +kernel
theorem dX7_init_14 : decode cX7_init 14 = .ok (.bipush 6, 2) := by decide +kernel
theorem dX7_init_16 : decode cX7_init 16 = .ok (.newarray .int, 2) := by decide +kernel
theorem dX7_init_18 : decode cX7_init 18 = .ok (.putfield 15, 3) := by decide +kernel
theorem dX7_init_21 : decode cX7_init 21 = .ok (.aload_n 0, 1) := by decide +kernel
theorem dX7_init_22 : decode cX7_init 22 = .ok (.bipush 8, 2) := by decide +kernel
theorem dX7_init_24 : decode cX7_init 24 = .ok (.newarray .int, 2) := by decide +kernel
theorem dX7_init_26 : decode cX7_init 26 = .ok (.putfield 18, 3) := by decide +kernel
theorem dX7_init_29 : decode cX7_init 29 = .ok (.aload_n 0, 1) := by decide +kernel
theorem dX7_init_30 : decode cX7_init 30 = .ok (.iconst 5, 1) := by decide +kernel
theorem dX7_init_31 : decode cX7_init 31 = .ok (.newarray .int, 2) := by decide +kernel
theorem dX7_init_33 : decode cX7_init 33 = .ok (.putfield 21, 3) := by decide +kernel
theorem dX7_init_36 : decode cX7_init 36 = .ok (.return_, 1) := by decide +kernel
set_option maxHeartbeats 4000000 in
set_option maxRecDepth 100000 in
theorem c_X7_init (l : Launch) (D : va_G) (T : Nat → ClassId) (h0 : Nat) (sz : Nat) : Met l yX7_init (WS (.code yX7_init cX7_init 1 none)) ({ frames := 2, cells := 4, slots := 379, locals := 64 } : Room) (va_Pc [.ref h0] (PW D (TY T) [ob h0 7 [.null, .int 0, .int 0, .int 0, .int 0, .null, .null, .null]] sz)) (QV (X := Nat × Nat × Nat × Nat) D (fun _ => True) (fun xx => [ob h0 7 [.ref (xx.1), .int 0, .int 0, .int 0, .int 0, .ref (xx.2.1), .ref (xx.2.2.1), .ref (xx.2.2.2)]]) (va_A [ob h0 7 [.null, .int 0, .int 0, .int 0, .int 0, .null, .null, .null]] sz)) 4 379 (va_A [ob h0 7 [.null, .int 0, .int 0, .int 0, .int 0, .null, .null, .null]] sz) := by
  refine mk_met (Qc := QV (X := Nat × Nat × Nat × Nat) D (fun _ => True) (fun xx => [ob h0 7 [.ref (xx.1), .int 0, .int 0, .int 0, .int 0, .ref (xx.2.1), .ref (xx.2.2.1), .ref (xx.2.2.2)]])) (lv := [(0, .ref h0)]) (by decide +kernel) (Nat.le_of_ble_eq_true rfl) rfl (fun p e s m below meth c A ls H locs hx hb hml hr hlocks hown hin hg hN hA hP hK hD hS hl => ?_)
  refine lv_aload_n hx hb dX7_init_0 rfl (lv_at hl 0 rfl) ?_
  refine W.objInit hx hb hown (hg _ km_X7_3) (hg _ ki_objectInit) (hg _ kd_objectInit) rfl (by rw [hml]; exact hl.1) rfl dX7_init_1 (Nat.le_of_ble_eq_true rfl) (Nat.le_of_ble_eq_true rfl) ?_
  refine W.eq (g2 := F0 m 4 ls []) rfl ?_
  refine lv_aload_n hx hb dX7_init_4 rfl (lv_at hl 0 rfl) ?_
  refine lv_sipush (v := 360) hx hb dX7_init_5 (by decide) ?_
  refine z_newa (atype := .int) (ty := .int) (N' := 360) (a0 := (360, (.inl (cst 0)))) hx hb (hg _ ka_int) rfl rfl hK hP hD hS hA 0 rfl (fun _ => rfl) (by decide) (by decide) (Nat.le_of_ble_eq_true rfl) (Nat.le_of_ble_eq_true rfl) (Nat.le_of_ble_eq_true rfl) dX7_init_8 (fun q1 H hP hD hS => ?_)
  have hP : va_P D vwCl [ob h0 7 [.null, .int 0, .int 0, .int 0, .int 0, .null, .null, .null], ai T q1 360 (cst 0)] H := hP
  have hD : va_D A [ob h0 7 [.null, .int 0, .int 0, .int 0, .int 0, .null, .null, .null], ai T q1 360 (cst 0)] := hD
  refine W.widen (k := 1) (n := 360) (Nat.le_of_ble_eq_true rfl) (Nat.le_of_ble_eq_true rfl) ?_
  refine va_putF (D := D) (ci := 7) (v := .ref q1) (ty := (.array .int)) (C := RX7) (T := TX7) (N := 8) hx hb hg inX7 tyX7 tyX7_ok nmX7 hown hK hP hD hS 0 rfl rfl 0 (by decide) (hg _ kf_X7_9) (fun _ h9 => h9) rfl hin rfl (by decide +kernel) rfl rfl (Nat.le_of_ble_eq_true rfl) dX7_init_10 (fun H locs hP hD hS => ?_)
  have hP : va_P D vwCl [ob h0 7 [.ref q1, .int 0, .int 0, .int 0, .int 0, .null, .null, .null], ai T q1 360 (cst 0)] H := hP
  have hD : va_D A [ob h0 7 [.ref q1, .int 0, .int 0, .int 0, .int 0, .null, .null, .null], ai T q1 360 (cst 0)] := hD
  refine lv_aload_n hx hb dX7_init_13 rfl (lv_at hl 0 rfl) ?_
  refine lv_bipush (v := 6) hx hb dX7_init_14 (by decide) ?_
  refine z_newa (atype := .int) (ty := .int) (N' := 6) (a0 := (6, (.inl (cst 0)))) hx hb (hg _ ka_int) rfl rfl hK hP hD hS hA 0 rfl (fun _ => rfl) (by decide) (by decide) (Nat.le_of_ble_eq_true rfl) (Nat.le_of_ble_eq_true rfl) (Nat.le_of_ble_eq_true rfl) dX7_init_16 (fun q2 H hP hD hS => ?_)
  have hP : va_P D vwCl [ob h0 7 [.ref q1, .int 0, .int 0, .int 0, .int 0, .null, .null, .null], ai T q1 360 (cst 0), ai T q2 6 (cst 0)] H := hP
  have hD : va_D A [ob h0 7 [.ref q1, .int 0, .int 0, .int 0, .int 0, .null, .null, .null], ai T q1 360 (cst 0), ai T q2 6 (cst 0)] := hD
  refine W.widen (k := 2) (n := 366) (Nat.le_of_ble_eq_true rfl) (Nat.le_of_ble_eq_true rfl) ?_
  refine va_putF (D := D) (ci := 7) (v := .ref q2) (ty := (.array .int)) (C := RX7) (T := TX7) (N := 8) hx hb hg inX7 tyX7 tyX7_ok nmX7 hown hK hP hD hS 0 rfl rfl 5 (by decide) (hg _ kf_X7_15) (fun _ h9 => h9) rfl hin rfl (by decide +kernel) rfl rfl (Nat.le_of_ble_eq_true rfl) dX7_init_18 (fun H locs hP hD hS => ?_)
  have hP : va_P D vwCl [ob h0 7 [.ref q1, .int 0, .int 0, .int 0, .int 0, .ref q2, .null, .null], ai T q1 360 (cst 0), ai T q2 6 (cst 0)] H := hP
  have hD : va_D A [ob h0 7 [.ref q1, .int 0, .int 0, .int 0, .int 0, .ref q2, .null, .null], ai T q1 360 (cst 0), ai T q2 6 (cst 0)] := hD
  refine lv_aload_n hx hb dX7_init_21 rfl (lv_at hl 0 rfl) ?_
  refine lv_bipush (v := 8) hx hb dX7_init_22 (by decide) ?_
  refine z_newa (atype := .int) (ty := .int) (N' := 8) (a0 := (8, (.inl (cst 0)))) hx hb (hg _ ka_int) rfl rfl hK hP hD hS hA 0 rfl (fun _ => rfl) (by decide) (by decide) (Nat.le_of_ble_eq_true rfl) (Nat.le_of_ble_eq_true rfl) (Nat.le_of_ble_eq_true rfl) dX7_init_24 (fun q3 H hP hD hS => ?_)
  have hP : va_P D vwCl [ob h0 7 [.ref q1, .int 0, .int 0, .int 0, .int 0, .ref q2, .null, .null], ai T q1 360 (cst 0), ai T q2 6 (cst 0), ai T q3 8 (cst 0)] H := hP
  have hD : va_D A [ob h0 7 [.ref q1, .int 0, .int 0, .int 0, .int 0, .ref q2, .null, .null], ai T q1 360 (cst 0), ai T q2 6 (cst 0), ai T q3 8 (cst 0)] := hD
  refine W.widen (k := 3) (n := 374) (Nat.le_of_ble_eq_true rfl) (Nat.le_of_ble_eq_true rfl) ?_
  refine va_putF (D := D) (ci := 7) (v := .ref q3) (ty := (.array .int)) (C := RX7) (T := TX7) (N := 8) hx hb hg inX7 tyX7 tyX7_ok nmX7 hown hK hP hD hS 0 rfl rfl 6 (by decide) (hg _ kf_X7_18) (fun _ h9 => h9) rfl hin rfl (by decide +kernel) rfl rfl (Nat.le_of_ble_eq_true rfl) dX7_init_26 (fun H locs hP hD hS => ?_)
  have hP : va_P D vwCl [ob h0 7 [.ref q1, .int 0, .int 0, .int 0, .int 0, .ref q2, .ref q3, .null], ai T q1 360 (cst 0), ai T q2 6 (cst 0), ai T q3 8 (cst 0)] H := hP
  have hD : va_D A [ob h0 7 [.ref q1, .int 0, .int 0, .int 0, .int 0, .ref q2, .ref q3, .null], ai T q1 360 (cst 0), ai T q2 6 (cst 0), ai T q3 8 (cst 0)] := hD
  refine lv_aload_n hx hb dX7_init_29 rfl (lv_at hl 0 rfl) ?_
  refine lv_iconst (v := 5) hx hb dX7_init_30 (by decide) ?_
  refine z_newa (atype := .int) (ty := .int) (N' := 5) (a0 := (5, (.inl (cst 0)))) hx hb (hg _ ka_int) rfl rfl hK hP hD hS hA 0 rfl (fun _ => rfl) (by decide) (by decide) (Nat.le_of_ble_eq_true rfl) (Nat.le_of_ble_eq_true rfl) (Nat.le_of_ble_eq_true rfl) dX7_init_31 (fun q4 H hP hD hS => ?_)
  have hP : va_P D vwCl [ob h0 7 [.ref q1, .int 0, .int 0, .int 0, .int 0, .ref q2, .ref q3, .null], ai T q1 360 (cst 0), ai T q2 6 (cst 0), ai T q3 8 (cst 0), ai T q4 5 (cst 0)] H := hP
  have hD : va_D A [ob h0 7 [.ref q1, .int 0, .int 0, .int 0, .int 0, .ref q2, .ref q3, .null], ai T q1 360 (cst 0), ai T q2 6 (cst 0), ai T q3 8 (cst 0), ai T q4 5 (cst 0)] := hD
  refine W.widen (k := 4) (n := 379) (Nat.le_of_ble_eq_true rfl) (Nat.le_of_ble_eq_true rfl) ?_
  refine va_putF (D := D) (ci := 7) (v := .ref q4) (ty := (.array .int)) (C := RX7) (T := TX7) (N := 8) hx hb hg inX7 tyX7 tyX7_ok nmX7 hown hK hP hD hS 0 rfl rfl 7 (by decide) (hg _ kf_X7_21) (fun _ h9 => h9) rfl hin rfl (by decide +kernel) rfl rfl (Nat.le_of_ble_eq_true rfl) dX7_init_33 (fun H locs hP hD hS => ?_)
  have hP : va_P D vwCl [ob h0 7 [.ref q1, .int 0, .int 0, .int 0, .int 0, .ref q2, .ref q3, .ref q4], ai T q1 360 (cst 0), ai T q2 6 (cst 0), ai T q3 8 (cst 0), ai T q4 5 (cst 0)] H := hP
  have hD : va_D A [ob h0 7 [.ref q1, .int 0, .int 0, .int 0, .int 0, .ref q2, .ref q3, .ref q4], ai T q1 360 (cst 0), ai T q2 6 (cst 0), ai T q3 8 (cst 0), ai T q4 5 (cst 0)] := hD
  refine W.widen (k := 4) (n := 379) (Nat.le_of_ble_eq_true rfl) (Nat.le_of_ble_eq_true rfl) ?_
  exact ret_v (X := Nat × Nat × Nat × Nat) ((q1, q2, q3, q4)) hx hb hr hlocks hP hD hS [0] (by decide) rfl trivial dX7_init_36
theorem dX0_init_0 : decode cX0_init 0 = .ok (.aload_n 0, 1) := by decide +kernel
theorem dX0_init_1 : decode cX0_init 1 = .ok (.invokespecial 3, 3) := by decide +kernel
theorem dX0_init_4 : decode cX0_init 4 = .ok (.aload_n 0, 1) := by decide +kernel
theorem dX0_init_5 : decode cX0_init 5 = .ok (.sipush 360, 3) := by decide +kernel
theorem dX0_init_8 : decode cX0_init 8 = .ok (.newarray .int, 2) := by decide +kernel
theorem dX0_init_10 : decode cX0_init 10 = .ok (.putfield 9, 3) := by decide +kernel
theorem dX0_init_13 : decode cX0_init 13 = .ok (.aload_n 0, 1) := by decide +kernel
theorem dX0_init_14 : decode cX0_init 14 = .ok (.sipush 360, 3) := by decide +kernel
theorem dX0_init_17 : decode cX0_init 17 = .ok (.newarray .int, 2) := by decide +kernel
theorem dX0_init_19 : decode cX0_init 19 = .ok (.putfield 15, 3) := by decide +kernel
theorem dX0_init_22 : decode cX0_init 22 = .ok (.aload_n 0, 1) := by decide +kernel
theorem dX0_init_23 : decode cX0_init 23 = .ok (.bipush 17, 2) := by decide +kernel
theorem dX0_init_25 : decode cX0_init 25 = .ok (.newarray .int, 2) := by decide +kernel
theorem dX0_init_27 : decode cX0_init 27 = .ok (.putfield 20, 3) := by decide +kernel
theorem dX0_init_30 : decode cX0_init 30 = .ok (.aload_n 0, 1) := by decide +kernel
theorem dX0_init_31 : decode cX0_init 31 = .ok (.sipush 3000, 3) := by decide +kernel
theorem dX0_init_34 : decode cX0_init 34 = .ok (.newarray .int, 2) := by decide +kernel
theorem dX0_init_36 : decode cX0_init 36 = .ok (.putfield 23, 3) := by decide +kernel
theorem dX0_init_39 : decode cX0_init 39 = .ok (.aload_n 0, 1) := by decide +kernel
theorem dX0_init_40 : decode cX0_init 40 = .ok (.sipush 3000, 3) := by decide +kernel
theorem dX0_init_43 : decode cX0_init 43 = .ok (.newarray .int, 2) := by decide +kernel
theorem dX0_init_45 : decode cX0_init 45 = .ok (.putfield 26, 3) := by decide +kernel
theorem dX0_init_48 : decode cX0_init 48 = .ok (.return_, 1) := by decide +kernel
set_option maxHeartbeats 4000000 in
set_option maxRecDepth 100000 in
theorem c_X0_init (l : Launch) (D : va_G) (T : Nat → ClassId) (h0 : Nat) (sz : Nat) : Met l yX0_init (WS (.code yX0_init cX0_init 1 none)) ({ frames := 2, cells := 5, slots := 6737, locals := 64 } : Room) (va_Pc [.ref h0] (PW D (TY T) [ob h0 0 [.int 0, .int 0, .int 0, .int 0, .null, .int 0, .int 0, .null, .int 0, .null, .null, .null]] sz)) (QV (X := Nat × Nat × Nat × Nat × Nat) D (fun _ => True) (fun xx => [ob h0 0 [.int 0, .int 0, .int 0, .int 0, .ref (xx.1), .int 0, .int 0, .ref (xx.2.1), .int 0, .ref (xx.2.2.1), .ref (xx.2.2.2.1), .ref (xx.2.2.2.2)], ai T (xx.2.2.1) 17 (cst 0), ai T (xx.2.2.2.1) 3000 (cst 0), ai T (xx.2.2.2.2) 3000 (cst 0)]) (va_A [ob h0 0 [.int 0, .int 0, .int 0, .int 0, .null, .int 0, .int 0, .null, .int 0, .null, .null, .null]] sz)) 5 6737 (va_A [ob h0 0 [.int 0, .int 0, .int 0, .int 0, .null, .int 0, .int 0, .null, .int 0, .null, .null, .null]] sz) := by
  refine mk_met (Qc := QV (X := Nat × Nat × Nat × Nat × Nat) D (fun _ => True) (fun xx => [ob h0 0 [.int 0, .int 0, .int 0, .int 0, .ref (xx.1), .int 0, .int 0, .ref (xx.2.1), .int 0, .ref (xx.2.2.1), .ref (xx.2.2.2.1), .ref (xx.2.2.2.2)], ai T (xx.2.2.1) 17 (cst 0), ai T (xx.2.2.2.1) 3000 (cst 0), ai T (xx.2.2.2.2) 3000 (cst 0)])) (lv := [(0, .ref h0)]) (by decide +kernel) (Nat.le_of_ble_eq_true rfl) rfl (fun p e s m below meth c A ls H locs hx hb hml hr hlocks hown hin hg hN hA hP hK hD hS hl => ?_)
  refine lv_aload_n hx hb dX0_init_0 rfl (lv_at hl 0 rfl) ?_
  refine W.objInit hx hb hown (hg _ km_X0_3) (hg _ ki_objectInit) (hg _ kd_objectInit) rfl (by rw [hml]; exact hl.1) rfl dX0_init_1 (Nat.le_of_ble_eq_true rfl) (Nat.le_of_ble_eq_true rfl) ?_
  refine W.eq (g2 := F0 m 4 ls []) rfl ?_
  refine lv_aload_n hx hb dX0_init_4 rfl (lv_at hl 0 rfl) ?_
  refine lv_sipush (v := 360) hx hb dX0_init_5 (by decide) ?_
  refine z_newa (atype := .int) (ty := .int) (N' := 360) (a0 := (360, (.inl (cst 0)))) hx hb (hg _ ka_int) rfl rfl hK hP hD hS hA 0 rfl (fun _ => rfl) (by decide) (by decide) (Nat.le_of_ble_eq_true rfl) (Nat.le_of_ble_eq_true rfl) (Nat.le_of_ble_eq_true rfl) dX0_init_8 (fun q1 H hP hD hS => ?_)
  have hP : va_P D vwCl [ob h0 0 [.int 0, .int 0, .int 0, .int 0, .null, .int 0, .int 0, .null, .int 0, .null, .null, .null], ai T q1 360 (cst 0)] H := hP
  have hD : va_D A [ob h0 0 [.int 0, .int 0, .int 0, .int 0, .null, .int 0, .int 0, .null, .int 0, .null, .null, .null], ai T q1 360 (cst 0)] := hD
  refine W.widen (k := 1) (n := 360) (Nat.le_of_ble_eq_true rfl) (Nat.le_of_ble_eq_true rfl) ?_
  refine va_putF (D := D) (ci := 0) (v := .ref q1) (ty := (.array .int)) (C := RX0) (T := TX0) (N := 12) hx hb hg inX0 tyX0 tyX0_ok nmX0 hown hK hP hD hS 0 rfl rfl 4 (by decide) (hg _ kf_X0_9) (fun _ h9 => h9) rfl hin rfl (by decide +kernel) rfl rfl (Nat.le_of_ble_eq_true rfl) dX0_init_10 (fun H locs hP hD hS => ?_)
  have hP : va_P D vwCl [ob h0 0 [.int 0, .int 0, .int 0, .int 0, .ref q1, .int 0, .int 0, .null, .int 0, .null, .null, .null], ai T q1 360 (cst 0)] H := hP
  have hD : va_D A [ob h0 0 [.int 0, .int 0, .int 0, .int 0, .ref q1, .int 0, .int 0, .null, .int 0, .null, .null, .null], ai T q1 360 (cst 0)] := hD
  refine lv_aload_n hx hb dX0_init_13 rfl (lv_at hl 0 rfl) ?_
  refine lv_sipush (v := 360) hx hb dX0_init_14 (by decide) ?_
  refine z_newa (atype := .int) (ty := .int) (N' := 360) (a0 := (360, (.inl (cst 0)))) hx hb (hg _ ka_int) rfl rfl hK hP hD hS hA 0 rfl (fun _ => rfl) (by decide) (by decide) (Nat.le_of_ble_eq_true rfl) (Nat.le_of_ble_eq_true rfl) (Nat.le_of_ble_eq_true rfl) dX0_init_17 (fun q2 H hP hD hS => ?_)
  have hP : va_P D vwCl [ob h0 0 [.int 0, .int 0, .int 0, .int 0, .ref q1, .int 0, .int 0, .null, .int 0, .null, .null, .null], ai T q1 360 (cst 0), ai T q2 360 (cst 0)] H := hP
  have hD : va_D A [ob h0 0 [.int 0, .int 0, .int 0, .int 0, .ref q1, .int 0, .int 0, .null, .int 0, .null, .null, .null], ai T q1 360 (cst 0), ai T q2 360 (cst 0)] := hD
  refine W.widen (k := 2) (n := 720) (Nat.le_of_ble_eq_true rfl) (Nat.le_of_ble_eq_true rfl) ?_
  refine va_putF (D := D) (ci := 0) (v := .ref q2) (ty := (.array .int)) (C := RX0) (T := TX0) (N := 12) hx hb hg inX0 tyX0 tyX0_ok nmX0 hown hK hP hD hS 0 rfl rfl 7 (by decide) (hg _ kf_X0_15) (fun _ h9 => h9) rfl hin rfl (by decide +kernel) rfl rfl (Nat.le_of_ble_eq_true rfl) dX0_init_19 (fun H locs hP hD hS => ?_)
  have hP : va_P D vwCl [ob h0 0 [.int 0, .int 0, .int 0, .int 0, .ref q1, .int 0, .int 0, .ref q2, .int 0, .null, .null, .null], ai T q1 360 (cst 0), ai T q2 360 (cst 0)] H := hP
  have hD : va_D A [ob h0 0 [.int 0, .int 0, .int 0, .int 0, .ref q1, .int 0, .int 0, .ref q2, .int 0, .null, .null, .null], ai T q1 360 (cst 0), ai T q2 360 (cst 0)] := hD
  refine lv_aload_n hx hb dX0_init_22 rfl (lv_at hl 0 rfl) ?_
  refine lv_bipush (v := 17) hx hb dX0_init_23 (by decide) ?_
  refine z_newa (atype := .int) (ty := .int) (N' := 17) (a0 := (17, (.inl (cst 0)))) hx hb (hg _ ka_int) rfl rfl hK hP hD hS hA 0 rfl (fun _ => rfl) (by decide) (by decide) (Nat.le_of_ble_eq_true rfl) (Nat.le_of_ble_eq_true rfl) (Nat.le_of_ble_eq_true rfl) dX0_init_25 (fun q3 H hP hD hS => ?_)
  have hP : va_P D vwCl [ob h0 0 [.int 0, .int 0, .int 0, .int 0, .ref q1, .int 0, .int 0, .ref q2, .int 0, .null, .null, .null], ai T q1 360 (cst 0), ai T q2 360 (cst 0), ai T q3 17 (cst 0)] H := hP
  have hD : va_D A [ob h0 0 [.int 0, .int 0, .int 0, .int 0, .ref q1, .int 0, .int 0, .ref q2, .int 0, .null, .null, .null], ai T q1 360 (cst 0), ai T q2 360 (cst 0), ai T q3 17 (cst 0)] := hD
  refine W.widen (k := 3) (n := 737) (Nat.le_of_ble_eq_true rfl) (Nat.le_of_ble_eq_true rfl) ?_
  refine va_putF (D := D) (ci := 0) (v := .ref q3) (ty := (.array .int)) (C := RX0) (T := TX0) (N := 12) hx hb hg inX0 tyX0 tyX0_ok nmX0 hown hK hP hD hS 0 rfl rfl 9 (by decide) (hg _ kf_X0_20) (fun _ h9 => h9) rfl hin rfl (by decide +kernel) rfl rfl (Nat.le_of_ble_eq_true rfl) dX0_init_27 (fun H locs hP hD hS => ?_)
  have hP : va_P D vwCl [ob h0 0 [.int 0, .int 0, .int 0, .int 0, .ref q1, .int 0, .int 0, .ref q2, .int 0, .ref q3, .null, .null], ai T q1 360 (cst 0), ai T q2 360 (cst 0), ai T q3 17 (cst 0)] H := hP
  have hD : va_D A [ob h0 0 [.int 0, .int 0, .int 0, .int 0, .ref q1, .int 0, .int 0, .ref q2, .int 0, .ref q3, .null, .null], ai T q1 360 (cst 0), ai T q2 360 (cst 0), ai T q3 17 (cst 0)] := hD
  refine lv_aload_n hx hb dX0_init_30 rfl (lv_at hl 0 rfl) ?_
  refine lv_sipush (v := 3000) hx hb dX0_init_31 (by decide) ?_
  refine z_newa (atype := .int) (ty := .int) (N' := 3000) (a0 := (3000, (.inl (cst 0)))) hx hb (hg _ ka_int) rfl rfl hK hP hD hS hA 0 rfl (fun _ => rfl) (by decide) (by decide) (Nat.le_of_ble_eq_true rfl) (Nat.le_of_ble_eq_true rfl) (Nat.le_of_ble_eq_true rfl) dX0_init_34 (fun q4 H hP hD hS => ?_)
  have hP : va_P D vwCl [ob h0 0 [.int 0, .int 0, .int 0, .int 0, .ref q1, .int 0, .int 0, .ref q2, .int 0, .ref q3, .null, .null], ai T q1 360 (cst 0), ai T q2 360 (cst 0), ai T q3 17 (cst 0), ai T q4 3000 (cst 0)] H := hP
  have hD : va_D A [ob h0 0 [.int 0, .int 0, .int 0, .int 0, .ref q1, .int 0, .int 0, .ref q2, .int 0, .ref q3, .null, .null], ai T q1 360 (cst 0), ai T q2 360 (cst 0), ai T q3 17 (cst 0), ai T q4 3000 (cst 0)] := hD
  refine W.widen (k := 4) (n := 3737) (Nat.le_of_ble_eq_true rfl) (Nat.le_of_ble_eq_true rfl) ?_
  refine va_putF (D := D) (ci := 0) (v := .ref q4) (ty := (.array .int)) (C := RX0) (T := TX0) (N := 12) hx hb hg inX0 tyX0 tyX0_ok nmX0 hown hK hP hD hS 0 rfl rfl 10 (by decide) (hg _ kf_X0_23) (fun _ h9 => h9) rfl hin rfl (by decide +kernel) rfl rfl (Nat.le_of_ble_eq_true rfl) dX0_init_36 (fun H locs hP hD hS => ?_)
  have hP : va_P D vwCl [ob h0 0 [.int 0, .int 0, .int 0, .int 0, .ref q1, .int 0, .int 0, .ref q2, .int 0, .ref q3, .ref q4, .null], ai T q1 360 (cst 0), ai T q2 360 (cst 0), ai T q3 17 (cst 0), ai T q4 3000 (cst 0)] H := hP
  have hD : va_D A [ob h0 0 [.int 0, .int 0, .int 0, .int 0, .ref q1, .int 0, .int 0, .ref q2, .int 0, .ref q3, .ref q4, .null], ai T q1 360 (cst 0), ai T q2 360 (cst 0), ai T q3 17 (cst 0), ai T q4 3000 (cst 0)] := hD
  refine lv_aload_n hx hb dX0_init_39 rfl (lv_at hl 0 rfl) ?_
  refine lv_sipush (v := 3000) hx hb dX0_init_40 (by decide) ?_
  refine z_newa (atype := .int) (ty := .int) (N' := 3000) (a0 := (3000, (.inl (cst 0)))) hx hb (hg _ ka_int) rfl rfl hK hP hD hS hA 0 rfl (fun _ => rfl) (by decide) (by decide) (Nat.le_of_ble_eq_true rfl) (Nat.le_of_ble_eq_true rfl) (Nat.le_of_ble_eq_true rfl) dX0_init_43 (fun q5 H hP hD hS => ?_)
  have hP : va_P D vwCl [ob h0 0 [.int 0, .int 0, .int 0, .int 0, .ref q1, .int 0, .int 0, .ref q2, .int 0, .ref q3, .ref q4, .null], ai T q1 360 (cst 0), ai T q2 360 (cst 0), ai T q3 17 (cst 0), ai T q4 3000 (cst 0), ai T q5 3000 (cst 0)] H := hP
  have hD : va_D A [ob h0 0 [.int 0, .int 0, .int 0, .int 0, .ref q1, .int 0, .int 0, .ref q2, .int 0, .ref q3, .ref q4, .null], ai T q1 360 (cst 0), ai T q2 360 (cst 0), ai T q3 17 (cst 0), ai T q4 3000 (cst 0), ai T q5 3000 (cst 0)] := hD
  refine W.widen (k := 5) (n := 6737) (Nat.le_of_ble_eq_true rfl) (Nat.le_of_ble_eq_true rfl) ?_
  refine va_putF (D := D) (ci := 0) (v := .ref q5) (ty := (.array .int)) (C := RX0) (T := TX0) (N := 12) hx hb hg inX0 tyX0 tyX0_ok nmX0 hown hK hP hD hS 0 rfl rfl 11 (by decide) (hg _ kf_X0_26) (fun _ h9 => h9) rfl hin rfl (by decide +kernel) rfl rfl (Nat.le_of_ble_eq_true rfl) dX0_init_45 (fun H locs hP hD hS => ?_)
  have hP : va_P D vwCl [ob h0 0 [.int 0, .int 0, .int 0, .int 0, .ref q1, .int 0, .int 0, .ref q2, .int 0, .ref q3, .ref q4, .ref q5], ai T q1 360 (cst 0), ai T q2 360 (cst 0), ai T q3 17 (cst 0), ai T q4 3000 (cst 0), ai T q5 3000 (cst 0)] H := hP
  have hD : va_D A [ob h0 0 [.int 0, .int 0, .int 0, .int 0, .ref q1, .int 0, .int 0, .ref q2, .int 0, .ref q3, .ref q4, .ref q5], ai T q1 360 (cst 0), ai T q2 360 (cst 0), ai T q3 17 (cst 0), ai T q4 3000 (cst 0), ai T q5 3000 (cst 0)] := hD
  refine W.widen (k := 5) (n := 6737) (Nat.le_of_ble_eq_true rfl) (Nat.le_of_ble_eq_true rfl) ?_
  exact ret_v (X := Nat × Nat × Nat × Nat × Nat) ((q1, q2, q3, q4, q5)) hx hb hr hlocks hP hD hS [0, 3, 4, 5] (by decide) rfl trivial dX0_init_48
