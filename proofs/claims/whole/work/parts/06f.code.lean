def f_X7_mayTry_25 (h : AH) (s0 : Int32) : Option (Int32 × AH) := rZ s0 h
def f_X7_mayTry_24 (h : AH)  : Option (Int32 × AH) := f_X7_mayTry_25 h 0
def f_X7_mayTry (h : AH) (l0 : Int32) (l1 : Int32) : Option (Int32 × AH) := cal (f_X7_isWithin h l0 1 10) (fun v1 h2 => if v1 = 0 then f_X7_mayTry_24 h2 else cal (f_X7_isWithin h2 l1 0 50) (fun v4 h5 => if v4 = 0 then f_X7_mayTry_24 h5 else f_X7_mayTry_25 h5 1))
set_option maxRecDepth 100000 in
set_option maxHeartbeats 4000000 in
theorem t_X7_mayTry_25 {p : Program} {l : Launch} {e : Env} {s : State} {m : MethodId} {args : Array Value} {below : List Frame} {meth : Method} {c : Code} {D : RG} {b : Nat} {vv : Int32} {hh : AH} (X : r_C p c cX7_mayTry 2 s m args RX7 D b) (hr : meth.sig.returnType = (some .boolean)) (hk : meth.locks = false) (hn : meth.name = "mayTry") {h : AH} {H : Heap} {locs : List Loc} {ls : Array Slot} {s0 : Int32} (B : r_B D b s h H locs) (hl : lv_has ls 2 []) (hf : f_X7_mayTry_25 h s0 = some (vv, hh)) : W p l e ({ frames := 1, cells := 0, slots := 0, locals := 22 } : Room) s m args below meth c H locs 0 0 (MQ below (r_Q D b (some (.int vv)) hh) args s 0 0 (fun q => b ≤ q)) (F0 m 25 ls [.int s0]) := by
  obtain ⟨⟨hx, hb, hml, hown, hts⟩, -⟩ := id X
  unfold f_X7_mayTry_25 at hf
  exact r_zret X B hr hk hf dX7_mayTry_25
set_option maxRecDepth 100000 in
set_option maxHeartbeats 4000000 in
theorem t_X7_mayTry_24 {p : Program} {l : Launch} {e : Env} {s : State} {m : MethodId} {args : Array Value} {below : List Frame} {meth : Method} {c : Code} {D : RG} {b : Nat} {vv : Int32} {hh : AH} (X : r_C p c cX7_mayTry 2 s m args RX7 D b) (hr : meth.sig.returnType = (some .boolean)) (hk : meth.locks = false) (hn : meth.name = "mayTry") {h : AH} {H : Heap} {locs : List Loc} {ls : Array Slot}  (B : r_B D b s h H locs) (hl : lv_has ls 2 []) (hf : f_X7_mayTry_24 h  = some (vv, hh)) : W p l e ({ frames := 1, cells := 0, slots := 0, locals := 22 } : Room) s m args below meth c H locs 0 0 (MQ below (r_Q D b (some (.int vv)) hh) args s 0 0 (fun q => b ≤ q)) (F0 m 24 ls []) := by
  obtain ⟨⟨hx, hb, hml, hown, hts⟩, -⟩ := id X
  unfold f_X7_mayTry_24 at hf
  refine lv_iconst (v := 0) hx hb dX7_mayTry_24 (by decide) ?_
  exact t_X7_mayTry_25 X hr hk hn  B (lv_sub hl [] rfl) hf
set_option maxRecDepth 100000 in
set_option maxHeartbeats 4000000 in
theorem c_X7_mayTry {l : Launch} {D : RG} {b : Nat} {h : AH} {l0 : Int32} {l1 : Int32} {vv : Int32} {hh : AH} (hf : f_X7_mayTry h l0 l1 = some (vv, hh)) : Met l yX7_mayTry (Cond.code yX7_mayTry cX7_mayTry 2 (some .boolean) :: wsL_law) ({ frames := 1, cells := 0, slots := 0, locals := 22 } : Room) (va_Pc [.int l0, .int l1] (r_I D b h)) (r_Q D b (some (.int vv)) hh) 0 0 (fun q => b ≤ q) := by
  refine r_ofW (own := RX7) rfl (by decide +kernel) (by simp [lg_sl, va_cat, cat_i, cat_r, cat_l]) ?_
  intro p e s m args below meth c ls X B hr hk hn hl
  have hl : lv_has ls 2 [(0, .int l0), (1, .int l1)] := by simpa [lv_args, va_cat, cat_i, cat_r, cat_l] using hl
  have hl : lv_has ls 2 [(0, .int l0), (1, .int l1)] := hl
  obtain ⟨⟨hx, hb, hml, hown, hts⟩, -⟩ := id X
  generalize s.heap = H at B ⊢
  generalize ([] : List Loc) = locs at B ⊢
  unfold f_X7_mayTry at hf
  refine lv_iload_n hx hb dX7_mayTry_0 rfl (lv_at hl 0 rfl) ?_
  refine lv_iconst (v := 1) hx hb dX7_mayTry_1 (by decide) ?_
  refine lv_bipush (v := 10) hx hb dX7_mayTry_2 (by decide) ?_
  refine cal_inv hf ?_
  intro v1 h2 e3 hf
  refine r_call B (va_runS (As := [.int l0, .int 1, .int 10]) (rest := []) X.1 (c_X7_isWithin (l := l) (D := D) (b := b) e3) (r_cwS X m_166 m_167 m_2 m_168 rfl rfl hd_X7_isWithin ⟨Nat.le_of_ble_eq_true rfl, Nat.le_of_ble_eq_true rfl⟩) (r_preS X B [.int l0, .int 1, .int 10]) rfl rfl hl.1 rfl (lv_room (by simp [va_cat, cat_i, cat_r, cat_l])) dX7_mayTry_4 ⟨Nat.zero_le _, Nat.zero_le _⟩) ?_
  intro H locs B
  refine W.cs (cells' := 0) (slots' := 0) rfl rfl (W.eq (g2 := F0 m 7 ls [.int v1]) rfl ?_)
  refine lv_if_eq (tgt := 24) hx hb dX7_mayTry_7 (by decide) (fun q_ => ?_) (fun q_ => ?_)
  · have hf := (r_ite hf).1 q_
    exact t_X7_mayTry_24 X hr hk hn  B (lv_sub hl [] rfl) hf
  · have hf := (r_ite hf).2 q_
    refine lv_iload_n hx hb dX7_mayTry_10 rfl (lv_at hl 1 rfl) ?_
    refine lv_iconst (v := 0) hx hb dX7_mayTry_11 (by decide) ?_
    refine lv_bipush (v := 50) hx hb dX7_mayTry_12 (by decide) ?_
    refine cal_inv hf ?_
    intro v4 h5 e6 hf
    refine r_call B (va_runS (As := [.int l1, .int 0, .int 50]) (rest := []) X.1 (c_X7_isWithin (l := l) (D := D) (b := b) e6) (r_cwS X m_166 m_167 m_2 m_168 rfl rfl hd_X7_isWithin ⟨Nat.le_of_ble_eq_true rfl, Nat.le_of_ble_eq_true rfl⟩) (r_preS X B [.int l1, .int 0, .int 50]) rfl rfl hl.1 rfl (lv_room (by simp [va_cat, cat_i, cat_r, cat_l])) dX7_mayTry_14 ⟨Nat.zero_le _, Nat.zero_le _⟩) ?_
    intro H locs B
    refine W.cs (cells' := 0) (slots' := 0) rfl rfl (W.eq (g2 := F0 m 17 ls [.int v4]) rfl ?_)
    refine lv_if_eq (tgt := 24) hx hb dX7_mayTry_17 (by decide) (fun q_ => ?_) (fun q_ => ?_)
    · have hf := (r_ite hf).1 q_
      exact t_X7_mayTry_24 X hr hk hn  B (lv_sub hl [] rfl) hf
    · have hf := (r_ite hf).2 q_
      refine lv_iconst (v := 1) hx hb dX7_mayTry_20 (by decide) ?_
      refine lv_goto (tgt := 25) hx hb dX7_mayTry_21 (by decide) ?_
      exact t_X7_mayTry_25 X hr hk hn  B (lv_sub hl [] rfl) hf
def f_X7_waterTried_22 : Nat → AH → Nat → Option Nat → Int32 → Int32 → Int32 → Option (Int32 × AH)
  | 0, _, _, _, _, _, _ => none
  | n + 1, h, l0, l1, l3, l4, l5 => if l3 ≤ l5 then gR h l1 5 3 (fun v1 => gI h v1 3 0 (fun v2 => some (v2, h))) else gR h (some l0) 7 5 (fun v3 => rcv h v3 2 (fun a7 => cal (f_X2_passDay h a7 l4) (fun v4 h5 => bd (l5 + 1) (fun v10 => f_X7_waterTried_22 n h5 l0 l1 l3 l4 v10))))
def f_X7_waterTried_19 (h : AH) (l0 : Nat) (l1 : Option Nat) (l3 : Int32) (l4 : Int32) : Option (Int32 × AH) := f_X7_waterTried_22 FU h l0 l1 l3 l4 0
def f_X7_waterTried (h : AH) (l0 : Nat) (l1 : Option Nat) (l2 : Option Nat) (l3 : Int32) (l4 : Int32) : Option (Int32 × AH) := gR h (some l0) 7 5 (fun v11 => rcv h v11 2 (fun a15 => cal (f_X2_startFromNow h a15) (fun v12 h13 => nul l2 (f_X7_waterTried_19 h13 l0 l1 l3 l4) (gR h13 l2 5 3 (fun v18 => pI h13 v18 3 1 0 (fun h19 => f_X7_waterTried_19 h19 l0 l1 l3 l4))))))
set_option maxRecDepth 100000 in
set_option maxHeartbeats 4000000 in
theorem t_X7_waterTried_22 {p : Program} {l : Launch} {e : Env} {s : State} {m : MethodId} {args : Array Value} {below : List Frame} {meth : Method} {c : Code} {D : RG} {b : Nat} {vv : Int32} {hh : AH} (X : r_C p c cX7_waterTried 6 s m args RX7 D b) (hr : meth.sig.returnType = (some .int)) (hk : meth.locks = false) (hn : meth.name = "waterTried") : ∀ (n : Nat) (h : AH) (H : Heap) (locs : List Loc) (ls : Array Slot) (l0 : Nat) (l1 : Option Nat) (l3 : Int32) (l4 : Int32) (l5 : Int32), r_B D b s h H locs → lv_has ls 6 [(0, va_rf (some l0)), (1, va_rf l1), (3, .int l3), (4, .int l4), (5, .int l5)] → f_X7_waterTried_22 n h l0 l1 l3 l4 l5 = some (vv, hh) → W p l e ({ frames := 5, cells := 0, slots := 0, locals := 129 } : Room) s m args below meth c H locs 0 0 (MQ below (r_Q D b (some (.int vv)) hh) args s 0 0 (fun q => b ≤ q)) (F0 m 22 ls []) := by
  obtain ⟨⟨hx, hb, hml, hown, hts⟩, -⟩ := id X
  intro n
  induction n with
  | zero =>
    intro h H locs ls l0 l1 l3 l4 l5 B hl hf
    cases hf
  | succ n ih =>
    intro h H locs ls l0 l1 l3 l4 l5 B hl hf
    unfold f_X7_waterTried_22 at hf
    refine lv_iload hx hb dX7_waterTried_22 (lv_at hl 4 rfl) ?_
    refine lv_iload_n hx hb dX7_waterTried_24 rfl (lv_at hl 2 rfl) ?_
    refine lv_icmp_ge (tgt := 43) hx hb dX7_waterTried_25 (by decide) (fun q_ => ?_) (fun q_ => ?_)
    · have hf := (r_ite hf).1 q_
      refine r_aload_n hx hb dX7_waterTried_43 rfl (lv_at hl 1 rfl) ?_
      refine r_gR X B hf fX5_3 (fun _ _ => rfl) m_540 dX7_waterTried_44 (fun v1 hf => ?_)
      refine r_gI X B hf fX3_0 (fun _ _ => rfl) m_187 dX7_waterTried_47 (fun v2 hf => ?_)
      exact r_iret X B hr hk hf dX7_waterTried_50
    · have hf := (r_ite hf).2 q_
      refine r_aload_n hx hb dX7_waterTried_28 rfl (lv_at hl 0 rfl) ?_
      refine r_gR X B hf fX7_5 (fun _ _ => rfl) m_53 dX7_waterTried_29 (fun v3 hf => ?_)
      refine lv_iload hx hb dX7_waterTried_32 (lv_at hl 3 rfl) ?_
      refine rcv_inv hf ?_
      intro a7 e8 s9 hf
      refine cal_inv hf ?_
      intro v4 h5 e6 hf
      refine r_call B (va_runV (As := [.int l4]) (rest := []) X.1 (c_X2_passDay (l := l) (D := D) (b := b) e6) (r_cwV X rfl m_476 m_477 m_478 m_52 m_479 rfl rfl hd_X2_passDay ⟨Nat.le_of_ble_eq_true rfl, Nat.le_of_ble_eq_true rfl⟩) (r_preV X B s9 rfl [.int l4]) rfl rfl hl.1 (by rw [e8]; rfl) (lv_room (by simp [va_cat, cat_i, cat_r, cat_l])) dX7_waterTried_34 ⟨Nat.zero_le _, Nat.zero_le _⟩) ?_
      intro H locs B
      refine W.cs (cells' := 0) (slots' := 0) rfl rfl (W.eq (g2 := F0 m 37 ls []) rfl ?_)
      refine r_iinc (lv' := fun v10 => [(5, .int v10), (0, va_rf (some l0)), (1, va_rf l1), (3, .int l3), (4, .int l4)]) hx hb hf dX7_waterTried_37 hl (k := 4) rfl (by decide) (by decide) (fun v => by first | rfl | simp [va_cat, cat_i, cat_r, cat_l]) (fun v10 ls hl hf => ?_)
      refine lv_goto (tgt := 22) hx hb dX7_waterTried_40 (by decide) ?_
      exact ih _ _ _ _ _ _ _ _ _ B (lv_sub hl [1, 2, 3, 4, 0] rfl) hf
set_option maxRecDepth 100000 in
set_option maxHeartbeats 4000000 in
theorem t_X7_waterTried_19 {p : Program} {l : Launch} {e : Env} {s : State} {m : MethodId} {args : Array Value} {below : List Frame} {meth : Method} {c : Code} {D : RG} {b : Nat} {vv : Int32} {hh : AH} (X : r_C p c cX7_waterTried 6 s m args RX7 D b) (hr : meth.sig.returnType = (some .int)) (hk : meth.locks = false) (hn : meth.name = "waterTried") {h : AH} {H : Heap} {locs : List Loc} {ls : Array Slot} {l0 : Nat} {l1 : Option Nat} {l3 : Int32} {l4 : Int32} (B : r_B D b s h H locs) (hl : lv_has ls 6 [(0, va_rf (some l0)), (1, va_rf l1), (3, .int l3), (4, .int l4)]) (hf : f_X7_waterTried_19 h l0 l1 l3 l4 = some (vv, hh)) : W p l e ({ frames := 5, cells := 0, slots := 0, locals := 129 } : Room) s m args below meth c H locs 0 0 (MQ below (r_Q D b (some (.int vv)) hh) args s 0 0 (fun q => b ≤ q)) (F0 m 19 ls []) := by
  obtain ⟨⟨hx, hb, hml, hown, hts⟩, -⟩ := id X
  unfold f_X7_waterTried_19 at hf
  refine lv_iconst (v := 0) hx hb dX7_waterTried_19 (by decide) ?_
  refine lv_istore (i := 5) (lv' := [(5, .int 0), (0, va_rf (some l0)), (1, va_rf l1), (3, .int l3), (4, .int l4)]) hx hb dX7_waterTried_20 hl (by decide) (by first | rfl | simp [va_cat, cat_i, cat_r, cat_l]) (fun ls hl => ?_)
  exact t_X7_waterTried_22 X hr hk hn  _ _ _ _ _ _ _ _ _ _ B (lv_sub hl [1, 2, 3, 4, 0] rfl) hf
set_option maxRecDepth 100000 in
set_option maxHeartbeats 4000000 in
theorem c_X7_waterTried {l : Launch} {D : RG} {b : Nat} {h : AH} {l0 : Nat} {l1 : Option Nat} {l2 : Option Nat} {l3 : Int32} {l4 : Int32} {vv : Int32} {hh : AH} (hf : f_X7_waterTried h l0 l1 l2 l3 l4 = some (vv, hh)) : Met l yX7_waterTried (Cond.code yX7_waterTried cX7_waterTried 6 (some .int) :: wsL_law) ({ frames := 5, cells := 0, slots := 0, locals := 129 } : Room) (va_Pc [.ref l0, va_rf l1, va_rf l2, .int l3, .int l4] (r_I D b h)) (r_Q D b (some (.int vv)) hh) 0 0 (fun q => b ≤ q) := by
  refine r_ofW (own := RX7) rfl (by decide +kernel) (by simp [lg_sl, va_cat, cat_i, cat_r, cat_l]) ?_
  intro p e s m args below meth c ls X B hr hk hn hl
  have hl : lv_has ls 6 [(0, .ref l0), (1, va_rf l1), (2, va_rf l2), (3, .int l3), (4, .int l4)] := by simpa [lv_args, va_cat, cat_i, cat_r, cat_l] using hl
  have hl : lv_has ls 6 [(0, va_rf (some l0)), (1, va_rf l1), (2, va_rf l2), (3, .int l3), (4, .int l4)] := hl
  obtain ⟨⟨hx, hb, hml, hown, hts⟩, -⟩ := id X
  generalize s.heap = H at B ⊢
  generalize ([] : List Loc) = locs at B ⊢
  unfold f_X7_waterTried at hf
  refine r_aload_n hx hb dX7_waterTried_0 rfl (lv_at hl 0 rfl) ?_
  refine r_gR X B hf fX7_5 (fun _ _ => rfl) m_53 dX7_waterTried_1 (fun v11 hf => ?_)
  refine rcv_inv hf ?_
  intro a15 e16 s17 hf
  refine cal_inv hf ?_
  intro v12 h13 e14 hf
  refine r_call B (va_runV (As := []) (rest := []) X.1 (c_X2_startFromNow (l := l) (D := D) (b := b) e14) (r_cwV X rfl m_465 m_466 m_467 m_52 m_468 rfl rfl hd_X2_startFromNow ⟨Nat.le_of_ble_eq_true rfl, Nat.le_of_ble_eq_true rfl⟩) (r_preV X B s17 rfl []) rfl rfl hl.1 (by rw [e16]; rfl) (lv_room (by simp [va_cat, cat_i, cat_r, cat_l])) dX7_waterTried_4 ⟨Nat.zero_le _, Nat.zero_le _⟩) ?_
  intro H locs B
  refine W.cs (cells' := 0) (slots' := 0) rfl rfl (W.eq (g2 := F0 m 7 ls []) rfl ?_)
  refine r_aload_n hx hb dX7_waterTried_7 rfl (lv_at hl 2 rfl) ?_
  refine r_ifnull (tgt := 19) hx hb hf dX7_waterTried_8 (by decide) (fun hf e_ => ?_) (fun hf e_ => ?_)
  · exact t_X7_waterTried_19 X hr hk hn  B (lv_sub hl [0, 1, 3, 4] rfl) hf
  · refine r_aload_n hx hb dX7_waterTried_11 rfl (lv_at hl 2 rfl) ?_
    refine r_gR X B hf fX5_3 (fun _ _ => rfl) m_540 dX7_waterTried_12 (fun v18 hf => ?_)
    refine lv_iconst (v := 0) hx hb dX7_waterTried_15 (by decide) ?_
    refine r_pI X B hf fX3_1 (Or.inl rfl) m_248 dX7_waterTried_16 (fun h19 H locs B hf => ?_)
    exact t_X7_waterTried_19 X hr hk hn  B (lv_sub hl [0, 1, 3, 4] rfl) hf
def f_X7_tried_20 (h : AH)  : Option (Int32 × AH) := some ((-1), h)
def f_X7_tried (h : AH) (l0 : Nat) (l1 : Int32) (l2 : Int32) (l3 : Int32) : Option (Int32 × AH) := rcv h (some l0) 7 (fun a4 => cal (f_X7_tankAt h a4 l1) (fun v1 h2 => nul v1 (f_X7_tried_20 h2) (cal (f_X7_mayTry h2 l2 l3) (fun v7 h8 => if v7 = 0 then f_X7_tried_20 h8 else rcv h8 (some l0) 7 (fun a13 => cal (f_X7_waterTried h8 a13 v1 none l2 l3) (fun v10 h11 => some (v10, h11)))))))
set_option maxRecDepth 100000 in
set_option maxHeartbeats 4000000 in
theorem t_X7_tried_20 {p : Program} {l : Launch} {e : Env} {s : State} {m : MethodId} {args : Array Value} {below : List Frame} {meth : Method} {c : Code} {D : RG} {b : Nat} {vv : Int32} {hh : AH} (X : r_C p c cX7_tried 5 s m args RX7 D b) (hr : meth.sig.returnType = (some .int)) (hk : meth.locks = false) (hn : meth.name = "tried") {h : AH} {H : Heap} {locs : List Loc} {ls : Array Slot}  (B : r_B D b s h H locs) (hl : lv_has ls 5 []) (hf : f_X7_tried_20 h  = some (vv, hh)) : W p l e ({ frames := 6, cells := 0, slots := 0, locals := 154 } : Room) s m args below meth c H locs 0 0 (MQ below (r_Q D b (some (.int vv)) hh) args s 0 0 (fun q => b ≤ q)) (F0 m 20 ls []) := by
  obtain ⟨⟨hx, hb, hml, hown, hts⟩, -⟩ := id X
  unfold f_X7_tried_20 at hf
  refine lv_iconst (v := (-1)) hx hb dX7_tried_20 (by decide) ?_
  exact r_iret X B hr hk hf dX7_tried_21
set_option maxRecDepth 100000 in
set_option maxHeartbeats 4000000 in
theorem c_X7_tried {l : Launch} {D : RG} {b : Nat} {h : AH} {l0 : Nat} {l1 : Int32} {l2 : Int32} {l3 : Int32} {vv : Int32} {hh : AH} (hf : f_X7_tried h l0 l1 l2 l3 = some (vv, hh)) : Met l yX7_tried (Cond.code yX7_tried cX7_tried 5 (some .int) :: wsL_law) ({ frames := 6, cells := 0, slots := 0, locals := 154 } : Room) (va_Pc [.ref l0, .int l1, .int l2, .int l3] (r_I D b h)) (r_Q D b (some (.int vv)) hh) 0 0 (fun q => b ≤ q) := by
  refine r_ofW (own := RX7) rfl (by decide +kernel) (by simp [lg_sl, va_cat, cat_i, cat_r, cat_l]) ?_
  intro p e s m args below meth c ls X B hr hk hn hl
  have hl : lv_has ls 5 [(0, .ref l0), (1, .int l1), (2, .int l2), (3, .int l3)] := by simpa [lv_args, va_cat, cat_i, cat_r, cat_l] using hl
  have hl : lv_has ls 5 [(0, va_rf (some l0)), (1, .int l1), (2, .int l2), (3, .int l3)] := hl
  obtain ⟨⟨hx, hb, hml, hown, hts⟩, -⟩ := id X
  generalize s.heap = H at B ⊢
  generalize ([] : List Loc) = locs at B ⊢
  unfold f_X7_tried at hf
  refine r_aload_n hx hb dX7_tried_0 rfl (lv_at hl 0 rfl) ?_
  refine lv_iload_n hx hb dX7_tried_1 rfl (lv_at hl 1 rfl) ?_
  refine rcv_inv hf ?_
  intro a4 e5 s6 hf
  refine cal_inv hf ?_
  intro v1 h2 e3 hf
  refine r_call B (va_runV (As := [.int l1]) (rest := []) X.1 (c_X7_tankAt (l := l) (D := D) (b := b) e3) (r_cwV X rfl m_162 m_163 m_164 m_2 m_165 rfl rfl hd_X7_tankAt ⟨Nat.le_of_ble_eq_true rfl, Nat.le_of_ble_eq_true rfl⟩) (r_preV X B s6 rfl [.int l1]) rfl rfl hl.1 (by rw [e5]; rfl) (lv_room (by simp [va_cat, cat_i, cat_r, cat_l])) dX7_tried_2 ⟨Nat.zero_le _, Nat.zero_le _⟩) ?_
  intro H locs B
  refine W.cs (cells' := 0) (slots' := 0) rfl rfl (W.eq (g2 := F0 m 5 ls [va_rf v1]) rfl ?_)
  refine r_astore (i := 4) (lv' := [(4, va_rf v1), (0, va_rf (some l0)), (1, .int l1), (2, .int l2), (3, .int l3)]) hx hb dX7_tried_5 hl (by decide) (by first | rfl | simp [va_cat, cat_i, cat_r, cat_l]) (fun ls hl => ?_)
  refine r_aload hx hb dX7_tried_7 (lv_at hl 0 rfl) ?_
  refine r_ifnull (tgt := 20) hx hb hf dX7_tried_9 (by decide) (fun hf e_ => ?_) (fun hf e_ => ?_)
  · exact t_X7_tried_20 X hr hk hn  B (lv_sub hl [] rfl) hf
  · refine lv_iload_n hx hb dX7_tried_12 rfl (lv_at hl 3 rfl) ?_
    refine lv_iload_n hx hb dX7_tried_13 rfl (lv_at hl 4 rfl) ?_
    refine cal_inv hf ?_
    intro v7 h8 e9 hf
    refine r_call B (va_runS (As := [.int l2, .int l3]) (rest := []) X.1 (c_X7_mayTry (l := l) (D := D) (b := b) e9) (r_cwS X m_644 m_645 m_2 m_646 rfl rfl hd_X7_mayTry ⟨Nat.le_of_ble_eq_true rfl, Nat.le_of_ble_eq_true rfl⟩) (r_preS X B [.int l2, .int l3]) rfl rfl hl.1 rfl (lv_room (by simp [va_cat, cat_i, cat_r, cat_l])) dX7_tried_14 ⟨Nat.zero_le _, Nat.zero_le _⟩) ?_
    intro H locs B
    refine W.cs (cells' := 0) (slots' := 0) rfl rfl (W.eq (g2 := F0 m 17 ls [.int v7]) rfl ?_)
    refine lv_if_ne (tgt := 22) hx hb dX7_tried_17 (by decide) (fun q_ => ?_) (fun q_ => ?_)
    · have hf := (r_ite hf).2 q_
      refine r_aload_n hx hb dX7_tried_22 rfl (lv_at hl 1 rfl) ?_
      refine r_aload hx hb dX7_tried_23 (lv_at hl 0 rfl) ?_
      refine r_null hx hb dX7_tried_25 ?_
      refine lv_iload_n hx hb dX7_tried_26 rfl (lv_at hl 3 rfl) ?_
      refine lv_iload_n hx hb dX7_tried_27 rfl (lv_at hl 4 rfl) ?_
      refine rcv_inv hf ?_
      intro a13 e14 s15 hf
      refine cal_inv hf ?_
      intro v10 h11 e12 hf
      refine r_call B (va_runV (As := [va_rf v1, va_rf none, .int l2, .int l3]) (rest := []) X.1 (c_X7_waterTried (l := l) (D := D) (b := b) e12) (r_cwV X rfl m_647 m_648 m_649 m_2 m_650 rfl rfl hd_X7_waterTried ⟨Nat.le_of_ble_eq_true rfl, Nat.le_of_ble_eq_true rfl⟩) (r_preV X B s15 rfl [va_rf v1, va_rf none, .int l2, .int l3]) rfl rfl hl.1 (by rw [e14]; rfl) (lv_room (by simp [va_cat, cat_i, cat_r, cat_l])) dX7_tried_28 ⟨Nat.zero_le _, Nat.zero_le _⟩) ?_
      intro H locs B
      refine W.cs (cells' := 0) (slots' := 0) rfl rfl (W.eq (g2 := F0 m 31 ls [.int v10]) rfl ?_)
      exact r_iret X B hr hk hf dX7_tried_31
    · have hf := (r_ite hf).1 q_
      exact t_X7_tried_20 X hr hk hn  B (lv_sub hl [] rfl) hf
def f_X7_lost_38 (h : AH)  : Option (Int32 × AH) := some ((-100000), h)
def f_X7_lost (h : AH) (l0 : Nat) (l1 : Int32) (l2 : Int32) (l3 : Int32) (l4 : Int32) : Option (Int32 × AH) := rcv h (some l0) 7 (fun a4 => cal (f_X7_tankAt h a4 l1) (fun v1 h2 => rcv h2 (some l0) 7 (fun a10 => cal (f_X7_tankAt h2 a10 l2) (fun v7 h8 => nul v1 (f_X7_lost_38 h8) (nul v7 (f_X7_lost_38 h8) (if l2 ≤ l1 then f_X7_lost_38 h8 else cal (f_X7_mayTry h8 l3 l4) (fun v13 h14 => if v13 = 0 then f_X7_lost_38 h14 else rcv h14 (some l0) 7 (fun a19 => cal (f_X7_waterTried h14 a19 v7 v1 l3 l4) (fun v16 h17 => rcv h17 (some l0) 7 (fun a25 => cal (f_X7_waterTried h17 a25 v7 none l3 l4) (fun v22 h23 => some ((v16 - v22), h23))))))))))))
set_option maxRecDepth 100000 in
set_option maxHeartbeats 4000000 in
theorem t_X7_lost_38 {p : Program} {l : Launch} {e : Env} {s : State} {m : MethodId} {args : Array Value} {below : List Frame} {meth : Method} {c : Code} {D : RG} {b : Nat} {vv : Int32} {hh : AH} (X : r_C p c cX7_lost 7 s m args RX7 D b) (hr : meth.sig.returnType = (some .int)) (hk : meth.locks = false) (hn : meth.name = "lost") {h : AH} {H : Heap} {locs : List Loc} {ls : Array Slot}  (B : r_B D b s h H locs) (hl : lv_has ls 7 []) (hf : f_X7_lost_38 h  = some (vv, hh)) : W p l e ({ frames := 6, cells := 0, slots := 0, locals := 154 } : Room) s m args below meth c H locs 0 0 (MQ below (r_Q D b (some (.int vv)) hh) args s 0 0 (fun q => b ≤ q)) (F0 m 38 ls []) := by
  obtain ⟨⟨hx, hb, hml, hown, hts⟩, -⟩ := id X
  unfold f_X7_lost_38 at hf
  refine lv_ldc (v := (-100000)) hx hb hown (hts _ m_670) dX7_lost_38 ?_
  exact r_iret X B hr hk hf dX7_lost_40
set_option maxRecDepth 100000 in
set_option maxHeartbeats 4000000 in
theorem c_X7_lost {l : Launch} {D : RG} {b : Nat} {h : AH} {l0 : Nat} {l1 : Int32} {l2 : Int32} {l3 : Int32} {l4 : Int32} {vv : Int32} {hh : AH} (hf : f_X7_lost h l0 l1 l2 l3 l4 = some (vv, hh)) : Met l yX7_lost (Cond.code yX7_lost cX7_lost 7 (some .int) :: wsL_law) ({ frames := 6, cells := 0, slots := 0, locals := 154 } : Room) (va_Pc [.ref l0, .int l1, .int l2, .int l3, .int l4] (r_I D b h)) (r_Q D b (some (.int vv)) hh) 0 0 (fun q => b ≤ q) := by
  refine r_ofW (own := RX7) rfl (by decide +kernel) (by simp [lg_sl, va_cat, cat_i, cat_r, cat_l]) ?_
  intro p e s m args below meth c ls X B hr hk hn hl
  have hl : lv_has ls 7 [(0, .ref l0), (1, .int l1), (2, .int l2), (3, .int l3), (4, .int l4)] := by simpa [lv_args, va_cat, cat_i, cat_r, cat_l] using hl
  have hl : lv_has ls 7 [(0, va_rf (some l0)), (1, .int l1), (2, .int l2), (3, .int l3), (4, .int l4)] := hl
  obtain ⟨⟨hx, hb, hml, hown, hts⟩, -⟩ := id X
  generalize s.heap = H at B ⊢
  generalize ([] : List Loc) = locs at B ⊢
  unfold f_X7_lost at hf
  refine r_aload_n hx hb dX7_lost_0 rfl (lv_at hl 0 rfl) ?_
  refine lv_iload_n hx hb dX7_lost_1 rfl (lv_at hl 1 rfl) ?_
  refine rcv_inv hf ?_
  intro a4 e5 s6 hf
  refine cal_inv hf ?_
  intro v1 h2 e3 hf
  refine r_call B (va_runV (As := [.int l1]) (rest := []) X.1 (c_X7_tankAt (l := l) (D := D) (b := b) e3) (r_cwV X rfl m_162 m_163 m_164 m_2 m_165 rfl rfl hd_X7_tankAt ⟨Nat.le_of_ble_eq_true rfl, Nat.le_of_ble_eq_true rfl⟩) (r_preV X B s6 rfl [.int l1]) rfl rfl hl.1 (by rw [e5]; rfl) (lv_room (by simp [va_cat, cat_i, cat_r, cat_l])) dX7_lost_2 ⟨Nat.zero_le _, Nat.zero_le _⟩) ?_
  intro H locs B
  refine W.cs (cells' := 0) (slots' := 0) rfl rfl (W.eq (g2 := F0 m 5 ls [va_rf v1]) rfl ?_)
  refine r_astore (i := 5) (lv' := [(5, va_rf v1), (0, va_rf (some l0)), (1, .int l1), (2, .int l2), (3, .int l3), (4, .int l4)]) hx hb dX7_lost_5 hl (by decide) (by first | rfl | simp [va_cat, cat_i, cat_r, cat_l]) (fun ls hl => ?_)
  refine r_aload_n hx hb dX7_lost_7 rfl (lv_at hl 1 rfl) ?_
  refine lv_iload_n hx hb dX7_lost_8 rfl (lv_at hl 3 rfl) ?_
  refine rcv_inv hf ?_
  intro a10 e11 s12 hf
  refine cal_inv hf ?_
  intro v7 h8 e9 hf
  refine r_call B (va_runV (As := [.int l2]) (rest := []) X.1 (c_X7_tankAt (l := l) (D := D) (b := b) e9) (r_cwV X rfl m_162 m_163 m_164 m_2 m_165 rfl rfl hd_X7_tankAt ⟨Nat.le_of_ble_eq_true rfl, Nat.le_of_ble_eq_true rfl⟩) (r_preV X B s12 rfl [.int l2]) rfl rfl hl.1 (by rw [e11]; rfl) (lv_room (by simp [va_cat, cat_i, cat_r, cat_l])) dX7_lost_9 ⟨Nat.zero_le _, Nat.zero_le _⟩) ?_
  intro H locs B
  refine W.cs (cells' := 0) (slots' := 0) rfl rfl (W.eq (g2 := F0 m 12 ls [va_rf v7]) rfl ?_)
  refine r_astore (i := 6) (lv' := [(6, va_rf v7), (5, va_rf v1), (0, va_rf (some l0)), (1, .int l1), (2, .int l2), (3, .int l3), (4, .int l4)]) hx hb dX7_lost_12 hl (by decide) (by first | rfl | simp [va_cat, cat_i, cat_r, cat_l]) (fun ls hl => ?_)
  refine r_aload hx hb dX7_lost_14 (lv_at hl 1 rfl) ?_
  refine r_ifnull (tgt := 38) hx hb hf dX7_lost_16 (by decide) (fun hf e_ => ?_) (fun hf e_ => ?_)
  · exact t_X7_lost_38 X hr hk hn  B (lv_sub hl [] rfl) hf
  · refine r_aload hx hb dX7_lost_19 (lv_at hl 0 rfl) ?_
    refine r_ifnull (tgt := 38) hx hb hf dX7_lost_21 (by decide) (fun hf e_ => ?_) (fun hf e_ => ?_)
    · exact t_X7_lost_38 X hr hk hn  B (lv_sub hl [] rfl) hf
    · refine lv_iload_n hx hb dX7_lost_24 rfl (lv_at hl 4 rfl) ?_
      refine lv_iload_n hx hb dX7_lost_25 rfl (lv_at hl 3 rfl) ?_
      refine lv_icmp_le (tgt := 38) hx hb dX7_lost_26 (by decide) (fun q_ => ?_) (fun q_ => ?_)
      · have hf := (r_ite hf).1 q_
        exact t_X7_lost_38 X hr hk hn  B (lv_sub hl [] rfl) hf
      · have hf := (r_ite hf).2 q_
        refine lv_iload_n hx hb dX7_lost_29 rfl (lv_at hl 5 rfl) ?_
        refine lv_iload hx hb dX7_lost_30 (lv_at hl 6 rfl) ?_
        refine cal_inv hf ?_
        intro v13 h14 e15 hf
        refine r_call B (va_runS (As := [.int l3, .int l4]) (rest := []) X.1 (c_X7_mayTry (l := l) (D := D) (b := b) e15) (r_cwS X m_644 m_645 m_2 m_646 rfl rfl hd_X7_mayTry ⟨Nat.le_of_ble_eq_true rfl, Nat.le_of_ble_eq_true rfl⟩) (r_preS X B [.int l3, .int l4]) rfl rfl hl.1 rfl (lv_room (by simp [va_cat, cat_i, cat_r, cat_l])) dX7_lost_32 ⟨Nat.zero_le _, Nat.zero_le _⟩) ?_
        intro H locs B
        refine W.cs (cells' := 0) (slots' := 0) rfl rfl (W.eq (g2 := F0 m 35 ls [.int v13]) rfl ?_)
        refine lv_if_ne (tgt := 41) hx hb dX7_lost_35 (by decide) (fun q_ => ?_) (fun q_ => ?_)
        · have hf := (r_ite hf).2 q_
          refine r_aload_n hx hb dX7_lost_41 rfl (lv_at hl 2 rfl) ?_
          refine r_aload hx hb dX7_lost_42 (lv_at hl 0 rfl) ?_
          refine r_aload hx hb dX7_lost_44 (lv_at hl 1 rfl) ?_
          refine lv_iload_n hx hb dX7_lost_46 rfl (lv_at hl 5 rfl) ?_
          refine lv_iload hx hb dX7_lost_47 (lv_at hl 6 rfl) ?_
          refine rcv_inv hf ?_
          intro a19 e20 s21 hf
          refine cal_inv hf ?_
          intro v16 h17 e18 hf
          refine r_call B (va_runV (As := [va_rf v7, va_rf v1, .int l3, .int l4]) (rest := []) X.1 (c_X7_waterTried (l := l) (D := D) (b := b) e18) (r_cwV X rfl m_647 m_648 m_649 m_2 m_650 rfl rfl hd_X7_waterTried ⟨Nat.le_of_ble_eq_true rfl, Nat.le_of_ble_eq_true rfl⟩) (r_preV X B s21 rfl [va_rf v7, va_rf v1, .int l3, .int l4]) rfl rfl hl.1 (by rw [e20]; rfl) (lv_room (by simp [va_cat, cat_i, cat_r, cat_l])) dX7_lost_49 ⟨Nat.zero_le _, Nat.zero_le _⟩) ?_
          intro H locs B
          refine W.cs (cells' := 0) (slots' := 0) rfl rfl (W.eq (g2 := F0 m 52 ls [.int v16]) rfl ?_)
          refine r_aload_n hx hb dX7_lost_52 rfl (lv_at hl 2 rfl) ?_
          refine r_aload hx hb dX7_lost_53 (lv_at hl 0 rfl) ?_
          refine r_null hx hb dX7_lost_55 ?_
          refine lv_iload_n hx hb dX7_lost_56 rfl (lv_at hl 5 rfl) ?_
          refine lv_iload hx hb dX7_lost_57 (lv_at hl 6 rfl) ?_
          refine rcv_inv hf ?_
          intro a25 e26 s27 hf
          refine cal_inv hf ?_
          intro v22 h23 e24 hf
          refine r_call B (va_runV (As := [va_rf v7, va_rf none, .int l3, .int l4]) (rest := [.int v16]) X.1 (c_X7_waterTried (l := l) (D := D) (b := b) e24) (r_cwV X rfl m_647 m_648 m_649 m_2 m_650 rfl rfl hd_X7_waterTried ⟨Nat.le_of_ble_eq_true rfl, Nat.le_of_ble_eq_true rfl⟩) (r_preV X B s27 rfl [va_rf v7, va_rf none, .int l3, .int l4]) rfl rfl hl.1 (by rw [e26]; rfl) (lv_room (by simp [va_cat, cat_i, cat_r, cat_l])) dX7_lost_59 ⟨Nat.zero_le _, Nat.zero_le _⟩) ?_
          intro H locs B
          refine W.cs (cells' := 0) (slots' := 0) rfl rfl (W.eq (g2 := F0 m 62 ls [.int v22, .int v16]) rfl ?_)
          refine lv_isub hx hb dX7_lost_62 ?_
          exact r_iret X B hr hk hf dX7_lost_63
        · have hf := (r_ite hf).1 q_
          exact t_X7_lost_38 X hr hk hn  B (lv_sub hl [] rfl) hf
def f_X7_openingIn_4 : Nat → AH → Int32 → Int32 → Int32 → Option (Int32 × AH)
  | 0, _, _, _, _ => none
  | n + 1, h, l1, l2, l3 => if l1 ≤ l3 then rm l2 5 (fun v1 => some ((v1 * 5), h)) else dv l2 5 (fun v2 => bd (l3 + 1) (fun v3 => f_X7_openingIn_4 n h l1 v2 v3))
def f_X7_openingIn (h : AH) (l0 : Int32) (l1 : Int32) : Option (Int32 × AH) := f_X7_openingIn_4 FU h l1 l0 0
set_option maxRecDepth 100000 in
set_option maxHeartbeats 4000000 in
theorem t_X7_openingIn_4 {p : Program} {l : Launch} {e : Env} {s : State} {m : MethodId} {args : Array Value} {below : List Frame} {meth : Method} {c : Code} {D : RG} {b : Nat} {vv : Int32} {hh : AH} (X : r_C p c cX7_openingIn 4 s m args RX7 D b) (hr : meth.sig.returnType = (some .int)) (hk : meth.locks = false) (hn : meth.name = "openingIn") : ∀ (n : Nat) (h : AH) (H : Heap) (locs : List Loc) (ls : Array Slot) (l1 : Int32) (l2 : Int32) (l3 : Int32), r_B D b s h H locs → lv_has ls 4 [(1, .int l1), (2, .int l2), (3, .int l3)] → f_X7_openingIn_4 n h l1 l2 l3 = some (vv, hh) → W p l e ({ frames := 0, cells := 0, slots := 0, locals := 0 } : Room) s m args below meth c H locs 0 0 (MQ below (r_Q D b (some (.int vv)) hh) args s 0 0 (fun q => b ≤ q)) (F0 m 4 ls []) := by
  obtain ⟨⟨hx, hb, hml, hown, hts⟩, -⟩ := id X
  intro n
  induction n with
  | zero =>
    intro h H locs ls l1 l2 l3 B hl hf
    cases hf
  | succ n ih =>
    intro h H locs ls l1 l2 l3 B hl hf
    unfold f_X7_openingIn_4 at hf
    refine lv_iload_n hx hb dX7_openingIn_4 rfl (lv_at hl 2 rfl) ?_
    refine lv_iload_n hx hb dX7_openingIn_5 rfl (lv_at hl 0 rfl) ?_
    refine lv_icmp_ge (tgt := 19) hx hb dX7_openingIn_6 (by decide) (fun q_ => ?_) (fun q_ => ?_)
    · have hf := (r_ite hf).1 q_
      refine lv_iload_n hx hb dX7_openingIn_19 rfl (lv_at hl 1 rfl) ?_
      refine lv_iconst (v := 5) hx hb dX7_openingIn_20 (by decide) ?_
      refine r_rem hx hb hf dX7_openingIn_21 (fun v1 hf => ?_)
      refine lv_iconst (v := 5) hx hb dX7_openingIn_22 (by decide) ?_
      refine lv_imul hx hb dX7_openingIn_23 ?_
      exact r_iret X B hr hk hf dX7_openingIn_24
    · have hf := (r_ite hf).2 q_
      refine lv_iload_n hx hb dX7_openingIn_9 rfl (lv_at hl 1 rfl) ?_
      refine lv_iconst (v := 5) hx hb dX7_openingIn_10 (by decide) ?_
      refine r_div hx hb hf dX7_openingIn_11 (fun v2 hf => ?_)
      refine lv_istore_n (i := 2) (lv' := [(2, .int v2), (1, .int l1), (3, .int l3)]) hx hb dX7_openingIn_12 rfl hl (by decide) (by first | rfl | simp [va_cat, cat_i, cat_r, cat_l]) (fun ls hl => ?_)
      refine r_iinc (lv' := fun v3 => [(3, .int v3), (2, .int v2), (1, .int l1)]) hx hb hf dX7_openingIn_13 hl (k := 2) rfl (by decide) (by decide) (fun v => by first | rfl | simp [va_cat, cat_i, cat_r, cat_l]) (fun v3 ls hl hf => ?_)
      refine lv_goto (tgt := 4) hx hb dX7_openingIn_16 (by decide) ?_
      exact ih _ _ _ _ _ _ _ B (lv_sub hl [2, 1, 0] rfl) hf
set_option maxRecDepth 100000 in
set_option maxHeartbeats 4000000 in
theorem c_X7_openingIn {l : Launch} {D : RG} {b : Nat} {h : AH} {l0 : Int32} {l1 : Int32} {vv : Int32} {hh : AH} (hf : f_X7_openingIn h l0 l1 = some (vv, hh)) : Met l yX7_openingIn (Cond.code yX7_openingIn cX7_openingIn 4 (some .int) :: wsL_law) ({ frames := 0, cells := 0, slots := 0, locals := 0 } : Room) (va_Pc [.int l0, .int l1] (r_I D b h)) (r_Q D b (some (.int vv)) hh) 0 0 (fun q => b ≤ q) := by
  refine r_ofW (own := RX7) rfl (by decide +kernel) (by simp [lg_sl, va_cat, cat_i, cat_r, cat_l]) ?_
  intro p e s m args below meth c ls X B hr hk hn hl
  have hl : lv_has ls 4 [(0, .int l0), (1, .int l1)] := by simpa [lv_args, va_cat, cat_i, cat_r, cat_l] using hl
  have hl : lv_has ls 4 [(0, .int l0), (1, .int l1)] := hl
  obtain ⟨⟨hx, hb, hml, hown, hts⟩, -⟩ := id X
  generalize s.heap = H at B ⊢
  generalize ([] : List Loc) = locs at B ⊢
  unfold f_X7_openingIn at hf
  refine lv_iload_n hx hb dX7_openingIn_0 rfl (lv_at hl 0 rfl) ?_
  refine lv_istore_n (i := 2) (lv' := [(2, .int l0), (0, .int l0), (1, .int l1)]) hx hb dX7_openingIn_1 rfl hl (by decide) (by first | rfl | simp [va_cat, cat_i, cat_r, cat_l]) (fun ls hl => ?_)
  refine lv_iconst (v := 0) hx hb dX7_openingIn_2 (by decide) ?_
  refine lv_istore_n (i := 3) (lv' := [(3, .int 0), (2, .int l0), (0, .int l0), (1, .int l1)]) hx hb dX7_openingIn_3 rfl hl (by decide) (by first | rfl | simp [va_cat, cat_i, cat_r, cat_l]) (fun ls hl => ?_)
  exact t_X7_openingIn_4 X hr hk hn  _ _ _ _ _ _ _ _ B (lv_sub hl [3, 1, 0] rfl) hf
def f_X7_areasFedBy_61 : Nat → AH → Nat → Int32 → Int32 → Int32 → Int32 → Option (Int32 × AH)
  | 0, _, _, _, _, _, _ => none
  | n + 1, h, l0, l4, l5, l6, l7 => if l4 ≤ l7 then some (l6, h) else gR h (some l0) 7 5 (fun v1 => rcv h v1 2 (fun a5 => cal (f_X2_passDay h a5 l5) (fun v2 h3 => gR h3 (some l0) 7 5 (fun v8 => gI h3 v8 2 3 (fun v9 => bd (l6 + v9) (fun v10 => bd (l7 + 1) (fun v11 => f_X7_areasFedBy_61 n h3 l0 l4 l5 v10 v11)))))))
def f_X7_areasFedBy_49 (k_10 : AH → Nat → Int32 → Int32 → Int32 → Int32 → Int32 → Int32 → Option (Int32 × AH)) (h : AH) (l0 : Nat) (l1 : Int32) (l2 : Int32) (l3 : Int32) (l4 : Int32) (l5 : Int32) (l6 : Int32) : Option (Int32 × AH) := bd (l6 + 1) (fun v12 => k_10 h l0 l1 l2 l3 l4 l5 v12)
def f_X7_areasFedBy_10 : Nat → AH → Nat → Int32 → Int32 → Int32 → Int32 → Int32 → Int32 → Option (Int32 × AH)
  | 0, _, _, _, _, _, _, _, _ => none
  | n + 1, h, l0, l1, l2, l3, l4, l5, l6 => if l3 ≤ l6 then f_X7_areasFedBy_61 FU h l0 l4 l5 0 0 else rcv h (some l0) 7 (fun a16 => cal (f_X7_tankAt h a16 (l2 + l6)) (fun v13 h14 => nul v13 (f_X7_areasFedBy_49 (f_X7_areasFedBy_10 n) h14 l0 l1 l2 l3 l4 l5 l6) (gR h14 v13 5 3 (fun v19 => cal (f_X7_openingIn h14 l1 ((l3 - 1) - l6)) (fun v20 h21 => pI h21 v19 3 1 v20 (fun h23 => f_X7_areasFedBy_49 (f_X7_areasFedBy_10 n) h23 l0 l1 l2 l3 l4 l5 l6))))))
def f_X7_areasFedBy (h : AH) (l0 : Nat) (l1 : Int32) (l2 : Int32) (l3 : Int32) (l4 : Int32) (l5 : Int32) : Option (Int32 × AH) := gR h (some l0) 7 5 (fun v24 => rcv h v24 2 (fun a28 => cal (f_X2_startFromNow h a28) (fun v25 h26 => f_X7_areasFedBy_10 FU h26 l0 l1 l2 l3 l4 l5 0)))
set_option maxRecDepth 100000 in
set_option maxHeartbeats 4000000 in
theorem t_X7_areasFedBy_61 {p : Program} {l : Launch} {e : Env} {s : State} {m : MethodId} {args : Array Value} {below : List Frame} {meth : Method} {c : Code} {D : RG} {b : Nat} {vv : Int32} {hh : AH} (X : r_C p c cX7_areasFedBy 8 s m args RX7 D b) (hr : meth.sig.returnType = (some .int)) (hk : meth.locks = false) (hn : meth.name = "areasFedBy") : ∀ (n : Nat) (h : AH) (H : Heap) (locs : List Loc) (ls : Array Slot) (l0 : Nat) (l4 : Int32) (l5 : Int32) (l6 : Int32) (l7 : Int32), r_B D b s h H locs → lv_has ls 8 [(0, va_rf (some l0)), (4, .int l4), (5, .int l5), (6, .int l6), (7, .int l7)] → f_X7_areasFedBy_61 n h l0 l4 l5 l6 l7 = some (vv, hh) → W p l e ({ frames := 5, cells := 0, slots := 0, locals := 129 } : Room) s m args below meth c H locs 0 0 (MQ below (r_Q D b (some (.int vv)) hh) args s 0 0 (fun q => b ≤ q)) (F0 m 61 ls []) := by
  obtain ⟨⟨hx, hb, hml, hown, hts⟩, -⟩ := id X
  intro n
  induction n with
  | zero =>
    intro h H locs ls l0 l4 l5 l6 l7 B hl hf
    cases hf
  | succ n ih =>
    intro h H locs ls l0 l4 l5 l6 l7 B hl hf
    unfold f_X7_areasFedBy_61 at hf
    refine lv_iload hx hb dX7_areasFedBy_61 (lv_at hl 4 rfl) ?_
    refine lv_iload hx hb dX7_areasFedBy_63 (lv_at hl 1 rfl) ?_
    refine lv_icmp_ge (tgt := 95) hx hb dX7_areasFedBy_65 (by decide) (fun q_ => ?_) (fun q_ => ?_)
    · have hf := (r_ite hf).1 q_
      refine lv_iload hx hb dX7_areasFedBy_95 (lv_at hl 3 rfl) ?_
      exact r_iret X B hr hk hf dX7_areasFedBy_97
    · have hf := (r_ite hf).2 q_
      refine r_aload_n hx hb dX7_areasFedBy_68 rfl (lv_at hl 0 rfl) ?_
      refine r_gR X B hf fX7_5 (fun _ _ => rfl) m_53 dX7_areasFedBy_69 (fun v1 hf => ?_)
      refine lv_iload hx hb dX7_areasFedBy_72 (lv_at hl 2 rfl) ?_
      refine rcv_inv hf ?_
      intro a5 e6 s7 hf
      refine cal_inv hf ?_
      intro v2 h3 e4 hf
      refine r_call B (va_runV (As := [.int l5]) (rest := []) X.1 (c_X2_passDay (l := l) (D := D) (b := b) e4) (r_cwV X rfl m_476 m_477 m_478 m_52 m_479 rfl rfl hd_X2_passDay ⟨Nat.le_of_ble_eq_true rfl, Nat.le_of_ble_eq_true rfl⟩) (r_preV X B s7 rfl [.int l5]) rfl rfl hl.1 (by rw [e6]; rfl) (lv_room (by simp [va_cat, cat_i, cat_r, cat_l])) dX7_areasFedBy_74 ⟨Nat.zero_le _, Nat.zero_le _⟩) ?_
      intro H locs B
      refine W.cs (cells' := 0) (slots' := 0) rfl rfl (W.eq (g2 := F0 m 77 ls []) rfl ?_)
      refine lv_iload hx hb dX7_areasFedBy_77 (lv_at hl 3 rfl) ?_
      refine r_aload_n hx hb dX7_areasFedBy_79 rfl (lv_at hl 0 rfl) ?_
      refine r_gR X B hf fX7_5 (fun _ _ => rfl) m_53 dX7_areasFedBy_80 (fun v8 hf => ?_)
      refine r_gI X B hf fX2_3 (fun _ _ => rfl) m_684 dX7_areasFedBy_83 (fun v9 hf => ?_)
      refine lv_iadd hx hb dX7_areasFedBy_86 ?_
      refine r_bd hf (fun v10 hf => ?_)
      refine lv_istore (i := 6) (lv' := [(6, .int v10), (0, va_rf (some l0)), (4, .int l4), (5, .int l5), (7, .int l7)]) hx hb dX7_areasFedBy_87 hl (by decide) (by first | rfl | simp [va_cat, cat_i, cat_r, cat_l]) (fun ls hl => ?_)
      refine r_iinc (lv' := fun v11 => [(7, .int v11), (6, .int v10), (0, va_rf (some l0)), (4, .int l4), (5, .int l5)]) hx hb hf dX7_areasFedBy_89 hl (k := 4) rfl (by decide) (by decide) (fun v => by first | rfl | simp [va_cat, cat_i, cat_r, cat_l]) (fun v11 ls hl hf => ?_)
      refine lv_goto (tgt := 61) hx hb dX7_areasFedBy_92 (by decide) ?_
      exact ih _ _ _ _ _ _ _ _ _ B (lv_sub hl [2, 3, 4, 1, 0] rfl) hf
set_option maxRecDepth 100000 in
set_option maxHeartbeats 4000000 in
theorem t_X7_areasFedBy_49 {p : Program} {l : Launch} {e : Env} {s : State} {m : MethodId} {args : Array Value} {below : List Frame} {meth : Method} {c : Code} {D : RG} {b : Nat} {vv : Int32} {hh : AH} (X : r_C p c cX7_areasFedBy 8 s m args RX7 D b) (hr : meth.sig.returnType = (some .int)) (hk : meth.locks = false) (hn : meth.name = "areasFedBy") {k_10 : AH → Nat → Int32 → Int32 → Int32 → Int32 → Int32 → Int32 → Option (Int32 × AH)} (r_10 : ∀ (h : AH) (H : Heap) (locs : List Loc) (ls : Array Slot) (l0 : Nat) (l1 : Int32) (l2 : Int32) (l3 : Int32) (l4 : Int32) (l5 : Int32) (l6 : Int32), r_B D b s h H locs → lv_has ls 8 [(0, va_rf (some l0)), (1, .int l1), (2, .int l2), (3, .int l3), (4, .int l4), (5, .int l5), (6, .int l6)] → k_10 h l0 l1 l2 l3 l4 l5 l6 = some (vv, hh) → W p l e ({ frames := 5, cells := 0, slots := 0, locals := 129 } : Room) s m args below meth c H locs 0 0 (MQ below (r_Q D b (some (.int vv)) hh) args s 0 0 (fun q => b ≤ q)) (F0 m 10 ls [])) {h : AH} {H : Heap} {locs : List Loc} {ls : Array Slot} {l0 : Nat} {l1 : Int32} {l2 : Int32} {l3 : Int32} {l4 : Int32} {l5 : Int32} {l6 : Int32} (B : r_B D b s h H locs) (hl : lv_has ls 8 [(0, va_rf (some l0)), (1, .int l1), (2, .int l2), (3, .int l3), (4, .int l4), (5, .int l5), (6, .int l6)]) (hf : f_X7_areasFedBy_49 k_10 h l0 l1 l2 l3 l4 l5 l6 = some (vv, hh)) : W p l e ({ frames := 5, cells := 0, slots := 0, locals := 129 } : Room) s m args below meth c H locs 0 0 (MQ below (r_Q D b (some (.int vv)) hh) args s 0 0 (fun q => b ≤ q)) (F0 m 49 ls []) := by
  obtain ⟨⟨hx, hb, hml, hown, hts⟩, -⟩ := id X
  unfold f_X7_areasFedBy_49 at hf
  refine r_iinc (lv' := fun v12 => [(6, .int v12), (0, va_rf (some l0)), (1, .int l1), (2, .int l2), (3, .int l3), (4, .int l4), (5, .int l5)]) hx hb hf dX7_areasFedBy_49 hl (k := 6) rfl (by decide) (by decide) (fun v => by first | rfl | simp [va_cat, cat_i, cat_r, cat_l]) (fun v12 ls hl hf => ?_)
  refine lv_goto (tgt := 10) hx hb dX7_areasFedBy_52 (by decide) ?_
  exact r_10 _ _ _ _ _ _ _ _ _ _ _ B (lv_sub hl [1, 2, 3, 4, 5, 6, 0] rfl) hf
set_option maxRecDepth 100000 in
set_option maxHeartbeats 4000000 in
theorem t_X7_areasFedBy_10 {p : Program} {l : Launch} {e : Env} {s : State} {m : MethodId} {args : Array Value} {below : List Frame} {meth : Method} {c : Code} {D : RG} {b : Nat} {vv : Int32} {hh : AH} (X : r_C p c cX7_areasFedBy 8 s m args RX7 D b) (hr : meth.sig.returnType = (some .int)) (hk : meth.locks = false) (hn : meth.name = "areasFedBy") : ∀ (n : Nat) (h : AH) (H : Heap) (locs : List Loc) (ls : Array Slot) (l0 : Nat) (l1 : Int32) (l2 : Int32) (l3 : Int32) (l4 : Int32) (l5 : Int32) (l6 : Int32), r_B D b s h H locs → lv_has ls 8 [(0, va_rf (some l0)), (1, .int l1), (2, .int l2), (3, .int l3), (4, .int l4), (5, .int l5), (6, .int l6)] → f_X7_areasFedBy_10 n h l0 l1 l2 l3 l4 l5 l6 = some (vv, hh) → W p l e ({ frames := 5, cells := 0, slots := 0, locals := 129 } : Room) s m args below meth c H locs 0 0 (MQ below (r_Q D b (some (.int vv)) hh) args s 0 0 (fun q => b ≤ q)) (F0 m 10 ls []) := by
  obtain ⟨⟨hx, hb, hml, hown, hts⟩, -⟩ := id X
  intro n
  induction n with
  | zero =>
    intro h H locs ls l0 l1 l2 l3 l4 l5 l6 B hl hf
    cases hf
  | succ n ih =>
    intro h H locs ls l0 l1 l2 l3 l4 l5 l6 B hl hf
    unfold f_X7_areasFedBy_10 at hf
    refine lv_iload hx hb dX7_areasFedBy_10 (lv_at hl 6 rfl) ?_
    refine lv_iload_n hx hb dX7_areasFedBy_12 rfl (lv_at hl 3 rfl) ?_
    refine lv_icmp_ge (tgt := 55) hx hb dX7_areasFedBy_13 (by decide) (fun q_ => ?_) (fun q_ => ?_)
    · have hf := (r_ite hf).1 q_
      refine lv_iconst (v := 0) hx hb dX7_areasFedBy_55 (by decide) ?_
      refine lv_istore (i := 6) (lv' := [(6, .int 0), (0, va_rf (some l0)), (1, .int l1), (2, .int l2), (3, .int l3), (4, .int l4), (5, .int l5)]) hx hb dX7_areasFedBy_56 hl (by decide) (by first | rfl | simp [va_cat, cat_i, cat_r, cat_l]) (fun ls hl => ?_)
      refine lv_iconst (v := 0) hx hb dX7_areasFedBy_58 (by decide) ?_
      refine lv_istore (i := 7) (lv' := [(7, .int 0), (6, .int 0), (0, va_rf (some l0)), (1, .int l1), (2, .int l2), (3, .int l3), (4, .int l4), (5, .int l5)]) hx hb dX7_areasFedBy_59 hl (by decide) (by first | rfl | simp [va_cat, cat_i, cat_r, cat_l]) (fun ls hl => ?_)
      exact t_X7_areasFedBy_61 X hr hk hn  _ _ _ _ _ _ _ _ _ _ B (lv_sub hl [2, 6, 7, 1, 0] rfl) hf
    · have hf := (r_ite hf).2 q_
      refine r_aload_n hx hb dX7_areasFedBy_16 rfl (lv_at hl 0 rfl) ?_
      refine lv_iload_n hx hb dX7_areasFedBy_17 rfl (lv_at hl 2 rfl) ?_
      refine lv_iload hx hb dX7_areasFedBy_18 (lv_at hl 6 rfl) ?_
      refine lv_iadd hx hb dX7_areasFedBy_20 ?_
      refine rcv_inv hf ?_
      intro a16 e17 s18 hf
      refine cal_inv hf ?_
      intro v13 h14 e15 hf
      refine r_call B (va_runV (As := [.int (l2 + l6)]) (rest := []) X.1 (c_X7_tankAt (l := l) (D := D) (b := b) e15) (r_cwV X rfl m_162 m_163 m_164 m_2 m_165 rfl rfl hd_X7_tankAt ⟨Nat.le_of_ble_eq_true rfl, Nat.le_of_ble_eq_true rfl⟩) (r_preV X B s18 rfl [.int (l2 + l6)]) rfl rfl hl.1 (by rw [e17]; rfl) (lv_room (by simp [va_cat, cat_i, cat_r, cat_l])) dX7_areasFedBy_21 ⟨Nat.zero_le _, Nat.zero_le _⟩) ?_
      intro H locs B
      refine W.cs (cells' := 0) (slots' := 0) rfl rfl (W.eq (g2 := F0 m 24 ls [va_rf v13]) rfl ?_)
      refine r_astore (i := 7) (lv' := [(7, va_rf v13), (0, va_rf (some l0)), (1, .int l1), (2, .int l2), (3, .int l3), (4, .int l4), (5, .int l5), (6, .int l6)]) hx hb dX7_areasFedBy_24 hl (by decide) (by first | rfl | simp [va_cat, cat_i, cat_r, cat_l]) (fun ls hl => ?_)
      refine r_aload hx hb dX7_areasFedBy_26 (lv_at hl 0 rfl) ?_
      refine r_ifnull (tgt := 49) hx hb hf dX7_areasFedBy_28 (by decide) (fun hf e_ => ?_) (fun hf e_ => ?_)
      · exact t_X7_areasFedBy_49 X hr hk hn ih B (lv_sub hl [1, 2, 3, 4, 5, 6, 7] rfl) hf
      · refine r_aload hx hb dX7_areasFedBy_31 (lv_at hl 0 rfl) ?_
        refine r_gR X B hf fX5_3 (fun _ _ => rfl) m_540 dX7_areasFedBy_33 (fun v19 hf => ?_)
        refine lv_iload_n hx hb dX7_areasFedBy_36 rfl (lv_at hl 2 rfl) ?_
        refine lv_iload_n hx hb dX7_areasFedBy_37 rfl (lv_at hl 4 rfl) ?_
        refine lv_iconst (v := 1) hx hb dX7_areasFedBy_38 (by decide) ?_
        refine lv_isub hx hb dX7_areasFedBy_39 ?_
        refine lv_iload hx hb dX7_areasFedBy_40 (lv_at hl 7 rfl) ?_
        refine lv_isub hx hb dX7_areasFedBy_42 ?_
        refine cal_inv hf ?_
        intro v20 h21 e22 hf
        refine r_call B (va_runS (As := [.int l1, .int ((l3 - 1) - l6)]) (rest := [va_rf v19]) X.1 (c_X7_openingIn (l := l) (D := D) (b := b) e22) (r_cwS X m_685 m_686 m_2 m_687 rfl rfl hd_X7_openingIn ⟨Nat.le_of_ble_eq_true rfl, Nat.le_of_ble_eq_true rfl⟩) (r_preS X B [.int l1, .int ((l3 - 1) - l6)]) rfl rfl hl.1 rfl (lv_room (by simp [va_cat, cat_i, cat_r, cat_l])) dX7_areasFedBy_43 ⟨Nat.zero_le _, Nat.zero_le _⟩) ?_
        intro H locs B
        refine W.cs (cells' := 0) (slots' := 0) rfl rfl (W.eq (g2 := F0 m 46 ls [.int v20, va_rf v19]) rfl ?_)
        refine r_pI X B hf fX3_1 (Or.inl rfl) m_248 dX7_areasFedBy_46 (fun h23 H locs B hf => ?_)
        exact t_X7_areasFedBy_49 X hr hk hn ih B (lv_sub hl [1, 2, 3, 4, 5, 6, 7] rfl) hf
set_option maxRecDepth 100000 in
set_option maxHeartbeats 4000000 in
theorem c_X7_areasFedBy {l : Launch} {D : RG} {b : Nat} {h : AH} {l0 : Nat} {l1 : Int32} {l2 : Int32} {l3 : Int32} {l4 : Int32} {l5 : Int32} {vv : Int32} {hh : AH} (hf : f_X7_areasFedBy h l0 l1 l2 l3 l4 l5 = some (vv, hh)) : Met l yX7_areasFedBy (Cond.code yX7_areasFedBy cX7_areasFedBy 8 (some .int) :: wsL_law) ({ frames := 5, cells := 0, slots := 0, locals := 129 } : Room) (va_Pc [.ref l0, .int l1, .int l2, .int l3, .int l4, .int l5] (r_I D b h)) (r_Q D b (some (.int vv)) hh) 0 0 (fun q => b ≤ q) := by
  refine r_ofW (own := RX7) rfl (by decide +kernel) (by simp [lg_sl, va_cat, cat_i, cat_r, cat_l]) ?_
  intro p e s m args below meth c ls X B hr hk hn hl
  have hl : lv_has ls 8 [(0, .ref l0), (1, .int l1), (2, .int l2), (3, .int l3), (4, .int l4), (5, .int l5)] := by simpa [lv_args, va_cat, cat_i, cat_r, cat_l] using hl
  have hl : lv_has ls 8 [(0, va_rf (some l0)), (1, .int l1), (2, .int l2), (3, .int l3), (4, .int l4), (5, .int l5)] := hl
  obtain ⟨⟨hx, hb, hml, hown, hts⟩, -⟩ := id X
  generalize s.heap = H at B ⊢
  generalize ([] : List Loc) = locs at B ⊢
  unfold f_X7_areasFedBy at hf
  refine r_aload_n hx hb dX7_areasFedBy_0 rfl (lv_at hl 0 rfl) ?_
  refine r_gR X B hf fX7_5 (fun _ _ => rfl) m_53 dX7_areasFedBy_1 (fun v24 hf => ?_)
  refine rcv_inv hf ?_
  intro a28 e29 s30 hf
  refine cal_inv hf ?_
  intro v25 h26 e27 hf
  refine r_call B (va_runV (As := []) (rest := []) X.1 (c_X2_startFromNow (l := l) (D := D) (b := b) e27) (r_cwV X rfl m_465 m_466 m_467 m_52 m_468 rfl rfl hd_X2_startFromNow ⟨Nat.le_of_ble_eq_true rfl, Nat.le_of_ble_eq_true rfl⟩) (r_preV X B s30 rfl []) rfl rfl hl.1 (by rw [e29]; rfl) (lv_room (by simp [va_cat, cat_i, cat_r, cat_l])) dX7_areasFedBy_4 ⟨Nat.zero_le _, Nat.zero_le _⟩) ?_
  intro H locs B
  refine W.cs (cells' := 0) (slots' := 0) rfl rfl (W.eq (g2 := F0 m 7 ls []) rfl ?_)
  refine lv_iconst (v := 0) hx hb dX7_areasFedBy_7 (by decide) ?_
  refine lv_istore (i := 6) (lv' := [(6, .int 0), (0, va_rf (some l0)), (1, .int l1), (2, .int l2), (3, .int l3), (4, .int l4), (5, .int l5)]) hx hb dX7_areasFedBy_8 hl (by decide) (by first | rfl | simp [va_cat, cat_i, cat_r, cat_l]) (fun ls hl => ?_)
  exact t_X7_areasFedBy_10 X hr hk hn  _ _ _ _ _ _ _ _ _ _ _ _ B (lv_sub hl [1, 2, 3, 4, 5, 6, 0] rfl) hf
def f_X7_most_155 (h : AH) (s0 : Int32) : Option (Int32 × AH) := some (s0, h)
def f_X7_most_130 (k_95 : AH → Nat → Int32 → Int32 → Int32 → Int32 → Int32 → Int32 → Int32 → Int32 → Int32 → Option (Int32 × AH)) (h : AH) (l0 : Nat) (l1 : Int32) (l2 : Int32) (l3 : Int32) (l4 : Int32) (l5 : Int32) (l7 : Int32) (l8 : Int32) (l9 : Int32) (l10 : Int32) : Option (Int32 × AH) := bd (l10 + 1) (fun v1 => k_95 h l0 l1 l2 l3 l4 l5 l7 l8 l9 v1)
def f_X7_most_95 : Nat → AH → Nat → Int32 → Int32 → Int32 → Int32 → Int32 → Int32 → Int32 → Int32 → Int32 → Option (Int32 × AH)
  | 0, _, _, _, _, _, _, _, _, _, _, _ => none
  | n + 1, h, l0, l1, l2, l3, l4, l5, l7, l8, l9, l10 => if l7 ≤ l10 then if l5 = 0 then f_X7_most_155 h l8 else cal (f_X7_openingIn h l9 (l2 - l5)) (fun v2 h3 => f_X7_most_155 h3 v2) else rcv h (some l0) 7 (fun a8 => cal (f_X7_areasFedBy h a8 l10 l1 l2 l3 l4) (fun v5 h6 => if v5 ≤ l8 then f_X7_most_130 (f_X7_most_95 n) h6 l0 l1 l2 l3 l4 l5 l7 l8 l9 l10 else f_X7_most_130 (f_X7_most_95 n) h6 l0 l1 l2 l3 l4 l5 l7 v5 l10 l10))
def f_X7_most_68 : Nat → AH → Nat → Int32 → Int32 → Int32 → Int32 → Int32 → Int32 → Int32 → Option (Int32 × AH)
  | 0, _, _, _, _, _, _, _, _, _ => none
  | n + 1, h, l0, l1, l2, l3, l4, l5, l7, l8 => if l2 ≤ l8 then f_X7_most_95 FU h l0 l1 l2 l3 l4 l5 l7 (-1) 0 0 else bd (l7 * 5) (fun v11 => bd (l8 + 1) (fun v12 => f_X7_most_68 n h l0 l1 l2 l3 l4 l5 v11 v12))
def f_X7_most_53 (h : AH) (l0 : Nat) (l1 : Int32) (l2 : Int32) (l3 : Int32) (l4 : Int32) (l5 : Int32) (s0 : Int32) : Option (Int32 × AH) := if s0 = 0 then some ((-1), h) else f_X7_most_68 FU h l0 l1 l2 l3 l4 l5 1 0
def f_X7_most_52 (h : AH) (l0 : Nat) (l1 : Int32) (l2 : Int32) (l3 : Int32) (l4 : Int32) (l5 : Int32) : Option (Int32 × AH) := f_X7_most_53 h l0 l1 l2 l3 l4 l5 0
def f_X7_most (h : AH) (l0 : Nat) (l1 : Int32) (l2 : Int32) (l3 : Int32) (l4 : Int32) (l5 : Int32) : Option (Int32 × AH) := rcv h (some l0) 7 (fun a16 => cal (f_X7_tankAt h a16 l1) (fun v13 h14 => nul v13 (f_X7_most_52 h14 l0 l1 l2 l3 l4 l5) (cal (f_X7_isWithin h14 l2 1 3) (fun v19 h20 => if v19 = 0 then f_X7_most_52 h20 l0 l1 l2 l3 l4 l5 else rcv h20 (some l0) 7 (fun a25 => cal (f_X7_tankAt h20 a25 ((l1 + l2) - 1)) (fun v22 h23 => nul v22 (f_X7_most_52 h23 l0 l1 l2 l3 l4 l5) (cal (f_X7_mayTry h23 l3 l4) (fun v28 h29 => if v28 = 0 then f_X7_most_52 h29 l0 l1 l2 l3 l4 l5 else cal (f_X7_isWithin h29 l5 0 l2) (fun v31 h32 => if v31 = 0 then f_X7_most_52 h32 l0 l1 l2 l3 l4 l5 else f_X7_most_53 h32 l0 l1 l2 l3 l4 l5 1)))))))))
set_option maxRecDepth 100000 in
set_option maxHeartbeats 4000000 in
theorem t_X7_most_155 {p : Program} {l : Launch} {e : Env} {s : State} {m : MethodId} {args : Array Value} {below : List Frame} {meth : Method} {c : Code} {D : RG} {b : Nat} {vv : Int32} {hh : AH} (X : r_C p c cX7_most 12 s m args RX7 D b) (hr : meth.sig.returnType = (some .int)) (hk : meth.locks = false) (hn : meth.name = "most") {h : AH} {H : Heap} {locs : List Loc} {ls : Array Slot} {s0 : Int32} (B : r_B D b s h H locs) (hl : lv_has ls 12 []) (hf : f_X7_most_155 h s0 = some (vv, hh)) : W p l e ({ frames := 6, cells := 0, slots := 0, locals := 156 } : Room) s m args below meth c H locs 0 0 (MQ below (r_Q D b (some (.int vv)) hh) args s 0 0 (fun q => b ≤ q)) (F0 m 155 ls [.int s0]) := by
  obtain ⟨⟨hx, hb, hml, hown, hts⟩, -⟩ := id X
  unfold f_X7_most_155 at hf
  exact r_iret X B hr hk hf dX7_most_155
set_option maxRecDepth 100000 in
set_option maxHeartbeats 4000000 in
theorem t_X7_most_130 {p : Program} {l : Launch} {e : Env} {s : State} {m : MethodId} {args : Array Value} {below : List Frame} {meth : Method} {c : Code} {D : RG} {b : Nat} {vv : Int32} {hh : AH} (X : r_C p c cX7_most 12 s m args RX7 D b) (hr : meth.sig.returnType = (some .int)) (hk : meth.locks = false) (hn : meth.name = "most") {k_95 : AH → Nat → Int32 → Int32 → Int32 → Int32 → Int32 → Int32 → Int32 → Int32 → Int32 → Option (Int32 × AH)} (r_95 : ∀ (h : AH) (H : Heap) (locs : List Loc) (ls : Array Slot) (l0 : Nat) (l1 : Int32) (l2 : Int32) (l3 : Int32) (l4 : Int32) (l5 : Int32) (l7 : Int32) (l8 : Int32) (l9 : Int32) (l10 : Int32), r_B D b s h H locs → lv_has ls 12 [(0, va_rf (some l0)), (1, .int l1), (2, .int l2), (3, .int l3), (4, .int l4), (5, .int l5), (7, .int l7), (8, .int l8), (9, .int l9), (10, .int l10)] → k_95 h l0 l1 l2 l3 l4 l5 l7 l8 l9 l10 = some (vv, hh) → W p l e ({ frames := 6, cells := 0, slots := 0, locals := 156 } : Room) s m args below meth c H locs 0 0 (MQ below (r_Q D b (some (.int vv)) hh) args s 0 0 (fun q => b ≤ q)) (F0 m 95 ls [])) {h : AH} {H : Heap} {locs : List Loc} {ls : Array Slot} {l0 : Nat} {l1 : Int32} {l2 : Int32} {l3 : Int32} {l4 : Int32} {l5 : Int32} {l7 : Int32} {l8 : Int32} {l9 : Int32} {l10 : Int32} (B : r_B D b s h H locs) (hl : lv_has ls 12 [(0, va_rf (some l0)), (1, .int l1), (2, .int l2), (3, .int l3), (4, .int l4), (5, .int l5), (7, .int l7), (8, .int l8), (9, .int l9), (10, .int l10)]) (hf : f_X7_most_130 k_95 h l0 l1 l2 l3 l4 l5 l7 l8 l9 l10 = some (vv, hh)) : W p l e ({ frames := 6, cells := 0, slots := 0, locals := 156 } : Room) s m args below meth c H locs 0 0 (MQ below (r_Q D b (some (.int vv)) hh) args s 0 0 (fun q => b ≤ q)) (F0 m 130 ls []) := by
  obtain ⟨⟨hx, hb, hml, hown, hts⟩, -⟩ := id X
  unfold f_X7_most_130 at hf
  refine r_iinc (lv' := fun v1 => [(10, .int v1), (0, va_rf (some l0)), (1, .int l1), (2, .int l2), (3, .int l3), (4, .int l4), (5, .int l5), (7, .int l7), (8, .int l8), (9, .int l9)]) hx hb hf dX7_most_130 hl (k := 9) rfl (by decide) (by decide) (fun v => by first | rfl | simp [va_cat, cat_i, cat_r, cat_l]) (fun v1 ls hl hf => ?_)
  refine lv_goto (tgt := 95) hx hb dX7_most_133 (by decide) ?_
  exact r_95 _ _ _ _ _ _ _ _ _ _ _ _ _ _ B (lv_sub hl [1, 2, 3, 4, 5, 6, 7, 8, 9, 0] rfl) hf
set_option maxRecDepth 100000 in
set_option maxHeartbeats 4000000 in
theorem t_X7_most_95 {p : Program} {l : Launch} {e : Env} {s : State} {m : MethodId} {args : Array Value} {below : List Frame} {meth : Method} {c : Code} {D : RG} {b : Nat} {vv : Int32} {hh : AH} (X : r_C p c cX7_most 12 s m args RX7 D b) (hr : meth.sig.returnType = (some .int)) (hk : meth.locks = false) (hn : meth.name = "most") : ∀ (n : Nat) (h : AH) (H : Heap) (locs : List Loc) (ls : Array Slot) (l0 : Nat) (l1 : Int32) (l2 : Int32) (l3 : Int32) (l4 : Int32) (l5 : Int32) (l7 : Int32) (l8 : Int32) (l9 : Int32) (l10 : Int32), r_B D b s h H locs → lv_has ls 12 [(0, va_rf (some l0)), (1, .int l1), (2, .int l2), (3, .int l3), (4, .int l4), (5, .int l5), (7, .int l7), (8, .int l8), (9, .int l9), (10, .int l10)] → f_X7_most_95 n h l0 l1 l2 l3 l4 l5 l7 l8 l9 l10 = some (vv, hh) → W p l e ({ frames := 6, cells := 0, slots := 0, locals := 156 } : Room) s m args below meth c H locs 0 0 (MQ below (r_Q D b (some (.int vv)) hh) args s 0 0 (fun q => b ≤ q)) (F0 m 95 ls []) := by
  obtain ⟨⟨hx, hb, hml, hown, hts⟩, -⟩ := id X
  intro n
  induction n with
  | zero =>
    intro h H locs ls l0 l1 l2 l3 l4 l5 l7 l8 l9 l10 B hl hf
    cases hf
  | succ n ih =>
    intro h H locs ls l0 l1 l2 l3 l4 l5 l7 l8 l9 l10 B hl hf
    unfold f_X7_most_95 at hf
    refine lv_iload hx hb dX7_most_95 (lv_at hl 9 rfl) ?_
    refine lv_iload hx hb dX7_most_97 (lv_at hl 6 rfl) ?_
    refine lv_icmp_ge (tgt := 136) hx hb dX7_most_99 (by decide) (fun q_ => ?_) (fun q_ => ?_)
    · have hf := (r_ite hf).1 q_
      refine lv_iload hx hb dX7_most_136 (lv_at hl 5 rfl) ?_
      refine lv_if_ne (tgt := 146) hx hb dX7_most_138 (by decide) (fun q_ => ?_) (fun q_ => ?_)
      · have hf := (r_ite hf).2 q_
        refine lv_iload hx hb dX7_most_146 (lv_at hl 8 rfl) ?_
        refine lv_iload_n hx hb dX7_most_148 rfl (lv_at hl 2 rfl) ?_
        refine lv_iload hx hb dX7_most_149 (lv_at hl 5 rfl) ?_
        refine lv_isub hx hb dX7_most_151 ?_
        refine cal_inv hf ?_
        intro v2 h3 e4 hf
        refine r_call B (va_runS (As := [.int l9, .int (l2 - l5)]) (rest := []) X.1 (c_X7_openingIn (l := l) (D := D) (b := b) e4) (r_cwS X m_685 m_686 m_2 m_687 rfl rfl hd_X7_openingIn ⟨Nat.le_of_ble_eq_true rfl, Nat.le_of_ble_eq_true rfl⟩) (r_preS X B [.int l9, .int (l2 - l5)]) rfl rfl hl.1 rfl (lv_room (by simp [va_cat, cat_i, cat_r, cat_l])) dX7_most_152 ⟨Nat.zero_le _, Nat.zero_le _⟩) ?_
        intro H locs B
        refine W.cs (cells' := 0) (slots' := 0) rfl rfl (W.eq (g2 := F0 m 155 ls [.int v2]) rfl ?_)
        exact t_X7_most_155 X hr hk hn  B (lv_sub hl [] rfl) hf
      · have hf := (r_ite hf).1 q_
        refine lv_iload hx hb dX7_most_141 (lv_at hl 7 rfl) ?_
        refine lv_goto (tgt := 155) hx hb dX7_most_143 (by decide) ?_
        exact t_X7_most_155 X hr hk hn  B (lv_sub hl [] rfl) hf
    · have hf := (r_ite hf).2 q_
      refine r_aload_n hx hb dX7_most_102 rfl (lv_at hl 0 rfl) ?_
      refine lv_iload hx hb dX7_most_103 (lv_at hl 9 rfl) ?_
      refine lv_iload_n hx hb dX7_most_105 rfl (lv_at hl 1 rfl) ?_
      refine lv_iload_n hx hb dX7_most_106 rfl (lv_at hl 2 rfl) ?_
      refine lv_iload_n hx hb dX7_most_107 rfl (lv_at hl 3 rfl) ?_
      refine lv_iload hx hb dX7_most_108 (lv_at hl 4 rfl) ?_
      refine rcv_inv hf ?_
      intro a8 e9 s10 hf
      refine cal_inv hf ?_
      intro v5 h6 e7 hf
      refine r_call B (va_runV (As := [.int l10, .int l1, .int l2, .int l3, .int l4]) (rest := []) X.1 (c_X7_areasFedBy (l := l) (D := D) (b := b) e7) (r_cwV X rfl m_680 m_681 m_682 m_2 m_683 rfl rfl hd_X7_areasFedBy ⟨Nat.le_of_ble_eq_true rfl, Nat.le_of_ble_eq_true rfl⟩) (r_preV X B s10 rfl [.int l10, .int l1, .int l2, .int l3, .int l4]) rfl rfl hl.1 (by rw [e9]; rfl) (lv_room (by simp [va_cat, cat_i, cat_r, cat_l])) dX7_most_110 ⟨Nat.zero_le _, Nat.zero_le _⟩) ?_
      intro H locs B
      refine W.cs (cells' := 0) (slots' := 0) rfl rfl (W.eq (g2 := F0 m 113 ls [.int v5]) rfl ?_)
      refine lv_istore (i := 11) (lv' := [(11, .int v5), (0, va_rf (some l0)), (1, .int l1), (2, .int l2), (3, .int l3), (4, .int l4), (5, .int l5), (7, .int l7), (8, .int l8), (9, .int l9), (10, .int l10)]) hx hb dX7_most_113 hl (by decide) (by first | rfl | simp [va_cat, cat_i, cat_r, cat_l]) (fun ls hl => ?_)
      refine lv_iload hx hb dX7_most_115 (lv_at hl 0 rfl) ?_
      refine lv_iload hx hb dX7_most_117 (lv_at hl 8 rfl) ?_
      refine lv_icmp_le (tgt := 130) hx hb dX7_most_119 (by decide) (fun q_ => ?_) (fun q_ => ?_)
      · have hf := (r_ite hf).1 q_
        exact t_X7_most_130 X hr hk hn ih B (lv_sub hl [1, 2, 3, 4, 5, 6, 7, 8, 9, 10] rfl) hf
      · have hf := (r_ite hf).2 q_
        refine lv_iload hx hb dX7_most_122 (lv_at hl 0 rfl) ?_
        refine lv_istore (i := 8) (lv' := [(8, .int v5), (11, .int v5), (0, va_rf (some l0)), (1, .int l1), (2, .int l2), (3, .int l3), (4, .int l4), (5, .int l5), (7, .int l7), (9, .int l9), (10, .int l10)]) hx hb dX7_most_124 hl (by decide) (by first | rfl | simp [va_cat, cat_i, cat_r, cat_l]) (fun ls hl => ?_)
        refine lv_iload hx hb dX7_most_126 (lv_at hl 10 rfl) ?_
        refine lv_istore (i := 9) (lv' := [(9, .int l10), (8, .int v5), (11, .int v5), (0, va_rf (some l0)), (1, .int l1), (2, .int l2), (3, .int l3), (4, .int l4), (5, .int l5), (7, .int l7), (10, .int l10)]) hx hb dX7_most_128 hl (by decide) (by first | rfl | simp [va_cat, cat_i, cat_r, cat_l]) (fun ls hl => ?_)
        exact t_X7_most_130 X hr hk hn ih B (lv_sub hl [3, 4, 5, 6, 7, 8, 9, 1, 0, 10] rfl) hf
set_option maxRecDepth 100000 in
set_option maxHeartbeats 4000000 in
theorem t_X7_most_68 {p : Program} {l : Launch} {e : Env} {s : State} {m : MethodId} {args : Array Value} {below : List Frame} {meth : Method} {c : Code} {D : RG} {b : Nat} {vv : Int32} {hh : AH} (X : r_C p c cX7_most 12 s m args RX7 D b) (hr : meth.sig.returnType = (some .int)) (hk : meth.locks = false) (hn : meth.name = "most") : ∀ (n : Nat) (h : AH) (H : Heap) (locs : List Loc) (ls : Array Slot) (l0 : Nat) (l1 : Int32) (l2 : Int32) (l3 : Int32) (l4 : Int32) (l5 : Int32) (l7 : Int32) (l8 : Int32), r_B D b s h H locs → lv_has ls 12 [(0, va_rf (some l0)), (1, .int l1), (2, .int l2), (3, .int l3), (4, .int l4), (5, .int l5), (7, .int l7), (8, .int l8)] → f_X7_most_68 n h l0 l1 l2 l3 l4 l5 l7 l8 = some (vv, hh) → W p l e ({ frames := 6, cells := 0, slots := 0, locals := 156 } : Room) s m args below meth c H locs 0 0 (MQ below (r_Q D b (some (.int vv)) hh) args s 0 0 (fun q => b ≤ q)) (F0 m 68 ls []) := by
  obtain ⟨⟨hx, hb, hml, hown, hts⟩, -⟩ := id X
  intro n
  induction n with
  | zero =>
    intro h H locs ls l0 l1 l2 l3 l4 l5 l7 l8 B hl hf
    cases hf
  | succ n ih =>
    intro h H locs ls l0 l1 l2 l3 l4 l5 l7 l8 B hl hf
    unfold f_X7_most_68 at hf
    refine lv_iload hx hb dX7_most_68 (lv_at hl 7 rfl) ?_
    refine lv_iload_n hx hb dX7_most_70 rfl (lv_at hl 2 rfl) ?_
    refine lv_icmp_ge (tgt := 86) hx hb dX7_most_71 (by decide) (fun q_ => ?_) (fun q_ => ?_)
    · have hf := (r_ite hf).1 q_
      refine lv_iconst (v := (-1)) hx hb dX7_most_86 (by decide) ?_
      refine lv_istore (i := 8) (lv' := [(8, .int (-1)), (0, va_rf (some l0)), (1, .int l1), (2, .int l2), (3, .int l3), (4, .int l4), (5, .int l5), (7, .int l7)]) hx hb dX7_most_87 hl (by decide) (by first | rfl | simp [va_cat, cat_i, cat_r, cat_l]) (fun ls hl => ?_)
      refine lv_iconst (v := 0) hx hb dX7_most_89 (by decide) ?_
      refine lv_istore (i := 9) (lv' := [(9, .int 0), (8, .int (-1)), (0, va_rf (some l0)), (1, .int l1), (2, .int l2), (3, .int l3), (4, .int l4), (5, .int l5), (7, .int l7)]) hx hb dX7_most_90 hl (by decide) (by first | rfl | simp [va_cat, cat_i, cat_r, cat_l]) (fun ls hl => ?_)
      refine lv_iconst (v := 0) hx hb dX7_most_92 (by decide) ?_
      refine lv_istore (i := 10) (lv' := [(10, .int 0), (9, .int 0), (8, .int (-1)), (0, va_rf (some l0)), (1, .int l1), (2, .int l2), (3, .int l3), (4, .int l4), (5, .int l5), (7, .int l7)]) hx hb dX7_most_93 hl (by decide) (by first | rfl | simp [va_cat, cat_i, cat_r, cat_l]) (fun ls hl => ?_)
      exact t_X7_most_95 X hr hk hn  _ _ _ _ _ _ _ _ _ _ _ _ _ _ _ B (lv_sub hl [3, 4, 5, 6, 7, 8, 9, 2, 1, 0] rfl) hf
    · have hf := (r_ite hf).2 q_
      refine lv_iload hx hb dX7_most_74 (lv_at hl 6 rfl) ?_
      refine lv_iconst (v := 5) hx hb dX7_most_76 (by decide) ?_
      refine lv_imul hx hb dX7_most_77 ?_
      refine r_bd hf (fun v11 hf => ?_)
      refine lv_istore (i := 7) (lv' := [(7, .int v11), (0, va_rf (some l0)), (1, .int l1), (2, .int l2), (3, .int l3), (4, .int l4), (5, .int l5), (8, .int l8)]) hx hb dX7_most_78 hl (by decide) (by first | rfl | simp [va_cat, cat_i, cat_r, cat_l]) (fun ls hl => ?_)
      refine r_iinc (lv' := fun v12 => [(8, .int v12), (7, .int v11), (0, va_rf (some l0)), (1, .int l1), (2, .int l2), (3, .int l3), (4, .int l4), (5, .int l5)]) hx hb hf dX7_most_80 hl (k := 7) rfl (by decide) (by decide) (fun v => by first | rfl | simp [va_cat, cat_i, cat_r, cat_l]) (fun v12 ls hl hf => ?_)
      refine lv_goto (tgt := 68) hx hb dX7_most_83 (by decide) ?_
      exact ih _ _ _ _ _ _ _ _ _ _ _ _ B (lv_sub hl [2, 3, 4, 5, 6, 7, 1, 0] rfl) hf
set_option maxRecDepth 100000 in
set_option maxHeartbeats 4000000 in
theorem t_X7_most_53 {p : Program} {l : Launch} {e : Env} {s : State} {m : MethodId} {args : Array Value} {below : List Frame} {meth : Method} {c : Code} {D : RG} {b : Nat} {vv : Int32} {hh : AH} (X : r_C p c cX7_most 12 s m args RX7 D b) (hr : meth.sig.returnType = (some .int)) (hk : meth.locks = false) (hn : meth.name = "most") {h : AH} {H : Heap} {locs : List Loc} {ls : Array Slot} {l0 : Nat} {l1 : Int32} {l2 : Int32} {l3 : Int32} {l4 : Int32} {l5 : Int32} {s0 : Int32} (B : r_B D b s h H locs) (hl : lv_has ls 12 [(0, va_rf (some l0)), (1, .int l1), (2, .int l2), (3, .int l3), (4, .int l4), (5, .int l5)]) (hf : f_X7_most_53 h l0 l1 l2 l3 l4 l5 s0 = some (vv, hh)) : W p l e ({ frames := 6, cells := 0, slots := 0, locals := 156 } : Room) s m args below meth c H locs 0 0 (MQ below (r_Q D b (some (.int vv)) hh) args s 0 0 (fun q => b ≤ q)) (F0 m 53 ls [.int s0]) := by
  obtain ⟨⟨hx, hb, hml, hown, hts⟩, -⟩ := id X
  unfold f_X7_most_53 at hf
  refine lv_istore (i := 6) (lv' := [(6, .int s0), (0, va_rf (some l0)), (1, .int l1), (2, .int l2), (3, .int l3), (4, .int l4), (5, .int l5)]) hx hb dX7_most_53 hl (by decide) (by first | rfl | simp [va_cat, cat_i, cat_r, cat_l]) (fun ls hl => ?_)
  refine lv_iload hx hb dX7_most_55 (lv_at hl 0 rfl) ?_
  refine lv_if_ne (tgt := 62) hx hb dX7_most_57 (by decide) (fun q_ => ?_) (fun q_ => ?_)
  · have hf := (r_ite hf).2 q_
    refine lv_iconst (v := 1) hx hb dX7_most_62 (by decide) ?_
    refine lv_istore (i := 7) (lv' := [(7, .int 1), (6, .int s0), (0, va_rf (some l0)), (1, .int l1), (2, .int l2), (3, .int l3), (4, .int l4), (5, .int l5)]) hx hb dX7_most_63 hl (by decide) (by first | rfl | simp [va_cat, cat_i, cat_r, cat_l]) (fun ls hl => ?_)
    refine lv_iconst (v := 0) hx hb dX7_most_65 (by decide) ?_
    refine lv_istore (i := 8) (lv' := [(8, .int 0), (7, .int 1), (6, .int s0), (0, va_rf (some l0)), (1, .int l1), (2, .int l2), (3, .int l3), (4, .int l4), (5, .int l5)]) hx hb dX7_most_66 hl (by decide) (by first | rfl | simp [va_cat, cat_i, cat_r, cat_l]) (fun ls hl => ?_)
    exact t_X7_most_68 X hr hk hn  _ _ _ _ _ _ _ _ _ _ _ _ _ B (lv_sub hl [3, 4, 5, 6, 7, 8, 1, 0] rfl) hf
  · have hf := (r_ite hf).1 q_
    refine lv_iconst (v := (-1)) hx hb dX7_most_60 (by decide) ?_
    exact r_iret X B hr hk hf dX7_most_61
set_option maxRecDepth 100000 in
set_option maxHeartbeats 4000000 in
theorem t_X7_most_52 {p : Program} {l : Launch} {e : Env} {s : State} {m : MethodId} {args : Array Value} {below : List Frame} {meth : Method} {c : Code} {D : RG} {b : Nat} {vv : Int32} {hh : AH} (X : r_C p c cX7_most 12 s m args RX7 D b) (hr : meth.sig.returnType = (some .int)) (hk : meth.locks = false) (hn : meth.name = "most") {h : AH} {H : Heap} {locs : List Loc} {ls : Array Slot} {l0 : Nat} {l1 : Int32} {l2 : Int32} {l3 : Int32} {l4 : Int32} {l5 : Int32} (B : r_B D b s h H locs) (hl : lv_has ls 12 [(0, va_rf (some l0)), (1, .int l1), (2, .int l2), (3, .int l3), (4, .int l4), (5, .int l5)]) (hf : f_X7_most_52 h l0 l1 l2 l3 l4 l5 = some (vv, hh)) : W p l e ({ frames := 6, cells := 0, slots := 0, locals := 156 } : Room) s m args below meth c H locs 0 0 (MQ below (r_Q D b (some (.int vv)) hh) args s 0 0 (fun q => b ≤ q)) (F0 m 52 ls []) := by
  obtain ⟨⟨hx, hb, hml, hown, hts⟩, -⟩ := id X
  unfold f_X7_most_52 at hf
  refine lv_iconst (v := 0) hx hb dX7_most_52 (by decide) ?_
  exact t_X7_most_53 X hr hk hn  B (lv_sub hl [0, 1, 2, 3, 4, 5] rfl) hf
set_option maxRecDepth 100000 in
set_option maxHeartbeats 4000000 in
theorem c_X7_most {l : Launch} {D : RG} {b : Nat} {h : AH} {l0 : Nat} {l1 : Int32} {l2 : Int32} {l3 : Int32} {l4 : Int32} {l5 : Int32} {vv : Int32} {hh : AH} (hf : f_X7_most h l0 l1 l2 l3 l4 l5 = some (vv, hh)) : Met l yX7_most (Cond.code yX7_most cX7_most 12 (some .int) :: wsL_law) ({ frames := 6, cells := 0, slots := 0, locals := 156 } : Room) (va_Pc [.ref l0, .int l1, .int l2, .int l3, .int l4, .int l5] (r_I D b h)) (r_Q D b (some (.int vv)) hh) 0 0 (fun q => b ≤ q) := by
  refine r_ofW (own := RX7) rfl (by decide +kernel) (by simp [lg_sl, va_cat, cat_i, cat_r, cat_l]) ?_
  intro p e s m args below meth c ls X B hr hk hn hl
  have hl : lv_has ls 12 [(0, .ref l0), (1, .int l1), (2, .int l2), (3, .int l3), (4, .int l4), (5, .int l5)] := by simpa [lv_args, va_cat, cat_i, cat_r, cat_l] using hl
  have hl : lv_has ls 12 [(0, va_rf (some l0)), (1, .int l1), (2, .int l2), (3, .int l3), (4, .int l4), (5, .int l5)] := hl
  obtain ⟨⟨hx, hb, hml, hown, hts⟩, -⟩ := id X
  generalize s.heap = H at B ⊢
  generalize ([] : List Loc) = locs at B ⊢
  unfold f_X7_most at hf
  refine r_aload_n hx hb dX7_most_0 rfl (lv_at hl 0 rfl) ?_
  refine lv_iload_n hx hb dX7_most_1 rfl (lv_at hl 1 rfl) ?_
  refine rcv_inv hf ?_
  intro a16 e17 s18 hf
  refine cal_inv hf ?_
  intro v13 h14 e15 hf
  refine r_call B (va_runV (As := [.int l1]) (rest := []) X.1 (c_X7_tankAt (l := l) (D := D) (b := b) e15) (r_cwV X rfl m_162 m_163 m_164 m_2 m_165 rfl rfl hd_X7_tankAt ⟨Nat.le_of_ble_eq_true rfl, Nat.le_of_ble_eq_true rfl⟩) (r_preV X B s18 rfl [.int l1]) rfl rfl hl.1 (by rw [e17]; rfl) (lv_room (by simp [va_cat, cat_i, cat_r, cat_l])) dX7_most_2 ⟨Nat.zero_le _, Nat.zero_le _⟩) ?_
  intro H locs B
  refine W.cs (cells' := 0) (slots' := 0) rfl rfl (W.eq (g2 := F0 m 5 ls [va_rf v13]) rfl ?_)
  refine r_ifnull (tgt := 52) hx hb hf dX7_most_5 (by decide) (fun hf e_ => ?_) (fun hf e_ => ?_)
  · exact t_X7_most_52 X hr hk hn  B (lv_sub hl [0, 1, 2, 3, 4, 5] rfl) hf
  · refine lv_iload_n hx hb dX7_most_8 rfl (lv_at hl 2 rfl) ?_
    refine lv_iconst (v := 1) hx hb dX7_most_9 (by decide) ?_
    refine lv_iconst (v := 3) hx hb dX7_most_10 (by decide) ?_
    refine cal_inv hf ?_
    intro v19 h20 e21 hf
    refine r_call B (va_runS (As := [.int l2, .int 1, .int 3]) (rest := []) X.1 (c_X7_isWithin (l := l) (D := D) (b := b) e21) (r_cwS X m_166 m_167 m_2 m_168 rfl rfl hd_X7_isWithin ⟨Nat.le_of_ble_eq_true rfl, Nat.le_of_ble_eq_true rfl⟩) (r_preS X B [.int l2, .int 1, .int 3]) rfl rfl hl.1 rfl (lv_room (by simp [va_cat, cat_i, cat_r, cat_l])) dX7_most_11 ⟨Nat.zero_le _, Nat.zero_le _⟩) ?_
    intro H locs B
    refine W.cs (cells' := 0) (slots' := 0) rfl rfl (W.eq (g2 := F0 m 14 ls [.int v19]) rfl ?_)
    refine lv_if_eq (tgt := 52) hx hb dX7_most_14 (by decide) (fun q_ => ?_) (fun q_ => ?_)
    · have hf := (r_ite hf).1 q_
      exact t_X7_most_52 X hr hk hn  B (lv_sub hl [0, 1, 2, 3, 4, 5] rfl) hf
    · have hf := (r_ite hf).2 q_
      refine r_aload_n hx hb dX7_most_17 rfl (lv_at hl 0 rfl) ?_
      refine lv_iload_n hx hb dX7_most_18 rfl (lv_at hl 1 rfl) ?_
      refine lv_iload_n hx hb dX7_most_19 rfl (lv_at hl 2 rfl) ?_
      refine lv_iadd hx hb dX7_most_20 ?_
      refine lv_iconst (v := 1) hx hb dX7_most_21 (by decide) ?_
      refine lv_isub hx hb dX7_most_22 ?_
      refine rcv_inv hf ?_
      intro a25 e26 s27 hf
      refine cal_inv hf ?_
      intro v22 h23 e24 hf
      refine r_call B (va_runV (As := [.int ((l1 + l2) - 1)]) (rest := []) X.1 (c_X7_tankAt (l := l) (D := D) (b := b) e24) (r_cwV X rfl m_162 m_163 m_164 m_2 m_165 rfl rfl hd_X7_tankAt ⟨Nat.le_of_ble_eq_true rfl, Nat.le_of_ble_eq_true rfl⟩) (r_preV X B s27 rfl [.int ((l1 + l2) - 1)]) rfl rfl hl.1 (by rw [e26]; rfl) (lv_room (by simp [va_cat, cat_i, cat_r, cat_l])) dX7_most_23 ⟨Nat.zero_le _, Nat.zero_le _⟩) ?_
      intro H locs B
      refine W.cs (cells' := 0) (slots' := 0) rfl rfl (W.eq (g2 := F0 m 26 ls [va_rf v22]) rfl ?_)
      refine r_ifnull (tgt := 52) hx hb hf dX7_most_26 (by decide) (fun hf e_ => ?_) (fun hf e_ => ?_)
      · exact t_X7_most_52 X hr hk hn  B (lv_sub hl [0, 1, 2, 3, 4, 5] rfl) hf
      · refine lv_iload_n hx hb dX7_most_29 rfl (lv_at hl 3 rfl) ?_
        refine lv_iload hx hb dX7_most_30 (lv_at hl 4 rfl) ?_
        refine cal_inv hf ?_
        intro v28 h29 e30 hf
        refine r_call B (va_runS (As := [.int l3, .int l4]) (rest := []) X.1 (c_X7_mayTry (l := l) (D := D) (b := b) e30) (r_cwS X m_644 m_645 m_2 m_646 rfl rfl hd_X7_mayTry ⟨Nat.le_of_ble_eq_true rfl, Nat.le_of_ble_eq_true rfl⟩) (r_preS X B [.int l3, .int l4]) rfl rfl hl.1 rfl (lv_room (by simp [va_cat, cat_i, cat_r, cat_l])) dX7_most_32 ⟨Nat.zero_le _, Nat.zero_le _⟩) ?_
        intro H locs B
        refine W.cs (cells' := 0) (slots' := 0) rfl rfl (W.eq (g2 := F0 m 35 ls [.int v28]) rfl ?_)
        refine lv_if_eq (tgt := 52) hx hb dX7_most_35 (by decide) (fun q_ => ?_) (fun q_ => ?_)
        · have hf := (r_ite hf).1 q_
          exact t_X7_most_52 X hr hk hn  B (lv_sub hl [0, 1, 2, 3, 4, 5] rfl) hf
        · have hf := (r_ite hf).2 q_
          refine lv_iload hx hb dX7_most_38 (lv_at hl 5 rfl) ?_
          refine lv_iconst (v := 0) hx hb dX7_most_40 (by decide) ?_
          refine lv_iload_n hx hb dX7_most_41 rfl (lv_at hl 2 rfl) ?_
          refine cal_inv hf ?_
          intro v31 h32 e33 hf
          refine r_call B (va_runS (As := [.int l5, .int 0, .int l2]) (rest := []) X.1 (c_X7_isWithin (l := l) (D := D) (b := b) e33) (r_cwS X m_166 m_167 m_2 m_168 rfl rfl hd_X7_isWithin ⟨Nat.le_of_ble_eq_true rfl, Nat.le_of_ble_eq_true rfl⟩) (r_preS X B [.int l5, .int 0, .int l2]) rfl rfl hl.1 rfl (lv_room (by simp [va_cat, cat_i, cat_r, cat_l])) dX7_most_42 ⟨Nat.zero_le _, Nat.zero_le _⟩) ?_
          intro H locs B
          refine W.cs (cells' := 0) (slots' := 0) rfl rfl (W.eq (g2 := F0 m 45 ls [.int v31]) rfl ?_)
          refine lv_if_eq (tgt := 52) hx hb dX7_most_45 (by decide) (fun q_ => ?_) (fun q_ => ?_)
          · have hf := (r_ite hf).1 q_
            exact t_X7_most_52 X hr hk hn  B (lv_sub hl [0, 1, 2, 3, 4, 5] rfl) hf
          · have hf := (r_ite hf).2 q_
            refine lv_iconst (v := 1) hx hb dX7_most_48 (by decide) ?_
            refine lv_goto (tgt := 53) hx hb dX7_most_49 (by decide) ?_
            exact t_X7_most_53 X hr hk hn  B (lv_sub hl [0, 1, 2, 3, 4, 5] rfl) hf
def f_X7_breach (h : AH) (l0 : Nat) (l1 : Int32) : Option (Int32 × AH) := if l1 = 0 then gI h (some l0) 7 13 (fun v1 => some (v1, h)) else if l1 = 1 then gI h (some l0) 7 14 (fun v2 => some (v2, h)) else if l1 = 2 then gI h (some l0) 7 12 (fun v3 => some (v3, h)) else some ((-1), h)
set_option maxRecDepth 100000 in
set_option maxHeartbeats 4000000 in
theorem c_X7_breach {l : Launch} {D : RG} {b : Nat} {h : AH} {l0 : Nat} {l1 : Int32} {vv : Int32} {hh : AH} (hf : f_X7_breach h l0 l1 = some (vv, hh)) : Met l yX7_breach (Cond.code yX7_breach cX7_breach 2 (some .int) :: wsL_law) ({ frames := 0, cells := 0, slots := 0, locals := 0 } : Room) (va_Pc [.ref l0, .int l1] (r_I D b h)) (r_Q D b (some (.int vv)) hh) 0 0 (fun q => b ≤ q) := by
  refine r_ofW (own := RX7) rfl (by decide +kernel) (by simp [lg_sl, va_cat, cat_i, cat_r, cat_l]) ?_
  intro p e s m args below meth c ls X B hr hk hn hl
  have hl : lv_has ls 2 [(0, .ref l0), (1, .int l1)] := by simpa [lv_args, va_cat, cat_i, cat_r, cat_l] using hl
  have hl : lv_has ls 2 [(0, va_rf (some l0)), (1, .int l1)] := hl
  obtain ⟨⟨hx, hb, hml, hown, hts⟩, -⟩ := id X
  generalize s.heap = H at B ⊢
  generalize ([] : List Loc) = locs at B ⊢
  unfold f_X7_breach at hf
  refine lv_iload_n hx hb dX7_breach_0 rfl (lv_at hl 1 rfl) ?_
  by_cases q_0 : l1 = 0
  · have hf := (r_ite hf).1 q_0
    refine lv_tableIn (off := 27) (tgt := 28) hx hb dX7_breach_1 (by rw [q_0]; decide) (by rw [q_0]; decide) (by rw [q_0]; rfl) (by decide) ?_
    refine r_aload_n hx hb dX7_breach_28 rfl (lv_at hl 0 rfl) ?_
    refine r_gI X B hf fX7_13 (fun _ _ => rfl) m_37 dX7_breach_29 (fun v1 hf => ?_)
    exact r_iret X B hr hk hf dX7_breach_32
  · have hf := (r_ite hf).2 q_0
    by_cases q_1 : l1 = 1
    · have hf := (r_ite hf).1 q_1
      refine lv_tableIn (off := 32) (tgt := 33) hx hb dX7_breach_1 (by rw [q_1]; decide) (by rw [q_1]; decide) (by rw [q_1]; rfl) (by decide) ?_
      refine r_aload_n hx hb dX7_breach_33 rfl (lv_at hl 0 rfl) ?_
      refine r_gI X B hf fX7_14 (fun _ _ => rfl) m_38 dX7_breach_34 (fun v2 hf => ?_)
      exact r_iret X B hr hk hf dX7_breach_37
    · have hf := (r_ite hf).2 q_1
      by_cases q_2 : l1 = 2
      · have hf := (r_ite hf).1 q_2
        refine lv_tableIn (off := 37) (tgt := 38) hx hb dX7_breach_1 (by rw [q_2]; decide) (by rw [q_2]; decide) (by rw [q_2]; rfl) (by decide) ?_
        refine r_aload_n hx hb dX7_breach_38 rfl (lv_at hl 0 rfl) ?_
        refine r_gI X B hf fX7_12 (fun _ _ => rfl) m_36 dX7_breach_39 (fun v3 hf => ?_)
        exact r_iret X B hr hk hf dX7_breach_42
      · have hf := (r_ite hf).2 q_2
        have w_0 := lv_neT (a := 0) q_0 (by decide)
        have w_1 := lv_neT (a := 1) q_1 (by decide)
        have w_2 := lv_neT (a := 2) q_2 (by decide)
        refine lv_tableOut (tgt := 43) hx hb dX7_breach_1 (by omega) (by decide) ?_
        refine lv_iconst (v := (-1)) hx hb dX7_breach_43 (by decide) ?_
        exact r_iret X B hr hk hf dX7_breach_44
def f_X7_allWater_10 : Nat → AH → Int32 → Option Nat → Option (Int32 × AH)
  | 0, _, _, _ => none
  | n + 1, h, l1, l2 => nul l2 (some (l1, h)) (gR h l2 5 2 (fun v1 => gI h v1 3 0 (fun v2 => bd (l1 + v2) (fun v3 => gR h l2 5 1 (fun v4 => f_X7_allWater_10 n h v3 v4)))))
def f_X7_allWater (h : AH) (l0 : Nat) : Option (Int32 × AH) := gR h (some l0) 7 5 (fun v5 => gR h v5 2 0 (fun v6 => f_X7_allWater_10 FU h 0 v6))
set_option maxRecDepth 100000 in
set_option maxHeartbeats 4000000 in
theorem t_X7_allWater_10 {p : Program} {l : Launch} {e : Env} {s : State} {m : MethodId} {args : Array Value} {below : List Frame} {meth : Method} {c : Code} {D : RG} {b : Nat} {vv : Int32} {hh : AH} (X : r_C p c cX7_allWater 3 s m args RX7 D b) (hr : meth.sig.returnType = (some .int)) (hk : meth.locks = false) (hn : meth.name = "allWater") : ∀ (n : Nat) (h : AH) (H : Heap) (locs : List Loc) (ls : Array Slot) (l1 : Int32) (l2 : Option Nat), r_B D b s h H locs → lv_has ls 3 [(1, .int l1), (2, va_rf l2)] → f_X7_allWater_10 n h l1 l2 = some (vv, hh) → W p l e ({ frames := 0, cells := 0, slots := 0, locals := 0 } : Room) s m args below meth c H locs 0 0 (MQ below (r_Q D b (some (.int vv)) hh) args s 0 0 (fun q => b ≤ q)) (F0 m 10 ls []) := by
  obtain ⟨⟨hx, hb, hml, hown, hts⟩, -⟩ := id X
  intro n
  induction n with
  | zero =>
    intro h H locs ls l1 l2 B hl hf
    cases hf
  | succ n ih =>
    intro h H locs ls l1 l2 B hl hf
    unfold f_X7_allWater_10 at hf
    refine r_aload_n hx hb dX7_allWater_10 rfl (lv_at hl 1 rfl) ?_
    refine r_ifnull (tgt := 32) hx hb hf dX7_allWater_11 (by decide) (fun hf e_ => ?_) (fun hf e_ => ?_)
    · refine lv_iload_n hx hb dX7_allWater_32 rfl (lv_at hl 0 rfl) ?_
      exact r_iret X B hr hk hf dX7_allWater_33
    · refine lv_iload_n hx hb dX7_allWater_14 rfl (lv_at hl 0 rfl) ?_
      refine r_aload_n hx hb dX7_allWater_15 rfl (lv_at hl 1 rfl) ?_
      refine r_gR X B hf fX5_2 (fun _ _ => rfl) m_185 dX7_allWater_16 (fun v1 hf => ?_)
      refine r_gI X B hf fX3_0 (fun _ _ => rfl) m_187 dX7_allWater_19 (fun v2 hf => ?_)
      refine lv_iadd hx hb dX7_allWater_22 ?_
      refine r_bd hf (fun v3 hf => ?_)
      refine lv_istore_n (i := 1) (lv' := [(1, .int v3), (2, va_rf l2)]) hx hb dX7_allWater_23 rfl hl (by decide) (by first | rfl | simp [va_cat, cat_i, cat_r, cat_l]) (fun ls hl => ?_)
      refine r_aload_n hx hb dX7_allWater_24 rfl (lv_at hl 1 rfl) ?_
      refine r_gR X B hf fX5_1 (fun _ _ => rfl) m_407 dX7_allWater_25 (fun v4 hf => ?_)
      refine r_astore_n (i := 2) (lv' := [(2, va_rf v4), (1, .int v3)]) hx hb dX7_allWater_28 rfl hl (by decide) (by first | rfl | simp [va_cat, cat_i, cat_r, cat_l]) (fun ls hl => ?_)
      refine lv_goto (tgt := 10) hx hb dX7_allWater_29 (by decide) ?_
      exact ih _ _ _ _ _ _ B (lv_sub hl [1, 0] rfl) hf
set_option maxRecDepth 100000 in
set_option maxHeartbeats 4000000 in
theorem c_X7_allWater {l : Launch} {D : RG} {b : Nat} {h : AH} {l0 : Nat} {vv : Int32} {hh : AH} (hf : f_X7_allWater h l0 = some (vv, hh)) : Met l yX7_allWater (Cond.code yX7_allWater cX7_allWater 3 (some .int) :: wsL_law) ({ frames := 0, cells := 0, slots := 0, locals := 0 } : Room) (va_Pc [.ref l0] (r_I D b h)) (r_Q D b (some (.int vv)) hh) 0 0 (fun q => b ≤ q) := by
  refine r_ofW (own := RX7) rfl (by decide +kernel) (by simp [lg_sl, va_cat, cat_i, cat_r, cat_l]) ?_
  intro p e s m args below meth c ls X B hr hk hn hl
  have hl : lv_has ls 3 [(0, .ref l0)] := by simpa [lv_args, va_cat, cat_i, cat_r, cat_l] using hl
  have hl : lv_has ls 3 [(0, va_rf (some l0))] := hl
  obtain ⟨⟨hx, hb, hml, hown, hts⟩, -⟩ := id X
  generalize s.heap = H at B ⊢
  generalize ([] : List Loc) = locs at B ⊢
  unfold f_X7_allWater at hf
  refine lv_iconst (v := 0) hx hb dX7_allWater_0 (by decide) ?_
  refine lv_istore_n (i := 1) (lv' := [(1, .int 0), (0, va_rf (some l0))]) hx hb dX7_allWater_1 rfl hl (by decide) (by first | rfl | simp [va_cat, cat_i, cat_r, cat_l]) (fun ls hl => ?_)
  refine r_aload_n hx hb dX7_allWater_2 rfl (lv_at hl 1 rfl) ?_
  refine r_gR X B hf fX7_5 (fun _ _ => rfl) m_53 dX7_allWater_3 (fun v5 hf => ?_)
  refine r_gR X B hf fX2_0 (fun _ _ => rfl) m_405 dX7_allWater_6 (fun v6 hf => ?_)
  refine r_astore_n (i := 2) (lv' := [(2, va_rf v6), (1, .int 0), (0, va_rf (some l0))]) hx hb dX7_allWater_9 rfl hl (by decide) (by first | rfl | simp [va_cat, cat_i, cat_r, cat_l]) (fun ls hl => ?_)
  exact t_X7_allWater_10 X hr hk hn  _ _ _ _ _ _ _ B (lv_sub hl [1, 0] rfl) hf
def f_X7_count (h : AH) (l0 : Nat) (l1 : Int32) : Option (Int32 × AH) := if l1 = 0 then gI h (some l0) 7 8 (fun v1 => some (v1, h)) else if l1 = 1 then gR h (some l0) 7 0 (fun v2 => aL (.object RX5) h v2 (fun v3 => some (v3, h))) else if l1 = 2 then gI h (some l0) 7 7 (fun v4 => some (v4, h)) else if l1 = 3 then rcv h (some l0) 7 (fun a8 => cal (f_X7_allWater h a8) (fun v5 h6 => some (v5, h6))) else if l1 = 4 then gR h (some l0) 7 6 (fun v11 => gI h v11 4 3 (fun v12 => some (v12, h))) else if l1 = 5 then gR h (some l0) 7 6 (fun v13 => gI h v13 4 1 (fun v14 => some (v14, h))) else if l1 = 6 then gR h (some l0) 7 6 (fun v15 => gI h v15 4 2 (fun v16 => some (v16, h))) else if l1 = 7 then gR h (some l0) 7 6 (fun v17 => gI h v17 4 0 (fun v18 => some (v18, h))) else if l1 = 8 then gR h (some l0) 7 2 (fun v19 => gI h v19 6 1 (fun v20 => some (v20, h))) else if l1 = 9 then gI h (some l0) 7 10 (fun v21 => some (v21, h)) else some ((-1), h)
set_option maxRecDepth 100000 in
set_option maxHeartbeats 4000000 in
theorem c_X7_count {l : Launch} {D : RG} {b : Nat} {h : AH} {l0 : Nat} {l1 : Int32} {vv : Int32} {hh : AH} (hf : f_X7_count h l0 l1 = some (vv, hh)) : Met l yX7_count (Cond.code yX7_count cX7_count 2 (some .int) :: wsL_law) ({ frames := 1, cells := 0, slots := 0, locals := 22 } : Room) (va_Pc [.ref l0, .int l1] (r_I D b h)) (r_Q D b (some (.int vv)) hh) 0 0 (fun q => b ≤ q) := by
  refine r_ofW (own := RX7) rfl (by decide +kernel) (by simp [lg_sl, va_cat, cat_i, cat_r, cat_l]) ?_
  intro p e s m args below meth c ls X B hr hk hn hl
  have hl : lv_has ls 2 [(0, .ref l0), (1, .int l1)] := by simpa [lv_args, va_cat, cat_i, cat_r, cat_l] using hl
  have hl : lv_has ls 2 [(0, va_rf (some l0)), (1, .int l1)] := hl
  obtain ⟨⟨hx, hb, hml, hown, hts⟩, -⟩ := id X
  generalize s.heap = H at B ⊢
  generalize ([] : List Loc) = locs at B ⊢
  unfold f_X7_count at hf
  refine lv_iload_n hx hb dX7_count_0 rfl (lv_at hl 1 rfl) ?_
  by_cases q_0 : l1 = 0
  · have hf := (r_ite hf).1 q_0
    refine lv_tableIn (off := 55) (tgt := 56) hx hb dX7_count_1 (by rw [q_0]; decide) (by rw [q_0]; decide) (by rw [q_0]; rfl) (by decide) ?_
    refine r_aload_n hx hb dX7_count_56 rfl (lv_at hl 0 rfl) ?_
    refine r_gI X B hf fX7_8 (fun _ _ => rfl) m_32 dX7_count_57 (fun v1 hf => ?_)
    exact r_iret X B hr hk hf dX7_count_60
  · have hf := (r_ite hf).2 q_0
    by_cases q_1 : l1 = 1
    · have hf := (r_ite hf).1 q_1
      refine lv_tableIn (off := 60) (tgt := 61) hx hb dX7_count_1 (by rw [q_1]; decide) (by rw [q_1]; decide) (by rw [q_1]; rfl) (by decide) ?_
      refine r_aload_n hx hb dX7_count_61 rfl (lv_at hl 0 rfl) ?_
      refine r_gR X B hf fX7_0 (fun _ _ => rfl) m_47 dX7_count_62 (fun v2 hf => ?_)
      refine r_aL X B hf (by decide) dX7_count_65 (fun v3 hf => ?_)
      exact r_iret X B hr hk hf dX7_count_66
    · have hf := (r_ite hf).2 q_1
      by_cases q_2 : l1 = 2
      · have hf := (r_ite hf).1 q_2
        refine lv_tableIn (off := 66) (tgt := 67) hx hb dX7_count_1 (by rw [q_2]; decide) (by rw [q_2]; decide) (by rw [q_2]; rfl) (by decide) ?_
        refine r_aload_n hx hb dX7_count_67 rfl (lv_at hl 0 rfl) ?_
        refine r_gI X B hf fX7_7 (fun _ _ => rfl) m_31 dX7_count_68 (fun v4 hf => ?_)
        exact r_iret X B hr hk hf dX7_count_71
      · have hf := (r_ite hf).2 q_2
        by_cases q_3 : l1 = 3
        · have hf := (r_ite hf).1 q_3
          refine lv_tableIn (off := 71) (tgt := 72) hx hb dX7_count_1 (by rw [q_3]; decide) (by rw [q_3]; decide) (by rw [q_3]; rfl) (by decide) ?_
          refine r_aload_n hx hb dX7_count_72 rfl (lv_at hl 0 rfl) ?_
          refine rcv_inv hf ?_
          intro a8 e9 s10 hf
          refine cal_inv hf ?_
          intro v5 h6 e7 hf
          refine r_call B (va_runV (As := []) (rest := []) X.1 (c_X7_allWater (l := l) (D := D) (b := b) e7) (r_cwV X rfl m_708 m_709 m_710 m_2 m_711 rfl rfl hd_X7_allWater ⟨Nat.le_of_ble_eq_true rfl, Nat.le_of_ble_eq_true rfl⟩) (r_preV X B s10 rfl []) rfl rfl hl.1 (by rw [e9]; rfl) (lv_room (by simp [va_cat, cat_i, cat_r, cat_l])) dX7_count_73 ⟨Nat.zero_le _, Nat.zero_le _⟩) ?_
          intro H locs B
          refine W.cs (cells' := 0) (slots' := 0) rfl rfl (W.eq (g2 := F0 m 76 ls [.int v5]) rfl ?_)
          exact r_iret X B hr hk hf dX7_count_76
        · have hf := (r_ite hf).2 q_3
          by_cases q_4 : l1 = 4
          · have hf := (r_ite hf).1 q_4
            refine lv_tableIn (off := 76) (tgt := 77) hx hb dX7_count_1 (by rw [q_4]; decide) (by rw [q_4]; decide) (by rw [q_4]; rfl) (by decide) ?_
            refine r_aload_n hx hb dX7_count_77 rfl (lv_at hl 0 rfl) ?_
            refine r_gR X B hf fX7_6 (fun _ _ => rfl) m_30 dX7_count_78 (fun v11 hf => ?_)
            refine r_gI X B hf fX4_3 (fun _ _ => rfl) m_704 dX7_count_81 (fun v12 hf => ?_)
            exact r_iret X B hr hk hf dX7_count_84
          · have hf := (r_ite hf).2 q_4
            by_cases q_5 : l1 = 5
            · have hf := (r_ite hf).1 q_5
              refine lv_tableIn (off := 84) (tgt := 85) hx hb dX7_count_1 (by rw [q_5]; decide) (by rw [q_5]; decide) (by rw [q_5]; rfl) (by decide) ?_
              refine r_aload_n hx hb dX7_count_85 rfl (lv_at hl 0 rfl) ?_
              refine r_gR X B hf fX7_6 (fun _ _ => rfl) m_30 dX7_count_86 (fun v13 hf => ?_)
              refine r_gI X B hf fX4_1 (fun _ _ => rfl) m_705 dX7_count_89 (fun v14 hf => ?_)
              exact r_iret X B hr hk hf dX7_count_92
            · have hf := (r_ite hf).2 q_5
              by_cases q_6 : l1 = 6
              · have hf := (r_ite hf).1 q_6
                refine lv_tableIn (off := 92) (tgt := 93) hx hb dX7_count_1 (by rw [q_6]; decide) (by rw [q_6]; decide) (by rw [q_6]; rfl) (by decide) ?_
                refine r_aload_n hx hb dX7_count_93 rfl (lv_at hl 0 rfl) ?_
                refine r_gR X B hf fX7_6 (fun _ _ => rfl) m_30 dX7_count_94 (fun v15 hf => ?_)
                refine r_gI X B hf fX4_2 (fun _ _ => rfl) m_706 dX7_count_97 (fun v16 hf => ?_)
                exact r_iret X B hr hk hf dX7_count_100
              · have hf := (r_ite hf).2 q_6
                by_cases q_7 : l1 = 7
                · have hf := (r_ite hf).1 q_7
                  refine lv_tableIn (off := 100) (tgt := 101) hx hb dX7_count_1 (by rw [q_7]; decide) (by rw [q_7]; decide) (by rw [q_7]; rfl) (by decide) ?_
                  refine r_aload_n hx hb dX7_count_101 rfl (lv_at hl 0 rfl) ?_
                  refine r_gR X B hf fX7_6 (fun _ _ => rfl) m_30 dX7_count_102 (fun v17 hf => ?_)
                  refine r_gI X B hf fX4_0 (fun _ _ => rfl) m_707 dX7_count_105 (fun v18 hf => ?_)
                  exact r_iret X B hr hk hf dX7_count_108
                · have hf := (r_ite hf).2 q_7
                  by_cases q_8 : l1 = 8
                  · have hf := (r_ite hf).1 q_8
                    refine lv_tableIn (off := 108) (tgt := 109) hx hb dX7_count_1 (by rw [q_8]; decide) (by rw [q_8]; decide) (by rw [q_8]; rfl) (by decide) ?_
                    refine r_aload_n hx hb dX7_count_109 rfl (lv_at hl 0 rfl) ?_
                    refine r_gR X B hf fX7_2 (fun _ _ => rfl) m_21 dX7_count_110 (fun v19 hf => ?_)
                    refine r_gI X B hf fX6_1 (fun _ _ => rfl) m_274 dX7_count_113 (fun v20 hf => ?_)
                    exact r_iret X B hr hk hf dX7_count_116
                  · have hf := (r_ite hf).2 q_8
                    by_cases q_9 : l1 = 9
                    · have hf := (r_ite hf).1 q_9
                      refine lv_tableIn (off := 116) (tgt := 117) hx hb dX7_count_1 (by rw [q_9]; decide) (by rw [q_9]; decide) (by rw [q_9]; rfl) (by decide) ?_
                      refine r_aload_n hx hb dX7_count_117 rfl (lv_at hl 0 rfl) ?_
                      refine r_gI X B hf fX7_10 (fun _ _ => rfl) m_34 dX7_count_118 (fun v21 hf => ?_)
                      exact r_iret X B hr hk hf dX7_count_121
                    · have hf := (r_ite hf).2 q_9
                      have w_0 := lv_neT (a := 0) q_0 (by decide)
                      have w_1 := lv_neT (a := 1) q_1 (by decide)
                      have w_2 := lv_neT (a := 2) q_2 (by decide)
                      have w_3 := lv_neT (a := 3) q_3 (by decide)
                      have w_4 := lv_neT (a := 4) q_4 (by decide)
                      have w_5 := lv_neT (a := 5) q_5 (by decide)
                      have w_6 := lv_neT (a := 6) q_6 (by decide)
                      have w_7 := lv_neT (a := 7) q_7 (by decide)
                      have w_8 := lv_neT (a := 8) q_8 (by decide)
                      have w_9 := lv_neT (a := 9) q_9 (by decide)
                      refine lv_tableOut (tgt := 122) hx hb dX7_count_1 (by omega) (by decide) ?_
                      refine lv_iconst (v := (-1)) hx hb dX7_count_122 (by decide) ?_
                      exact r_iret X B hr hk hf dX7_count_123
def f_X8_init_266 : Nat → AH → Nat → Int32 → Option (Unit × AH)
  | 0, _, _, _ => none
  | n + 1, h, l0, l2 => if 11 ≤ l2 then some ((), h) else gR h (some l0) 8 5 (fun v1 => sI .int h v1 l2 100 (fun h2 => gR h2 (some l0) 8 6 (fun v3 => sI .int h2 v3 l2 50 (fun h4 => gR h4 (some l0) 8 12 (fun v5 => sI .int h4 v5 l2 (-1) (fun h6 => bd (l2 + 1) (fun v7 => f_X8_init_266 n h6 l0 v7)))))))
def f_X8_init (h : AH) (l0 : Nat) (l1 : Int32) : Option (Unit × AH) := nA h .int 11 11 (fun a8 h9 => pR h9 (some l0) 8 4 (some a8) (fun h10 => nA h10 .int 11 11 (fun a11 h12 => pR h12 (some l0) 8 5 (some a11) (fun h13 => nA h13 .int 11 11 (fun a14 h15 => pR h15 (some l0) 8 6 (some a14) (fun h16 => nA h16 .int 11 11 (fun a17 h18 => pR h18 (some l0) 8 7 (some a17) (fun h19 => nA h19 .int 11 11 (fun a20 h21 => pR h21 (some l0) 8 8 (some a20) (fun h22 => nA h22 .int 11 11 (fun a23 h24 => pR h24 (some l0) 8 9 (some a23) (fun h25 => nA h25 .int 11 11 (fun a26 h27 => pR h27 (some l0) 8 10 (some a26) (fun h28 => nA h28 .int 11 11 (fun a29 h30 => pR h30 (some l0) 8 11 (some a29) (fun h31 => nA h31 .int 11 11 (fun a32 h33 => pR h33 (some l0) 8 12 (some a32) (fun h34 => nA h34 .boolean 11 11 (fun a35 h36 => pR h36 (some l0) 8 13 (some a35) (fun h37 => nA h37 .int 40 40 (fun a38 h39 => pR h39 (some l0) 8 14 (some a38) (fun h40 => nA h40 .int 40 40 (fun a41 h42 => pR h42 (some l0) 8 15 (some a41) (fun h43 => nA h43 .int 40 40 (fun a44 h45 => pR h45 (some l0) 8 16 (some a44) (fun h46 => nA h46 .int 40 40 (fun a47 h48 => pR h48 (some l0) 8 17 (some a47) (fun h49 => nA h49 .int 40 40 (fun a50 h51 => pR h51 (some l0) 8 18 (some a50) (fun h52 => nA h52 .int 40 40 (fun a53 h54 => pR h54 (some l0) 8 19 (some a53) (fun h55 => nA h55 .int 40 40 (fun a56 h57 => pR h57 (some l0) 8 20 (some a56) (fun h58 => nA h58 .boolean 40 40 (fun a59 h60 => pR h60 (some l0) 8 21 (some a59) (fun h61 => nA h61 .int 10 10 (fun a62 h63 => pR h63 (some l0) 8 22 (some a62) (fun h64 => pI h64 (some l0) 8 28 (-1) (fun h65 => pI h65 (some l0) 8 29 (-1) (fun h66 => pI h66 (some l0) 8 30 (-1) (fun h67 => nA h67 .byte 300 300 (fun a68 h69 => pR h69 (some l0) 8 31 (some a68) (fun h70 => nA h70 .byte 300 300 (fun a71 h72 => pR h72 (some l0) 8 32 (some a71) (fun h73 => pI h73 (some l0) 8 36 (-1) (fun h74 => nA h74 .int 28 28 (fun a75 h76 => pR h76 (some l0) 8 37 (some a75) (fun h77 => nA h77 .int 40 40 (fun a78 h79 => pR h79 (some l0) 8 41 (some a78) (fun h80 => nA h80 .int 40 40 (fun a81 h82 => pR h82 (some l0) 8 42 (some a81) (fun h83 => nA h83 .boolean 40 40 (fun a84 h85 => pR h85 (some l0) 8 43 (some a84) (fun h86 => nA h86 .int 11 11 (fun a87 h88 => pR h88 (some l0) 8 44 (some a87) (fun h89 => nA h89 .int 11 11 (fun a90 h91 => pR h91 (some l0) 8 45 (some a90) (fun h92 => nA h92 .boolean 11 11 (fun a93 h94 => pR h94 (some l0) 8 46 (some a93) (fun h95 => bd (mn 11 l1) (fun v96 => bd (mx 2 v96) (fun v97 => pI h95 (some l0) 8 0 v97 (fun h98 => f_X8_init_266 FU h98 l0 0)))))))))))))))))))))))))))))))))))))))))))))))))))))))))))))))
set_option maxRecDepth 100000 in
set_option maxHeartbeats 4000000 in
theorem t_X8_init_266 {p : Program} {l : Launch} {e : Env} {s : State} {m : MethodId} {args : Array Value} {below : List Frame} {meth : Method} {c : Code} {D : RG} {b : Nat} {vv : Unit} {hh : AH} (X : r_C p c cX8_init 3 s m args RX8 D b) (hr : meth.sig.returnType = none) (hk : meth.locks = false) (hn : meth.name = "<init>") : ∀ (n : Nat) (h : AH) (H : Heap) (locs : List Loc) (ls : Array Slot) (l0 : Nat) (l2 : Int32), r_B D b s h H locs → lv_has ls 3 [(0, va_rf (some l0)), (2, .int l2)] → f_X8_init_266 n h l0 l2 = some (vv, hh) → W p l e ({ frames := 1, cells := 28, slots := 1221, locals := 21 } : Room) s m args below meth c H locs 28 1221 (MQ below (r_Q D b none hh) args s 28 1221 (fun q => b ≤ q)) (F0 m 266 ls []) := by
  obtain ⟨⟨hx, hb, hml, hown, hts⟩, -⟩ := id X
  intro n
  induction n with
  | zero =>
    intro h H locs ls l0 l2 B hl hf
    cases hf
  | succ n ih =>
    intro h H locs ls l0 l2 B hl hf
    unfold f_X8_init_266 at hf
    refine lv_iload_n hx hb dX8_init_266 rfl (lv_at hl 1 rfl) ?_
    refine lv_bipush (v := 11) hx hb dX8_init_267 (by decide) ?_
    refine lv_icmp_ge (tgt := 301) hx hb dX8_init_269 (by decide) (fun q_ => ?_) (fun q_ => ?_)
    · have hf := (r_ite hf).1 q_
      exact r_vret X B hr hk hf dX8_init_301
    · have hf := (r_ite hf).2 q_
      refine r_aload_n hx hb dX8_init_272 rfl (lv_at hl 0 rfl) ?_
      refine r_gR X B hf fX8_5 (fun _ _ => rfl) m_120 dX8_init_273 (fun v1 hf => ?_)
      refine lv_iload_n hx hb dX8_init_276 rfl (lv_at hl 1 rfl) ?_
      refine lv_bipush (v := 100) hx hb dX8_init_277 (by decide) ?_
      refine r_sIi X B hf dX8_init_279 (fun h2 H locs B hf => ?_)
      refine r_aload_n hx hb dX8_init_280 rfl (lv_at hl 0 rfl) ?_
      refine r_gR X B hf fX8_6 (fun _ _ => rfl) m_121 dX8_init_281 (fun v3 hf => ?_)
      refine lv_iload_n hx hb dX8_init_284 rfl (lv_at hl 1 rfl) ?_
      refine lv_bipush (v := 50) hx hb dX8_init_285 (by decide) ?_
      refine r_sIi X B hf dX8_init_287 (fun h4 H locs B hf => ?_)
      refine r_aload_n hx hb dX8_init_288 rfl (lv_at hl 0 rfl) ?_
      refine r_gR X B hf fX8_12 (fun _ _ => rfl) m_127 dX8_init_289 (fun v5 hf => ?_)
      refine lv_iload_n hx hb dX8_init_292 rfl (lv_at hl 1 rfl) ?_
      refine lv_iconst (v := (-1)) hx hb dX8_init_293 (by decide) ?_
      refine r_sIi X B hf dX8_init_294 (fun h6 H locs B hf => ?_)
      refine r_iinc (lv' := fun v7 => [(2, .int v7), (0, va_rf (some l0))]) hx hb hf dX8_init_295 hl (k := 1) rfl (by decide) (by decide) (fun v => by first | rfl | simp [va_cat, cat_i, cat_r, cat_l]) (fun v7 ls hl hf => ?_)
      refine lv_goto (tgt := 266) hx hb dX8_init_298 (by decide) ?_
      exact ih _ _ _ _ _ _ B (lv_sub hl [1, 0] rfl) hf
set_option maxRecDepth 100000 in
set_option maxHeartbeats 4000000 in
theorem c_X8_init {l : Launch} {D : RG} {b : Nat} {h : AH} {l0 : Nat} {l1 : Int32} {vv : Unit} {hh : AH} (hf : f_X8_init h l0 l1 = some (vv, hh)) : Met l yX8_init (Cond.code yX8_init cX8_init 3 none :: wsL_law) ({ frames := 1, cells := 28, slots := 1221, locals := 21 } : Room) (va_Pc [.ref l0, .int l1] (r_I D b h)) (r_Q D b none hh) 28 1221 (fun q => b ≤ q) := by
  refine r_ofW (own := RX8) rfl (by decide +kernel) (by simp [lg_sl, va_cat, cat_i, cat_r, cat_l]) ?_
  intro p e s m args below meth c ls X B hr hk hn hl
  have hl : lv_has ls 3 [(0, .ref l0), (1, .int l1)] := by simpa [lv_args, va_cat, cat_i, cat_r, cat_l] using hl
  have hl : lv_has ls 3 [(0, va_rf (some l0)), (1, .int l1)] := hl
  obtain ⟨⟨hx, hb, hml, hown, hts⟩, -⟩ := id X
  generalize s.heap = H at B ⊢
  generalize ([] : List Loc) = locs at B ⊢
  unfold f_X8_init at hf
  refine r_aload_n hx hb dX8_init_0 rfl (lv_at hl 0 rfl) ?_
  refine W.objInit hx hb hown (hts _ m_118) (hts _ m_14) (hts _ m_15) rfl (by rw [hml]; exact hl.1) rfl dX8_init_1 (Nat.le_of_ble_eq_true rfl) (Nat.le_of_ble_eq_true rfl) ?_
  refine W.eq (g2 := F0 m 4 ls []) rfl ?_
  refine r_aload_n hx hb dX8_init_4 rfl (lv_at hl 0 rfl) ?_
  refine lv_bipush (v := 11) hx hb dX8_init_5 (by decide) ?_
  refine r_newA X B hf rfl (by decide) m_67 (Nat.le_of_ble_eq_true rfl) (by decide) (by decide) rfl (fun _ _ z => z) dX8_init_7 (fun a8 h9 H B hf => ?_)
  refine W.cs (cells' := 1) (slots' := 11) rfl rfl ?_
  refine r_pR X B hf fX8_4 rfl (Or.inr ⟨rfl, hn, rfl⟩) m_119 dX8_init_9 (fun h10 H locs B hf => ?_)
  refine r_aload_n hx hb dX8_init_12 rfl (lv_at hl 0 rfl) ?_
  refine lv_bipush (v := 11) hx hb dX8_init_13 (by decide) ?_
  refine r_newA X B hf rfl (by decide) m_67 (Nat.le_of_ble_eq_true rfl) (by decide) (by decide) rfl (fun _ _ z => z) dX8_init_15 (fun a11 h12 H B hf => ?_)
  refine W.cs (cells' := 2) (slots' := 22) rfl rfl ?_
  refine r_pR X B hf fX8_5 rfl (Or.inr ⟨rfl, hn, rfl⟩) m_120 dX8_init_17 (fun h13 H locs B hf => ?_)
  refine r_aload_n hx hb dX8_init_20 rfl (lv_at hl 0 rfl) ?_
  refine lv_bipush (v := 11) hx hb dX8_init_21 (by decide) ?_
  refine r_newA X B hf rfl (by decide) m_67 (Nat.le_of_ble_eq_true rfl) (by decide) (by decide) rfl (fun _ _ z => z) dX8_init_23 (fun a14 h15 H B hf => ?_)
  refine W.cs (cells' := 3) (slots' := 33) rfl rfl ?_
  refine r_pR X B hf fX8_6 rfl (Or.inr ⟨rfl, hn, rfl⟩) m_121 dX8_init_25 (fun h16 H locs B hf => ?_)
  refine r_aload_n hx hb dX8_init_28 rfl (lv_at hl 0 rfl) ?_
  refine lv_bipush (v := 11) hx hb dX8_init_29 (by decide) ?_
  refine r_newA X B hf rfl (by decide) m_67 (Nat.le_of_ble_eq_true rfl) (by decide) (by decide) rfl (fun _ _ z => z) dX8_init_31 (fun a17 h18 H B hf => ?_)
  refine W.cs (cells' := 4) (slots' := 44) rfl rfl ?_
  refine r_pR X B hf fX8_7 rfl (Or.inr ⟨rfl, hn, rfl⟩) m_122 dX8_init_33 (fun h19 H locs B hf => ?_)
  refine r_aload_n hx hb dX8_init_36 rfl (lv_at hl 0 rfl) ?_
  refine lv_bipush (v := 11) hx hb dX8_init_37 (by decide) ?_
  refine r_newA X B hf rfl (by decide) m_67 (Nat.le_of_ble_eq_true rfl) (by decide) (by decide) rfl (fun _ _ z => z) dX8_init_39 (fun a20 h21 H B hf => ?_)
  refine W.cs (cells' := 5) (slots' := 55) rfl rfl ?_
  refine r_pR X B hf fX8_8 rfl (Or.inr ⟨rfl, hn, rfl⟩) m_123 dX8_init_41 (fun h22 H locs B hf => ?_)
  refine r_aload_n hx hb dX8_init_44 rfl (lv_at hl 0 rfl) ?_
  refine lv_bipush (v := 11) hx hb dX8_init_45 (by decide) ?_
  refine r_newA X B hf rfl (by decide) m_67 (Nat.le_of_ble_eq_true rfl) (by decide) (by decide) rfl (fun _ _ z => z) dX8_init_47 (fun a23 h24 H B hf => ?_)
  refine W.cs (cells' := 6) (slots' := 66) rfl rfl ?_
  refine r_pR X B hf fX8_9 rfl (Or.inr ⟨rfl, hn, rfl⟩) m_124 dX8_init_49 (fun h25 H locs B hf => ?_)
  refine r_aload_n hx hb dX8_init_52 rfl (lv_at hl 0 rfl) ?_
  refine lv_bipush (v := 11) hx hb dX8_init_53 (by decide) ?_
  refine r_newA X B hf rfl (by decide) m_67 (Nat.le_of_ble_eq_true rfl) (by decide) (by decide) rfl (fun _ _ z => z) dX8_init_55 (fun a26 h27 H B hf => ?_)
  refine W.cs (cells' := 7) (slots' := 77) rfl rfl ?_
  refine r_pR X B hf fX8_10 rfl (Or.inr ⟨rfl, hn, rfl⟩) m_125 dX8_init_57 (fun h28 H locs B hf => ?_)
  refine r_aload_n hx hb dX8_init_60 rfl (lv_at hl 0 rfl) ?_
  refine lv_bipush (v := 11) hx hb dX8_init_61 (by decide) ?_
  refine r_newA X B hf rfl (by decide) m_67 (Nat.le_of_ble_eq_true rfl) (by decide) (by decide) rfl (fun _ _ z => z) dX8_init_63 (fun a29 h30 H B hf => ?_)
  refine W.cs (cells' := 8) (slots' := 88) rfl rfl ?_
  refine r_pR X B hf fX8_11 rfl (Or.inr ⟨rfl, hn, rfl⟩) m_126 dX8_init_65 (fun h31 H locs B hf => ?_)
  refine r_aload_n hx hb dX8_init_68 rfl (lv_at hl 0 rfl) ?_
  refine lv_bipush (v := 11) hx hb dX8_init_69 (by decide) ?_
  refine r_newA X B hf rfl (by decide) m_67 (Nat.le_of_ble_eq_true rfl) (by decide) (by decide) rfl (fun _ _ z => z) dX8_init_71 (fun a32 h33 H B hf => ?_)
  refine W.cs (cells' := 9) (slots' := 99) rfl rfl ?_
  refine r_pR X B hf fX8_12 rfl (Or.inr ⟨rfl, hn, rfl⟩) m_127 dX8_init_73 (fun h34 H locs B hf => ?_)
  refine r_aload_n hx hb dX8_init_76 rfl (lv_at hl 0 rfl) ?_
  refine lv_bipush (v := 11) hx hb dX8_init_77 (by decide) ?_
  refine r_newA X B hf rfl (by decide) m_128 (Nat.le_of_ble_eq_true rfl) (by decide) (by decide) rfl (fun _ _ z => z) dX8_init_79 (fun a35 h36 H B hf => ?_)
  refine W.cs (cells' := 10) (slots' := 110) rfl rfl ?_
  refine r_pR X B hf fX8_13 rfl (Or.inr ⟨rfl, hn, rfl⟩) m_129 dX8_init_81 (fun h37 H locs B hf => ?_)
  refine r_aload_n hx hb dX8_init_84 rfl (lv_at hl 0 rfl) ?_
  refine lv_bipush (v := 40) hx hb dX8_init_85 (by decide) ?_
  refine r_newA X B hf rfl (by decide) m_67 (Nat.le_of_ble_eq_true rfl) (by decide) (by decide) rfl (fun _ _ z => z) dX8_init_87 (fun a38 h39 H B hf => ?_)
  refine W.cs (cells' := 11) (slots' := 150) rfl rfl ?_
  refine r_pR X B hf fX8_14 rfl (Or.inr ⟨rfl, hn, rfl⟩) m_130 dX8_init_89 (fun h40 H locs B hf => ?_)
  refine r_aload_n hx hb dX8_init_92 rfl (lv_at hl 0 rfl) ?_
  refine lv_bipush (v := 40) hx hb dX8_init_93 (by decide) ?_
  refine r_newA X B hf rfl (by decide) m_67 (Nat.le_of_ble_eq_true rfl) (by decide) (by decide) rfl (fun _ _ z => z) dX8_init_95 (fun a41 h42 H B hf => ?_)
  refine W.cs (cells' := 12) (slots' := 190) rfl rfl ?_
  refine r_pR X B hf fX8_15 rfl (Or.inr ⟨rfl, hn, rfl⟩) m_131 dX8_init_97 (fun h43 H locs B hf => ?_)
  refine r_aload_n hx hb dX8_init_100 rfl (lv_at hl 0 rfl) ?_
  refine lv_bipush (v := 40) hx hb dX8_init_101 (by decide) ?_
  refine r_newA X B hf rfl (by decide) m_67 (Nat.le_of_ble_eq_true rfl) (by decide) (by decide) rfl (fun _ _ z => z) dX8_init_103 (fun a44 h45 H B hf => ?_)
  refine W.cs (cells' := 13) (slots' := 230) rfl rfl ?_
  refine r_pR X B hf fX8_16 rfl (Or.inr ⟨rfl, hn, rfl⟩) m_132 dX8_init_105 (fun h46 H locs B hf => ?_)
  refine r_aload_n hx hb dX8_init_108 rfl (lv_at hl 0 rfl) ?_
  refine lv_bipush (v := 40) hx hb dX8_init_109 (by decide) ?_
  refine r_newA X B hf rfl (by decide) m_67 (Nat.le_of_ble_eq_true rfl) (by decide) (by decide) rfl (fun _ _ z => z) dX8_init_111 (fun a47 h48 H B hf => ?_)
  refine W.cs (cells' := 14) (slots' := 270) rfl rfl ?_
  refine r_pR X B hf fX8_17 rfl (Or.inr ⟨rfl, hn, rfl⟩) m_133 dX8_init_113 (fun h49 H locs B hf => ?_)
  refine r_aload_n hx hb dX8_init_116 rfl (lv_at hl 0 rfl) ?_
  refine lv_bipush (v := 40) hx hb dX8_init_117 (by decide) ?_
  refine r_newA X B hf rfl (by decide) m_67 (Nat.le_of_ble_eq_true rfl) (by decide) (by decide) rfl (fun _ _ z => z) dX8_init_119 (fun a50 h51 H B hf => ?_)
  refine W.cs (cells' := 15) (slots' := 310) rfl rfl ?_
  refine r_pR X B hf fX8_18 rfl (Or.inr ⟨rfl, hn, rfl⟩) m_134 dX8_init_121 (fun h52 H locs B hf => ?_)
  refine r_aload_n hx hb dX8_init_124 rfl (lv_at hl 0 rfl) ?_
  refine lv_bipush (v := 40) hx hb dX8_init_125 (by decide) ?_
  refine r_newA X B hf rfl (by decide) m_67 (Nat.le_of_ble_eq_true rfl) (by decide) (by decide) rfl (fun _ _ z => z) dX8_init_127 (fun a53 h54 H B hf => ?_)
  refine W.cs (cells' := 16) (slots' := 350) rfl rfl ?_
  refine r_pR X B hf fX8_19 rfl (Or.inr ⟨rfl, hn, rfl⟩) m_135 dX8_init_129 (fun h55 H locs B hf => ?_)
  refine r_aload_n hx hb dX8_init_132 rfl (lv_at hl 0 rfl) ?_
  refine lv_bipush (v := 40) hx hb dX8_init_133 (by decide) ?_
  refine r_newA X B hf rfl (by decide) m_67 (Nat.le_of_ble_eq_true rfl) (by decide) (by decide) rfl (fun _ _ z => z) dX8_init_135 (fun a56 h57 H B hf => ?_)
  refine W.cs (cells' := 17) (slots' := 390) rfl rfl ?_
  refine r_pR X B hf fX8_20 rfl (Or.inr ⟨rfl, hn, rfl⟩) m_136 dX8_init_137 (fun h58 H locs B hf => ?_)
  refine r_aload_n hx hb dX8_init_140 rfl (lv_at hl 0 rfl) ?_
  refine lv_bipush (v := 40) hx hb dX8_init_141 (by decide) ?_
  refine r_newA X B hf rfl (by decide) m_128 (Nat.le_of_ble_eq_true rfl) (by decide) (by decide) rfl (fun _ _ z => z) dX8_init_143 (fun a59 h60 H B hf => ?_)
  refine W.cs (cells' := 18) (slots' := 430) rfl rfl ?_
  refine r_pR X B hf fX8_21 rfl (Or.inr ⟨rfl, hn, rfl⟩) m_137 dX8_init_145 (fun h61 H locs B hf => ?_)
  refine r_aload_n hx hb dX8_init_148 rfl (lv_at hl 0 rfl) ?_
  refine lv_bipush (v := 10) hx hb dX8_init_149 (by decide) ?_
  refine r_newA X B hf rfl (by decide) m_67 (Nat.le_of_ble_eq_true rfl) (by decide) (by decide) rfl (fun _ _ z => z) dX8_init_151 (fun a62 h63 H B hf => ?_)
  refine W.cs (cells' := 19) (slots' := 440) rfl rfl ?_
  refine r_pR X B hf fX8_22 rfl (Or.inr ⟨rfl, hn, rfl⟩) m_138 dX8_init_153 (fun h64 H locs B hf => ?_)
  refine r_aload_n hx hb dX8_init_156 rfl (lv_at hl 0 rfl) ?_
  refine lv_iconst (v := (-1)) hx hb dX8_init_157 (by decide) ?_
  refine r_pI X B hf fX8_28 (Or.inl rfl) m_139 dX8_init_158 (fun h65 H locs B hf => ?_)
  refine r_aload_n hx hb dX8_init_161 rfl (lv_at hl 0 rfl) ?_
  refine lv_iconst (v := (-1)) hx hb dX8_init_162 (by decide) ?_
  refine r_pI X B hf fX8_29 (Or.inl rfl) m_140 dX8_init_163 (fun h66 H locs B hf => ?_)
  refine r_aload_n hx hb dX8_init_166 rfl (lv_at hl 0 rfl) ?_
  refine lv_iconst (v := (-1)) hx hb dX8_init_167 (by decide) ?_
  refine r_pI X B hf fX8_30 (Or.inl rfl) m_141 dX8_init_168 (fun h67 H locs B hf => ?_)
  refine r_aload_n hx hb dX8_init_171 rfl (lv_at hl 0 rfl) ?_
  refine lv_sipush (v := 300) hx hb dX8_init_172 (by decide) ?_
  refine r_newA X B hf rfl (by decide) m_57 (Nat.le_of_ble_eq_true rfl) (by decide) (by decide) rfl (fun _ _ z => z) dX8_init_175 (fun a68 h69 H B hf => ?_)
  refine W.cs (cells' := 20) (slots' := 740) rfl rfl ?_
  refine r_pR X B hf fX8_31 rfl (Or.inr ⟨rfl, hn, rfl⟩) m_142 dX8_init_177 (fun h70 H locs B hf => ?_)
  refine r_aload_n hx hb dX8_init_180 rfl (lv_at hl 0 rfl) ?_
  refine lv_sipush (v := 300) hx hb dX8_init_181 (by decide) ?_
  refine r_newA X B hf rfl (by decide) m_57 (Nat.le_of_ble_eq_true rfl) (by decide) (by decide) rfl (fun _ _ z => z) dX8_init_184 (fun a71 h72 H B hf => ?_)
  refine W.cs (cells' := 21) (slots' := 1040) rfl rfl ?_
  refine r_pR X B hf fX8_32 rfl (Or.inr ⟨rfl, hn, rfl⟩) m_143 dX8_init_186 (fun h73 H locs B hf => ?_)
  refine r_aload_n hx hb dX8_init_189 rfl (lv_at hl 0 rfl) ?_
  refine lv_iconst (v := (-1)) hx hb dX8_init_190 (by decide) ?_
  refine r_pI X B hf fX8_36 (Or.inl rfl) m_144 dX8_init_191 (fun h74 H locs B hf => ?_)
  refine r_aload_n hx hb dX8_init_194 rfl (lv_at hl 0 rfl) ?_
  refine lv_bipush (v := 28) hx hb dX8_init_195 (by decide) ?_
  refine r_newA X B hf rfl (by decide) m_67 (Nat.le_of_ble_eq_true rfl) (by decide) (by decide) rfl (fun _ _ z => z) dX8_init_197 (fun a75 h76 H B hf => ?_)
  refine W.cs (cells' := 22) (slots' := 1068) rfl rfl ?_
  refine r_pR X B hf fX8_37 rfl (Or.inr ⟨rfl, hn, rfl⟩) m_145 dX8_init_199 (fun h77 H locs B hf => ?_)
  refine r_aload_n hx hb dX8_init_202 rfl (lv_at hl 0 rfl) ?_
  refine lv_bipush (v := 40) hx hb dX8_init_203 (by decide) ?_
  refine r_newA X B hf rfl (by decide) m_67 (Nat.le_of_ble_eq_true rfl) (by decide) (by decide) rfl (fun _ _ z => z) dX8_init_205 (fun a78 h79 H B hf => ?_)
  refine W.cs (cells' := 23) (slots' := 1108) rfl rfl ?_
  refine r_pR X B hf fX8_41 rfl (Or.inr ⟨rfl, hn, rfl⟩) m_146 dX8_init_207 (fun h80 H locs B hf => ?_)
  refine r_aload_n hx hb dX8_init_210 rfl (lv_at hl 0 rfl) ?_
  refine lv_bipush (v := 40) hx hb dX8_init_211 (by decide) ?_
  refine r_newA X B hf rfl (by decide) m_67 (Nat.le_of_ble_eq_true rfl) (by decide) (by decide) rfl (fun _ _ z => z) dX8_init_213 (fun a81 h82 H B hf => ?_)
  refine W.cs (cells' := 24) (slots' := 1148) rfl rfl ?_
  refine r_pR X B hf fX8_42 rfl (Or.inr ⟨rfl, hn, rfl⟩) m_147 dX8_init_215 (fun h83 H locs B hf => ?_)
  refine r_aload_n hx hb dX8_init_218 rfl (lv_at hl 0 rfl) ?_
  refine lv_bipush (v := 40) hx hb dX8_init_219 (by decide) ?_
  refine r_newA X B hf rfl (by decide) m_128 (Nat.le_of_ble_eq_true rfl) (by decide) (by decide) rfl (fun _ _ z => z) dX8_init_221 (fun a84 h85 H B hf => ?_)
  refine W.cs (cells' := 25) (slots' := 1188) rfl rfl ?_
  refine r_pR X B hf fX8_43 rfl (Or.inr ⟨rfl, hn, rfl⟩) m_148 dX8_init_223 (fun h86 H locs B hf => ?_)
  refine r_aload_n hx hb dX8_init_226 rfl (lv_at hl 0 rfl) ?_
  refine lv_bipush (v := 11) hx hb dX8_init_227 (by decide) ?_
  refine r_newA X B hf rfl (by decide) m_67 (Nat.le_of_ble_eq_true rfl) (by decide) (by decide) rfl (fun _ _ z => z) dX8_init_229 (fun a87 h88 H B hf => ?_)
  refine W.cs (cells' := 26) (slots' := 1199) rfl rfl ?_
  refine r_pR X B hf fX8_44 rfl (Or.inr ⟨rfl, hn, rfl⟩) m_149 dX8_init_231 (fun h89 H locs B hf => ?_)
  refine r_aload_n hx hb dX8_init_234 rfl (lv_at hl 0 rfl) ?_
  refine lv_bipush (v := 11) hx hb dX8_init_235 (by decide) ?_
  refine r_newA X B hf rfl (by decide) m_67 (Nat.le_of_ble_eq_true rfl) (by decide) (by decide) rfl (fun _ _ z => z) dX8_init_237 (fun a90 h91 H B hf => ?_)
  refine W.cs (cells' := 27) (slots' := 1210) rfl rfl ?_
  refine r_pR X B hf fX8_45 rfl (Or.inr ⟨rfl, hn, rfl⟩) m_150 dX8_init_239 (fun h92 H locs B hf => ?_)
  refine r_aload_n hx hb dX8_init_242 rfl (lv_at hl 0 rfl) ?_
  refine lv_bipush (v := 11) hx hb dX8_init_243 (by decide) ?_
  refine r_newA X B hf rfl (by decide) m_128 (Nat.le_of_ble_eq_true rfl) (by decide) (by decide) rfl (fun _ _ z => z) dX8_init_245 (fun a93 h94 H B hf => ?_)
  refine W.cs (cells' := 28) (slots' := 1221) rfl rfl ?_
  refine r_pR X B hf fX8_46 rfl (Or.inr ⟨rfl, hn, rfl⟩) m_151 dX8_init_247 (fun h95 H locs B hf => ?_)
  refine r_aload_n hx hb dX8_init_250 rfl (lv_at hl 0 rfl) ?_
  refine lv_iconst (v := 2) hx hb dX8_init_251 (by decide) ?_
  refine lv_bipush (v := 11) hx hb dX8_init_252 (by decide) ?_
  refine lv_iload_n hx hb dX8_init_254 rfl (lv_at hl 1 rfl) ?_
  refine va_mmin hx hb (by rw [hml]; exact hl.1.symm) hown (hts _ m_152) (hts _ m_40) (hts _ m_41) (hts _ m_42) (Nat.le_of_ble_eq_true rfl) (by simp [va_cat, cat_i, cat_r, cat_l]) (by decide) (by decide) dX8_init_255 ?_
  refine r_bd hf (fun v96 hf => ?_)
  refine va_mmax hx hb (by rw [hml]; exact hl.1.symm) hown (hts _ m_153) (hts _ m_44) (hts _ m_41) (hts _ m_45) (Nat.le_of_ble_eq_true rfl) (by simp [va_cat, cat_i, cat_r, cat_l]) (by decide) (by decide) dX8_init_258 ?_
  refine r_bd hf (fun v97 hf => ?_)
  refine r_pI X B hf fX8_0 (Or.inr ⟨rfl, hn, rfl⟩) m_154 dX8_init_261 (fun h98 H locs B hf => ?_)
  refine lv_iconst (v := 0) hx hb dX8_init_264 (by decide) ?_
  refine lv_istore_n (i := 2) (lv' := [(2, .int 0), (0, va_rf (some l0)), (1, .int l1)]) hx hb dX8_init_265 rfl hl (by decide) (by first | rfl | simp [va_cat, cat_i, cat_r, cat_l]) (fun ls hl => ?_)
  exact t_X8_init_266 X hr hk hn  _ _ _ _ _ _ _ B (lv_sub hl [1, 0] rfl) hf
