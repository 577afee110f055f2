def f_X8_isIn_15 (h : AH) (s0 : Int32) : Option (Int32 × AH) := rZ s0 h
def f_X8_isIn_14 (h : AH)  : Option (Int32 × AH) := f_X8_isIn_15 h 0
def f_X8_isIn (h : AH) (l0 : Int32) (l1 : Int32) (l2 : Int32) : Option (Int32 × AH) := if l0 < l1 then f_X8_isIn_14 h else if l2 < l0 then f_X8_isIn_14 h else f_X8_isIn_15 h 1
set_option maxRecDepth 100000 in
set_option maxHeartbeats 4000000 in
theorem t_X8_isIn_15 {p : Program} {l : Launch} {e : Env} {s : State} {m : MethodId} {args : Array Value} {below : List Frame} {meth : Method} {c : Code} {D : RG} {b : Nat} {vv : Int32} {hh : AH} (X : r_C p c cX8_isIn 3 s m args RX8 D b) (hr : meth.sig.returnType = (some .boolean)) (hk : meth.locks = false) (hn : meth.name = "isIn") {h : AH} {H : Heap} {locs : List Loc} {ls : Array Slot} {s0 : Int32} (B : r_B D b s h H locs) (hl : lv_has ls 3 []) (hf : f_X8_isIn_15 h s0 = some (vv, hh)) : W p l e ({ frames := 0, cells := 0, slots := 0, locals := 0 } : Room) s m args below meth c H locs 0 0 (MQ below (r_Q D b (some (.int vv)) hh) args s 0 0 (fun q => b ≤ q)) (F0 m 15 ls [.int s0]) := by
  obtain ⟨⟨hx, hb, hml, hown, hts⟩, -⟩ := id X
  unfold f_X8_isIn_15 at hf
  exact r_zret X B hr hk hf dX8_isIn_15
set_option maxRecDepth 100000 in
set_option maxHeartbeats 4000000 in
theorem t_X8_isIn_14 {p : Program} {l : Launch} {e : Env} {s : State} {m : MethodId} {args : Array Value} {below : List Frame} {meth : Method} {c : Code} {D : RG} {b : Nat} {vv : Int32} {hh : AH} (X : r_C p c cX8_isIn 3 s m args RX8 D b) (hr : meth.sig.returnType = (some .boolean)) (hk : meth.locks = false) (hn : meth.name = "isIn") {h : AH} {H : Heap} {locs : List Loc} {ls : Array Slot}  (B : r_B D b s h H locs) (hl : lv_has ls 3 []) (hf : f_X8_isIn_14 h  = some (vv, hh)) : W p l e ({ frames := 0, cells := 0, slots := 0, locals := 0 } : Room) s m args below meth c H locs 0 0 (MQ below (r_Q D b (some (.int vv)) hh) args s 0 0 (fun q => b ≤ q)) (F0 m 14 ls []) := by
  obtain ⟨⟨hx, hb, hml, hown, hts⟩, -⟩ := id X
  unfold f_X8_isIn_14 at hf
  refine lv_iconst (v := 0) hx hb dX8_isIn_14 (by decide) ?_
  exact t_X8_isIn_15 X hr hk hn  B (lv_sub hl [] rfl) hf
set_option maxRecDepth 100000 in
set_option maxHeartbeats 4000000 in
theorem c_X8_isIn {l : Launch} {D : RG} {b : Nat} {h : AH} {l0 : Int32} {l1 : Int32} {l2 : Int32} {vv : Int32} {hh : AH} (hf : f_X8_isIn h l0 l1 l2 = some (vv, hh)) : Met l yX8_isIn (Cond.code yX8_isIn cX8_isIn 3 (some .boolean) :: wsL_law) ({ frames := 0, cells := 0, slots := 0, locals := 0 } : Room) (va_Pc [.int l0, .int l1, .int l2] (r_I D b h)) (r_Q D b (some (.int vv)) hh) 0 0 (fun q => b ≤ q) := by
  refine r_ofW (own := RX8) rfl (by decide +kernel) (by simp [lg_sl, va_cat, cat_i, cat_r, cat_l]) ?_
  intro p e s m args below meth c ls X B hr hk hn hl
  have hl : lv_has ls 3 [(0, .int l0), (1, .int l1), (2, .int l2)] := by simpa [lv_args, va_cat, cat_i, cat_r, cat_l] using hl
  have hl : lv_has ls 3 [(0, .int l0), (1, .int l1), (2, .int l2)] := hl
  obtain ⟨⟨hx, hb, hml, hown, hts⟩, -⟩ := id X
  generalize s.heap = H at B ⊢
  generalize ([] : List Loc) = locs at B ⊢
  unfold f_X8_isIn at hf
  refine lv_iload_n hx hb dX8_isIn_0 rfl (lv_at hl 0 rfl) ?_
  refine lv_iload_n hx hb dX8_isIn_1 rfl (lv_at hl 1 rfl) ?_
  refine lv_icmp_lt (tgt := 14) hx hb dX8_isIn_2 (by decide) (fun q_ => ?_) (fun q_ => ?_)
  · have hf := (r_ite hf).1 q_
    exact t_X8_isIn_14 X hr hk hn  B (lv_sub hl [] rfl) hf
  · have hf := (r_ite hf).2 q_
    refine lv_iload_n hx hb dX8_isIn_5 rfl (lv_at hl 0 rfl) ?_
    refine lv_iload_n hx hb dX8_isIn_6 rfl (lv_at hl 2 rfl) ?_
    refine lv_icmp_gt (tgt := 14) hx hb dX8_isIn_7 (by decide) (fun q_ => ?_) (fun q_ => ?_)
    · have hf := (r_ite hf).1 q_
      exact t_X8_isIn_14 X hr hk hn  B (lv_sub hl [] rfl) hf
    · have hf := (r_ite hf).2 q_
      refine lv_iconst (v := 1) hx hb dX8_isIn_10 (by decide) ?_
      refine lv_goto (tgt := 15) hx hb dX8_isIn_11 (by decide) ?_
      exact t_X8_isIn_15 X hr hk hn  B (lv_sub hl [] rfl) hf
def f_X8_one_9 (h : AH) (s0 : Int32) : Option (Int32 × AH) := some (s0, h)
def f_X8_one (h : AH) (l0 : Int32) : Option (Int32 × AH) := if l0 = 0 then f_X8_one_9 h 0 else f_X8_one_9 h 1
set_option maxRecDepth 100000 in
set_option maxHeartbeats 4000000 in
theorem t_X8_one_9 {p : Program} {l : Launch} {e : Env} {s : State} {m : MethodId} {args : Array Value} {below : List Frame} {meth : Method} {c : Code} {D : RG} {b : Nat} {vv : Int32} {hh : AH} (X : r_C p c cX8_one 1 s m args RX8 D b) (hr : meth.sig.returnType = (some .int)) (hk : meth.locks = false) (hn : meth.name = "one") {h : AH} {H : Heap} {locs : List Loc} {ls : Array Slot} {s0 : Int32} (B : r_B D b s h H locs) (hl : lv_has ls 1 []) (hf : f_X8_one_9 h s0 = some (vv, hh)) : W p l e ({ frames := 0, cells := 0, slots := 0, locals := 0 } : Room) s m args below meth c H locs 0 0 (MQ below (r_Q D b (some (.int vv)) hh) args s 0 0 (fun q => b ≤ q)) (F0 m 9 ls [.int s0]) := by
  obtain ⟨⟨hx, hb, hml, hown, hts⟩, -⟩ := id X
  unfold f_X8_one_9 at hf
  exact r_iret X B hr hk hf dX8_one_9
set_option maxRecDepth 100000 in
set_option maxHeartbeats 4000000 in
theorem c_X8_one {l : Launch} {D : RG} {b : Nat} {h : AH} {l0 : Int32} {vv : Int32} {hh : AH} (hf : f_X8_one h l0 = some (vv, hh)) : Met l yX8_one (Cond.code yX8_one cX8_one 1 (some .int) :: wsL_law) ({ frames := 0, cells := 0, slots := 0, locals := 0 } : Room) (va_Pc [.int l0] (r_I D b h)) (r_Q D b (some (.int vv)) hh) 0 0 (fun q => b ≤ q) := by
  refine r_ofW (own := RX8) rfl (by decide +kernel) (by simp [lg_sl, va_cat, cat_i, cat_r, cat_l]) ?_
  intro p e s m args below meth c ls X B hr hk hn hl
  have hl : lv_has ls 1 [(0, .int l0)] := by simpa [lv_args, va_cat, cat_i, cat_r, cat_l] using hl
  have hl : lv_has ls 1 [(0, .int l0)] := hl
  obtain ⟨⟨hx, hb, hml, hown, hts⟩, -⟩ := id X
  generalize s.heap = H at B ⊢
  generalize ([] : List Loc) = locs at B ⊢
  unfold f_X8_one at hf
  refine lv_iload_n hx hb dX8_one_0 rfl (lv_at hl 0 rfl) ?_
  refine lv_if_eq (tgt := 8) hx hb dX8_one_1 (by decide) (fun q_ => ?_) (fun q_ => ?_)
  · have hf := (r_ite hf).1 q_
    refine lv_iconst (v := 0) hx hb dX8_one_8 (by decide) ?_
    exact t_X8_one_9 X hr hk hn  B (lv_sub hl [] rfl) hf
  · have hf := (r_ite hf).2 q_
    refine lv_iconst (v := 1) hx hb dX8_one_4 (by decide) ?_
    refine lv_goto (tgt := 9) hx hb dX8_one_5 (by decide) ?_
    exact t_X8_one_9 X hr hk hn  B (lv_sub hl [] rfl) hf
def f_X8_isTank (h : AH) (l0 : Nat) (l1 : Int32) : Option (Int32 × AH) := gI h (some l0) 8 0 (fun v1 => cal (f_X8_isIn h l1 0 (v1 - 1)) (fun v2 h3 => rZ v2 h3))
set_option maxRecDepth 100000 in
set_option maxHeartbeats 4000000 in
theorem c_X8_isTank {l : Launch} {D : RG} {b : Nat} {h : AH} {l0 : Nat} {l1 : Int32} {vv : Int32} {hh : AH} (hf : f_X8_isTank h l0 l1 = some (vv, hh)) : Met l yX8_isTank (Cond.code yX8_isTank cX8_isTank 2 (some .boolean) :: wsL_law) ({ frames := 1, cells := 0, slots := 0, locals := 22 } : Room) (va_Pc [.ref l0, .int l1] (r_I D b h)) (r_Q D b (some (.int vv)) hh) 0 0 (fun q => b ≤ q) := by
  refine r_ofW (own := RX8) rfl (by decide +kernel) (by simp [lg_sl, va_cat, cat_i, cat_r, cat_l]) ?_
  intro p e s m args below meth c ls X B hr hk hn hl
  have hl : lv_has ls 2 [(0, .ref l0), (1, .int l1)] := by simpa [lv_args, va_cat, cat_i, cat_r, cat_l] using hl
  have hl : lv_has ls 2 [(0, va_rf (some l0)), (1, .int l1)] := hl
  obtain ⟨⟨hx, hb, hml, hown, hts⟩, -⟩ := id X
  generalize s.heap = H at B ⊢
  generalize ([] : List Loc) = locs at B ⊢
  unfold f_X8_isTank at hf
  refine lv_iload_n hx hb dX8_isTank_0 rfl (lv_at hl 1 rfl) ?_
  refine lv_iconst (v := 0) hx hb dX8_isTank_1 (by decide) ?_
  refine r_aload_n hx hb dX8_isTank_2 rfl (lv_at hl 0 rfl) ?_
  refine r_gI X B hf fX8_0 (fun _ _ => rfl) m_154 dX8_isTank_3 (fun v1 hf => ?_)
  refine lv_iconst (v := 1) hx hb dX8_isTank_6 (by decide) ?_
  refine lv_isub hx hb dX8_isTank_7 ?_
  refine cal_inv hf ?_
  intro v2 h3 e4 hf
  refine r_call B (va_runS (As := [.int l1, .int 0, .int (v1 - 1)]) (rest := []) X.1 (c_X8_isIn (l := l) (D := D) (b := b) e4) (r_cwS X m_178 m_179 m_5 m_180 rfl rfl hd_X8_isIn ⟨Nat.le_of_ble_eq_true rfl, Nat.le_of_ble_eq_true rfl⟩) (r_preS X B [.int l1, .int 0, .int (v1 - 1)]) rfl rfl hl.1 rfl (lv_room (by simp [va_cat, cat_i, cat_r, cat_l])) dX8_isTank_8 ⟨Nat.zero_le _, Nat.zero_le _⟩) ?_
  intro H locs B
  refine W.cs (cells' := 0) (slots' := 0) rfl rfl (W.eq (g2 := F0 m 11 ls [.int v2]) rfl ?_)
  exact r_zret X B hr hk hf dX8_isTank_11
def f_X8_tank_49 (h : AH)  : Option (Int32 × AH) := rZ 0 h
def f_X8_tank (h : AH) (l0 : Nat) (l1 : Int32) (l2 : Int32) (l3 : Int32) (l4 : Int32) : Option (Int32 × AH) := rcv h (some l0) 8 (fun a4 => cal (f_X8_isTank h a4 l1) (fun v1 h2 => if v1 = 0 then f_X8_tank_49 h2 else cal (f_X8_isIn h2 l2 0 20) (fun v7 h8 => if v7 = 0 then f_X8_tank_49 h8 else cal (f_X8_isIn h8 l3 10 1000) (fun v10 h11 => if v10 = 0 then f_X8_tank_49 h11 else cal (f_X8_isIn h11 l4 0 500) (fun v13 h14 => if v13 = 0 then f_X8_tank_49 h14 else gI h14 (some l0) 8 1 (fun v16 => if v16 ≤ 0 then gR h14 (some l0) 8 4 (fun v17 => sI .int h14 v17 l1 l2 (fun h18 => gR h18 (some l0) 8 5 (fun v19 => sI .int h18 v19 l1 l3 (fun h20 => gR h20 (some l0) 8 6 (fun v21 => sI .int h20 v21 l1 l4 (fun h22 => rZ 1 h22)))))) else f_X8_tank_49 h14))))))
set_option maxRecDepth 100000 in
set_option maxHeartbeats 4000000 in
theorem t_X8_tank_49 {p : Program} {l : Launch} {e : Env} {s : State} {m : MethodId} {args : Array Value} {below : List Frame} {meth : Method} {c : Code} {D : RG} {b : Nat} {vv : Int32} {hh : AH} (X : r_C p c cX8_tank 5 s m args RX8 D b) (hr : meth.sig.returnType = (some .boolean)) (hk : meth.locks = false) (hn : meth.name = "tank") {h : AH} {H : Heap} {locs : List Loc} {ls : Array Slot}  (B : r_B D b s h H locs) (hl : lv_has ls 5 []) (hf : f_X8_tank_49 h  = some (vv, hh)) : W p l e ({ frames := 2, cells := 0, slots := 0, locals := 43 } : Room) s m args below meth c H locs 0 0 (MQ below (r_Q D b (some (.int vv)) hh) args s 0 0 (fun q => b ≤ q)) (F0 m 49 ls []) := by
  obtain ⟨⟨hx, hb, hml, hown, hts⟩, -⟩ := id X
  unfold f_X8_tank_49 at hf
  refine lv_iconst (v := 0) hx hb dX8_tank_49 (by decide) ?_
  exact r_zret X B hr hk hf dX8_tank_50
set_option maxRecDepth 100000 in
set_option maxHeartbeats 4000000 in
theorem c_X8_tank {l : Launch} {D : RG} {b : Nat} {h : AH} {l0 : Nat} {l1 : Int32} {l2 : Int32} {l3 : Int32} {l4 : Int32} {vv : Int32} {hh : AH} (hf : f_X8_tank h l0 l1 l2 l3 l4 = some (vv, hh)) : Met l yX8_tank (Cond.code yX8_tank cX8_tank 5 (some .boolean) :: wsL_law) ({ frames := 2, cells := 0, slots := 0, locals := 43 } : Room) (va_Pc [.ref l0, .int l1, .int l2, .int l3, .int l4] (r_I D b h)) (r_Q D b (some (.int vv)) hh) 0 0 (fun q => b ≤ q) := by
  refine r_ofW (own := RX8) rfl (by decide +kernel) (by simp [lg_sl, va_cat, cat_i, cat_r, cat_l]) ?_
  intro p e s m args below meth c ls X B hr hk hn hl
  have hl : lv_has ls 5 [(0, .ref l0), (1, .int l1), (2, .int l2), (3, .int l3), (4, .int l4)] := by simpa [lv_args, va_cat, cat_i, cat_r, cat_l] using hl
  have hl : lv_has ls 5 [(0, va_rf (some l0)), (1, .int l1), (2, .int l2), (3, .int l3), (4, .int l4)] := hl
  obtain ⟨⟨hx, hb, hml, hown, hts⟩, -⟩ := id X
  generalize s.heap = H at B ⊢
  generalize ([] : List Loc) = locs at B ⊢
  unfold f_X8_tank at hf
  refine r_aload_n hx hb dX8_tank_0 rfl (lv_at hl 0 rfl) ?_
  refine lv_iload_n hx hb dX8_tank_1 rfl (lv_at hl 1 rfl) ?_
  refine rcv_inv hf ?_
  intro a4 e5 s6 hf
  refine cal_inv hf ?_
  intro v1 h2 e3 hf
  refine r_call B (va_runV (As := [.int l1]) (rest := []) X.1 (c_X8_isTank (l := l) (D := D) (b := b) e3) (r_cwV X rfl m_174 m_175 m_176 m_5 m_177 rfl rfl hd_X8_isTank ⟨Nat.le_of_ble_eq_true rfl, Nat.le_of_ble_eq_true rfl⟩) (r_preV X B s6 rfl [.int l1]) rfl rfl hl.1 (by rw [e5]; rfl) (lv_room (by simp [va_cat, cat_i, cat_r, cat_l])) dX8_tank_2 ⟨Nat.zero_le _, Nat.zero_le _⟩) ?_
  intro H locs B
  refine W.cs (cells' := 0) (slots' := 0) rfl rfl (W.eq (g2 := F0 m 5 ls [.int v1]) rfl ?_)
  refine lv_if_eq (tgt := 49) hx hb dX8_tank_5 (by decide) (fun q_ => ?_) (fun q_ => ?_)
  · have hf := (r_ite hf).1 q_
    exact t_X8_tank_49 X hr hk hn  B (lv_sub hl [] rfl) hf
  · have hf := (r_ite hf).2 q_
    refine lv_iload_n hx hb dX8_tank_8 rfl (lv_at hl 2 rfl) ?_
    refine lv_iconst (v := 0) hx hb dX8_tank_9 (by decide) ?_
    refine lv_bipush (v := 20) hx hb dX8_tank_10 (by decide) ?_
    refine cal_inv hf ?_
    intro v7 h8 e9 hf
    refine r_call B (va_runS (As := [.int l2, .int 0, .int 20]) (rest := []) X.1 (c_X8_isIn (l := l) (D := D) (b := b) e9) (r_cwS X m_178 m_179 m_5 m_180 rfl rfl hd_X8_isIn ⟨Nat.le_of_ble_eq_true rfl, Nat.le_of_ble_eq_true rfl⟩) (r_preS X B [.int l2, .int 0, .int 20]) rfl rfl hl.1 rfl (lv_room (by simp [va_cat, cat_i, cat_r, cat_l])) dX8_tank_12 ⟨Nat.zero_le _, Nat.zero_le _⟩) ?_
    intro H locs B
    refine W.cs (cells' := 0) (slots' := 0) rfl rfl (W.eq (g2 := F0 m 15 ls [.int v7]) rfl ?_)
    refine lv_if_eq (tgt := 49) hx hb dX8_tank_15 (by decide) (fun q_ => ?_) (fun q_ => ?_)
    · have hf := (r_ite hf).1 q_
      exact t_X8_tank_49 X hr hk hn  B (lv_sub hl [] rfl) hf
    · have hf := (r_ite hf).2 q_
      refine lv_iload_n hx hb dX8_tank_18 rfl (lv_at hl 3 rfl) ?_
      refine lv_bipush (v := 10) hx hb dX8_tank_19 (by decide) ?_
      refine lv_sipush (v := 1000) hx hb dX8_tank_21 (by decide) ?_
      refine cal_inv hf ?_
      intro v10 h11 e12 hf
      refine r_call B (va_runS (As := [.int l3, .int 10, .int 1000]) (rest := []) X.1 (c_X8_isIn (l := l) (D := D) (b := b) e12) (r_cwS X m_178 m_179 m_5 m_180 rfl rfl hd_X8_isIn ⟨Nat.le_of_ble_eq_true rfl, Nat.le_of_ble_eq_true rfl⟩) (r_preS X B [.int l3, .int 10, .int 1000]) rfl rfl hl.1 rfl (lv_room (by simp [va_cat, cat_i, cat_r, cat_l])) dX8_tank_24 ⟨Nat.zero_le _, Nat.zero_le _⟩) ?_
      intro H locs B
      refine W.cs (cells' := 0) (slots' := 0) rfl rfl (W.eq (g2 := F0 m 27 ls [.int v10]) rfl ?_)
      refine lv_if_eq (tgt := 49) hx hb dX8_tank_27 (by decide) (fun q_ => ?_) (fun q_ => ?_)
      · have hf := (r_ite hf).1 q_
        exact t_X8_tank_49 X hr hk hn  B (lv_sub hl [] rfl) hf
      · have hf := (r_ite hf).2 q_
        refine lv_iload hx hb dX8_tank_30 (lv_at hl 4 rfl) ?_
        refine lv_iconst (v := 0) hx hb dX8_tank_32 (by decide) ?_
        refine lv_sipush (v := 500) hx hb dX8_tank_33 (by decide) ?_
        refine cal_inv hf ?_
        intro v13 h14 e15 hf
        refine r_call B (va_runS (As := [.int l4, .int 0, .int 500]) (rest := []) X.1 (c_X8_isIn (l := l) (D := D) (b := b) e15) (r_cwS X m_178 m_179 m_5 m_180 rfl rfl hd_X8_isIn ⟨Nat.le_of_ble_eq_true rfl, Nat.le_of_ble_eq_true rfl⟩) (r_preS X B [.int l4, .int 0, .int 500]) rfl rfl hl.1 rfl (lv_room (by simp [va_cat, cat_i, cat_r, cat_l])) dX8_tank_36 ⟨Nat.zero_le _, Nat.zero_le _⟩) ?_
        intro H locs B
        refine W.cs (cells' := 0) (slots' := 0) rfl rfl (W.eq (g2 := F0 m 39 ls [.int v13]) rfl ?_)
        refine lv_if_eq (tgt := 49) hx hb dX8_tank_39 (by decide) (fun q_ => ?_) (fun q_ => ?_)
        · have hf := (r_ite hf).1 q_
          exact t_X8_tank_49 X hr hk hn  B (lv_sub hl [] rfl) hf
        · have hf := (r_ite hf).2 q_
          refine r_aload_n hx hb dX8_tank_42 rfl (lv_at hl 0 rfl) ?_
          refine r_gI X B hf fX8_1 (fun _ _ => rfl) m_173 dX8_tank_43 (fun v16 hf => ?_)
          refine lv_if_le (tgt := 51) hx hb dX8_tank_46 (by decide) (fun q_ => ?_) (fun q_ => ?_)
          · have hf := (r_ite hf).1 q_
            refine r_aload_n hx hb dX8_tank_51 rfl (lv_at hl 0 rfl) ?_
            refine r_gR X B hf fX8_4 (fun _ _ => rfl) m_119 dX8_tank_52 (fun v17 hf => ?_)
            refine lv_iload_n hx hb dX8_tank_55 rfl (lv_at hl 1 rfl) ?_
            refine lv_iload_n hx hb dX8_tank_56 rfl (lv_at hl 2 rfl) ?_
            refine r_sIi X B hf dX8_tank_57 (fun h18 H locs B hf => ?_)
            refine r_aload_n hx hb dX8_tank_58 rfl (lv_at hl 0 rfl) ?_
            refine r_gR X B hf fX8_5 (fun _ _ => rfl) m_120 dX8_tank_59 (fun v19 hf => ?_)
            refine lv_iload_n hx hb dX8_tank_62 rfl (lv_at hl 1 rfl) ?_
            refine lv_iload_n hx hb dX8_tank_63 rfl (lv_at hl 3 rfl) ?_
            refine r_sIi X B hf dX8_tank_64 (fun h20 H locs B hf => ?_)
            refine r_aload_n hx hb dX8_tank_65 rfl (lv_at hl 0 rfl) ?_
            refine r_gR X B hf fX8_6 (fun _ _ => rfl) m_121 dX8_tank_66 (fun v21 hf => ?_)
            refine lv_iload_n hx hb dX8_tank_69 rfl (lv_at hl 1 rfl) ?_
            refine lv_iload hx hb dX8_tank_70 (lv_at hl 4 rfl) ?_
            refine r_sIi X B hf dX8_tank_72 (fun h22 H locs B hf => ?_)
            refine lv_iconst (v := 1) hx hb dX8_tank_73 (by decide) ?_
            exact r_zret X B hr hk hf dX8_tank_74
          · have hf := (r_ite hf).2 q_
            exact t_X8_tank_49 X hr hk hn  B (lv_sub hl [] rfl) hf
def f_X8_room_21 (h : AH) (s0 : Int32) : Option (Int32 × AH) := some (s0, h)
def f_X8_room (h : AH) (l0 : Nat) (l1 : Int32) (l2 : Int32) : Option (Int32 × AH) := if l2 = 0 then gR h (some l0) 8 5 (fun v1 => aI .int h v1 l1 (fun v2 => gR h (some l0) 8 9 (fun v3 => aI .int h v3 l1 (fun v4 => f_X8_room_21 h (v2 - v4))))) else f_X8_room_21 h 0
set_option maxRecDepth 100000 in
set_option maxHeartbeats 4000000 in
theorem t_X8_room_21 {p : Program} {l : Launch} {e : Env} {s : State} {m : MethodId} {args : Array Value} {below : List Frame} {meth : Method} {c : Code} {D : RG} {b : Nat} {vv : Int32} {hh : AH} (X : r_C p c cX8_room 3 s m args RX8 D b) (hr : meth.sig.returnType = (some .int)) (hk : meth.locks = false) (hn : meth.name = "room") {h : AH} {H : Heap} {locs : List Loc} {ls : Array Slot} {s0 : Int32} (B : r_B D b s h H locs) (hl : lv_has ls 3 []) (hf : f_X8_room_21 h s0 = some (vv, hh)) : W p l e ({ frames := 0, cells := 0, slots := 0, locals := 0 } : Room) s m args below meth c H locs 0 0 (MQ below (r_Q D b (some (.int vv)) hh) args s 0 0 (fun q => b ≤ q)) (F0 m 21 ls [.int s0]) := by
  obtain ⟨⟨hx, hb, hml, hown, hts⟩, -⟩ := id X
  unfold f_X8_room_21 at hf
  exact r_iret X B hr hk hf dX8_room_21
set_option maxRecDepth 100000 in
set_option maxHeartbeats 4000000 in
theorem c_X8_room {l : Launch} {D : RG} {b : Nat} {h : AH} {l0 : Nat} {l1 : Int32} {l2 : Int32} {vv : Int32} {hh : AH} (hf : f_X8_room h l0 l1 l2 = some (vv, hh)) : Met l yX8_room (Cond.code yX8_room cX8_room 3 (some .int) :: wsL_law) ({ frames := 0, cells := 0, slots := 0, locals := 0 } : Room) (va_Pc [.ref l0, .int l1, .int l2] (r_I D b h)) (r_Q D b (some (.int vv)) hh) 0 0 (fun q => b ≤ q) := by
  refine r_ofW (own := RX8) rfl (by decide +kernel) (by simp [lg_sl, va_cat, cat_i, cat_r, cat_l]) ?_
  intro p e s m args below meth c ls X B hr hk hn hl
  have hl : lv_has ls 3 [(0, .ref l0), (1, .int l1), (2, .int l2)] := by simpa [lv_args, va_cat, cat_i, cat_r, cat_l] using hl
  have hl : lv_has ls 3 [(0, va_rf (some l0)), (1, .int l1), (2, .int l2)] := hl
  obtain ⟨⟨hx, hb, hml, hown, hts⟩, -⟩ := id X
  generalize s.heap = H at B ⊢
  generalize ([] : List Loc) = locs at B ⊢
  unfold f_X8_room at hf
  refine lv_iload_n hx hb dX8_room_0 rfl (lv_at hl 2 rfl) ?_
  refine lv_if_eq (tgt := 8) hx hb dX8_room_1 (by decide) (fun q_ => ?_) (fun q_ => ?_)
  · have hf := (r_ite hf).1 q_
    refine r_aload_n hx hb dX8_room_8 rfl (lv_at hl 0 rfl) ?_
    refine r_gR X B hf fX8_5 (fun _ _ => rfl) m_120 dX8_room_9 (fun v1 hf => ?_)
    refine lv_iload_n hx hb dX8_room_12 rfl (lv_at hl 1 rfl) ?_
    refine r_aIi X B hf dX8_room_13 (fun v2 hf => ?_)
    refine r_aload_n hx hb dX8_room_14 rfl (lv_at hl 0 rfl) ?_
    refine r_gR X B hf fX8_9 (fun _ _ => rfl) m_124 dX8_room_15 (fun v3 hf => ?_)
    refine lv_iload_n hx hb dX8_room_18 rfl (lv_at hl 1 rfl) ?_
    refine r_aIi X B hf dX8_room_19 (fun v4 hf => ?_)
    refine lv_isub hx hb dX8_room_20 ?_
    exact t_X8_room_21 X hr hk hn  B (lv_sub hl [] rfl) hf
  · have hf := (r_ite hf).2 q_
    refine lv_iconst (v := 0) hx hb dX8_room_4 (by decide) ?_
    refine lv_goto (tgt := 21) hx hb dX8_room_5 (by decide) ?_
    exact t_X8_room_21 X hr hk hn  B (lv_sub hl [] rfl) hf
def f_X8_water_27 (h : AH)  : Option (Int32 × AH) := rZ 0 h
def f_X8_water (h : AH) (l0 : Nat) (l1 : Int32) (l2 : Int32) : Option (Int32 × AH) := rcv h (some l0) 8 (fun a4 => cal (f_X8_isTank h a4 l1) (fun v1 h2 => if v1 = 0 then f_X8_water_27 h2 else gR h2 (some l0) 8 13 (fun v7 => aI .boolean h2 v7 l1 (fun v8 => rcv h2 (some l0) 8 (fun a12 => cal (f_X8_room h2 a12 l1 v8) (fun v9 h10 => cal (f_X8_isIn h10 l2 0 v9) (fun v15 h16 => if v15 = 0 then f_X8_water_27 h16 else gI h16 (some l0) 8 27 (fun v18 => gR h16 (some l0) 8 7 (fun v19 => aI .int h16 v19 l1 (fun v20 => pI h16 (some l0) 8 27 (v18 + (l2 - v20)) (fun h21 => gR h21 (some l0) 8 7 (fun v22 => sI .int h21 v22 l1 l2 (fun h23 => rZ 1 h23)))))))))))))
set_option maxRecDepth 100000 in
set_option maxHeartbeats 4000000 in
theorem t_X8_water_27 {p : Program} {l : Launch} {e : Env} {s : State} {m : MethodId} {args : Array Value} {below : List Frame} {meth : Method} {c : Code} {D : RG} {b : Nat} {vv : Int32} {hh : AH} (X : r_C p c cX8_water 3 s m args RX8 D b) (hr : meth.sig.returnType = (some .boolean)) (hk : meth.locks = false) (hn : meth.name = "water") {h : AH} {H : Heap} {locs : List Loc} {ls : Array Slot}  (B : r_B D b s h H locs) (hl : lv_has ls 3 []) (hf : f_X8_water_27 h  = some (vv, hh)) : W p l e ({ frames := 2, cells := 0, slots := 0, locals := 43 } : Room) s m args below meth c H locs 0 0 (MQ below (r_Q D b (some (.int vv)) hh) args s 0 0 (fun q => b ≤ q)) (F0 m 27 ls []) := by
  obtain ⟨⟨hx, hb, hml, hown, hts⟩, -⟩ := id X
  unfold f_X8_water_27 at hf
  refine lv_iconst (v := 0) hx hb dX8_water_27 (by decide) ?_
  exact r_zret X B hr hk hf dX8_water_28
set_option maxRecDepth 100000 in
set_option maxHeartbeats 4000000 in
theorem c_X8_water {l : Launch} {D : RG} {b : Nat} {h : AH} {l0 : Nat} {l1 : Int32} {l2 : Int32} {vv : Int32} {hh : AH} (hf : f_X8_water h l0 l1 l2 = some (vv, hh)) : Met l yX8_water (Cond.code yX8_water cX8_water 3 (some .boolean) :: wsL_law) ({ frames := 2, cells := 0, slots := 0, locals := 43 } : Room) (va_Pc [.ref l0, .int l1, .int l2] (r_I D b h)) (r_Q D b (some (.int vv)) hh) 0 0 (fun q => b ≤ q) := by
  refine r_ofW (own := RX8) rfl (by decide +kernel) (by simp [lg_sl, va_cat, cat_i, cat_r, cat_l]) ?_
  intro p e s m args below meth c ls X B hr hk hn hl
  have hl : lv_has ls 3 [(0, .ref l0), (1, .int l1), (2, .int l2)] := by simpa [lv_args, va_cat, cat_i, cat_r, cat_l] using hl
  have hl : lv_has ls 3 [(0, va_rf (some l0)), (1, .int l1), (2, .int l2)] := hl
  obtain ⟨⟨hx, hb, hml, hown, hts⟩, -⟩ := id X
  generalize s.heap = H at B ⊢
  generalize ([] : List Loc) = locs at B ⊢
  unfold f_X8_water at hf
  refine r_aload_n hx hb dX8_water_0 rfl (lv_at hl 0 rfl) ?_
  refine lv_iload_n hx hb dX8_water_1 rfl (lv_at hl 1 rfl) ?_
  refine rcv_inv hf ?_
  intro a4 e5 s6 hf
  refine cal_inv hf ?_
  intro v1 h2 e3 hf
  refine r_call B (va_runV (As := [.int l1]) (rest := []) X.1 (c_X8_isTank (l := l) (D := D) (b := b) e3) (r_cwV X rfl m_174 m_175 m_176 m_5 m_177 rfl rfl hd_X8_isTank ⟨Nat.le_of_ble_eq_true rfl, Nat.le_of_ble_eq_true rfl⟩) (r_preV X B s6 rfl [.int l1]) rfl rfl hl.1 (by rw [e5]; rfl) (lv_room (by simp [va_cat, cat_i, cat_r, cat_l])) dX8_water_2 ⟨Nat.zero_le _, Nat.zero_le _⟩) ?_
  intro H locs B
  refine W.cs (cells' := 0) (slots' := 0) rfl rfl (W.eq (g2 := F0 m 5 ls [.int v1]) rfl ?_)
  refine lv_if_eq (tgt := 27) hx hb dX8_water_5 (by decide) (fun q_ => ?_) (fun q_ => ?_)
  · have hf := (r_ite hf).1 q_
    exact t_X8_water_27 X hr hk hn  B (lv_sub hl [] rfl) hf
  · have hf := (r_ite hf).2 q_
    refine lv_iload_n hx hb dX8_water_8 rfl (lv_at hl 2 rfl) ?_
    refine lv_iconst (v := 0) hx hb dX8_water_9 (by decide) ?_
    refine r_aload_n hx hb dX8_water_10 rfl (lv_at hl 0 rfl) ?_
    refine lv_iload_n hx hb dX8_water_11 rfl (lv_at hl 1 rfl) ?_
    refine r_aload_n hx hb dX8_water_12 rfl (lv_at hl 0 rfl) ?_
    refine r_gR X B hf fX8_13 (fun _ _ => rfl) m_129 dX8_water_13 (fun v7 hf => ?_)
    refine lv_iload_n hx hb dX8_water_16 rfl (lv_at hl 1 rfl) ?_
    refine r_aIz X B hf dX8_water_17 (fun v8 hf => ?_)
    refine rcv_inv hf ?_
    intro a12 e13 s14 hf
    refine cal_inv hf ?_
    intro v9 h10 e11 hf
    refine r_call B (va_runV (As := [.int l1, .int v8]) (rest := [.int 0, .int l2]) X.1 (c_X8_room (l := l) (D := D) (b := b) e11) (r_cwV X rfl m_197 m_198 m_199 m_5 m_200 rfl rfl hd_X8_room ⟨Nat.le_of_ble_eq_true rfl, Nat.le_of_ble_eq_true rfl⟩) (r_preV X B s14 rfl [.int l1, .int v8]) rfl rfl hl.1 (by rw [e13]; rfl) (lv_room (by simp [va_cat, cat_i, cat_r, cat_l])) dX8_water_18 ⟨Nat.zero_le _, Nat.zero_le _⟩) ?_
    intro H locs B
    refine W.cs (cells' := 0) (slots' := 0) rfl rfl (W.eq (g2 := F0 m 21 ls [.int v9, .int 0, .int l2]) rfl ?_)
    refine cal_inv hf ?_
    intro v15 h16 e17 hf
    refine r_call B (va_runS (As := [.int l2, .int 0, .int v9]) (rest := []) X.1 (c_X8_isIn (l := l) (D := D) (b := b) e17) (r_cwS X m_178 m_179 m_5 m_180 rfl rfl hd_X8_isIn ⟨Nat.le_of_ble_eq_true rfl, Nat.le_of_ble_eq_true rfl⟩) (r_preS X B [.int l2, .int 0, .int v9]) rfl rfl hl.1 rfl (lv_room (by simp [va_cat, cat_i, cat_r, cat_l])) dX8_water_21 ⟨Nat.zero_le _, Nat.zero_le _⟩) ?_
    intro H locs B
    refine W.cs (cells' := 0) (slots' := 0) rfl rfl (W.eq (g2 := F0 m 24 ls [.int v15]) rfl ?_)
    refine lv_if_ne (tgt := 29) hx hb dX8_water_24 (by decide) (fun q_ => ?_) (fun q_ => ?_)
    · have hf := (r_ite hf).2 q_
      refine r_aload_n hx hb dX8_water_29 rfl (lv_at hl 0 rfl) ?_
      refine lv_dup hx hb dX8_water_30 (va_cat _) ?_
      refine r_gI X B hf fX8_27 (fun _ _ => rfl) m_196 dX8_water_31 (fun v18 hf => ?_)
      refine lv_iload_n hx hb dX8_water_34 rfl (lv_at hl 2 rfl) ?_
      refine r_aload_n hx hb dX8_water_35 rfl (lv_at hl 0 rfl) ?_
      refine r_gR X B hf fX8_7 (fun _ _ => rfl) m_122 dX8_water_36 (fun v19 hf => ?_)
      refine lv_iload_n hx hb dX8_water_39 rfl (lv_at hl 1 rfl) ?_
      refine r_aIi X B hf dX8_water_40 (fun v20 hf => ?_)
      refine lv_isub hx hb dX8_water_41 ?_
      refine lv_iadd hx hb dX8_water_42 ?_
      refine r_pI X B hf fX8_27 (Or.inl rfl) m_196 dX8_water_43 (fun h21 H locs B hf => ?_)
      refine r_aload_n hx hb dX8_water_46 rfl (lv_at hl 0 rfl) ?_
      refine r_gR X B hf fX8_7 (fun _ _ => rfl) m_122 dX8_water_47 (fun v22 hf => ?_)
      refine lv_iload_n hx hb dX8_water_50 rfl (lv_at hl 1 rfl) ?_
      refine lv_iload_n hx hb dX8_water_51 rfl (lv_at hl 2 rfl) ?_
      refine r_sIi X B hf dX8_water_52 (fun h23 H locs B hf => ?_)
      refine lv_iconst (v := 1) hx hb dX8_water_53 (by decide) ?_
      exact r_zret X B hr hk hf dX8_water_54
    · have hf := (r_ite hf).1 q_
      exact t_X8_water_27 X hr hk hn  B (lv_sub hl [] rfl) hf
def f_X8_field_48 (h : AH)  : Option (Int32 × AH) := some ((-1), h)
def f_X8_field (h : AH) (l0 : Nat) (l1 : Int32) (l2 : Int32) (l3 : Int32) (l4 : Int32) (l5 : Int32) : Option (Int32 × AH) := rcv h (some l0) 8 (fun a4 => cal (f_X8_isTank h a4 l1) (fun v1 h2 => if v1 = 0 then f_X8_field_48 h2 else cal (f_X8_isIn h2 l2 0 9) (fun v7 h8 => if v7 = 0 then f_X8_field_48 h8 else cal (f_X8_isIn h8 l3 1 20) (fun v10 h11 => if v10 = 0 then f_X8_field_48 h11 else cal (f_X8_isIn h11 l4 0 9) (fun v13 h14 => if v13 = 0 then f_X8_field_48 h14 else gI h14 (some l0) 8 3 (fun v16 => if v16 = 40 then f_X8_field_48 h14 else gR h14 (some l0) 8 14 (fun v17 => gI h14 (some l0) 8 3 (fun v18 => sI .int h14 v17 v18 l1 (fun h19 => gR h19 (some l0) 8 15 (fun v20 => gI h19 (some l0) 8 3 (fun v21 => sI .int h19 v20 v21 l2 (fun h22 => gR h22 (some l0) 8 16 (fun v23 => gI h22 (some l0) 8 3 (fun v24 => sI .int h22 v23 v24 l3 (fun h25 => gR h25 (some l0) 8 17 (fun v26 => gI h25 (some l0) 8 3 (fun v27 => sI .int h25 v26 v27 l4 (fun h28 => gR h28 (some l0) 8 21 (fun v29 => gI h28 (some l0) 8 3 (fun v30 => sI .boolean h28 v29 v30 l5 (fun h31 => gI h31 (some l0) 8 3 (fun v32 => pI h31 (some l0) 8 3 (v32 + 1) (fun h33 => gI h33 (some l0) 8 3 (fun v34 => some ((v34 - 1), h33)))))))))))))))))))))))))
set_option maxRecDepth 100000 in
set_option maxHeartbeats 4000000 in
theorem t_X8_field_48 {p : Program} {l : Launch} {e : Env} {s : State} {m : MethodId} {args : Array Value} {below : List Frame} {meth : Method} {c : Code} {D : RG} {b : Nat} {vv : Int32} {hh : AH} (X : r_C p c cX8_field 6 s m args RX8 D b) (hr : meth.sig.returnType = (some .int)) (hk : meth.locks = false) (hn : meth.name = "field") {h : AH} {H : Heap} {locs : List Loc} {ls : Array Slot}  (B : r_B D b s h H locs) (hl : lv_has ls 6 []) (hf : f_X8_field_48 h  = some (vv, hh)) : W p l e ({ frames := 2, cells := 0, slots := 0, locals := 43 } : Room) s m args below meth c H locs 0 0 (MQ below (r_Q D b (some (.int vv)) hh) args s 0 0 (fun q => b ≤ q)) (F0 m 48 ls []) := by
  obtain ⟨⟨hx, hb, hml, hown, hts⟩, -⟩ := id X
  unfold f_X8_field_48 at hf
  refine lv_iconst (v := (-1)) hx hb dX8_field_48 (by decide) ?_
  exact r_iret X B hr hk hf dX8_field_49
set_option maxRecDepth 100000 in
set_option maxHeartbeats 4000000 in
theorem c_X8_field {l : Launch} {D : RG} {b : Nat} {h : AH} {l0 : Nat} {l1 : Int32} {l2 : Int32} {l3 : Int32} {l4 : Int32} {l5 : Int32} {vv : Int32} {hh : AH} (hf : f_X8_field h l0 l1 l2 l3 l4 l5 = some (vv, hh)) : Met l yX8_field (Cond.code yX8_field cX8_field 6 (some .int) :: wsL_law) ({ frames := 2, cells := 0, slots := 0, locals := 43 } : Room) (va_Pc [.ref l0, .int l1, .int l2, .int l3, .int l4, .int l5] (r_I D b h)) (r_Q D b (some (.int vv)) hh) 0 0 (fun q => b ≤ q) := by
  refine r_ofW (own := RX8) rfl (by decide +kernel) (by simp [lg_sl, va_cat, cat_i, cat_r, cat_l]) ?_
  intro p e s m args below meth c ls X B hr hk hn hl
  have hl : lv_has ls 6 [(0, .ref l0), (1, .int l1), (2, .int l2), (3, .int l3), (4, .int l4), (5, .int l5)] := by simpa [lv_args, va_cat, cat_i, cat_r, cat_l] using hl
  have hl : lv_has ls 6 [(0, va_rf (some l0)), (1, .int l1), (2, .int l2), (3, .int l3), (4, .int l4), (5, .int l5)] := hl
  obtain ⟨⟨hx, hb, hml, hown, hts⟩, -⟩ := id X
  generalize s.heap = H at B ⊢
  generalize ([] : List Loc) = locs at B ⊢
  unfold f_X8_field at hf
  refine r_aload_n hx hb dX8_field_0 rfl (lv_at hl 0 rfl) ?_
  refine lv_iload_n hx hb dX8_field_1 rfl (lv_at hl 1 rfl) ?_
  refine rcv_inv hf ?_
  intro a4 e5 s6 hf
  refine cal_inv hf ?_
  intro v1 h2 e3 hf
  refine r_call B (va_runV (As := [.int l1]) (rest := []) X.1 (c_X8_isTank (l := l) (D := D) (b := b) e3) (r_cwV X rfl m_174 m_175 m_176 m_5 m_177 rfl rfl hd_X8_isTank ⟨Nat.le_of_ble_eq_true rfl, Nat.le_of_ble_eq_true rfl⟩) (r_preV X B s6 rfl [.int l1]) rfl rfl hl.1 (by rw [e5]; rfl) (lv_room (by simp [va_cat, cat_i, cat_r, cat_l])) dX8_field_2 ⟨Nat.zero_le _, Nat.zero_le _⟩) ?_
  intro H locs B
  refine W.cs (cells' := 0) (slots' := 0) rfl rfl (W.eq (g2 := F0 m 5 ls [.int v1]) rfl ?_)
  refine lv_if_eq (tgt := 48) hx hb dX8_field_5 (by decide) (fun q_ => ?_) (fun q_ => ?_)
  · have hf := (r_ite hf).1 q_
    exact t_X8_field_48 X hr hk hn  B (lv_sub hl [] rfl) hf
  · have hf := (r_ite hf).2 q_
    refine lv_iload_n hx hb dX8_field_8 rfl (lv_at hl 2 rfl) ?_
    refine lv_iconst (v := 0) hx hb dX8_field_9 (by decide) ?_
    refine lv_bipush (v := 9) hx hb dX8_field_10 (by decide) ?_
    refine cal_inv hf ?_
    intro v7 h8 e9 hf
    refine r_call B (va_runS (As := [.int l2, .int 0, .int 9]) (rest := []) X.1 (c_X8_isIn (l := l) (D := D) (b := b) e9) (r_cwS X m_178 m_179 m_5 m_180 rfl rfl hd_X8_isIn ⟨Nat.le_of_ble_eq_true rfl, Nat.le_of_ble_eq_true rfl⟩) (r_preS X B [.int l2, .int 0, .int 9]) rfl rfl hl.1 rfl (lv_room (by simp [va_cat, cat_i, cat_r, cat_l])) dX8_field_12 ⟨Nat.zero_le _, Nat.zero_le _⟩) ?_
    intro H locs B
    refine W.cs (cells' := 0) (slots' := 0) rfl rfl (W.eq (g2 := F0 m 15 ls [.int v7]) rfl ?_)
    refine lv_if_eq (tgt := 48) hx hb dX8_field_15 (by decide) (fun q_ => ?_) (fun q_ => ?_)
    · have hf := (r_ite hf).1 q_
      exact t_X8_field_48 X hr hk hn  B (lv_sub hl [] rfl) hf
    · have hf := (r_ite hf).2 q_
      refine lv_iload_n hx hb dX8_field_18 rfl (lv_at hl 3 rfl) ?_
      refine lv_iconst (v := 1) hx hb dX8_field_19 (by decide) ?_
      refine lv_bipush (v := 20) hx hb dX8_field_20 (by decide) ?_
      refine cal_inv hf ?_
      intro v10 h11 e12 hf
      refine r_call B (va_runS (As := [.int l3, .int 1, .int 20]) (rest := []) X.1 (c_X8_isIn (l := l) (D := D) (b := b) e12) (r_cwS X m_178 m_179 m_5 m_180 rfl rfl hd_X8_isIn ⟨Nat.le_of_ble_eq_true rfl, Nat.le_of_ble_eq_true rfl⟩) (r_preS X B [.int l3, .int 1, .int 20]) rfl rfl hl.1 rfl (lv_room (by simp [va_cat, cat_i, cat_r, cat_l])) dX8_field_22 ⟨Nat.zero_le _, Nat.zero_le _⟩) ?_
      intro H locs B
      refine W.cs (cells' := 0) (slots' := 0) rfl rfl (W.eq (g2 := F0 m 25 ls [.int v10]) rfl ?_)
      refine lv_if_eq (tgt := 48) hx hb dX8_field_25 (by decide) (fun q_ => ?_) (fun q_ => ?_)
      · have hf := (r_ite hf).1 q_
        exact t_X8_field_48 X hr hk hn  B (lv_sub hl [] rfl) hf
      · have hf := (r_ite hf).2 q_
        refine lv_iload hx hb dX8_field_28 (lv_at hl 4 rfl) ?_
        refine lv_iconst (v := 0) hx hb dX8_field_30 (by decide) ?_
        refine lv_bipush (v := 9) hx hb dX8_field_31 (by decide) ?_
        refine cal_inv hf ?_
        intro v13 h14 e15 hf
        refine r_call B (va_runS (As := [.int l4, .int 0, .int 9]) (rest := []) X.1 (c_X8_isIn (l := l) (D := D) (b := b) e15) (r_cwS X m_178 m_179 m_5 m_180 rfl rfl hd_X8_isIn ⟨Nat.le_of_ble_eq_true rfl, Nat.le_of_ble_eq_true rfl⟩) (r_preS X B [.int l4, .int 0, .int 9]) rfl rfl hl.1 rfl (lv_room (by simp [va_cat, cat_i, cat_r, cat_l])) dX8_field_33 ⟨Nat.zero_le _, Nat.zero_le _⟩) ?_
        intro H locs B
        refine W.cs (cells' := 0) (slots' := 0) rfl rfl (W.eq (g2 := F0 m 36 ls [.int v13]) rfl ?_)
        refine lv_if_eq (tgt := 48) hx hb dX8_field_36 (by decide) (fun q_ => ?_) (fun q_ => ?_)
        · have hf := (r_ite hf).1 q_
          exact t_X8_field_48 X hr hk hn  B (lv_sub hl [] rfl) hf
        · have hf := (r_ite hf).2 q_
          refine r_aload_n hx hb dX8_field_39 rfl (lv_at hl 0 rfl) ?_
          refine r_gI X B hf fX8_3 (fun _ _ => rfl) m_243 dX8_field_40 (fun v16 hf => ?_)
          refine lv_bipush (v := 40) hx hb dX8_field_43 (by decide) ?_
          refine lv_icmp_ne (tgt := 50) hx hb dX8_field_45 (by decide) (fun q_ => ?_) (fun q_ => ?_)
          · have hf := (r_ite hf).2 q_
            refine r_aload_n hx hb dX8_field_50 rfl (lv_at hl 0 rfl) ?_
            refine r_gR X B hf fX8_14 (fun _ _ => rfl) m_130 dX8_field_51 (fun v17 hf => ?_)
            refine r_aload_n hx hb dX8_field_54 rfl (lv_at hl 0 rfl) ?_
            refine r_gI X B hf fX8_3 (fun _ _ => rfl) m_243 dX8_field_55 (fun v18 hf => ?_)
            refine lv_iload_n hx hb dX8_field_58 rfl (lv_at hl 1 rfl) ?_
            refine r_sIi X B hf dX8_field_59 (fun h19 H locs B hf => ?_)
            refine r_aload_n hx hb dX8_field_60 rfl (lv_at hl 0 rfl) ?_
            refine r_gR X B hf fX8_15 (fun _ _ => rfl) m_131 dX8_field_61 (fun v20 hf => ?_)
            refine r_aload_n hx hb dX8_field_64 rfl (lv_at hl 0 rfl) ?_
            refine r_gI X B hf fX8_3 (fun _ _ => rfl) m_243 dX8_field_65 (fun v21 hf => ?_)
            refine lv_iload_n hx hb dX8_field_68 rfl (lv_at hl 2 rfl) ?_
            refine r_sIi X B hf dX8_field_69 (fun h22 H locs B hf => ?_)
            refine r_aload_n hx hb dX8_field_70 rfl (lv_at hl 0 rfl) ?_
            refine r_gR X B hf fX8_16 (fun _ _ => rfl) m_132 dX8_field_71 (fun v23 hf => ?_)
            refine r_aload_n hx hb dX8_field_74 rfl (lv_at hl 0 rfl) ?_
            refine r_gI X B hf fX8_3 (fun _ _ => rfl) m_243 dX8_field_75 (fun v24 hf => ?_)
            refine lv_iload_n hx hb dX8_field_78 rfl (lv_at hl 3 rfl) ?_
            refine r_sIi X B hf dX8_field_79 (fun h25 H locs B hf => ?_)
            refine r_aload_n hx hb dX8_field_80 rfl (lv_at hl 0 rfl) ?_
            refine r_gR X B hf fX8_17 (fun _ _ => rfl) m_133 dX8_field_81 (fun v26 hf => ?_)
            refine r_aload_n hx hb dX8_field_84 rfl (lv_at hl 0 rfl) ?_
            refine r_gI X B hf fX8_3 (fun _ _ => rfl) m_243 dX8_field_85 (fun v27 hf => ?_)
            refine lv_iload hx hb dX8_field_88 (lv_at hl 4 rfl) ?_
            refine r_sIi X B hf dX8_field_90 (fun h28 H locs B hf => ?_)
            refine r_aload_n hx hb dX8_field_91 rfl (lv_at hl 0 rfl) ?_
            refine r_gR X B hf fX8_21 (fun _ _ => rfl) m_137 dX8_field_92 (fun v29 hf => ?_)
            refine r_aload_n hx hb dX8_field_95 rfl (lv_at hl 0 rfl) ?_
            refine r_gI X B hf fX8_3 (fun _ _ => rfl) m_243 dX8_field_96 (fun v30 hf => ?_)
            refine lv_iload hx hb dX8_field_99 (lv_at hl 5 rfl) ?_
            refine r_sIz X B hf dX8_field_101 (fun h31 H locs B hf => ?_)
            refine r_aload_n hx hb dX8_field_102 rfl (lv_at hl 0 rfl) ?_
            refine lv_dup hx hb dX8_field_103 (va_cat _) ?_
            refine r_gI X B hf fX8_3 (fun _ _ => rfl) m_243 dX8_field_104 (fun v32 hf => ?_)
            refine lv_iconst (v := 1) hx hb dX8_field_107 (by decide) ?_
            refine lv_iadd hx hb dX8_field_108 ?_
            refine r_pI X B hf fX8_3 (Or.inl rfl) m_243 dX8_field_109 (fun h33 H locs B hf => ?_)
            refine r_aload_n hx hb dX8_field_112 rfl (lv_at hl 0 rfl) ?_
            refine r_gI X B hf fX8_3 (fun _ _ => rfl) m_243 dX8_field_113 (fun v34 hf => ?_)
            refine lv_iconst (v := 1) hx hb dX8_field_116 (by decide) ?_
            refine lv_isub hx hb dX8_field_117 ?_
            exact r_iret X B hr hk hf dX8_field_118
          · have hf := (r_ite hf).1 q_
            exact t_X8_field_48 X hr hk hn  B (lv_sub hl [] rfl) hf
def f_X8_open_18 (h : AH)  : Option (Int32 × AH) := rZ 0 h
def f_X8_open (h : AH) (l0 : Nat) (l1 : Int32) (l2 : Int32) : Option (Int32 × AH) := rcv h (some l0) 8 (fun a4 => cal (f_X8_isTank h a4 l1) (fun v1 h2 => if v1 = 0 then f_X8_open_18 h2 else cal (f_X8_isIn h2 l2 0 20) (fun v7 h8 => if v7 = 0 then f_X8_open_18 h8 else gR h8 (some l0) 8 8 (fun v10 => sI .int h8 v10 l1 l2 (fun h11 => rZ 1 h11)))))
set_option maxRecDepth 100000 in
set_option maxHeartbeats 4000000 in
theorem t_X8_open_18 {p : Program} {l : Launch} {e : Env} {s : State} {m : MethodId} {args : Array Value} {below : List Frame} {meth : Method} {c : Code} {D : RG} {b : Nat} {vv : Int32} {hh : AH} (X : r_C p c cX8_open 3 s m args RX8 D b) (hr : meth.sig.returnType = (some .boolean)) (hk : meth.locks = false) (hn : meth.name = "open") {h : AH} {H : Heap} {locs : List Loc} {ls : Array Slot}  (B : r_B D b s h H locs) (hl : lv_has ls 3 []) (hf : f_X8_open_18 h  = some (vv, hh)) : W p l e ({ frames := 2, cells := 0, slots := 0, locals := 43 } : Room) s m args below meth c H locs 0 0 (MQ below (r_Q D b (some (.int vv)) hh) args s 0 0 (fun q => b ≤ q)) (F0 m 18 ls []) := by
  obtain ⟨⟨hx, hb, hml, hown, hts⟩, -⟩ := id X
  unfold f_X8_open_18 at hf
  refine lv_iconst (v := 0) hx hb dX8_open_18 (by decide) ?_
  exact r_zret X B hr hk hf dX8_open_19
set_option maxRecDepth 100000 in
set_option maxHeartbeats 4000000 in
theorem c_X8_open {l : Launch} {D : RG} {b : Nat} {h : AH} {l0 : Nat} {l1 : Int32} {l2 : Int32} {vv : Int32} {hh : AH} (hf : f_X8_open h l0 l1 l2 = some (vv, hh)) : Met l yX8_open (Cond.code yX8_open cX8_open 3 (some .boolean) :: wsL_law) ({ frames := 2, cells := 0, slots := 0, locals := 43 } : Room) (va_Pc [.ref l0, .int l1, .int l2] (r_I D b h)) (r_Q D b (some (.int vv)) hh) 0 0 (fun q => b ≤ q) := by
  refine r_ofW (own := RX8) rfl (by decide +kernel) (by simp [lg_sl, va_cat, cat_i, cat_r, cat_l]) ?_
  intro p e s m args below meth c ls X B hr hk hn hl
  have hl : lv_has ls 3 [(0, .ref l0), (1, .int l1), (2, .int l2)] := by simpa [lv_args, va_cat, cat_i, cat_r, cat_l] using hl
  have hl : lv_has ls 3 [(0, va_rf (some l0)), (1, .int l1), (2, .int l2)] := hl
  obtain ⟨⟨hx, hb, hml, hown, hts⟩, -⟩ := id X
  generalize s.heap = H at B ⊢
  generalize ([] : List Loc) = locs at B ⊢
  unfold f_X8_open at hf
  refine r_aload_n hx hb dX8_open_0 rfl (lv_at hl 0 rfl) ?_
  refine lv_iload_n hx hb dX8_open_1 rfl (lv_at hl 1 rfl) ?_
  refine rcv_inv hf ?_
  intro a4 e5 s6 hf
  refine cal_inv hf ?_
  intro v1 h2 e3 hf
  refine r_call B (va_runV (As := [.int l1]) (rest := []) X.1 (c_X8_isTank (l := l) (D := D) (b := b) e3) (r_cwV X rfl m_174 m_175 m_176 m_5 m_177 rfl rfl hd_X8_isTank ⟨Nat.le_of_ble_eq_true rfl, Nat.le_of_ble_eq_true rfl⟩) (r_preV X B s6 rfl [.int l1]) rfl rfl hl.1 (by rw [e5]; rfl) (lv_room (by simp [va_cat, cat_i, cat_r, cat_l])) dX8_open_2 ⟨Nat.zero_le _, Nat.zero_le _⟩) ?_
  intro H locs B
  refine W.cs (cells' := 0) (slots' := 0) rfl rfl (W.eq (g2 := F0 m 5 ls [.int v1]) rfl ?_)
  refine lv_if_eq (tgt := 18) hx hb dX8_open_5 (by decide) (fun q_ => ?_) (fun q_ => ?_)
  · have hf := (r_ite hf).1 q_
    exact t_X8_open_18 X hr hk hn  B (lv_sub hl [] rfl) hf
  · have hf := (r_ite hf).2 q_
    refine lv_iload_n hx hb dX8_open_8 rfl (lv_at hl 2 rfl) ?_
    refine lv_iconst (v := 0) hx hb dX8_open_9 (by decide) ?_
    refine lv_bipush (v := 20) hx hb dX8_open_10 (by decide) ?_
    refine cal_inv hf ?_
    intro v7 h8 e9 hf
    refine r_call B (va_runS (As := [.int l2, .int 0, .int 20]) (rest := []) X.1 (c_X8_isIn (l := l) (D := D) (b := b) e9) (r_cwS X m_178 m_179 m_5 m_180 rfl rfl hd_X8_isIn ⟨Nat.le_of_ble_eq_true rfl, Nat.le_of_ble_eq_true rfl⟩) (r_preS X B [.int l2, .int 0, .int 20]) rfl rfl hl.1 rfl (lv_room (by simp [va_cat, cat_i, cat_r, cat_l])) dX8_open_12 ⟨Nat.zero_le _, Nat.zero_le _⟩) ?_
    intro H locs B
    refine W.cs (cells' := 0) (slots' := 0) rfl rfl (W.eq (g2 := F0 m 15 ls [.int v7]) rfl ?_)
    refine lv_if_ne (tgt := 20) hx hb dX8_open_15 (by decide) (fun q_ => ?_) (fun q_ => ?_)
    · have hf := (r_ite hf).2 q_
      refine r_aload_n hx hb dX8_open_20 rfl (lv_at hl 0 rfl) ?_
      refine r_gR X B hf fX8_8 (fun _ _ => rfl) m_123 dX8_open_21 (fun v10 hf => ?_)
      refine lv_iload_n hx hb dX8_open_24 rfl (lv_at hl 1 rfl) ?_
      refine lv_iload_n hx hb dX8_open_25 rfl (lv_at hl 2 rfl) ?_
      refine r_sIi X B hf dX8_open_26 (fun h11 H locs B hf => ?_)
      refine lv_iconst (v := 1) hx hb dX8_open_27 (by decide) ?_
      exact r_zret X B hr hk hf dX8_open_28
    · have hf := (r_ite hf).1 q_
      exact t_X8_open_18 X hr hk hn  B (lv_sub hl [] rfl) hf
def f_X8_mend_19 (h : AH)  : Option (Int32 × AH) := rZ 0 h
def f_X8_mend (h : AH) (l0 : Nat) (l1 : Int32) (l2 : Int32) : Option (Int32 × AH) := rcv h (some l0) 8 (fun a4 => cal (f_X8_isTank h a4 l1) (fun v1 h2 => if v1 = 0 then f_X8_mend_19 h2 else cal (f_X8_isIn h2 l2 0 500) (fun v7 h8 => if v7 = 0 then f_X8_mend_19 h8 else gR h8 (some l0) 8 6 (fun v10 => sI .int h8 v10 l1 l2 (fun h11 => gR h11 (some l0) 8 13 (fun v12 => sI .boolean h11 v12 l1 0 (fun h13 => rZ 1 h13)))))))
set_option maxRecDepth 100000 in
set_option maxHeartbeats 4000000 in
theorem t_X8_mend_19 {p : Program} {l : Launch} {e : Env} {s : State} {m : MethodId} {args : Array Value} {below : List Frame} {meth : Method} {c : Code} {D : RG} {b : Nat} {vv : Int32} {hh : AH} (X : r_C p c cX8_mend 3 s m args RX8 D b) (hr : meth.sig.returnType = (some .boolean)) (hk : meth.locks = false) (hn : meth.name = "mend") {h : AH} {H : Heap} {locs : List Loc} {ls : Array Slot}  (B : r_B D b s h H locs) (hl : lv_has ls 3 []) (hf : f_X8_mend_19 h  = some (vv, hh)) : W p l e ({ frames := 2, cells := 0, slots := 0, locals := 43 } : Room) s m args below meth c H locs 0 0 (MQ below (r_Q D b (some (.int vv)) hh) args s 0 0 (fun q => b ≤ q)) (F0 m 19 ls []) := by
  obtain ⟨⟨hx, hb, hml, hown, hts⟩, -⟩ := id X
  unfold f_X8_mend_19 at hf
  refine lv_iconst (v := 0) hx hb dX8_mend_19 (by decide) ?_
  exact r_zret X B hr hk hf dX8_mend_20
set_option maxRecDepth 100000 in
set_option maxHeartbeats 4000000 in
theorem c_X8_mend {l : Launch} {D : RG} {b : Nat} {h : AH} {l0 : Nat} {l1 : Int32} {l2 : Int32} {vv : Int32} {hh : AH} (hf : f_X8_mend h l0 l1 l2 = some (vv, hh)) : Met l yX8_mend (Cond.code yX8_mend cX8_mend 3 (some .boolean) :: wsL_law) ({ frames := 2, cells := 0, slots := 0, locals := 43 } : Room) (va_Pc [.ref l0, .int l1, .int l2] (r_I D b h)) (r_Q D b (some (.int vv)) hh) 0 0 (fun q => b ≤ q) := by
  refine r_ofW (own := RX8) rfl (by decide +kernel) (by simp [lg_sl, va_cat, cat_i, cat_r, cat_l]) ?_
  intro p e s m args below meth c ls X B hr hk hn hl
  have hl : lv_has ls 3 [(0, .ref l0), (1, .int l1), (2, .int l2)] := by simpa [lv_args, va_cat, cat_i, cat_r, cat_l] using hl
  have hl : lv_has ls 3 [(0, va_rf (some l0)), (1, .int l1), (2, .int l2)] := hl
  obtain ⟨⟨hx, hb, hml, hown, hts⟩, -⟩ := id X
  generalize s.heap = H at B ⊢
  generalize ([] : List Loc) = locs at B ⊢
  unfold f_X8_mend at hf
  refine r_aload_n hx hb dX8_mend_0 rfl (lv_at hl 0 rfl) ?_
  refine lv_iload_n hx hb dX8_mend_1 rfl (lv_at hl 1 rfl) ?_
  refine rcv_inv hf ?_
  intro a4 e5 s6 hf
  refine cal_inv hf ?_
  intro v1 h2 e3 hf
  refine r_call B (va_runV (As := [.int l1]) (rest := []) X.1 (c_X8_isTank (l := l) (D := D) (b := b) e3) (r_cwV X rfl m_174 m_175 m_176 m_5 m_177 rfl rfl hd_X8_isTank ⟨Nat.le_of_ble_eq_true rfl, Nat.le_of_ble_eq_true rfl⟩) (r_preV X B s6 rfl [.int l1]) rfl rfl hl.1 (by rw [e5]; rfl) (lv_room (by simp [va_cat, cat_i, cat_r, cat_l])) dX8_mend_2 ⟨Nat.zero_le _, Nat.zero_le _⟩) ?_
  intro H locs B
  refine W.cs (cells' := 0) (slots' := 0) rfl rfl (W.eq (g2 := F0 m 5 ls [.int v1]) rfl ?_)
  refine lv_if_eq (tgt := 19) hx hb dX8_mend_5 (by decide) (fun q_ => ?_) (fun q_ => ?_)
  · have hf := (r_ite hf).1 q_
    exact t_X8_mend_19 X hr hk hn  B (lv_sub hl [] rfl) hf
  · have hf := (r_ite hf).2 q_
    refine lv_iload_n hx hb dX8_mend_8 rfl (lv_at hl 2 rfl) ?_
    refine lv_iconst (v := 0) hx hb dX8_mend_9 (by decide) ?_
    refine lv_sipush (v := 500) hx hb dX8_mend_10 (by decide) ?_
    refine cal_inv hf ?_
    intro v7 h8 e9 hf
    refine r_call B (va_runS (As := [.int l2, .int 0, .int 500]) (rest := []) X.1 (c_X8_isIn (l := l) (D := D) (b := b) e9) (r_cwS X m_178 m_179 m_5 m_180 rfl rfl hd_X8_isIn ⟨Nat.le_of_ble_eq_true rfl, Nat.le_of_ble_eq_true rfl⟩) (r_preS X B [.int l2, .int 0, .int 500]) rfl rfl hl.1 rfl (lv_room (by simp [va_cat, cat_i, cat_r, cat_l])) dX8_mend_13 ⟨Nat.zero_le _, Nat.zero_le _⟩) ?_
    intro H locs B
    refine W.cs (cells' := 0) (slots' := 0) rfl rfl (W.eq (g2 := F0 m 16 ls [.int v7]) rfl ?_)
    refine lv_if_ne (tgt := 21) hx hb dX8_mend_16 (by decide) (fun q_ => ?_) (fun q_ => ?_)
    · have hf := (r_ite hf).2 q_
      refine r_aload_n hx hb dX8_mend_21 rfl (lv_at hl 0 rfl) ?_
      refine r_gR X B hf fX8_6 (fun _ _ => rfl) m_121 dX8_mend_22 (fun v10 hf => ?_)
      refine lv_iload_n hx hb dX8_mend_25 rfl (lv_at hl 1 rfl) ?_
      refine lv_iload_n hx hb dX8_mend_26 rfl (lv_at hl 2 rfl) ?_
      refine r_sIi X B hf dX8_mend_27 (fun h11 H locs B hf => ?_)
      refine r_aload_n hx hb dX8_mend_28 rfl (lv_at hl 0 rfl) ?_
      refine r_gR X B hf fX8_13 (fun _ _ => rfl) m_129 dX8_mend_29 (fun v12 hf => ?_)
      refine lv_iload_n hx hb dX8_mend_32 rfl (lv_at hl 1 rfl) ?_
      refine lv_iconst (v := 0) hx hb dX8_mend_33 (by decide) ?_
      refine r_sIz X B hf dX8_mend_34 (fun h13 H locs B hf => ?_)
      refine lv_iconst (v := 1) hx hb dX8_mend_35 (by decide) ?_
      exact r_zret X B hr hk hf dX8_mend_36
    · have hf := (r_ite hf).1 q_
      exact t_X8_mend_19 X hr hk hn  B (lv_sub hl [] rfl) hf
def f_X8_dredge_22 (h : AH)  : Option (Int32 × AH) := some ((-1), h)
def f_X8_dredge (h : AH) (l0 : Nat) (l1 : Int32) (l2 : Int32) : Option (Int32 × AH) := rcv h (some l0) 8 (fun a4 => cal (f_X8_isTank h a4 l1) (fun v1 h2 => if v1 = 0 then f_X8_dredge_22 h2 else gR h2 (some l0) 8 9 (fun v7 => aI .int h2 v7 l1 (fun v8 => cal (f_X8_isIn h2 l2 1 v8) (fun v9 h10 => if v9 = 0 then f_X8_dredge_22 h10 else gR h10 (some l0) 8 9 (fun v12 => aI .int h10 v12 l1 (fun v13 => sI .int h10 v12 l1 (v13 - l2) (fun h14 => gR h14 (some l0) 8 9 (fun v15 => aI .int h14 v15 l1 (fun v16 => some (v16, h14)))))))))))
set_option maxRecDepth 100000 in
set_option maxHeartbeats 4000000 in
theorem t_X8_dredge_22 {p : Program} {l : Launch} {e : Env} {s : State} {m : MethodId} {args : Array Value} {below : List Frame} {meth : Method} {c : Code} {D : RG} {b : Nat} {vv : Int32} {hh : AH} (X : r_C p c cX8_dredge 3 s m args RX8 D b) (hr : meth.sig.returnType = (some .int)) (hk : meth.locks = false) (hn : meth.name = "dredge") {h : AH} {H : Heap} {locs : List Loc} {ls : Array Slot}  (B : r_B D b s h H locs) (hl : lv_has ls 3 []) (hf : f_X8_dredge_22 h  = some (vv, hh)) : W p l e ({ frames := 2, cells := 0, slots := 0, locals := 43 } : Room) s m args below meth c H locs 0 0 (MQ below (r_Q D b (some (.int vv)) hh) args s 0 0 (fun q => b ≤ q)) (F0 m 22 ls []) := by
  obtain ⟨⟨hx, hb, hml, hown, hts⟩, -⟩ := id X
  unfold f_X8_dredge_22 at hf
  refine lv_iconst (v := (-1)) hx hb dX8_dredge_22 (by decide) ?_
  exact r_iret X B hr hk hf dX8_dredge_23
set_option maxRecDepth 100000 in
set_option maxHeartbeats 4000000 in
theorem c_X8_dredge {l : Launch} {D : RG} {b : Nat} {h : AH} {l0 : Nat} {l1 : Int32} {l2 : Int32} {vv : Int32} {hh : AH} (hf : f_X8_dredge h l0 l1 l2 = some (vv, hh)) : Met l yX8_dredge (Cond.code yX8_dredge cX8_dredge 3 (some .int) :: wsL_law) ({ frames := 2, cells := 0, slots := 0, locals := 43 } : Room) (va_Pc [.ref l0, .int l1, .int l2] (r_I D b h)) (r_Q D b (some (.int vv)) hh) 0 0 (fun q => b ≤ q) := by
  refine r_ofW (own := RX8) rfl (by decide +kernel) (by simp [lg_sl, va_cat, cat_i, cat_r, cat_l]) ?_
  intro p e s m args below meth c ls X B hr hk hn hl
  have hl : lv_has ls 3 [(0, .ref l0), (1, .int l1), (2, .int l2)] := by simpa [lv_args, va_cat, cat_i, cat_r, cat_l] using hl
  have hl : lv_has ls 3 [(0, va_rf (some l0)), (1, .int l1), (2, .int l2)] := hl
  obtain ⟨⟨hx, hb, hml, hown, hts⟩, -⟩ := id X
  generalize s.heap = H at B ⊢
  generalize ([] : List Loc) = locs at B ⊢
  unfold f_X8_dredge at hf
  refine r_aload_n hx hb dX8_dredge_0 rfl (lv_at hl 0 rfl) ?_
  refine lv_iload_n hx hb dX8_dredge_1 rfl (lv_at hl 1 rfl) ?_
  refine rcv_inv hf ?_
  intro a4 e5 s6 hf
  refine cal_inv hf ?_
  intro v1 h2 e3 hf
  refine r_call B (va_runV (As := [.int l1]) (rest := []) X.1 (c_X8_isTank (l := l) (D := D) (b := b) e3) (r_cwV X rfl m_174 m_175 m_176 m_5 m_177 rfl rfl hd_X8_isTank ⟨Nat.le_of_ble_eq_true rfl, Nat.le_of_ble_eq_true rfl⟩) (r_preV X B s6 rfl [.int l1]) rfl rfl hl.1 (by rw [e5]; rfl) (lv_room (by simp [va_cat, cat_i, cat_r, cat_l])) dX8_dredge_2 ⟨Nat.zero_le _, Nat.zero_le _⟩) ?_
  intro H locs B
  refine W.cs (cells' := 0) (slots' := 0) rfl rfl (W.eq (g2 := F0 m 5 ls [.int v1]) rfl ?_)
  refine lv_if_eq (tgt := 22) hx hb dX8_dredge_5 (by decide) (fun q_ => ?_) (fun q_ => ?_)
  · have hf := (r_ite hf).1 q_
    exact t_X8_dredge_22 X hr hk hn  B (lv_sub hl [] rfl) hf
  · have hf := (r_ite hf).2 q_
    refine lv_iload_n hx hb dX8_dredge_8 rfl (lv_at hl 2 rfl) ?_
    refine lv_iconst (v := 1) hx hb dX8_dredge_9 (by decide) ?_
    refine r_aload_n hx hb dX8_dredge_10 rfl (lv_at hl 0 rfl) ?_
    refine r_gR X B hf fX8_9 (fun _ _ => rfl) m_124 dX8_dredge_11 (fun v7 hf => ?_)
    refine lv_iload_n hx hb dX8_dredge_14 rfl (lv_at hl 1 rfl) ?_
    refine r_aIi X B hf dX8_dredge_15 (fun v8 hf => ?_)
    refine cal_inv hf ?_
    intro v9 h10 e11 hf
    refine r_call B (va_runS (As := [.int l2, .int 1, .int v8]) (rest := []) X.1 (c_X8_isIn (l := l) (D := D) (b := b) e11) (r_cwS X m_178 m_179 m_5 m_180 rfl rfl hd_X8_isIn ⟨Nat.le_of_ble_eq_true rfl, Nat.le_of_ble_eq_true rfl⟩) (r_preS X B [.int l2, .int 1, .int v8]) rfl rfl hl.1 rfl (lv_room (by simp [va_cat, cat_i, cat_r, cat_l])) dX8_dredge_16 ⟨Nat.zero_le _, Nat.zero_le _⟩) ?_
    intro H locs B
    refine W.cs (cells' := 0) (slots' := 0) rfl rfl (W.eq (g2 := F0 m 19 ls [.int v9]) rfl ?_)
    refine lv_if_ne (tgt := 24) hx hb dX8_dredge_19 (by decide) (fun q_ => ?_) (fun q_ => ?_)
    · have hf := (r_ite hf).2 q_
      refine r_aload_n hx hb dX8_dredge_24 rfl (lv_at hl 0 rfl) ?_
      refine r_gR X B hf fX8_9 (fun _ _ => rfl) m_124 dX8_dredge_25 (fun v12 hf => ?_)
      refine lv_iload_n hx hb dX8_dredge_28 rfl (lv_at hl 1 rfl) ?_
      refine lv_dup2_11 hx hb dX8_dredge_29 (rfl) (va_cat _) ?_
      refine r_aIi X B hf dX8_dredge_30 (fun v13 hf => ?_)
      refine lv_iload_n hx hb dX8_dredge_31 rfl (lv_at hl 2 rfl) ?_
      refine lv_isub hx hb dX8_dredge_32 ?_
      refine r_sIi X B hf dX8_dredge_33 (fun h14 H locs B hf => ?_)
      refine r_aload_n hx hb dX8_dredge_34 rfl (lv_at hl 0 rfl) ?_
      refine r_gR X B hf fX8_9 (fun _ _ => rfl) m_124 dX8_dredge_35 (fun v15 hf => ?_)
      refine lv_iload_n hx hb dX8_dredge_38 rfl (lv_at hl 1 rfl) ?_
      refine r_aIi X B hf dX8_dredge_39 (fun v16 hf => ?_)
      exact r_iret X B hr hk hf dX8_dredge_40
    · have hf := (r_ite hf).1 q_
      exact t_X8_dredge_22 X hr hk hn  B (lv_sub hl [] rfl) hf
def f_X8_custom_17 (h : AH) (s0 : Int32) : Option (Int32 × AH) := some (s0, h)
def f_X8_custom (h : AH) (l0 : Nat) (l1 : Int32) (l2 : Int32) : Option (Int32 × AH) := gI h (some l0) 8 38 (fun v1 => if v1 = 0 then f_X8_custom_17 h l2 else gR h (some l0) 8 37 (fun v2 => aI .int h v2 l1 (fun v3 => f_X8_custom_17 h v3)))
set_option maxRecDepth 100000 in
set_option maxHeartbeats 4000000 in
theorem t_X8_custom_17 {p : Program} {l : Launch} {e : Env} {s : State} {m : MethodId} {args : Array Value} {below : List Frame} {meth : Method} {c : Code} {D : RG} {b : Nat} {vv : Int32} {hh : AH} (X : r_C p c cX8_custom 3 s m args RX8 D b) (hr : meth.sig.returnType = (some .int)) (hk : meth.locks = false) (hn : meth.name = "custom") {h : AH} {H : Heap} {locs : List Loc} {ls : Array Slot} {s0 : Int32} (B : r_B D b s h H locs) (hl : lv_has ls 3 []) (hf : f_X8_custom_17 h s0 = some (vv, hh)) : W p l e ({ frames := 0, cells := 0, slots := 0, locals := 0 } : Room) s m args below meth c H locs 0 0 (MQ below (r_Q D b (some (.int vv)) hh) args s 0 0 (fun q => b ≤ q)) (F0 m 17 ls [.int s0]) := by
  obtain ⟨⟨hx, hb, hml, hown, hts⟩, -⟩ := id X
  unfold f_X8_custom_17 at hf
  exact r_iret X B hr hk hf dX8_custom_17
set_option maxRecDepth 100000 in
set_option maxHeartbeats 4000000 in
theorem c_X8_custom {l : Launch} {D : RG} {b : Nat} {h : AH} {l0 : Nat} {l1 : Int32} {l2 : Int32} {vv : Int32} {hh : AH} (hf : f_X8_custom h l0 l1 l2 = some (vv, hh)) : Met l yX8_custom (Cond.code yX8_custom cX8_custom 3 (some .int) :: wsL_law) ({ frames := 0, cells := 0, slots := 0, locals := 0 } : Room) (va_Pc [.ref l0, .int l1, .int l2] (r_I D b h)) (r_Q D b (some (.int vv)) hh) 0 0 (fun q => b ≤ q) := by
  refine r_ofW (own := RX8) rfl (by decide +kernel) (by simp [lg_sl, va_cat, cat_i, cat_r, cat_l]) ?_
  intro p e s m args below meth c ls X B hr hk hn hl
  have hl : lv_has ls 3 [(0, .ref l0), (1, .int l1), (2, .int l2)] := by simpa [lv_args, va_cat, cat_i, cat_r, cat_l] using hl
  have hl : lv_has ls 3 [(0, va_rf (some l0)), (1, .int l1), (2, .int l2)] := hl
  obtain ⟨⟨hx, hb, hml, hown, hts⟩, -⟩ := id X
  generalize s.heap = H at B ⊢
  generalize ([] : List Loc) = locs at B ⊢
  unfold f_X8_custom at hf
  refine r_aload_n hx hb dX8_custom_0 rfl (lv_at hl 0 rfl) ?_
  refine r_gI X B hf fX8_38 (fun _ _ => rfl) m_419 dX8_custom_1 (fun v1 hf => ?_)
  refine lv_if_eq (tgt := 16) hx hb dX8_custom_4 (by decide) (fun q_ => ?_) (fun q_ => ?_)
  · have hf := (r_ite hf).1 q_
    refine lv_iload_n hx hb dX8_custom_16 rfl (lv_at hl 2 rfl) ?_
    exact t_X8_custom_17 X hr hk hn  B (lv_sub hl [] rfl) hf
  · have hf := (r_ite hf).2 q_
    refine r_aload_n hx hb dX8_custom_7 rfl (lv_at hl 0 rfl) ?_
    refine r_gR X B hf fX8_37 (fun _ _ => rfl) m_145 dX8_custom_8 (fun v2 hf => ?_)
    refine lv_iload_n hx hb dX8_custom_11 rfl (lv_at hl 1 rfl) ?_
    refine r_aIi X B hf dX8_custom_12 (fun v3 hf => ?_)
    refine lv_goto (tgt := 17) hx hb dX8_custom_13 (by decide) ?_
    exact t_X8_custom_17 X hr hk hn  B (lv_sub hl [] rfl) hf
def f_X8_four_3 : Nat → AH → Nat → Int32 → Int32 → Option (Unit × AH)
  | 0, _, _, _, _ => none
  | n + 1, h, l0, l1, l2 => if l2 < 0 then some ((), h) else gR h (some l0) 8 31 (fun v1 => gI h (some l0) 8 33 (fun v2 => sI .byte h v1 v2 (Int8.toInt32 (Int32.toInt8 (l1 >>> (l2 &&& 31)))) (fun h3 => gI h3 (some l0) 8 33 (fun v4 => pI h3 (some l0) 8 33 (v4 + 1) (fun h5 => bd (l2 + (-8)) (fun v6 => f_X8_four_3 n h5 l0 l1 v6))))))
def f_X8_four (h : AH) (l0 : Nat) (l1 : Int32) : Option (Unit × AH) := f_X8_four_3 FU h l0 l1 24
set_option maxRecDepth 100000 in
set_option maxHeartbeats 4000000 in
theorem t_X8_four_3 {p : Program} {l : Launch} {e : Env} {s : State} {m : MethodId} {args : Array Value} {below : List Frame} {meth : Method} {c : Code} {D : RG} {b : Nat} {vv : Unit} {hh : AH} (X : r_C p c cX8_four 3 s m args RX8 D b) (hr : meth.sig.returnType = none) (hk : meth.locks = false) (hn : meth.name = "four") : ∀ (n : Nat) (h : AH) (H : Heap) (locs : List Loc) (ls : Array Slot) (l0 : Nat) (l1 : Int32) (l2 : Int32), r_B D b s h H locs → lv_has ls 3 [(0, va_rf (some l0)), (1, .int l1), (2, .int l2)] → f_X8_four_3 n h l0 l1 l2 = some (vv, hh) → W p l e ({ frames := 0, cells := 0, slots := 0, locals := 0 } : Room) s m args below meth c H locs 0 0 (MQ below (r_Q D b none hh) args s 0 0 (fun q => b ≤ q)) (F0 m 3 ls []) := by
  obtain ⟨⟨hx, hb, hml, hown, hts⟩, -⟩ := id X
  intro n
  induction n with
  | zero =>
    intro h H locs ls l0 l1 l2 B hl hf
    cases hf
  | succ n ih =>
    intro h H locs ls l0 l1 l2 B hl hf
    unfold f_X8_four_3 at hf
    refine lv_iload_n hx hb dX8_four_3 rfl (lv_at hl 2 rfl) ?_
    refine lv_if_lt (tgt := 36) hx hb dX8_four_4 (by decide) (fun q_ => ?_) (fun q_ => ?_)
    · have hf := (r_ite hf).1 q_
      exact r_vret X B hr hk hf dX8_four_36
    · have hf := (r_ite hf).2 q_
      refine r_aload_n hx hb dX8_four_7 rfl (lv_at hl 0 rfl) ?_
      refine r_gR X B hf fX8_31 (fun _ _ => rfl) m_142 dX8_four_8 (fun v1 hf => ?_)
      refine r_aload_n hx hb dX8_four_11 rfl (lv_at hl 0 rfl) ?_
      refine r_gI X B hf fX8_33 (fun _ _ => rfl) m_287 dX8_four_12 (fun v2 hf => ?_)
      refine lv_iload_n hx hb dX8_four_15 rfl (lv_at hl 1 rfl) ?_
      refine lv_iload_n hx hb dX8_four_16 rfl (lv_at hl 2 rfl) ?_
      refine lv_ishr hx hb dX8_four_17 ?_
      refine lv_i2b hx hb dX8_four_18 rfl ?_
      refine r_sIb X B hf dX8_four_19 (fun h3 H locs B hf => ?_)
      refine r_aload_n hx hb dX8_four_20 rfl (lv_at hl 0 rfl) ?_
      refine lv_dup hx hb dX8_four_21 (va_cat _) ?_
      refine r_gI X B hf fX8_33 (fun _ _ => rfl) m_287 dX8_four_22 (fun v4 hf => ?_)
      refine lv_iconst (v := 1) hx hb dX8_four_25 (by decide) ?_
      refine lv_iadd hx hb dX8_four_26 ?_
      refine r_pI X B hf fX8_33 (Or.inl rfl) m_287 dX8_four_27 (fun h5 H locs B hf => ?_)
      refine r_iinc (lv' := fun v6 => [(2, .int v6), (0, va_rf (some l0)), (1, .int l1)]) hx hb hf dX8_four_30 hl (k := 2) rfl (by decide) (by decide) (fun v => by first | rfl | simp [va_cat, cat_i, cat_r, cat_l]) (fun v6 ls hl hf => ?_)
      refine lv_goto (tgt := 3) hx hb dX8_four_33 (by decide) ?_
      exact ih _ _ _ _ _ _ _ B (lv_sub hl [1, 2, 0] rfl) hf
set_option maxRecDepth 100000 in
set_option maxHeartbeats 4000000 in
theorem c_X8_four {l : Launch} {D : RG} {b : Nat} {h : AH} {l0 : Nat} {l1 : Int32} {vv : Unit} {hh : AH} (hf : f_X8_four h l0 l1 = some (vv, hh)) : Met l yX8_four (Cond.code yX8_four cX8_four 3 none :: wsL_law) ({ frames := 0, cells := 0, slots := 0, locals := 0 } : Room) (va_Pc [.ref l0, .int l1] (r_I D b h)) (r_Q D b none hh) 0 0 (fun q => b ≤ q) := by
  refine r_ofW (own := RX8) rfl (by decide +kernel) (by simp [lg_sl, va_cat, cat_i, cat_r, cat_l]) ?_
  intro p e s m args below meth c ls X B hr hk hn hl
  have hl : lv_has ls 3 [(0, .ref l0), (1, .int l1)] := by simpa [lv_args, va_cat, cat_i, cat_r, cat_l] using hl
  have hl : lv_has ls 3 [(0, va_rf (some l0)), (1, .int l1)] := hl
  obtain ⟨⟨hx, hb, hml, hown, hts⟩, -⟩ := id X
  generalize s.heap = H at B ⊢
  generalize ([] : List Loc) = locs at B ⊢
  unfold f_X8_four at hf
  refine lv_bipush (v := 24) hx hb dX8_four_0 (by decide) ?_
  refine lv_istore_n (i := 2) (lv' := [(2, .int 24), (0, va_rf (some l0)), (1, .int l1)]) hx hb dX8_four_2 rfl hl (by decide) (by first | rfl | simp [va_cat, cat_i, cat_r, cat_l]) (fun ls hl => ?_)
  exact t_X8_four_3 X hr hk hn  _ _ _ _ _ _ _ _ B (lv_sub hl [1, 2, 0] rfl) hf
def f_X8_feed (h : AH) (l0 : Nat) (l1 : Int32) (l2 : Int32) (l3 : Int32) (l4 : Int32) (l5 : Int32) : Option (Int32 × AH) := gI h (some l0) 8 33 (fun v1 => if (v1 + 20) ≤ 300 then rcv h (some l0) 8 (fun a5 => cal (f_X8_four h a5 l1) (fun v2 h3 => rcv h3 (some l0) 8 (fun a11 => cal (f_X8_four h3 a11 l2) (fun v8 h9 => rcv h9 (some l0) 8 (fun a17 => cal (f_X8_four h9 a17 l3) (fun v14 h15 => rcv h15 (some l0) 8 (fun a23 => cal (f_X8_four h15 a23 l4) (fun v20 h21 => rcv h21 (some l0) 8 (fun a29 => cal (f_X8_four h21 a29 l5) (fun v26 h27 => gI h27 (some l0) 8 33 (fun v32 => some (v32, h27)))))))))))) else some ((-1), h))
set_option maxRecDepth 100000 in
set_option maxHeartbeats 4000000 in
theorem c_X8_feed {l : Launch} {D : RG} {b : Nat} {h : AH} {l0 : Nat} {l1 : Int32} {l2 : Int32} {l3 : Int32} {l4 : Int32} {l5 : Int32} {vv : Int32} {hh : AH} (hf : f_X8_feed h l0 l1 l2 l3 l4 l5 = some (vv, hh)) : Met l yX8_feed (Cond.code yX8_feed cX8_feed 6 (some .int) :: wsL_law) ({ frames := 1, cells := 0, slots := 0, locals := 22 } : Room) (va_Pc [.ref l0, .int l1, .int l2, .int l3, .int l4, .int l5] (r_I D b h)) (r_Q D b (some (.int vv)) hh) 0 0 (fun q => b ≤ q) := by
  refine r_ofW (own := RX8) rfl (by decide +kernel) (by simp [lg_sl, va_cat, cat_i, cat_r, cat_l]) ?_
  intro p e s m args below meth c ls X B hr hk hn hl
  have hl : lv_has ls 6 [(0, .ref l0), (1, .int l1), (2, .int l2), (3, .int l3), (4, .int l4), (5, .int l5)] := by simpa [lv_args, va_cat, cat_i, cat_r, cat_l] using hl
  have hl : lv_has ls 6 [(0, va_rf (some l0)), (1, .int l1), (2, .int l2), (3, .int l3), (4, .int l4), (5, .int l5)] := hl
  obtain ⟨⟨hx, hb, hml, hown, hts⟩, -⟩ := id X
  generalize s.heap = H at B ⊢
  generalize ([] : List Loc) = locs at B ⊢
  unfold f_X8_feed at hf
  refine r_aload_n hx hb dX8_feed_0 rfl (lv_at hl 0 rfl) ?_
  refine r_gI X B hf fX8_33 (fun _ _ => rfl) m_287 dX8_feed_1 (fun v1 hf => ?_)
  refine lv_bipush (v := 20) hx hb dX8_feed_4 (by decide) ?_
  refine lv_iadd hx hb dX8_feed_6 ?_
  refine lv_sipush (v := 300) hx hb dX8_feed_7 (by decide) ?_
  refine lv_icmp_le (tgt := 15) hx hb dX8_feed_10 (by decide) (fun q_ => ?_) (fun q_ => ?_)
  · have hf := (r_ite hf).1 q_
    refine r_aload_n hx hb dX8_feed_15 rfl (lv_at hl 0 rfl) ?_
    refine lv_iload_n hx hb dX8_feed_16 rfl (lv_at hl 1 rfl) ?_
    refine rcv_inv hf ?_
    intro a5 e6 s7 hf
    refine cal_inv hf ?_
    intro v2 h3 e4 hf
    refine r_call B (va_runV (As := [.int l1]) (rest := []) X.1 (c_X8_four (l := l) (D := D) (b := b) e4) (r_cwV X rfl m_288 m_289 m_290 m_5 m_291 rfl rfl hd_X8_four ⟨Nat.le_of_ble_eq_true rfl, Nat.le_of_ble_eq_true rfl⟩) (r_preV X B s7 rfl [.int l1]) rfl rfl hl.1 (by rw [e6]; rfl) (lv_room (by simp [va_cat, cat_i, cat_r, cat_l])) dX8_feed_17 ⟨Nat.zero_le _, Nat.zero_le _⟩) ?_
    intro H locs B
    refine W.cs (cells' := 0) (slots' := 0) rfl rfl (W.eq (g2 := F0 m 20 ls []) rfl ?_)
    refine r_aload_n hx hb dX8_feed_20 rfl (lv_at hl 0 rfl) ?_
    refine lv_iload_n hx hb dX8_feed_21 rfl (lv_at hl 2 rfl) ?_
    refine rcv_inv hf ?_
    intro a11 e12 s13 hf
    refine cal_inv hf ?_
    intro v8 h9 e10 hf
    refine r_call B (va_runV (As := [.int l2]) (rest := []) X.1 (c_X8_four (l := l) (D := D) (b := b) e10) (r_cwV X rfl m_288 m_289 m_290 m_5 m_291 rfl rfl hd_X8_four ⟨Nat.le_of_ble_eq_true rfl, Nat.le_of_ble_eq_true rfl⟩) (r_preV X B s13 rfl [.int l2]) rfl rfl hl.1 (by rw [e12]; rfl) (lv_room (by simp [va_cat, cat_i, cat_r, cat_l])) dX8_feed_22 ⟨Nat.zero_le _, Nat.zero_le _⟩) ?_
    intro H locs B
    refine W.cs (cells' := 0) (slots' := 0) rfl rfl (W.eq (g2 := F0 m 25 ls []) rfl ?_)
    refine r_aload_n hx hb dX8_feed_25 rfl (lv_at hl 0 rfl) ?_
    refine lv_iload_n hx hb dX8_feed_26 rfl (lv_at hl 3 rfl) ?_
    refine rcv_inv hf ?_
    intro a17 e18 s19 hf
    refine cal_inv hf ?_
    intro v14 h15 e16 hf
    refine r_call B (va_runV (As := [.int l3]) (rest := []) X.1 (c_X8_four (l := l) (D := D) (b := b) e16) (r_cwV X rfl m_288 m_289 m_290 m_5 m_291 rfl rfl hd_X8_four ⟨Nat.le_of_ble_eq_true rfl, Nat.le_of_ble_eq_true rfl⟩) (r_preV X B s19 rfl [.int l3]) rfl rfl hl.1 (by rw [e18]; rfl) (lv_room (by simp [va_cat, cat_i, cat_r, cat_l])) dX8_feed_27 ⟨Nat.zero_le _, Nat.zero_le _⟩) ?_
    intro H locs B
    refine W.cs (cells' := 0) (slots' := 0) rfl rfl (W.eq (g2 := F0 m 30 ls []) rfl ?_)
    refine r_aload_n hx hb dX8_feed_30 rfl (lv_at hl 0 rfl) ?_
    refine lv_iload hx hb dX8_feed_31 (lv_at hl 4 rfl) ?_
    refine rcv_inv hf ?_
    intro a23 e24 s25 hf
    refine cal_inv hf ?_
    intro v20 h21 e22 hf
    refine r_call B (va_runV (As := [.int l4]) (rest := []) X.1 (c_X8_four (l := l) (D := D) (b := b) e22) (r_cwV X rfl m_288 m_289 m_290 m_5 m_291 rfl rfl hd_X8_four ⟨Nat.le_of_ble_eq_true rfl, Nat.le_of_ble_eq_true rfl⟩) (r_preV X B s25 rfl [.int l4]) rfl rfl hl.1 (by rw [e24]; rfl) (lv_room (by simp [va_cat, cat_i, cat_r, cat_l])) dX8_feed_33 ⟨Nat.zero_le _, Nat.zero_le _⟩) ?_
    intro H locs B
    refine W.cs (cells' := 0) (slots' := 0) rfl rfl (W.eq (g2 := F0 m 36 ls []) rfl ?_)
    refine r_aload_n hx hb dX8_feed_36 rfl (lv_at hl 0 rfl) ?_
    refine lv_iload hx hb dX8_feed_37 (lv_at hl 5 rfl) ?_
    refine rcv_inv hf ?_
    intro a29 e30 s31 hf
    refine cal_inv hf ?_
    intro v26 h27 e28 hf
    refine r_call B (va_runV (As := [.int l5]) (rest := []) X.1 (c_X8_four (l := l) (D := D) (b := b) e28) (r_cwV X rfl m_288 m_289 m_290 m_5 m_291 rfl rfl hd_X8_four ⟨Nat.le_of_ble_eq_true rfl, Nat.le_of_ble_eq_true rfl⟩) (r_preV X B s31 rfl [.int l5]) rfl rfl hl.1 (by rw [e30]; rfl) (lv_room (by simp [va_cat, cat_i, cat_r, cat_l])) dX8_feed_39 ⟨Nat.zero_le _, Nat.zero_le _⟩) ?_
    intro H locs B
    refine W.cs (cells' := 0) (slots' := 0) rfl rfl (W.eq (g2 := F0 m 42 ls []) rfl ?_)
    refine r_aload_n hx hb dX8_feed_42 rfl (lv_at hl 0 rfl) ?_
    refine r_gI X B hf fX8_33 (fun _ _ => rfl) m_287 dX8_feed_43 (fun v32 hf => ?_)
    exact r_iret X B hr hk hf dX8_feed_46
  · have hf := (r_ite hf).2 q_
    refine lv_iconst (v := (-1)) hx hb dX8_feed_13 (by decide) ?_
    exact r_iret X B hr hk hf dX8_feed_14
def f_X8_blanks_52 (h : AH)  : Option (Unit × AH) := some ((), h)
def f_X8_blanks_39 (k_0 : AH → Nat → Option (Unit × AH)) (h : AH) (l0 : Nat) : Option (Unit × AH) := gI h (some l0) 8 34 (fun v1 => pI h (some l0) 8 34 (v1 + 1) (fun h2 => k_0 h2 l0))
def f_X8_blanks_0 : Nat → AH → Nat → Option (Unit × AH)
  | 0, _, _ => none
  | n + 1, h, l0 => gI h (some l0) 8 34 (fun v3 => gI h (some l0) 8 35 (fun v4 => if v4 ≤ v3 then f_X8_blanks_52 h else gR h (some l0) 8 32 (fun v5 => gI h (some l0) 8 34 (fun v6 => aI .byte h v5 v6 (fun v7 => if v7 = 32 then f_X8_blanks_39 (f_X8_blanks_0 n) h l0 else gR h (some l0) 8 32 (fun v8 => gI h (some l0) 8 34 (fun v9 => aI .byte h v8 v9 (fun v10 => if v10 = 10 then f_X8_blanks_39 (f_X8_blanks_0 n) h l0 else f_X8_blanks_52 h))))))))
def f_X8_blanks (h : AH) (l0 : Nat) : Option (Unit × AH) := f_X8_blanks_0 FU h l0
set_option maxRecDepth 100000 in
set_option maxHeartbeats 4000000 in
theorem t_X8_blanks_52 {p : Program} {l : Launch} {e : Env} {s : State} {m : MethodId} {args : Array Value} {below : List Frame} {meth : Method} {c : Code} {D : RG} {b : Nat} {vv : Unit} {hh : AH} (X : r_C p c cX8_blanks 1 s m args RX8 D b) (hr : meth.sig.returnType = none) (hk : meth.locks = false) (hn : meth.name = "blanks") {h : AH} {H : Heap} {locs : List Loc} {ls : Array Slot}  (B : r_B D b s h H locs) (hl : lv_has ls 1 []) (hf : f_X8_blanks_52 h  = some (vv, hh)) : W p l e ({ frames := 0, cells := 0, slots := 0, locals := 0 } : Room) s m args below meth c H locs 0 0 (MQ below (r_Q D b none hh) args s 0 0 (fun q => b ≤ q)) (F0 m 52 ls []) := by
  obtain ⟨⟨hx, hb, hml, hown, hts⟩, -⟩ := id X
  unfold f_X8_blanks_52 at hf
  exact r_vret X B hr hk hf dX8_blanks_52
set_option maxRecDepth 100000 in
set_option maxHeartbeats 4000000 in
theorem t_X8_blanks_39 {p : Program} {l : Launch} {e : Env} {s : State} {m : MethodId} {args : Array Value} {below : List Frame} {meth : Method} {c : Code} {D : RG} {b : Nat} {vv : Unit} {hh : AH} (X : r_C p c cX8_blanks 1 s m args RX8 D b) (hr : meth.sig.returnType = none) (hk : meth.locks = false) (hn : meth.name = "blanks") {k_0 : AH → Nat → Option (Unit × AH)} (r_0 : ∀ (h : AH) (H : Heap) (locs : List Loc) (ls : Array Slot) (l0 : Nat), r_B D b s h H locs → lv_has ls 1 [(0, va_rf (some l0))] → k_0 h l0 = some (vv, hh) → W p l e ({ frames := 0, cells := 0, slots := 0, locals := 0 } : Room) s m args below meth c H locs 0 0 (MQ below (r_Q D b none hh) args s 0 0 (fun q => b ≤ q)) (F0 m 0 ls [])) {h : AH} {H : Heap} {locs : List Loc} {ls : Array Slot} {l0 : Nat} (B : r_B D b s h H locs) (hl : lv_has ls 1 [(0, va_rf (some l0))]) (hf : f_X8_blanks_39 k_0 h l0 = some (vv, hh)) : W p l e ({ frames := 0, cells := 0, slots := 0, locals := 0 } : Room) s m args below meth c H locs 0 0 (MQ below (r_Q D b none hh) args s 0 0 (fun q => b ≤ q)) (F0 m 39 ls []) := by
  obtain ⟨⟨hx, hb, hml, hown, hts⟩, -⟩ := id X
  unfold f_X8_blanks_39 at hf
  refine r_aload_n hx hb dX8_blanks_39 rfl (lv_at hl 0 rfl) ?_
  refine lv_dup hx hb dX8_blanks_40 (va_cat _) ?_
  refine r_gI X B hf fX8_34 (fun _ _ => rfl) m_418 dX8_blanks_41 (fun v1 hf => ?_)
  refine lv_iconst (v := 1) hx hb dX8_blanks_44 (by decide) ?_
  refine lv_iadd hx hb dX8_blanks_45 ?_
  refine r_pI X B hf fX8_34 (Or.inl rfl) m_418 dX8_blanks_46 (fun h2 H locs B hf => ?_)
  refine lv_goto (tgt := 0) hx hb dX8_blanks_49 (by decide) ?_
  exact r_0 _ _ _ _ _ B (lv_sub hl [0] rfl) hf
set_option maxRecDepth 100000 in
set_option maxHeartbeats 4000000 in
theorem t_X8_blanks_0 {p : Program} {l : Launch} {e : Env} {s : State} {m : MethodId} {args : Array Value} {below : List Frame} {meth : Method} {c : Code} {D : RG} {b : Nat} {vv : Unit} {hh : AH} (X : r_C p c cX8_blanks 1 s m args RX8 D b) (hr : meth.sig.returnType = none) (hk : meth.locks = false) (hn : meth.name = "blanks") : ∀ (n : Nat) (h : AH) (H : Heap) (locs : List Loc) (ls : Array Slot) (l0 : Nat), r_B D b s h H locs → lv_has ls 1 [(0, va_rf (some l0))] → f_X8_blanks_0 n h l0 = some (vv, hh) → W p l e ({ frames := 0, cells := 0, slots := 0, locals := 0 } : Room) s m args below meth c H locs 0 0 (MQ below (r_Q D b none hh) args s 0 0 (fun q => b ≤ q)) (F0 m 0 ls []) := by
  obtain ⟨⟨hx, hb, hml, hown, hts⟩, -⟩ := id X
  intro n
  induction n with
  | zero =>
    intro h H locs ls l0 B hl hf
    cases hf
  | succ n ih =>
    intro h H locs ls l0 B hl hf
    unfold f_X8_blanks_0 at hf
    refine r_aload_n hx hb dX8_blanks_0 rfl (lv_at hl 0 rfl) ?_
    refine r_gI X B hf fX8_34 (fun _ _ => rfl) m_418 dX8_blanks_1 (fun v3 hf => ?_)
    refine r_aload_n hx hb dX8_blanks_4 rfl (lv_at hl 0 rfl) ?_
    refine r_gI X B hf fX8_35 (fun _ _ => rfl) m_417 dX8_blanks_5 (fun v4 hf => ?_)
    refine lv_icmp_ge (tgt := 52) hx hb dX8_blanks_8 (by decide) (fun q_ => ?_) (fun q_ => ?_)
    · have hf := (r_ite hf).1 q_
      exact t_X8_blanks_52 X hr hk hn  B (lv_sub hl [] rfl) hf
    · have hf := (r_ite hf).2 q_
      refine r_aload_n hx hb dX8_blanks_11 rfl (lv_at hl 0 rfl) ?_
      refine r_gR X B hf fX8_32 (fun _ _ => rfl) m_143 dX8_blanks_12 (fun v5 hf => ?_)
      refine r_aload_n hx hb dX8_blanks_15 rfl (lv_at hl 0 rfl) ?_
      refine r_gI X B hf fX8_34 (fun _ _ => rfl) m_418 dX8_blanks_16 (fun v6 hf => ?_)
      refine r_aIb X B hf dX8_blanks_19 (fun v7 hf => ?_)
      refine lv_bipush (v := 32) hx hb dX8_blanks_20 (by decide) ?_
      refine lv_icmp_eq (tgt := 39) hx hb dX8_blanks_22 (by decide) (fun q_ => ?_) (fun q_ => ?_)
      · have hf := (r_ite hf).1 q_
        exact t_X8_blanks_39 X hr hk hn ih B (lv_sub hl [0] rfl) hf
      · have hf := (r_ite hf).2 q_
        refine r_aload_n hx hb dX8_blanks_25 rfl (lv_at hl 0 rfl) ?_
        refine r_gR X B hf fX8_32 (fun _ _ => rfl) m_143 dX8_blanks_26 (fun v8 hf => ?_)
        refine r_aload_n hx hb dX8_blanks_29 rfl (lv_at hl 0 rfl) ?_
        refine r_gI X B hf fX8_34 (fun _ _ => rfl) m_418 dX8_blanks_30 (fun v9 hf => ?_)
        refine r_aIb X B hf dX8_blanks_33 (fun v10 hf => ?_)
        refine lv_bipush (v := 10) hx hb dX8_blanks_34 (by decide) ?_
        refine lv_icmp_ne (tgt := 52) hx hb dX8_blanks_36 (by decide) (fun q_ => ?_) (fun q_ => ?_)
        · have hf := (r_ite hf).2 q_
          exact t_X8_blanks_52 X hr hk hn  B (lv_sub hl [] rfl) hf
        · have hf := (r_ite hf).1 q_
          exact t_X8_blanks_39 X hr hk hn ih B (lv_sub hl [0] rfl) hf
set_option maxRecDepth 100000 in
set_option maxHeartbeats 4000000 in
theorem c_X8_blanks {l : Launch} {D : RG} {b : Nat} {h : AH} {l0 : Nat} {vv : Unit} {hh : AH} (hf : f_X8_blanks h l0 = some (vv, hh)) : Met l yX8_blanks (Cond.code yX8_blanks cX8_blanks 1 none :: wsL_law) ({ frames := 0, cells := 0, slots := 0, locals := 0 } : Room) (va_Pc [.ref l0] (r_I D b h)) (r_Q D b none hh) 0 0 (fun q => b ≤ q) := by
  refine r_ofW (own := RX8) rfl (by decide +kernel) (by simp [lg_sl, va_cat, cat_i, cat_r, cat_l]) ?_
  intro p e s m args below meth c ls X B hr hk hn hl
  have hl : lv_has ls 1 [(0, .ref l0)] := by simpa [lv_args, va_cat, cat_i, cat_r, cat_l] using hl
  have hl : lv_has ls 1 [(0, va_rf (some l0))] := hl
  obtain ⟨⟨hx, hb, hml, hown, hts⟩, -⟩ := id X
  generalize s.heap = H at B ⊢
  generalize ([] : List Loc) = locs at B ⊢
  unfold f_X8_blanks at hf
  exact t_X8_blanks_0 X hr hk hn FU _ _ _ _ _ B (lv_sub hl [0] rfl) hf
def f_X8_word_119 (h : AH) (s0 : Int64) : Option (Int64 × AH) := some (s0, h)
def f_X8_word_100 (h : AH) (l0 : Nat) (l1 : Int64) : Option (Int64 × AH) := gI h (some l0) 8 39 (fun v1 => gI h (some l0) 8 34 (fun v2 => if (v1 - v2) ≤ 7 then f_X8_word_119 h l1 else f_X8_word_119 h 0))
def f_X8_word_86 (k_14 : AH → Nat → Int64 → Option (Int64 × AH)) (h : AH) (l0 : Nat) (s0 : Int64) : Option (Int64 × AH) := gI h (some l0) 8 39 (fun v3 => pI h (some l0) 8 39 (v3 + 1) (fun h4 => k_14 h4 l0 s0))
def f_X8_word_14 : Nat → AH → Nat → Int64 → Option (Int64 × AH)
  | 0, _, _, _ => none
  | n + 1, h, l0, l1 => gI h (some l0) 8 39 (fun v5 => gI h (some l0) 8 35 (fun v6 => if v6 ≤ v5 then f_X8_word_100 h l0 l1 else gR h (some l0) 8 32 (fun v7 => gI h (some l0) 8 39 (fun v8 => aI .byte h v7 v8 (fun v9 => if v9 < 97 then f_X8_word_100 h l0 l1 else gR h (some l0) 8 32 (fun v10 => gI h (some l0) 8 39 (fun v11 => aI .byte h v10 v11 (fun v12 => if 122 < v12 then f_X8_word_100 h l0 l1 else gI h (some l0) 8 39 (fun v13 => gI h (some l0) 8 34 (fun v14 => if 7 ≤ (v13 - v14) then f_X8_word_86 (f_X8_word_14 n) h l0 0 else gR h (some l0) 8 32 (fun v15 => gI h (some l0) 8 39 (fun v16 => aI .byte h v15 v16 (fun v17 => f_X8_word_86 (f_X8_word_14 n) h l0 ((l1 <<< ((8 : Int32).toInt64 &&& 63)) ||| (Int32.toInt64 v17)))))))))))))))
def f_X8_word (h : AH) (l0 : Nat) : Option (Int64 × AH) := rcv h (some l0) 8 (fun a21 => cal (f_X8_blanks h a21) (fun v18 h19 => gI h19 (some l0) 8 34 (fun v24 => pI h19 (some l0) 8 39 v24 (fun h25 => f_X8_word_14 FU h25 l0 0))))
set_option maxRecDepth 100000 in
set_option maxHeartbeats 4000000 in
theorem t_X8_word_119 {p : Program} {l : Launch} {e : Env} {s : State} {m : MethodId} {args : Array Value} {below : List Frame} {meth : Method} {c : Code} {D : RG} {b : Nat} {vv : Int64} {hh : AH} (X : r_C p c cX8_word 3 s m args RX8 D b) (hr : meth.sig.returnType = (some .long)) (hk : meth.locks = false) (hn : meth.name = "word") {h : AH} {H : Heap} {locs : List Loc} {ls : Array Slot} {s0 : Int64} (B : r_B D b s h H locs) (hl : lv_has ls 3 []) (hf : f_X8_word_119 h s0 = some (vv, hh)) : W p l e ({ frames := 1, cells := 0, slots := 0, locals := 20 } : Room) s m args below meth c H locs 0 0 (MQ below (r_Q D b (some (.long vv)) hh) args s 0 0 (fun q => b ≤ q)) (F0 m 119 ls [.long s0]) := by
  obtain ⟨⟨hx, hb, hml, hown, hts⟩, -⟩ := id X
  unfold f_X8_word_119 at hf
  exact r_lret X B hr hk hf dX8_word_119
set_option maxRecDepth 100000 in
set_option maxHeartbeats 4000000 in
theorem t_X8_word_100 {p : Program} {l : Launch} {e : Env} {s : State} {m : MethodId} {args : Array Value} {below : List Frame} {meth : Method} {c : Code} {D : RG} {b : Nat} {vv : Int64} {hh : AH} (X : r_C p c cX8_word 3 s m args RX8 D b) (hr : meth.sig.returnType = (some .long)) (hk : meth.locks = false) (hn : meth.name = "word") {h : AH} {H : Heap} {locs : List Loc} {ls : Array Slot} {l0 : Nat} {l1 : Int64} (B : r_B D b s h H locs) (hl : lv_has ls 3 [(0, va_rf (some l0)), (1, .long l1)]) (hf : f_X8_word_100 h l0 l1 = some (vv, hh)) : W p l e ({ frames := 1, cells := 0, slots := 0, locals := 20 } : Room) s m args below meth c H locs 0 0 (MQ below (r_Q D b (some (.long vv)) hh) args s 0 0 (fun q => b ≤ q)) (F0 m 100 ls []) := by
  obtain ⟨⟨hx, hb, hml, hown, hts⟩, -⟩ := id X
  unfold f_X8_word_100 at hf
  refine r_aload_n hx hb dX8_word_100 rfl (lv_at hl 0 rfl) ?_
  refine r_gI X B hf fX8_39 (fun _ _ => rfl) m_439 dX8_word_101 (fun v1 hf => ?_)
  refine r_aload_n hx hb dX8_word_104 rfl (lv_at hl 0 rfl) ?_
  refine r_gI X B hf fX8_34 (fun _ _ => rfl) m_418 dX8_word_105 (fun v2 hf => ?_)
  refine lv_isub hx hb dX8_word_108 ?_
  refine lv_bipush (v := 7) hx hb dX8_word_109 (by decide) ?_
  refine lv_icmp_le (tgt := 118) hx hb dX8_word_111 (by decide) (fun q_ => ?_) (fun q_ => ?_)
  · have hf := (r_ite hf).1 q_
    refine lv_lload_n hx hb dX8_word_118 rfl (lv_at hl 1 rfl) ?_
    exact t_X8_word_119 X hr hk hn  B (lv_sub hl [] rfl) hf
  · have hf := (r_ite hf).2 q_
    refine lv_lconst (v := 0) hx hb dX8_word_114 (by decide) ?_
    refine lv_goto (tgt := 119) hx hb dX8_word_115 (by decide) ?_
    exact t_X8_word_119 X hr hk hn  B (lv_sub hl [] rfl) hf
set_option maxRecDepth 100000 in
set_option maxHeartbeats 4000000 in
theorem t_X8_word_86 {p : Program} {l : Launch} {e : Env} {s : State} {m : MethodId} {args : Array Value} {below : List Frame} {meth : Method} {c : Code} {D : RG} {b : Nat} {vv : Int64} {hh : AH} (X : r_C p c cX8_word 3 s m args RX8 D b) (hr : meth.sig.returnType = (some .long)) (hk : meth.locks = false) (hn : meth.name = "word") {k_14 : AH → Nat → Int64 → Option (Int64 × AH)} (r_14 : ∀ (h : AH) (H : Heap) (locs : List Loc) (ls : Array Slot) (l0 : Nat) (l1 : Int64), r_B D b s h H locs → lv_has ls 3 [(0, va_rf (some l0)), (1, .long l1)] → k_14 h l0 l1 = some (vv, hh) → W p l e ({ frames := 1, cells := 0, slots := 0, locals := 20 } : Room) s m args below meth c H locs 0 0 (MQ below (r_Q D b (some (.long vv)) hh) args s 0 0 (fun q => b ≤ q)) (F0 m 14 ls [])) {h : AH} {H : Heap} {locs : List Loc} {ls : Array Slot} {l0 : Nat} {s0 : Int64} (B : r_B D b s h H locs) (hl : lv_has ls 3 [(0, va_rf (some l0))]) (hf : f_X8_word_86 k_14 h l0 s0 = some (vv, hh)) : W p l e ({ frames := 1, cells := 0, slots := 0, locals := 20 } : Room) s m args below meth c H locs 0 0 (MQ below (r_Q D b (some (.long vv)) hh) args s 0 0 (fun q => b ≤ q)) (F0 m 86 ls [.long s0]) := by
  obtain ⟨⟨hx, hb, hml, hown, hts⟩, -⟩ := id X
  unfold f_X8_word_86 at hf
  refine lv_lstore_n (i := 1) (lv' := [(1, .long s0), (0, va_rf (some l0))]) hx hb dX8_word_86 rfl hl (by decide) (by first | rfl | simp [va_cat, cat_i, cat_r, cat_l]) (fun ls hl => ?_)
  refine r_aload_n hx hb dX8_word_87 rfl (lv_at hl 1 rfl) ?_
  refine lv_dup hx hb dX8_word_88 (va_cat _) ?_
  refine r_gI X B hf fX8_39 (fun _ _ => rfl) m_439 dX8_word_89 (fun v3 hf => ?_)
  refine lv_iconst (v := 1) hx hb dX8_word_92 (by decide) ?_
  refine lv_iadd hx hb dX8_word_93 ?_
  refine r_pI X B hf fX8_39 (Or.inl rfl) m_439 dX8_word_94 (fun h4 H locs B hf => ?_)
  refine lv_goto (tgt := 14) hx hb dX8_word_97 (by decide) ?_
  exact r_14 _ _ _ _ _ _ B (lv_sub hl [1, 0] rfl) hf
set_option maxRecDepth 100000 in
set_option maxHeartbeats 4000000 in
theorem t_X8_word_14 {p : Program} {l : Launch} {e : Env} {s : State} {m : MethodId} {args : Array Value} {below : List Frame} {meth : Method} {c : Code} {D : RG} {b : Nat} {vv : Int64} {hh : AH} (X : r_C p c cX8_word 3 s m args RX8 D b) (hr : meth.sig.returnType = (some .long)) (hk : meth.locks = false) (hn : meth.name = "word") : ∀ (n : Nat) (h : AH) (H : Heap) (locs : List Loc) (ls : Array Slot) (l0 : Nat) (l1 : Int64), r_B D b s h H locs → lv_has ls 3 [(0, va_rf (some l0)), (1, .long l1)] → f_X8_word_14 n h l0 l1 = some (vv, hh) → W p l e ({ frames := 1, cells := 0, slots := 0, locals := 20 } : Room) s m args below meth c H locs 0 0 (MQ below (r_Q D b (some (.long vv)) hh) args s 0 0 (fun q => b ≤ q)) (F0 m 14 ls []) := by
  obtain ⟨⟨hx, hb, hml, hown, hts⟩, -⟩ := id X
  intro n
  induction n with
  | zero =>
    intro h H locs ls l0 l1 B hl hf
    cases hf
  | succ n ih =>
    intro h H locs ls l0 l1 B hl hf
    unfold f_X8_word_14 at hf
    refine r_aload_n hx hb dX8_word_14 rfl (lv_at hl 0 rfl) ?_
    refine r_gI X B hf fX8_39 (fun _ _ => rfl) m_439 dX8_word_15 (fun v5 hf => ?_)
    refine r_aload_n hx hb dX8_word_18 rfl (lv_at hl 0 rfl) ?_
    refine r_gI X B hf fX8_35 (fun _ _ => rfl) m_417 dX8_word_19 (fun v6 hf => ?_)
    refine lv_icmp_ge (tgt := 100) hx hb dX8_word_22 (by decide) (fun q_ => ?_) (fun q_ => ?_)
    · have hf := (r_ite hf).1 q_
      exact t_X8_word_100 X hr hk hn  B (lv_sub hl [0, 1] rfl) hf
    · have hf := (r_ite hf).2 q_
      refine r_aload_n hx hb dX8_word_25 rfl (lv_at hl 0 rfl) ?_
      refine r_gR X B hf fX8_32 (fun _ _ => rfl) m_143 dX8_word_26 (fun v7 hf => ?_)
      refine r_aload_n hx hb dX8_word_29 rfl (lv_at hl 0 rfl) ?_
      refine r_gI X B hf fX8_39 (fun _ _ => rfl) m_439 dX8_word_30 (fun v8 hf => ?_)
      refine r_aIb X B hf dX8_word_33 (fun v9 hf => ?_)
      refine lv_bipush (v := 97) hx hb dX8_word_34 (by decide) ?_
      refine lv_icmp_lt (tgt := 100) hx hb dX8_word_36 (by decide) (fun q_ => ?_) (fun q_ => ?_)
      · have hf := (r_ite hf).1 q_
        exact t_X8_word_100 X hr hk hn  B (lv_sub hl [0, 1] rfl) hf
      · have hf := (r_ite hf).2 q_
        refine r_aload_n hx hb dX8_word_39 rfl (lv_at hl 0 rfl) ?_
        refine r_gR X B hf fX8_32 (fun _ _ => rfl) m_143 dX8_word_40 (fun v10 hf => ?_)
        refine r_aload_n hx hb dX8_word_43 rfl (lv_at hl 0 rfl) ?_
        refine r_gI X B hf fX8_39 (fun _ _ => rfl) m_439 dX8_word_44 (fun v11 hf => ?_)
        refine r_aIb X B hf dX8_word_47 (fun v12 hf => ?_)
        refine lv_bipush (v := 122) hx hb dX8_word_48 (by decide) ?_
        refine lv_icmp_gt (tgt := 100) hx hb dX8_word_50 (by decide) (fun q_ => ?_) (fun q_ => ?_)
        · have hf := (r_ite hf).1 q_
          exact t_X8_word_100 X hr hk hn  B (lv_sub hl [0, 1] rfl) hf
        · have hf := (r_ite hf).2 q_
          refine r_aload_n hx hb dX8_word_53 rfl (lv_at hl 0 rfl) ?_
          refine r_gI X B hf fX8_39 (fun _ _ => rfl) m_439 dX8_word_54 (fun v13 hf => ?_)
          refine r_aload_n hx hb dX8_word_57 rfl (lv_at hl 0 rfl) ?_
          refine r_gI X B hf fX8_34 (fun _ _ => rfl) m_418 dX8_word_58 (fun v14 hf => ?_)
          refine lv_isub hx hb dX8_word_61 ?_
          refine lv_bipush (v := 7) hx hb dX8_word_62 (by decide) ?_
          refine lv_icmp_ge (tgt := 85) hx hb dX8_word_64 (by decide) (fun q_ => ?_) (fun q_ => ?_)
          · have hf := (r_ite hf).1 q_
            refine lv_lconst (v := 0) hx hb dX8_word_85 (by decide) ?_
            exact t_X8_word_86 X hr hk hn ih B (lv_sub hl [0] rfl) hf
          · have hf := (r_ite hf).2 q_
            refine lv_lload_n hx hb dX8_word_67 rfl (lv_at hl 1 rfl) ?_
            refine lv_bipush (v := 8) hx hb dX8_word_68 (by decide) ?_
            refine lv_lshl hx hb dX8_word_70 rfl ?_
            refine r_aload_n hx hb dX8_word_71 rfl (lv_at hl 0 rfl) ?_
            refine r_gR X B hf fX8_32 (fun _ _ => rfl) m_143 dX8_word_72 (fun v15 hf => ?_)
            refine r_aload_n hx hb dX8_word_75 rfl (lv_at hl 0 rfl) ?_
            refine r_gI X B hf fX8_39 (fun _ _ => rfl) m_439 dX8_word_76 (fun v16 hf => ?_)
            refine r_aIb X B hf dX8_word_79 (fun v17 hf => ?_)
            refine lv_i2l hx hb dX8_word_80 rfl ?_
            refine lv_lor hx hb dX8_word_81 ?_
            refine lv_goto (tgt := 86) hx hb dX8_word_82 (by decide) ?_
            exact t_X8_word_86 X hr hk hn ih B (lv_sub hl [0] rfl) hf
set_option maxRecDepth 100000 in
set_option maxHeartbeats 4000000 in
theorem c_X8_word {l : Launch} {D : RG} {b : Nat} {h : AH} {l0 : Nat} {vv : Int64} {hh : AH} (hf : f_X8_word h l0 = some (vv, hh)) : Met l yX8_word (Cond.code yX8_word cX8_word 3 (some .long) :: wsL_law) ({ frames := 1, cells := 0, slots := 0, locals := 20 } : Room) (va_Pc [.ref l0] (r_I D b h)) (r_Q D b (some (.long vv)) hh) 0 0 (fun q => b ≤ q) := by
  refine r_ofW (own := RX8) rfl (by decide +kernel) (by simp [lg_sl, va_cat, cat_i, cat_r, cat_l]) ?_
  intro p e s m args below meth c ls X B hr hk hn hl
  have hl : lv_has ls 3 [(0, .ref l0)] := by simpa [lv_args, va_cat, cat_i, cat_r, cat_l] using hl
  have hl : lv_has ls 3 [(0, va_rf (some l0))] := hl
  obtain ⟨⟨hx, hb, hml, hown, hts⟩, -⟩ := id X
  generalize s.heap = H at B ⊢
  generalize ([] : List Loc) = locs at B ⊢
  unfold f_X8_word at hf
  refine r_aload_n hx hb dX8_word_0 rfl (lv_at hl 0 rfl) ?_
  refine rcv_inv hf ?_
  intro a21 e22 s23 hf
  refine cal_inv hf ?_
  intro v18 h19 e20 hf
  refine r_call B (va_runV (As := []) (rest := []) X.1 (c_X8_blanks (l := l) (D := D) (b := b) e20) (r_cwV X rfl m_420 m_421 m_422 m_5 m_423 rfl rfl hd_X8_blanks ⟨Nat.le_of_ble_eq_true rfl, Nat.le_of_ble_eq_true rfl⟩) (r_preV X B s23 rfl []) rfl rfl hl.1 (by rw [e22]; rfl) (lv_room (by simp [va_cat, cat_i, cat_r, cat_l])) dX8_word_1 ⟨Nat.zero_le _, Nat.zero_le _⟩) ?_
  intro H locs B
  refine W.cs (cells' := 0) (slots' := 0) rfl rfl (W.eq (g2 := F0 m 4 ls []) rfl ?_)
  refine r_aload_n hx hb dX8_word_4 rfl (lv_at hl 0 rfl) ?_
  refine r_aload_n hx hb dX8_word_5 rfl (lv_at hl 0 rfl) ?_
  refine r_gI X B hf fX8_34 (fun _ _ => rfl) m_418 dX8_word_6 (fun v24 hf => ?_)
  refine r_pI X B hf fX8_39 (Or.inl rfl) m_439 dX8_word_9 (fun h25 H locs B hf => ?_)
  refine lv_lconst (v := 0) hx hb dX8_word_12 (by decide) ?_
  refine lv_lstore_n (i := 1) (lv' := [(1, .long 0), (0, va_rf (some l0))]) hx hb dX8_word_13 rfl hl (by decide) (by first | rfl | simp [va_cat, cat_i, cat_r, cat_l]) (fun ls hl => ?_)
  exact t_X8_word_14 X hr hk hn  _ _ _ _ _ _ _ B (lv_sub hl [1, 0] rfl) hf
