def f_X8_order_37 (h : AH) (s0 : Int32) : Option (Int32 × AH) := some (s0, h)
def f_X8_order (h : AH) (l0 : Nat) (l1 : Int32) (l2 : Int32) : Option (Int32 × AH) := rcv h (some l0) 8 (fun a4 => cal (f_X8_isTank h a4 l1) (fun v1 h2 => if v1 = 0 then some ((-1), h2) else rcv h2 (some l0) 8 (fun a10 => cal (f_X8_ordered h2 a10 l1) (fun v7 h8 => cal (f_X8_isIn h8 l2 0 (v7 - 1)) (fun v13 h14 => if v13 = 0 then f_X8_order_37 h14 (-1) else gR h14 (some l0) 8 41 (fun v16 => aI .int h14 v16 l2 (fun v17 => f_X8_order_37 h14 v17)))))))
set_option maxRecDepth 100000 in
set_option maxHeartbeats 4000000 in
theorem t_X8_order_37 {p : Program} {l : Launch} {e : Env} {s : State} {m : MethodId} {args : Array Value} {below : List Frame} {meth : Method} {c : Code} {D : RG} {b : Nat} {vv : Int32} {hh : AH} (X : r_C p c cX8_order 4 s m args RX8 D b) (hr : meth.sig.returnType = (some .int)) (hk : meth.locks = false) (hn : meth.name = "order") {h : AH} {H : Heap} {locs : List Loc} {ls : Array Slot} {s0 : Int32} (B : r_B D b s h H locs) (hl : lv_has ls 4 []) (hf : f_X8_order_37 h s0 = some (vv, hh)) : W p l e ({ frames := 3, cells := 0, slots := 0, locals := 70 } : Room) s m args below meth c H locs 0 0 (MQ below (r_Q D b (some (.int vv)) hh) args s 0 0 (fun q => b ≤ q)) (F0 m 37 ls [.int s0]) := by
  obtain ⟨⟨hx, hb, hml, hown, hts⟩, -⟩ := id X
  unfold f_X8_order_37 at hf
  exact r_iret X B hr hk hf dX8_order_37
set_option maxRecDepth 100000 in
set_option maxHeartbeats 4000000 in
theorem c_X8_order {l : Launch} {D : RG} {b : Nat} {h : AH} {l0 : Nat} {l1 : Int32} {l2 : Int32} {vv : Int32} {hh : AH} (hf : f_X8_order h l0 l1 l2 = some (vv, hh)) : Met l yX8_order (Cond.code yX8_order cX8_order 4 (some .int) :: wsL_law) ({ frames := 3, cells := 0, slots := 0, locals := 70 } : Room) (va_Pc [.ref l0, .int l1, .int l2] (r_I D b h)) (r_Q D b (some (.int vv)) hh) 0 0 (fun q => b ≤ q) := by
  refine r_ofW (own := RX8) rfl (by decide +kernel) (by simp [lg_sl, va_cat, cat_i, cat_r, cat_l]) ?_
  intro p e s m args below meth c ls X B hr hk hn hl
  have hl : lv_has ls 4 [(0, .ref l0), (1, .int l1), (2, .int l2)] := by simpa [lv_args, va_cat, cat_i, cat_r, cat_l] using hl
  have hl : lv_has ls 4 [(0, va_rf (some l0)), (1, .int l1), (2, .int l2)] := hl
  obtain ⟨⟨hx, hb, hml, hown, hts⟩, -⟩ := id X
  generalize s.heap = H at B ⊢
  generalize ([] : List Loc) = locs at B ⊢
  unfold f_X8_order at hf
  refine r_aload_n hx hb dX8_order_0 rfl (lv_at hl 0 rfl) ?_
  refine lv_iload_n hx hb dX8_order_1 rfl (lv_at hl 1 rfl) ?_
  refine rcv_inv hf ?_
  intro a4 e5 s6 hf
  refine cal_inv hf ?_
  intro v1 h2 e3 hf
  refine r_call B (va_runV (As := [.int l1]) (rest := []) X.1 (c_X8_isTank (l := l) (D := D) (b := b) e3) (r_cwV X rfl m_174 m_175 m_176 m_5 m_177 rfl rfl hd_X8_isTank ⟨Nat.le_of_ble_eq_true rfl, Nat.le_of_ble_eq_true rfl⟩) (r_preV X B s6 rfl [.int l1]) rfl rfl hl.1 (by rw [e5]; rfl) (lv_room (by simp [va_cat, cat_i, cat_r, cat_l])) dX8_order_2 ⟨Nat.zero_le _, Nat.zero_le _⟩) ?_
  intro H locs B
  refine W.cs (cells' := 0) (slots' := 0) rfl rfl (W.eq (g2 := F0 m 5 ls [.int v1]) rfl ?_)
  refine lv_if_ne (tgt := 10) hx hb dX8_order_5 (by decide) (fun q_ => ?_) (fun q_ => ?_)
  · have hf := (r_ite hf).2 q_
    refine r_aload_n hx hb dX8_order_10 rfl (lv_at hl 0 rfl) ?_
    refine lv_iload_n hx hb dX8_order_11 rfl (lv_at hl 1 rfl) ?_
    refine rcv_inv hf ?_
    intro a10 e11 s12 hf
    refine cal_inv hf ?_
    intro v7 h8 e9 hf
    refine r_call B (va_runV (As := [.int l1]) (rest := []) X.1 (c_X8_ordered (l := l) (D := D) (b := b) e9) (r_cwV X rfl m_578 m_579 m_580 m_5 m_581 rfl rfl hd_X8_ordered ⟨Nat.le_of_ble_eq_true rfl, Nat.le_of_ble_eq_true rfl⟩) (r_preV X B s12 rfl [.int l1]) rfl rfl hl.1 (by rw [e11]; rfl) (lv_room (by simp [va_cat, cat_i, cat_r, cat_l])) dX8_order_12 ⟨Nat.zero_le _, Nat.zero_le _⟩) ?_
    intro H locs B
    refine W.cs (cells' := 0) (slots' := 0) rfl rfl (W.eq (g2 := F0 m 15 ls [.int v7]) rfl ?_)
    refine lv_istore_n (i := 3) (lv' := [(3, .int v7), (0, va_rf (some l0)), (1, .int l1), (2, .int l2)]) hx hb dX8_order_15 rfl hl (by decide) (by first | rfl | simp [va_cat, cat_i, cat_r, cat_l]) (fun ls hl => ?_)
    refine lv_iload_n hx hb dX8_order_16 rfl (lv_at hl 3 rfl) ?_
    refine lv_iconst (v := 0) hx hb dX8_order_17 (by decide) ?_
    refine lv_iload_n hx hb dX8_order_18 rfl (lv_at hl 0 rfl) ?_
    refine lv_iconst (v := 1) hx hb dX8_order_19 (by decide) ?_
    refine lv_isub hx hb dX8_order_20 ?_
    refine cal_inv hf ?_
    intro v13 h14 e15 hf
    refine r_call B (va_runS (As := [.int l2, .int 0, .int (v7 - 1)]) (rest := []) X.1 (c_X8_isIn (l := l) (D := D) (b := b) e15) (r_cwS X m_178 m_179 m_5 m_180 rfl rfl hd_X8_isIn ⟨Nat.le_of_ble_eq_true rfl, Nat.le_of_ble_eq_true rfl⟩) (r_preS X B [.int l2, .int 0, .int (v7 - 1)]) rfl rfl hl.1 rfl (lv_room (by simp [va_cat, cat_i, cat_r, cat_l])) dX8_order_21 ⟨Nat.zero_le _, Nat.zero_le _⟩) ?_
    intro H locs B
    refine W.cs (cells' := 0) (slots' := 0) rfl rfl (W.eq (g2 := F0 m 24 ls [.int v13]) rfl ?_)
    refine lv_if_eq (tgt := 36) hx hb dX8_order_24 (by decide) (fun q_ => ?_) (fun q_ => ?_)
    · have hf := (r_ite hf).1 q_
      refine lv_iconst (v := (-1)) hx hb dX8_order_36 (by decide) ?_
      exact t_X8_order_37 X hr hk hn  B (lv_sub hl [] rfl) hf
    · have hf := (r_ite hf).2 q_
      refine r_aload_n hx hb dX8_order_27 rfl (lv_at hl 1 rfl) ?_
      refine r_gR X B hf fX8_41 (fun _ _ => rfl) m_146 dX8_order_28 (fun v16 hf => ?_)
      refine lv_iload_n hx hb dX8_order_31 rfl (lv_at hl 3 rfl) ?_
      refine r_aIi X B hf dX8_order_32 (fun v17 hf => ?_)
      refine lv_goto (tgt := 37) hx hb dX8_order_33 (by decide) ?_
      exact t_X8_order_37 X hr hk hn  B (lv_sub hl [] rfl) hf
  · have hf := (r_ite hf).1 q_
    refine lv_iconst (v := (-1)) hx hb dX8_order_8 (by decide) ?_
    exact r_iret X B hr hk hf dX8_order_9
def f_X8_isBad_17 (h : AH) (s0 : Int32) : Option (Int32 × AH) := rZ s0 h
def f_X8_isBad (h : AH) (l0 : Nat) (l1 : Int32) (l2 : Int32) : Option (Int32 × AH) := gR h (some l0) 8 5 (fun v1 => aI .int h v1 l1 (fun v2 => dv v2 2 (fun v3 => if v3 ≤ l2 then f_X8_isBad_17 h 0 else f_X8_isBad_17 h 1)))
set_option maxRecDepth 100000 in
set_option maxHeartbeats 4000000 in
theorem t_X8_isBad_17 {p : Program} {l : Launch} {e : Env} {s : State} {m : MethodId} {args : Array Value} {below : List Frame} {meth : Method} {c : Code} {D : RG} {b : Nat} {vv : Int32} {hh : AH} (X : r_C p c cX8_isBad 3 s m args RX8 D b) (hr : meth.sig.returnType = (some .boolean)) (hk : meth.locks = false) (hn : meth.name = "isBad") {h : AH} {H : Heap} {locs : List Loc} {ls : Array Slot} {s0 : Int32} (B : r_B D b s h H locs) (hl : lv_has ls 3 []) (hf : f_X8_isBad_17 h s0 = some (vv, hh)) : W p l e ({ frames := 0, cells := 0, slots := 0, locals := 0 } : Room) s m args below meth c H locs 0 0 (MQ below (r_Q D b (some (.int vv)) hh) args s 0 0 (fun q => b ≤ q)) (F0 m 17 ls [.int s0]) := by
  obtain ⟨⟨hx, hb, hml, hown, hts⟩, -⟩ := id X
  unfold f_X8_isBad_17 at hf
  exact r_zret X B hr hk hf dX8_isBad_17
set_option maxRecDepth 100000 in
set_option maxHeartbeats 4000000 in
theorem c_X8_isBad {l : Launch} {D : RG} {b : Nat} {h : AH} {l0 : Nat} {l1 : Int32} {l2 : Int32} {vv : Int32} {hh : AH} (hf : f_X8_isBad h l0 l1 l2 = some (vv, hh)) : Met l yX8_isBad (Cond.code yX8_isBad cX8_isBad 3 (some .boolean) :: wsL_law) ({ frames := 0, cells := 0, slots := 0, locals := 0 } : Room) (va_Pc [.ref l0, .int l1, .int l2] (r_I D b h)) (r_Q D b (some (.int vv)) hh) 0 0 (fun q => b ≤ q) := by
  refine r_ofW (own := RX8) rfl (by decide +kernel) (by simp [lg_sl, va_cat, cat_i, cat_r, cat_l]) ?_
  intro p e s m args below meth c ls X B hr hk hn hl
  have hl : lv_has ls 3 [(0, .ref l0), (1, .int l1), (2, .int l2)] := by simpa [lv_args, va_cat, cat_i, cat_r, cat_l] using hl
  have hl : lv_has ls 3 [(0, va_rf (some l0)), (1, .int l1), (2, .int l2)] := hl
  obtain ⟨⟨hx, hb, hml, hown, hts⟩, -⟩ := id X
  generalize s.heap = H at B ⊢
  generalize ([] : List Loc) = locs at B ⊢
  unfold f_X8_isBad at hf
  refine lv_iload_n hx hb dX8_isBad_0 rfl (lv_at hl 2 rfl) ?_
  refine r_aload_n hx hb dX8_isBad_1 rfl (lv_at hl 0 rfl) ?_
  refine r_gR X B hf fX8_5 (fun _ _ => rfl) m_120 dX8_isBad_2 (fun v1 hf => ?_)
  refine lv_iload_n hx hb dX8_isBad_5 rfl (lv_at hl 1 rfl) ?_
  refine r_aIi X B hf dX8_isBad_6 (fun v2 hf => ?_)
  refine lv_iconst (v := 2) hx hb dX8_isBad_7 (by decide) ?_
  refine r_div hx hb hf dX8_isBad_8 (fun v3 hf => ?_)
  refine lv_icmp_ge (tgt := 16) hx hb dX8_isBad_9 (by decide) (fun q_ => ?_) (fun q_ => ?_)
  · have hf := (r_ite hf).1 q_
    refine lv_iconst (v := 0) hx hb dX8_isBad_16 (by decide) ?_
    exact t_X8_isBad_17 X hr hk hn  B (lv_sub hl [] rfl) hf
  · have hf := (r_ite hf).2 q_
    refine lv_iconst (v := 1) hx hb dX8_isBad_12 (by decide) ?_
    refine lv_goto (tgt := 17) hx hb dX8_isBad_13 (by decide) ?_
    exact t_X8_isBad_17 X hr hk hn  B (lv_sub hl [] rfl) hf
def f_X8_gives_387 : Nat → AH → Nat → Int32 → Int32 → Int32 → Option (Int32 × AH)
  | 0, _, _, _, _, _ => none
  | n + 1, h, l0, l5, l9, l10 => if l5 ≤ l10 then some (l9, h) else gR h (some l0) 8 42 (fun v1 => gR h (some l0) 8 41 (fun v2 => aI .int h v2 l10 (fun v3 => aI .int h v1 v3 (fun v4 => bd (l9 + v4) (fun v5 => bd (l10 + 1) (fun v6 => f_X8_gives_387 n h l0 l5 v5 v6))))))
def f_X8_gives_381 (h : AH) (l0 : Nat) (l5 : Int32) : Option (Int32 × AH) := f_X8_gives_387 FU h l0 l5 0 0
def f_X8_gives_350 (k_279 : AH → Nat → Int32 → Int32 → Int32 → Int32 → Int32 → Int32 → Int32 → Option (Int32 × AH)) (h : AH) (l0 : Nat) (l4 : Int32) (l5 : Int32) (l6 : Int32) (l7 : Int32) (l8 : Int32) (l9 : Int32) (l10 : Int32) : Option (Int32 × AH) := bd (l10 + 1) (fun v7 => k_279 h l0 l4 l5 l6 l7 l8 l9 v7)
def f_X8_gives_341 (k_279 : AH → Nat → Int32 → Int32 → Int32 → Int32 → Int32 → Int32 → Int32 → Option (Int32 × AH)) (h : AH) (l0 : Nat) (l4 : Int32) (l5 : Int32) (l6 : Int32) (l7 : Int32) (l8 : Int32) (l10 : Int32) : Option (Int32 × AH) := gR h (some l0) 8 41 (fun v8 => aI .int h v8 l10 (fun v9 => f_X8_gives_350 k_279 h l0 l4 l5 l6 l7 l8 v9 l10))
def f_X8_gives_279 (k_263 : AH → Nat → Int32 → Int32 → Int32 → Int32 → Int32 → Option (Int32 × AH)) : Nat → AH → Nat → Int32 → Int32 → Int32 → Int32 → Int32 → Int32 → Int32 → Option (Int32 × AH)
  | 0, _, _, _, _, _, _, _, _, _ => none
  | n + 1, h, l0, l4, l5, l6, l7, l8, l9, l10 => if l5 ≤ l10 then gR h (some l0) 8 43 (fun v10 => sI .boolean h v10 l9 1 (fun h11 => gR h11 (some l0) 8 42 (fun v12 => aI .int h11 v12 l9 (fun v13 => sI .int h11 v12 l9 (v13 + 1) (fun h14 => bd (l4 + (-1)) (fun v15 => k_263 h14 l0 v15 l5 l6 l7 l8)))))) else gR h (some l0) 8 43 (fun v16 => gR h (some l0) 8 41 (fun v17 => aI .int h v17 l10 (fun v18 => aI .boolean h v16 v18 (fun v19 => if v19 = 0 then if l9 = (-1) then f_X8_gives_341 (f_X8_gives_279 k_263 n) h l0 l4 l5 l6 l7 l8 l10 else gR h (some l0) 8 16 (fun v20 => gR h (some l0) 8 41 (fun v21 => aI .int h v21 l10 (fun v22 => aI .int h v20 v22 (fun v23 => rm (l8 * v23) l6 (fun v24 => gR h (some l0) 8 16 (fun v25 => aI .int h v25 l9 (fun v26 => rm (l8 * v26) l6 (fun v27 => if v24 ≤ v27 then f_X8_gives_350 (f_X8_gives_279 k_263 n) h l0 l4 l5 l6 l7 l8 l9 l10 else f_X8_gives_341 (f_X8_gives_279 k_263 n) h l0 l4 l5 l6 l7 l8 l10)))))))) else f_X8_gives_350 (f_X8_gives_279 k_263 n) h l0 l4 l5 l6 l7 l8 l9 l10))))
def f_X8_gives_263 : Nat → AH → Nat → Int32 → Int32 → Int32 → Int32 → Int32 → Option (Int32 × AH)
  | 0, _, _, _, _, _, _, _ => none
  | n + 1, h, l0, l4, l5, l6, l7, l8 => if l7 = 0 then f_X8_gives_381 h l0 l5 else if l4 ≤ 0 then f_X8_gives_381 h l0 l5 else f_X8_gives_279 (f_X8_gives_263 n) FU h l0 l4 l5 l6 l7 l8 (-1) 0
def f_X8_gives_257 (k_165 : AH → Nat → Int32 → Int32 → Int32 → Int32 → Int32 → Int32 → Option (Int32 × AH)) (h : AH) (l0 : Nat) (l4 : Int32) (l5 : Int32) (l6 : Int32) (l7 : Int32) (l8 : Int32) (l9 : Int32) : Option (Int32 × AH) := bd (l9 + 1) (fun v28 => k_165 h l0 l4 l5 l6 l7 l8 v28)
def f_X8_gives_244 (k_165 : AH → Nat → Int32 → Int32 → Int32 → Int32 → Int32 → Int32 → Option (Int32 × AH)) (h : AH) (l0 : Nat) (l4 : Int32) (l5 : Int32) (l6 : Int32) (l7 : Int32) (l8 : Int32) (l9 : Int32) (l10 : Int32) (s0 : Option Nat) (s1 : Int32) (s2 : Int32) : Option (Int32 × AH) := sI .int h s0 s1 s2 (fun h29 => gR h29 (some l0) 8 42 (fun v30 => aI .int h29 v30 l10 (fun v31 => bd (l4 - v31) (fun v32 => f_X8_gives_257 k_165 h29 l0 v32 l5 l6 l7 l8 l9))))
def f_X8_gives_165 : Nat → AH → Nat → Int32 → Int32 → Int32 → Int32 → Int32 → Int32 → Option (Int32 × AH)
  | 0, _, _, _, _, _, _, _, _ => none
  | n + 1, h, l0, l4, l5, l6, l7, l8, l9 => if l5 ≤ l9 then f_X8_gives_263 FU h l0 l4 l5 l6 l7 l8 else gR h (some l0) 8 41 (fun v33 => aI .int h v33 l9 (fun v34 => gR h (some l0) 8 43 (fun v35 => aI .boolean h v35 v34 (fun v36 => if v36 = 0 then gR h (some l0) 8 42 (fun v37 => if l7 = 0 then gR h (some l0) 8 16 (fun v38 => aI .int h v38 v34 (fun v39 => if l4 < v39 then f_X8_gives_244 (f_X8_gives_165 n) h l0 l4 l5 l6 l7 l8 l9 v34 v37 v34 0 else gR h (some l0) 8 16 (fun v40 => aI .int h v40 v34 (fun v41 => f_X8_gives_244 (f_X8_gives_165 n) h l0 l4 l5 l6 l7 l8 l9 v34 v37 v34 v41)))) else gR h (some l0) 8 16 (fun v42 => aI .int h v42 v34 (fun v43 => dv (l8 * v43) l6 (fun v44 => f_X8_gives_244 (f_X8_gives_165 n) h l0 l4 l5 l6 l7 l8 l9 v34 v37 v34 v44)))) else f_X8_gives_257 (f_X8_gives_165 n) h l0 l4 l5 l6 l7 l8 l9))))
def f_X8_gives_156 (h : AH) (l0 : Nat) (l4 : Int32) (l5 : Int32) (l6 : Int32) (s0 : Int32) : Option (Int32 × AH) := f_X8_gives_165 FU h l0 l4 l5 l6 s0 l4 0
def f_X8_gives_155 (h : AH) (l0 : Nat) (l4 : Int32) (l5 : Int32) (l6 : Int32) : Option (Int32 × AH) := f_X8_gives_156 h l0 l4 l5 l6 0
def f_X8_gives_127 (k_42 : AH → Nat → Int32 → Int32 → Int32 → Int32 → Int32 → Int32 → Option (Int32 × AH)) (h : AH) (l0 : Nat) (l1 : Int32) (l2 : Int32) (l4 : Int32) (l5 : Int32) (l6 : Int32) (l7 : Int32) : Option (Int32 × AH) := bd (l7 + 1) (fun v45 => k_42 h l0 l1 l2 l4 l5 l6 v45)
def f_X8_gives_104 (k_42 : AH → Nat → Int32 → Int32 → Int32 → Int32 → Int32 → Int32 → Option (Int32 × AH)) (h : AH) (l0 : Nat) (l1 : Int32) (l2 : Int32) (l4 : Int32) (l5 : Int32) (l6 : Int32) (l7 : Int32) (l8 : Int32) (s0 : Option Nat) (s1 : Int32) (s2 : Int32) : Option (Int32 × AH) := sI .boolean h s0 s1 s2 (fun h46 => gR h46 (some l0) 8 43 (fun v47 => aI .boolean h46 v47 l8 (fun v48 => if v48 = 0 then gR h46 (some l0) 8 16 (fun v49 => aI .int h46 v49 l8 (fun v50 => bd (l6 + v50) (fun v51 => f_X8_gives_127 k_42 h46 l0 l1 l2 l4 l5 v51 l7))) else f_X8_gives_127 k_42 h46 l0 l1 l2 l4 l5 l6 l7)))
def f_X8_gives_103 (k_42 : AH → Nat → Int32 → Int32 → Int32 → Int32 → Int32 → Int32 → Option (Int32 × AH)) (h : AH) (l0 : Nat) (l1 : Int32) (l2 : Int32) (l4 : Int32) (l5 : Int32) (l6 : Int32) (l7 : Int32) (l8 : Int32) (s0 : Option Nat) (s1 : Int32) : Option (Int32 × AH) := f_X8_gives_104 k_42 h l0 l1 l2 l4 l5 l6 l7 l8 s0 s1 0
def f_X8_gives_42 : Nat → AH → Nat → Int32 → Int32 → Int32 → Int32 → Int32 → Int32 → Option (Int32 × AH)
  | 0, _, _, _, _, _, _, _, _ => none
  | n + 1, h, l0, l1, l2, l4, l5, l6, l7 => if l5 ≤ l7 then rcv h (some l0) 8 (fun a55 => cal (f_X8_custom h a55 13 0) (fun v52 h53 => if v52 = 1 then if l6 ≤ l4 then f_X8_gives_155 h53 l0 l4 l5 l6 else f_X8_gives_156 h53 l0 l4 l5 l6 1 else f_X8_gives_155 h53 l0 l4 l5 l6)) else gR h (some l0) 8 41 (fun v58 => aI .int h v58 l7 (fun v59 => gR h (some l0) 8 42 (fun v60 => sI .int h v60 v59 0 (fun h61 => gR h61 (some l0) 8 43 (fun v62 => rcv h61 (some l0) 8 (fun a66 => cal (f_X8_isBad h61 a66 l1 l2) (fun v63 h64 => if v63 = 0 then f_X8_gives_103 (f_X8_gives_42 n) h64 l0 l1 l2 l4 l5 l6 l7 v59 v62 v59 else gR h64 (some l0) 8 15 (fun v69 => aI .int h64 v69 v59 (fun v70 => rcv h64 (some l0) 8 (fun a74 => cal (f_X8_custom h64 a74 11 9) (fun v71 h72 => if v70 ≤ v71 then f_X8_gives_103 (f_X8_gives_42 n) h72 l0 l1 l2 l4 l5 l6 l7 v59 v62 v59 else f_X8_gives_104 (f_X8_gives_42 n) h72 l0 l1 l2 l4 l5 l6 l7 v59 v62 v59 1)))))))))))
def f_X8_gives (h : AH) (l0 : Nat) (l1 : Int32) (l2 : Int32) (l3 : Int32) : Option (Int32 × AH) := rcv h (some l0) 8 (fun a80 => cal (f_X8_custom h a80 12 0) (fun v77 h78 => gR h78 (some l0) 8 5 (fun v83 => aI .int h78 v83 l1 (fun v84 => dv (v77 * v84) 100 (fun v85 => bd (mx 0 (l2 - v85)) (fun v86 => bd (mn l3 v86) (fun v87 => rcv h78 (some l0) 8 (fun a91 => cal (f_X8_ordered h78 a91 l1) (fun v88 h89 => f_X8_gives_42 FU h89 l0 l1 l2 v87 v88 0 0)))))))))
set_option maxRecDepth 100000 in
set_option maxHeartbeats 4000000 in
theorem t_X8_gives_387 {p : Program} {l : Launch} {e : Env} {s : State} {m : MethodId} {args : Array Value} {below : List Frame} {meth : Method} {c : Code} {D : RG} {b : Nat} {vv : Int32} {hh : AH} (X : r_C p c cX8_gives 11 s m args RX8 D b) (hr : meth.sig.returnType = (some .int)) (hk : meth.locks = false) (hn : meth.name = "gives") : ∀ (n : Nat) (h : AH) (H : Heap) (locs : List Loc) (ls : Array Slot) (l0 : Nat) (l5 : Int32) (l9 : Int32) (l10 : Int32), r_B D b s h H locs → lv_has ls 11 [(0, va_rf (some l0)), (5, .int l5), (9, .int l9), (10, .int l10)] → f_X8_gives_387 n h l0 l5 l9 l10 = some (vv, hh) → W p l e ({ frames := 3, cells := 0, slots := 0, locals := 70 } : Room) s m args below meth c H locs 0 0 (MQ below (r_Q D b (some (.int vv)) hh) args s 0 0 (fun q => b ≤ q)) (F0 m 387 ls []) := by
  obtain ⟨⟨hx, hb, hml, hown, hts⟩, -⟩ := id X
  intro n
  induction n with
  | zero =>
    intro h H locs ls l0 l5 l9 l10 B hl hf
    cases hf
  | succ n ih =>
    intro h H locs ls l0 l5 l9 l10 B hl hf
    unfold f_X8_gives_387 at hf
    refine lv_iload hx hb dX8_gives_387 (lv_at hl 3 rfl) ?_
    refine lv_iload hx hb dX8_gives_389 (lv_at hl 1 rfl) ?_
    refine lv_icmp_ge (tgt := 417) hx hb dX8_gives_391 (by decide) (fun q_ => ?_) (fun q_ => ?_)
    · have hf := (r_ite hf).1 q_
      refine lv_iload hx hb dX8_gives_417 (lv_at hl 2 rfl) ?_
      exact r_iret X B hr hk hf dX8_gives_419
    · have hf := (r_ite hf).2 q_
      refine lv_iload hx hb dX8_gives_394 (lv_at hl 2 rfl) ?_
      refine r_aload_n hx hb dX8_gives_396 rfl (lv_at hl 0 rfl) ?_
      refine r_gR X B hf fX8_42 (fun _ _ => rfl) m_147 dX8_gives_397 (fun v1 hf => ?_)
      refine r_aload_n hx hb dX8_gives_400 rfl (lv_at hl 0 rfl) ?_
      refine r_gR X B hf fX8_41 (fun _ _ => rfl) m_146 dX8_gives_401 (fun v2 hf => ?_)
      refine lv_iload hx hb dX8_gives_404 (lv_at hl 3 rfl) ?_
      refine r_aIi X B hf dX8_gives_406 (fun v3 hf => ?_)
      refine r_aIi X B hf dX8_gives_407 (fun v4 hf => ?_)
      refine lv_iadd hx hb dX8_gives_408 ?_
      refine r_bd hf (fun v5 hf => ?_)
      refine lv_istore (i := 9) (lv' := [(9, .int v5), (0, va_rf (some l0)), (5, .int l5), (10, .int l10)]) hx hb dX8_gives_409 hl (by decide) (by first | rfl | simp [va_cat, cat_i, cat_r, cat_l]) (fun ls hl => ?_)
      refine r_iinc (lv' := fun v6 => [(10, .int v6), (9, .int v5), (0, va_rf (some l0)), (5, .int l5)]) hx hb hf dX8_gives_411 hl (k := 3) rfl (by decide) (by decide) (fun v => by first | rfl | simp [va_cat, cat_i, cat_r, cat_l]) (fun v6 ls hl hf => ?_)
      refine lv_goto (tgt := 387) hx hb dX8_gives_414 (by decide) ?_
      exact ih _ _ _ _ _ _ _ _ B (lv_sub hl [2, 3, 1, 0] rfl) hf
set_option maxRecDepth 100000 in
set_option maxHeartbeats 4000000 in
theorem t_X8_gives_381 {p : Program} {l : Launch} {e : Env} {s : State} {m : MethodId} {args : Array Value} {below : List Frame} {meth : Method} {c : Code} {D : RG} {b : Nat} {vv : Int32} {hh : AH} (X : r_C p c cX8_gives 11 s m args RX8 D b) (hr : meth.sig.returnType = (some .int)) (hk : meth.locks = false) (hn : meth.name = "gives") {h : AH} {H : Heap} {locs : List Loc} {ls : Array Slot} {l0 : Nat} {l5 : Int32} (B : r_B D b s h H locs) (hl : lv_has ls 11 [(0, va_rf (some l0)), (5, .int l5)]) (hf : f_X8_gives_381 h l0 l5 = some (vv, hh)) : W p l e ({ frames := 3, cells := 0, slots := 0, locals := 70 } : Room) s m args below meth c H locs 0 0 (MQ below (r_Q D b (some (.int vv)) hh) args s 0 0 (fun q => b ≤ q)) (F0 m 381 ls []) := by
  obtain ⟨⟨hx, hb, hml, hown, hts⟩, -⟩ := id X
  unfold f_X8_gives_381 at hf
  refine lv_iconst (v := 0) hx hb dX8_gives_381 (by decide) ?_
  refine lv_istore (i := 9) (lv' := [(9, .int 0), (0, va_rf (some l0)), (5, .int l5)]) hx hb dX8_gives_382 hl (by decide) (by first | rfl | simp [va_cat, cat_i, cat_r, cat_l]) (fun ls hl => ?_)
  refine lv_iconst (v := 0) hx hb dX8_gives_384 (by decide) ?_
  refine lv_istore (i := 10) (lv' := [(10, .int 0), (9, .int 0), (0, va_rf (some l0)), (5, .int l5)]) hx hb dX8_gives_385 hl (by decide) (by first | rfl | simp [va_cat, cat_i, cat_r, cat_l]) (fun ls hl => ?_)
  exact t_X8_gives_387 X hr hk hn  _ _ _ _ _ _ _ _ _ B (lv_sub hl [2, 3, 1, 0] rfl) hf
set_option maxRecDepth 100000 in
set_option maxHeartbeats 4000000 in
theorem t_X8_gives_350 {p : Program} {l : Launch} {e : Env} {s : State} {m : MethodId} {args : Array Value} {below : List Frame} {meth : Method} {c : Code} {D : RG} {b : Nat} {vv : Int32} {hh : AH} (X : r_C p c cX8_gives 11 s m args RX8 D b) (hr : meth.sig.returnType = (some .int)) (hk : meth.locks = false) (hn : meth.name = "gives") {k_279 : AH → Nat → Int32 → Int32 → Int32 → Int32 → Int32 → Int32 → Int32 → Option (Int32 × AH)} (r_279 : ∀ (h : AH) (H : Heap) (locs : List Loc) (ls : Array Slot) (l0 : Nat) (l4 : Int32) (l5 : Int32) (l6 : Int32) (l7 : Int32) (l8 : Int32) (l9 : Int32) (l10 : Int32), r_B D b s h H locs → lv_has ls 11 [(0, va_rf (some l0)), (4, .int l4), (5, .int l5), (6, .int l6), (7, .int l7), (8, .int l8), (9, .int l9), (10, .int l10)] → k_279 h l0 l4 l5 l6 l7 l8 l9 l10 = some (vv, hh) → W p l e ({ frames := 3, cells := 0, slots := 0, locals := 70 } : Room) s m args below meth c H locs 0 0 (MQ below (r_Q D b (some (.int vv)) hh) args s 0 0 (fun q => b ≤ q)) (F0 m 279 ls [])) {h : AH} {H : Heap} {locs : List Loc} {ls : Array Slot} {l0 : Nat} {l4 : Int32} {l5 : Int32} {l6 : Int32} {l7 : Int32} {l8 : Int32} {l9 : Int32} {l10 : Int32} (B : r_B D b s h H locs) (hl : lv_has ls 11 [(0, va_rf (some l0)), (4, .int l4), (5, .int l5), (6, .int l6), (7, .int l7), (8, .int l8), (9, .int l9), (10, .int l10)]) (hf : f_X8_gives_350 k_279 h l0 l4 l5 l6 l7 l8 l9 l10 = some (vv, hh)) : W p l e ({ frames := 3, cells := 0, slots := 0, locals := 70 } : Room) s m args below meth c H locs 0 0 (MQ below (r_Q D b (some (.int vv)) hh) args s 0 0 (fun q => b ≤ q)) (F0 m 350 ls []) := by
  obtain ⟨⟨hx, hb, hml, hown, hts⟩, -⟩ := id X
  unfold f_X8_gives_350 at hf
  refine r_iinc (lv' := fun v7 => [(10, .int v7), (0, va_rf (some l0)), (4, .int l4), (5, .int l5), (6, .int l6), (7, .int l7), (8, .int l8), (9, .int l9)]) hx hb hf dX8_gives_350 hl (k := 7) rfl (by decide) (by decide) (fun v => by first | rfl | simp [va_cat, cat_i, cat_r, cat_l]) (fun v7 ls hl hf => ?_)
  refine lv_goto (tgt := 279) hx hb dX8_gives_353 (by decide) ?_
  exact r_279 _ _ _ _ _ _ _ _ _ _ _ _ B (lv_sub hl [1, 2, 3, 4, 5, 6, 7, 0] rfl) hf
set_option maxRecDepth 100000 in
set_option maxHeartbeats 4000000 in
theorem t_X8_gives_341 {p : Program} {l : Launch} {e : Env} {s : State} {m : MethodId} {args : Array Value} {below : List Frame} {meth : Method} {c : Code} {D : RG} {b : Nat} {vv : Int32} {hh : AH} (X : r_C p c cX8_gives 11 s m args RX8 D b) (hr : meth.sig.returnType = (some .int)) (hk : meth.locks = false) (hn : meth.name = "gives") {k_279 : AH → Nat → Int32 → Int32 → Int32 → Int32 → Int32 → Int32 → Int32 → Option (Int32 × AH)} (r_279 : ∀ (h : AH) (H : Heap) (locs : List Loc) (ls : Array Slot) (l0 : Nat) (l4 : Int32) (l5 : Int32) (l6 : Int32) (l7 : Int32) (l8 : Int32) (l9 : Int32) (l10 : Int32), r_B D b s h H locs → lv_has ls 11 [(0, va_rf (some l0)), (4, .int l4), (5, .int l5), (6, .int l6), (7, .int l7), (8, .int l8), (9, .int l9), (10, .int l10)] → k_279 h l0 l4 l5 l6 l7 l8 l9 l10 = some (vv, hh) → W p l e ({ frames := 3, cells := 0, slots := 0, locals := 70 } : Room) s m args below meth c H locs 0 0 (MQ below (r_Q D b (some (.int vv)) hh) args s 0 0 (fun q => b ≤ q)) (F0 m 279 ls [])) {h : AH} {H : Heap} {locs : List Loc} {ls : Array Slot} {l0 : Nat} {l4 : Int32} {l5 : Int32} {l6 : Int32} {l7 : Int32} {l8 : Int32} {l10 : Int32} (B : r_B D b s h H locs) (hl : lv_has ls 11 [(0, va_rf (some l0)), (4, .int l4), (5, .int l5), (6, .int l6), (7, .int l7), (8, .int l8), (10, .int l10)]) (hf : f_X8_gives_341 k_279 h l0 l4 l5 l6 l7 l8 l10 = some (vv, hh)) : W p l e ({ frames := 3, cells := 0, slots := 0, locals := 70 } : Room) s m args below meth c H locs 0 0 (MQ below (r_Q D b (some (.int vv)) hh) args s 0 0 (fun q => b ≤ q)) (F0 m 341 ls []) := by
  obtain ⟨⟨hx, hb, hml, hown, hts⟩, -⟩ := id X
  unfold f_X8_gives_341 at hf
  refine r_aload_n hx hb dX8_gives_341 rfl (lv_at hl 0 rfl) ?_
  refine r_gR X B hf fX8_41 (fun _ _ => rfl) m_146 dX8_gives_342 (fun v8 hf => ?_)
  refine lv_iload hx hb dX8_gives_345 (lv_at hl 6 rfl) ?_
  refine r_aIi X B hf dX8_gives_347 (fun v9 hf => ?_)
  refine lv_istore (i := 9) (lv' := [(9, .int v9), (0, va_rf (some l0)), (4, .int l4), (5, .int l5), (6, .int l6), (7, .int l7), (8, .int l8), (10, .int l10)]) hx hb dX8_gives_348 hl (by decide) (by first | rfl | simp [va_cat, cat_i, cat_r, cat_l]) (fun ls hl => ?_)
  exact t_X8_gives_350 X hr hk hn r_279 B (lv_sub hl [1, 2, 3, 4, 5, 6, 0, 7] rfl) hf
set_option maxRecDepth 100000 in
set_option maxHeartbeats 4000000 in
theorem t_X8_gives_279 {p : Program} {l : Launch} {e : Env} {s : State} {m : MethodId} {args : Array Value} {below : List Frame} {meth : Method} {c : Code} {D : RG} {b : Nat} {vv : Int32} {hh : AH} (X : r_C p c cX8_gives 11 s m args RX8 D b) (hr : meth.sig.returnType = (some .int)) (hk : meth.locks = false) (hn : meth.name = "gives") {k_263 : AH → Nat → Int32 → Int32 → Int32 → Int32 → Int32 → Option (Int32 × AH)} (r_263 : ∀ (h : AH) (H : Heap) (locs : List Loc) (ls : Array Slot) (l0 : Nat) (l4 : Int32) (l5 : Int32) (l6 : Int32) (l7 : Int32) (l8 : Int32), r_B D b s h H locs → lv_has ls 11 [(0, va_rf (some l0)), (4, .int l4), (5, .int l5), (6, .int l6), (7, .int l7), (8, .int l8)] → k_263 h l0 l4 l5 l6 l7 l8 = some (vv, hh) → W p l e ({ frames := 3, cells := 0, slots := 0, locals := 70 } : Room) s m args below meth c H locs 0 0 (MQ below (r_Q D b (some (.int vv)) hh) args s 0 0 (fun q => b ≤ q)) (F0 m 263 ls [])) : ∀ (n : Nat) (h : AH) (H : Heap) (locs : List Loc) (ls : Array Slot) (l0 : Nat) (l4 : Int32) (l5 : Int32) (l6 : Int32) (l7 : Int32) (l8 : Int32) (l9 : Int32) (l10 : Int32), r_B D b s h H locs → lv_has ls 11 [(0, va_rf (some l0)), (4, .int l4), (5, .int l5), (6, .int l6), (7, .int l7), (8, .int l8), (9, .int l9), (10, .int l10)] → f_X8_gives_279 k_263 n h l0 l4 l5 l6 l7 l8 l9 l10 = some (vv, hh) → W p l e ({ frames := 3, cells := 0, slots := 0, locals := 70 } : Room) s m args below meth c H locs 0 0 (MQ below (r_Q D b (some (.int vv)) hh) args s 0 0 (fun q => b ≤ q)) (F0 m 279 ls []) := by
  obtain ⟨⟨hx, hb, hml, hown, hts⟩, -⟩ := id X
  intro n
  induction n with
  | zero =>
    intro h H locs ls l0 l4 l5 l6 l7 l8 l9 l10 B hl hf
    cases hf
  | succ n ih =>
    intro h H locs ls l0 l4 l5 l6 l7 l8 l9 l10 B hl hf
    unfold f_X8_gives_279 at hf
    refine lv_iload hx hb dX8_gives_279 (lv_at hl 7 rfl) ?_
    refine lv_iload hx hb dX8_gives_281 (lv_at hl 2 rfl) ?_
    refine lv_icmp_ge (tgt := 356) hx hb dX8_gives_283 (by decide) (fun q_ => ?_) (fun q_ => ?_)
    · have hf := (r_ite hf).1 q_
      refine r_aload_n hx hb dX8_gives_356 rfl (lv_at hl 0 rfl) ?_
      refine r_gR X B hf fX8_43 (fun _ _ => rfl) m_148 dX8_gives_357 (fun v10 hf => ?_)
      refine lv_iload hx hb dX8_gives_360 (lv_at hl 6 rfl) ?_
      refine lv_iconst (v := 1) hx hb dX8_gives_362 (by decide) ?_
      refine r_sIz X B hf dX8_gives_363 (fun h11 H locs B hf => ?_)
      refine r_aload_n hx hb dX8_gives_364 rfl (lv_at hl 0 rfl) ?_
      refine r_gR X B hf fX8_42 (fun _ _ => rfl) m_147 dX8_gives_365 (fun v12 hf => ?_)
      refine lv_iload hx hb dX8_gives_368 (lv_at hl 6 rfl) ?_
      refine lv_dup2_11 hx hb dX8_gives_370 (rfl) (va_cat _) ?_
      refine r_aIi X B hf dX8_gives_371 (fun v13 hf => ?_)
      refine lv_iconst (v := 1) hx hb dX8_gives_372 (by decide) ?_
      refine lv_iadd hx hb dX8_gives_373 ?_
      refine r_sIi X B hf dX8_gives_374 (fun h14 H locs B hf => ?_)
      refine r_iinc (lv' := fun v15 => [(4, .int v15), (0, va_rf (some l0)), (5, .int l5), (6, .int l6), (7, .int l7), (8, .int l8), (9, .int l9), (10, .int l10)]) hx hb hf dX8_gives_375 hl (k := 1) rfl (by decide) (by decide) (fun v => by first | rfl | simp [va_cat, cat_i, cat_r, cat_l]) (fun v15 ls hl hf => ?_)
      refine lv_goto (tgt := 263) hx hb dX8_gives_378 (by decide) ?_
      exact r_263 _ _ _ _ _ _ _ _ _ _ B (lv_sub hl [1, 0, 2, 3, 4, 5] rfl) hf
    · have hf := (r_ite hf).2 q_
      refine r_aload_n hx hb dX8_gives_286 rfl (lv_at hl 0 rfl) ?_
      refine r_gR X B hf fX8_43 (fun _ _ => rfl) m_148 dX8_gives_287 (fun v16 hf => ?_)
      refine r_aload_n hx hb dX8_gives_290 rfl (lv_at hl 0 rfl) ?_
      refine r_gR X B hf fX8_41 (fun _ _ => rfl) m_146 dX8_gives_291 (fun v17 hf => ?_)
      refine lv_iload hx hb dX8_gives_294 (lv_at hl 7 rfl) ?_
      refine r_aIi X B hf dX8_gives_296 (fun v18 hf => ?_)
      refine r_aIz X B hf dX8_gives_297 (fun v19 hf => ?_)
      refine lv_if_ne (tgt := 350) hx hb dX8_gives_298 (by decide) (fun q_ => ?_) (fun q_ => ?_)
      · have hf := (r_ite hf).2 q_
        exact t_X8_gives_350 X hr hk hn ih B (lv_sub hl [0, 1, 2, 3, 4, 5, 6, 7] rfl) hf
      · have hf := (r_ite hf).1 q_
        refine lv_iload hx hb dX8_gives_301 (lv_at hl 6 rfl) ?_
        refine lv_iconst (v := (-1)) hx hb dX8_gives_303 (by decide) ?_
        refine lv_icmp_eq (tgt := 341) hx hb dX8_gives_304 (by decide) (fun q_ => ?_) (fun q_ => ?_)
        · have hf := (r_ite hf).1 q_
          exact t_X8_gives_341 X hr hk hn ih B (lv_sub hl [0, 1, 2, 3, 4, 5, 7] rfl) hf
        · have hf := (r_ite hf).2 q_
          refine lv_iload hx hb dX8_gives_307 (lv_at hl 5 rfl) ?_
          refine r_aload_n hx hb dX8_gives_309 rfl (lv_at hl 0 rfl) ?_
          refine r_gR X B hf fX8_16 (fun _ _ => rfl) m_132 dX8_gives_310 (fun v20 hf => ?_)
          refine r_aload_n hx hb dX8_gives_313 rfl (lv_at hl 0 rfl) ?_
          refine r_gR X B hf fX8_41 (fun _ _ => rfl) m_146 dX8_gives_314 (fun v21 hf => ?_)
          refine lv_iload hx hb dX8_gives_317 (lv_at hl 7 rfl) ?_
          refine r_aIi X B hf dX8_gives_319 (fun v22 hf => ?_)
          refine r_aIi X B hf dX8_gives_320 (fun v23 hf => ?_)
          refine lv_imul hx hb dX8_gives_321 ?_
          refine lv_iload hx hb dX8_gives_322 (lv_at hl 3 rfl) ?_
          refine r_rem hx hb hf dX8_gives_324 (fun v24 hf => ?_)
          refine lv_iload hx hb dX8_gives_325 (lv_at hl 5 rfl) ?_
          refine r_aload_n hx hb dX8_gives_327 rfl (lv_at hl 0 rfl) ?_
          refine r_gR X B hf fX8_16 (fun _ _ => rfl) m_132 dX8_gives_328 (fun v25 hf => ?_)
          refine lv_iload hx hb dX8_gives_331 (lv_at hl 6 rfl) ?_
          refine r_aIi X B hf dX8_gives_333 (fun v26 hf => ?_)
          refine lv_imul hx hb dX8_gives_334 ?_
          refine lv_iload hx hb dX8_gives_335 (lv_at hl 3 rfl) ?_
          refine r_rem hx hb hf dX8_gives_337 (fun v27 hf => ?_)
          refine lv_icmp_le (tgt := 350) hx hb dX8_gives_338 (by decide) (fun q_ => ?_) (fun q_ => ?_)
          · have hf := (r_ite hf).1 q_
            exact t_X8_gives_350 X hr hk hn ih B (lv_sub hl [0, 1, 2, 3, 4, 5, 6, 7] rfl) hf
          · have hf := (r_ite hf).2 q_
            exact t_X8_gives_341 X hr hk hn ih B (lv_sub hl [0, 1, 2, 3, 4, 5, 7] rfl) hf
set_option maxRecDepth 100000 in
set_option maxHeartbeats 4000000 in
theorem t_X8_gives_263 {p : Program} {l : Launch} {e : Env} {s : State} {m : MethodId} {args : Array Value} {below : List Frame} {meth : Method} {c : Code} {D : RG} {b : Nat} {vv : Int32} {hh : AH} (X : r_C p c cX8_gives 11 s m args RX8 D b) (hr : meth.sig.returnType = (some .int)) (hk : meth.locks = false) (hn : meth.name = "gives") : ∀ (n : Nat) (h : AH) (H : Heap) (locs : List Loc) (ls : Array Slot) (l0 : Nat) (l4 : Int32) (l5 : Int32) (l6 : Int32) (l7 : Int32) (l8 : Int32), r_B D b s h H locs → lv_has ls 11 [(0, va_rf (some l0)), (4, .int l4), (5, .int l5), (6, .int l6), (7, .int l7), (8, .int l8)] → f_X8_gives_263 n h l0 l4 l5 l6 l7 l8 = some (vv, hh) → W p l e ({ frames := 3, cells := 0, slots := 0, locals := 70 } : Room) s m args below meth c H locs 0 0 (MQ below (r_Q D b (some (.int vv)) hh) args s 0 0 (fun q => b ≤ q)) (F0 m 263 ls []) := by
  obtain ⟨⟨hx, hb, hml, hown, hts⟩, -⟩ := id X
  intro n
  induction n with
  | zero =>
    intro h H locs ls l0 l4 l5 l6 l7 l8 B hl hf
    cases hf
  | succ n ih =>
    intro h H locs ls l0 l4 l5 l6 l7 l8 B hl hf
    unfold f_X8_gives_263 at hf
    refine lv_iload hx hb dX8_gives_263 (lv_at hl 4 rfl) ?_
    refine lv_if_eq (tgt := 381) hx hb dX8_gives_265 (by decide) (fun q_ => ?_) (fun q_ => ?_)
    · have hf := (r_ite hf).1 q_
      exact t_X8_gives_381 X hr hk hn  B (lv_sub hl [0, 2] rfl) hf
    · have hf := (r_ite hf).2 q_
      refine lv_iload hx hb dX8_gives_268 (lv_at hl 1 rfl) ?_
      refine lv_if_le (tgt := 381) hx hb dX8_gives_270 (by decide) (fun q_ => ?_) (fun q_ => ?_)
      · have hf := (r_ite hf).1 q_
        exact t_X8_gives_381 X hr hk hn  B (lv_sub hl [0, 2] rfl) hf
      · have hf := (r_ite hf).2 q_
        refine lv_iconst (v := (-1)) hx hb dX8_gives_273 (by decide) ?_
        refine lv_istore (i := 9) (lv' := [(9, .int (-1)), (0, va_rf (some l0)), (4, .int l4), (5, .int l5), (6, .int l6), (7, .int l7), (8, .int l8)]) hx hb dX8_gives_274 hl (by decide) (by first | rfl | simp [va_cat, cat_i, cat_r, cat_l]) (fun ls hl => ?_)
        refine lv_iconst (v := 0) hx hb dX8_gives_276 (by decide) ?_
        refine lv_istore (i := 10) (lv' := [(10, .int 0), (9, .int (-1)), (0, va_rf (some l0)), (4, .int l4), (5, .int l5), (6, .int l6), (7, .int l7), (8, .int l8)]) hx hb dX8_gives_277 hl (by decide) (by first | rfl | simp [va_cat, cat_i, cat_r, cat_l]) (fun ls hl => ?_)
        exact t_X8_gives_279 X hr hk hn ih _ _ _ _ _ _ _ _ _ _ _ _ _ B (lv_sub hl [2, 3, 4, 5, 6, 7, 1, 0] rfl) hf
set_option maxRecDepth 100000 in
set_option maxHeartbeats 4000000 in
theorem t_X8_gives_257 {p : Program} {l : Launch} {e : Env} {s : State} {m : MethodId} {args : Array Value} {below : List Frame} {meth : Method} {c : Code} {D : RG} {b : Nat} {vv : Int32} {hh : AH} (X : r_C p c cX8_gives 11 s m args RX8 D b) (hr : meth.sig.returnType = (some .int)) (hk : meth.locks = false) (hn : meth.name = "gives") {k_165 : AH → Nat → Int32 → Int32 → Int32 → Int32 → Int32 → Int32 → Option (Int32 × AH)} (r_165 : ∀ (h : AH) (H : Heap) (locs : List Loc) (ls : Array Slot) (l0 : Nat) (l4 : Int32) (l5 : Int32) (l6 : Int32) (l7 : Int32) (l8 : Int32) (l9 : Int32), r_B D b s h H locs → lv_has ls 11 [(0, va_rf (some l0)), (4, .int l4), (5, .int l5), (6, .int l6), (7, .int l7), (8, .int l8), (9, .int l9)] → k_165 h l0 l4 l5 l6 l7 l8 l9 = some (vv, hh) → W p l e ({ frames := 3, cells := 0, slots := 0, locals := 70 } : Room) s m args below meth c H locs 0 0 (MQ below (r_Q D b (some (.int vv)) hh) args s 0 0 (fun q => b ≤ q)) (F0 m 165 ls [])) {h : AH} {H : Heap} {locs : List Loc} {ls : Array Slot} {l0 : Nat} {l4 : Int32} {l5 : Int32} {l6 : Int32} {l7 : Int32} {l8 : Int32} {l9 : Int32} (B : r_B D b s h H locs) (hl : lv_has ls 11 [(0, va_rf (some l0)), (4, .int l4), (5, .int l5), (6, .int l6), (7, .int l7), (8, .int l8), (9, .int l9)]) (hf : f_X8_gives_257 k_165 h l0 l4 l5 l6 l7 l8 l9 = some (vv, hh)) : W p l e ({ frames := 3, cells := 0, slots := 0, locals := 70 } : Room) s m args below meth c H locs 0 0 (MQ below (r_Q D b (some (.int vv)) hh) args s 0 0 (fun q => b ≤ q)) (F0 m 257 ls []) := by
  obtain ⟨⟨hx, hb, hml, hown, hts⟩, -⟩ := id X
  unfold f_X8_gives_257 at hf
  refine r_iinc (lv' := fun v28 => [(9, .int v28), (0, va_rf (some l0)), (4, .int l4), (5, .int l5), (6, .int l6), (7, .int l7), (8, .int l8)]) hx hb hf dX8_gives_257 hl (k := 6) rfl (by decide) (by decide) (fun v => by first | rfl | simp [va_cat, cat_i, cat_r, cat_l]) (fun v28 ls hl hf => ?_)
  refine lv_goto (tgt := 165) hx hb dX8_gives_260 (by decide) ?_
  exact r_165 _ _ _ _ _ _ _ _ _ _ _ B (lv_sub hl [1, 2, 3, 4, 5, 6, 0] rfl) hf
set_option maxRecDepth 100000 in
set_option maxHeartbeats 4000000 in
theorem t_X8_gives_244 {p : Program} {l : Launch} {e : Env} {s : State} {m : MethodId} {args : Array Value} {below : List Frame} {meth : Method} {c : Code} {D : RG} {b : Nat} {vv : Int32} {hh : AH} (X : r_C p c cX8_gives 11 s m args RX8 D b) (hr : meth.sig.returnType = (some .int)) (hk : meth.locks = false) (hn : meth.name = "gives") {k_165 : AH → Nat → Int32 → Int32 → Int32 → Int32 → Int32 → Int32 → Option (Int32 × AH)} (r_165 : ∀ (h : AH) (H : Heap) (locs : List Loc) (ls : Array Slot) (l0 : Nat) (l4 : Int32) (l5 : Int32) (l6 : Int32) (l7 : Int32) (l8 : Int32) (l9 : Int32), r_B D b s h H locs → lv_has ls 11 [(0, va_rf (some l0)), (4, .int l4), (5, .int l5), (6, .int l6), (7, .int l7), (8, .int l8), (9, .int l9)] → k_165 h l0 l4 l5 l6 l7 l8 l9 = some (vv, hh) → W p l e ({ frames := 3, cells := 0, slots := 0, locals := 70 } : Room) s m args below meth c H locs 0 0 (MQ below (r_Q D b (some (.int vv)) hh) args s 0 0 (fun q => b ≤ q)) (F0 m 165 ls [])) {h : AH} {H : Heap} {locs : List Loc} {ls : Array Slot} {l0 : Nat} {l4 : Int32} {l5 : Int32} {l6 : Int32} {l7 : Int32} {l8 : Int32} {l9 : Int32} {l10 : Int32} {s0 : Option Nat} {s1 : Int32} {s2 : Int32} (B : r_B D b s h H locs) (hl : lv_has ls 11 [(0, va_rf (some l0)), (4, .int l4), (5, .int l5), (6, .int l6), (7, .int l7), (8, .int l8), (9, .int l9), (10, .int l10)]) (hf : f_X8_gives_244 k_165 h l0 l4 l5 l6 l7 l8 l9 l10 s0 s1 s2 = some (vv, hh)) : W p l e ({ frames := 3, cells := 0, slots := 0, locals := 70 } : Room) s m args below meth c H locs 0 0 (MQ below (r_Q D b (some (.int vv)) hh) args s 0 0 (fun q => b ≤ q)) (F0 m 244 ls [.int s2, .int s1, va_rf s0]) := by
  obtain ⟨⟨hx, hb, hml, hown, hts⟩, -⟩ := id X
  unfold f_X8_gives_244 at hf
  refine r_sIi X B hf dX8_gives_244 (fun h29 H locs B hf => ?_)
  refine lv_iload hx hb dX8_gives_245 (lv_at hl 1 rfl) ?_
  refine r_aload_n hx hb dX8_gives_247 rfl (lv_at hl 0 rfl) ?_
  refine r_gR X B hf fX8_42 (fun _ _ => rfl) m_147 dX8_gives_248 (fun v30 hf => ?_)
  refine lv_iload hx hb dX8_gives_251 (lv_at hl 7 rfl) ?_
  refine r_aIi X B hf dX8_gives_253 (fun v31 hf => ?_)
  refine lv_isub hx hb dX8_gives_254 ?_
  refine r_bd hf (fun v32 hf => ?_)
  refine lv_istore (i := 4) (lv' := [(4, .int v32), (0, va_rf (some l0)), (5, .int l5), (6, .int l6), (7, .int l7), (8, .int l8), (9, .int l9), (10, .int l10)]) hx hb dX8_gives_255 hl (by decide) (by first | rfl | simp [va_cat, cat_i, cat_r, cat_l]) (fun ls hl => ?_)
  exact t_X8_gives_257 X hr hk hn r_165 B (lv_sub hl [1, 0, 2, 3, 4, 5, 6] rfl) hf
set_option maxRecDepth 100000 in
set_option maxHeartbeats 4000000 in
theorem t_X8_gives_165 {p : Program} {l : Launch} {e : Env} {s : State} {m : MethodId} {args : Array Value} {below : List Frame} {meth : Method} {c : Code} {D : RG} {b : Nat} {vv : Int32} {hh : AH} (X : r_C p c cX8_gives 11 s m args RX8 D b) (hr : meth.sig.returnType = (some .int)) (hk : meth.locks = false) (hn : meth.name = "gives") : ∀ (n : Nat) (h : AH) (H : Heap) (locs : List Loc) (ls : Array Slot) (l0 : Nat) (l4 : Int32) (l5 : Int32) (l6 : Int32) (l7 : Int32) (l8 : Int32) (l9 : Int32), r_B D b s h H locs → lv_has ls 11 [(0, va_rf (some l0)), (4, .int l4), (5, .int l5), (6, .int l6), (7, .int l7), (8, .int l8), (9, .int l9)] → f_X8_gives_165 n h l0 l4 l5 l6 l7 l8 l9 = some (vv, hh) → W p l e ({ frames := 3, cells := 0, slots := 0, locals := 70 } : Room) s m args below meth c H locs 0 0 (MQ below (r_Q D b (some (.int vv)) hh) args s 0 0 (fun q => b ≤ q)) (F0 m 165 ls []) := by
  obtain ⟨⟨hx, hb, hml, hown, hts⟩, -⟩ := id X
  intro n
  induction n with
  | zero =>
    intro h H locs ls l0 l4 l5 l6 l7 l8 l9 B hl hf
    cases hf
  | succ n ih =>
    intro h H locs ls l0 l4 l5 l6 l7 l8 l9 B hl hf
    unfold f_X8_gives_165 at hf
    refine lv_iload hx hb dX8_gives_165 (lv_at hl 6 rfl) ?_
    refine lv_iload hx hb dX8_gives_167 (lv_at hl 2 rfl) ?_
    refine lv_icmp_ge (tgt := 263) hx hb dX8_gives_169 (by decide) (fun q_ => ?_) (fun q_ => ?_)
    · have hf := (r_ite hf).1 q_
      exact t_X8_gives_263 X hr hk hn  _ _ _ _ _ _ _ _ _ _ _ B (lv_sub hl [0, 1, 2, 3, 4, 5] rfl) hf
    · have hf := (r_ite hf).2 q_
      refine r_aload_n hx hb dX8_gives_172 rfl (lv_at hl 0 rfl) ?_
      refine r_gR X B hf fX8_41 (fun _ _ => rfl) m_146 dX8_gives_173 (fun v33 hf => ?_)
      refine lv_iload hx hb dX8_gives_176 (lv_at hl 6 rfl) ?_
      refine r_aIi X B hf dX8_gives_178 (fun v34 hf => ?_)
      refine lv_istore (i := 10) (lv' := [(10, .int v34), (0, va_rf (some l0)), (4, .int l4), (5, .int l5), (6, .int l6), (7, .int l7), (8, .int l8), (9, .int l9)]) hx hb dX8_gives_179 hl (by decide) (by first | rfl | simp [va_cat, cat_i, cat_r, cat_l]) (fun ls hl => ?_)
      refine r_aload_n hx hb dX8_gives_181 rfl (lv_at hl 1 rfl) ?_
      refine r_gR X B hf fX8_43 (fun _ _ => rfl) m_148 dX8_gives_182 (fun v35 hf => ?_)
      refine lv_iload hx hb dX8_gives_185 (lv_at hl 0 rfl) ?_
      refine r_aIz X B hf dX8_gives_187 (fun v36 hf => ?_)
      refine lv_if_eq (tgt := 194) hx hb dX8_gives_188 (by decide) (fun q_ => ?_) (fun q_ => ?_)
      · have hf := (r_ite hf).1 q_
        refine r_aload_n hx hb dX8_gives_194 rfl (lv_at hl 1 rfl) ?_
        refine r_gR X B hf fX8_42 (fun _ _ => rfl) m_147 dX8_gives_195 (fun v37 hf => ?_)
        refine lv_iload hx hb dX8_gives_198 (lv_at hl 0 rfl) ?_
        refine lv_iload hx hb dX8_gives_200 (lv_at hl 5 rfl) ?_
        refine lv_if_eq (tgt := 221) hx hb dX8_gives_202 (by decide) (fun q_ => ?_) (fun q_ => ?_)
        · have hf := (r_ite hf).1 q_
          refine r_aload_n hx hb dX8_gives_221 rfl (lv_at hl 1 rfl) ?_
          refine r_gR X B hf fX8_16 (fun _ _ => rfl) m_132 dX8_gives_222 (fun v38 hf => ?_)
          refine lv_iload hx hb dX8_gives_225 (lv_at hl 0 rfl) ?_
          refine r_aIi X B hf dX8_gives_227 (fun v39 hf => ?_)
          refine lv_iload hx hb dX8_gives_228 (lv_at hl 2 rfl) ?_
          refine lv_icmp_gt (tgt := 243) hx hb dX8_gives_230 (by decide) (fun q_ => ?_) (fun q_ => ?_)
          · have hf := (r_ite hf).1 q_
            refine lv_iconst (v := 0) hx hb dX8_gives_243 (by decide) ?_
            exact t_X8_gives_244 X hr hk hn ih B (lv_sub hl [1, 2, 3, 4, 5, 6, 7, 0] rfl) hf
          · have hf := (r_ite hf).2 q_
            refine r_aload_n hx hb dX8_gives_233 rfl (lv_at hl 1 rfl) ?_
            refine r_gR X B hf fX8_16 (fun _ _ => rfl) m_132 dX8_gives_234 (fun v40 hf => ?_)
            refine lv_iload hx hb dX8_gives_237 (lv_at hl 0 rfl) ?_
            refine r_aIi X B hf dX8_gives_239 (fun v41 hf => ?_)
            refine lv_goto (tgt := 244) hx hb dX8_gives_240 (by decide) ?_
            exact t_X8_gives_244 X hr hk hn ih B (lv_sub hl [1, 2, 3, 4, 5, 6, 7, 0] rfl) hf
        · have hf := (r_ite hf).2 q_
          refine lv_iload hx hb dX8_gives_205 (lv_at hl 6 rfl) ?_
          refine r_aload_n hx hb dX8_gives_207 rfl (lv_at hl 1 rfl) ?_
          refine r_gR X B hf fX8_16 (fun _ _ => rfl) m_132 dX8_gives_208 (fun v42 hf => ?_)
          refine lv_iload hx hb dX8_gives_211 (lv_at hl 0 rfl) ?_
          refine r_aIi X B hf dX8_gives_213 (fun v43 hf => ?_)
          refine lv_imul hx hb dX8_gives_214 ?_
          refine lv_iload hx hb dX8_gives_215 (lv_at hl 4 rfl) ?_
          refine r_div hx hb hf dX8_gives_217 (fun v44 hf => ?_)
          refine lv_goto (tgt := 244) hx hb dX8_gives_218 (by decide) ?_
          exact t_X8_gives_244 X hr hk hn ih B (lv_sub hl [1, 2, 3, 4, 5, 6, 7, 0] rfl) hf
      · have hf := (r_ite hf).2 q_
        refine lv_goto (tgt := 257) hx hb dX8_gives_191 (by decide) ?_
        exact t_X8_gives_257 X hr hk hn ih B (lv_sub hl [1, 2, 3, 4, 5, 6, 7] rfl) hf
set_option maxRecDepth 100000 in
set_option maxHeartbeats 4000000 in
theorem t_X8_gives_156 {p : Program} {l : Launch} {e : Env} {s : State} {m : MethodId} {args : Array Value} {below : List Frame} {meth : Method} {c : Code} {D : RG} {b : Nat} {vv : Int32} {hh : AH} (X : r_C p c cX8_gives 11 s m args RX8 D b) (hr : meth.sig.returnType = (some .int)) (hk : meth.locks = false) (hn : meth.name = "gives") {h : AH} {H : Heap} {locs : List Loc} {ls : Array Slot} {l0 : Nat} {l4 : Int32} {l5 : Int32} {l6 : Int32} {s0 : Int32} (B : r_B D b s h H locs) (hl : lv_has ls 11 [(0, va_rf (some l0)), (4, .int l4), (5, .int l5), (6, .int l6)]) (hf : f_X8_gives_156 h l0 l4 l5 l6 s0 = some (vv, hh)) : W p l e ({ frames := 3, cells := 0, slots := 0, locals := 70 } : Room) s m args below meth c H locs 0 0 (MQ below (r_Q D b (some (.int vv)) hh) args s 0 0 (fun q => b ≤ q)) (F0 m 156 ls [.int s0]) := by
  obtain ⟨⟨hx, hb, hml, hown, hts⟩, -⟩ := id X
  unfold f_X8_gives_156 at hf
  refine lv_istore (i := 7) (lv' := [(7, .int s0), (0, va_rf (some l0)), (4, .int l4), (5, .int l5), (6, .int l6)]) hx hb dX8_gives_156 hl (by decide) (by first | rfl | simp [va_cat, cat_i, cat_r, cat_l]) (fun ls hl => ?_)
  refine lv_iload hx hb dX8_gives_158 (lv_at hl 2 rfl) ?_
  refine lv_istore (i := 8) (lv' := [(8, .int l4), (7, .int s0), (0, va_rf (some l0)), (4, .int l4), (5, .int l5), (6, .int l6)]) hx hb dX8_gives_160 hl (by decide) (by first | rfl | simp [va_cat, cat_i, cat_r, cat_l]) (fun ls hl => ?_)
  refine lv_iconst (v := 0) hx hb dX8_gives_162 (by decide) ?_
  refine lv_istore (i := 9) (lv' := [(9, .int 0), (8, .int l4), (7, .int s0), (0, va_rf (some l0)), (4, .int l4), (5, .int l5), (6, .int l6)]) hx hb dX8_gives_163 hl (by decide) (by first | rfl | simp [va_cat, cat_i, cat_r, cat_l]) (fun ls hl => ?_)
  exact t_X8_gives_165 X hr hk hn  _ _ _ _ _ _ _ _ _ _ _ _ B (lv_sub hl [3, 4, 5, 6, 2, 1, 0] rfl) hf
set_option maxRecDepth 100000 in
set_option maxHeartbeats 4000000 in
theorem t_X8_gives_155 {p : Program} {l : Launch} {e : Env} {s : State} {m : MethodId} {args : Array Value} {below : List Frame} {meth : Method} {c : Code} {D : RG} {b : Nat} {vv : Int32} {hh : AH} (X : r_C p c cX8_gives 11 s m args RX8 D b) (hr : meth.sig.returnType = (some .int)) (hk : meth.locks = false) (hn : meth.name = "gives") {h : AH} {H : Heap} {locs : List Loc} {ls : Array Slot} {l0 : Nat} {l4 : Int32} {l5 : Int32} {l6 : Int32} (B : r_B D b s h H locs) (hl : lv_has ls 11 [(0, va_rf (some l0)), (4, .int l4), (5, .int l5), (6, .int l6)]) (hf : f_X8_gives_155 h l0 l4 l5 l6 = some (vv, hh)) : W p l e ({ frames := 3, cells := 0, slots := 0, locals := 70 } : Room) s m args below meth c H locs 0 0 (MQ below (r_Q D b (some (.int vv)) hh) args s 0 0 (fun q => b ≤ q)) (F0 m 155 ls []) := by
  obtain ⟨⟨hx, hb, hml, hown, hts⟩, -⟩ := id X
  unfold f_X8_gives_155 at hf
  refine lv_iconst (v := 0) hx hb dX8_gives_155 (by decide) ?_
  exact t_X8_gives_156 X hr hk hn  B (lv_sub hl [0, 1, 2, 3] rfl) hf
set_option maxRecDepth 100000 in
set_option maxHeartbeats 4000000 in
theorem t_X8_gives_127 {p : Program} {l : Launch} {e : Env} {s : State} {m : MethodId} {args : Array Value} {below : List Frame} {meth : Method} {c : Code} {D : RG} {b : Nat} {vv : Int32} {hh : AH} (X : r_C p c cX8_gives 11 s m args RX8 D b) (hr : meth.sig.returnType = (some .int)) (hk : meth.locks = false) (hn : meth.name = "gives") {k_42 : AH → Nat → Int32 → Int32 → Int32 → Int32 → Int32 → Int32 → Option (Int32 × AH)} (r_42 : ∀ (h : AH) (H : Heap) (locs : List Loc) (ls : Array Slot) (l0 : Nat) (l1 : Int32) (l2 : Int32) (l4 : Int32) (l5 : Int32) (l6 : Int32) (l7 : Int32), r_B D b s h H locs → lv_has ls 11 [(0, va_rf (some l0)), (1, .int l1), (2, .int l2), (4, .int l4), (5, .int l5), (6, .int l6), (7, .int l7)] → k_42 h l0 l1 l2 l4 l5 l6 l7 = some (vv, hh) → W p l e ({ frames := 3, cells := 0, slots := 0, locals := 70 } : Room) s m args below meth c H locs 0 0 (MQ below (r_Q D b (some (.int vv)) hh) args s 0 0 (fun q => b ≤ q)) (F0 m 42 ls [])) {h : AH} {H : Heap} {locs : List Loc} {ls : Array Slot} {l0 : Nat} {l1 : Int32} {l2 : Int32} {l4 : Int32} {l5 : Int32} {l6 : Int32} {l7 : Int32} (B : r_B D b s h H locs) (hl : lv_has ls 11 [(0, va_rf (some l0)), (1, .int l1), (2, .int l2), (4, .int l4), (5, .int l5), (6, .int l6), (7, .int l7)]) (hf : f_X8_gives_127 k_42 h l0 l1 l2 l4 l5 l6 l7 = some (vv, hh)) : W p l e ({ frames := 3, cells := 0, slots := 0, locals := 70 } : Room) s m args below meth c H locs 0 0 (MQ below (r_Q D b (some (.int vv)) hh) args s 0 0 (fun q => b ≤ q)) (F0 m 127 ls []) := by
  obtain ⟨⟨hx, hb, hml, hown, hts⟩, -⟩ := id X
  unfold f_X8_gives_127 at hf
  refine r_iinc (lv' := fun v45 => [(7, .int v45), (0, va_rf (some l0)), (1, .int l1), (2, .int l2), (4, .int l4), (5, .int l5), (6, .int l6)]) hx hb hf dX8_gives_127 hl (k := 6) rfl (by decide) (by decide) (fun v => by first | rfl | simp [va_cat, cat_i, cat_r, cat_l]) (fun v45 ls hl hf => ?_)
  refine lv_goto (tgt := 42) hx hb dX8_gives_130 (by decide) ?_
  exact r_42 _ _ _ _ _ _ _ _ _ _ _ B (lv_sub hl [1, 2, 3, 4, 5, 6, 0] rfl) hf
set_option maxRecDepth 100000 in
set_option maxHeartbeats 4000000 in
theorem t_X8_gives_104 {p : Program} {l : Launch} {e : Env} {s : State} {m : MethodId} {args : Array Value} {below : List Frame} {meth : Method} {c : Code} {D : RG} {b : Nat} {vv : Int32} {hh : AH} (X : r_C p c cX8_gives 11 s m args RX8 D b) (hr : meth.sig.returnType = (some .int)) (hk : meth.locks = false) (hn : meth.name = "gives") {k_42 : AH → Nat → Int32 → Int32 → Int32 → Int32 → Int32 → Int32 → Option (Int32 × AH)} (r_42 : ∀ (h : AH) (H : Heap) (locs : List Loc) (ls : Array Slot) (l0 : Nat) (l1 : Int32) (l2 : Int32) (l4 : Int32) (l5 : Int32) (l6 : Int32) (l7 : Int32), r_B D b s h H locs → lv_has ls 11 [(0, va_rf (some l0)), (1, .int l1), (2, .int l2), (4, .int l4), (5, .int l5), (6, .int l6), (7, .int l7)] → k_42 h l0 l1 l2 l4 l5 l6 l7 = some (vv, hh) → W p l e ({ frames := 3, cells := 0, slots := 0, locals := 70 } : Room) s m args below meth c H locs 0 0 (MQ below (r_Q D b (some (.int vv)) hh) args s 0 0 (fun q => b ≤ q)) (F0 m 42 ls [])) {h : AH} {H : Heap} {locs : List Loc} {ls : Array Slot} {l0 : Nat} {l1 : Int32} {l2 : Int32} {l4 : Int32} {l5 : Int32} {l6 : Int32} {l7 : Int32} {l8 : Int32} {s0 : Option Nat} {s1 : Int32} {s2 : Int32} (B : r_B D b s h H locs) (hl : lv_has ls 11 [(0, va_rf (some l0)), (1, .int l1), (2, .int l2), (4, .int l4), (5, .int l5), (6, .int l6), (7, .int l7), (8, .int l8)]) (hf : f_X8_gives_104 k_42 h l0 l1 l2 l4 l5 l6 l7 l8 s0 s1 s2 = some (vv, hh)) : W p l e ({ frames := 3, cells := 0, slots := 0, locals := 70 } : Room) s m args below meth c H locs 0 0 (MQ below (r_Q D b (some (.int vv)) hh) args s 0 0 (fun q => b ≤ q)) (F0 m 104 ls [.int s2, .int s1, va_rf s0]) := by
  obtain ⟨⟨hx, hb, hml, hown, hts⟩, -⟩ := id X
  unfold f_X8_gives_104 at hf
  refine r_sIz X B hf dX8_gives_104 (fun h46 H locs B hf => ?_)
  refine r_aload_n hx hb dX8_gives_105 rfl (lv_at hl 0 rfl) ?_
  refine r_gR X B hf fX8_43 (fun _ _ => rfl) m_148 dX8_gives_106 (fun v47 hf => ?_)
  refine lv_iload hx hb dX8_gives_109 (lv_at hl 7 rfl) ?_
  refine r_aIz X B hf dX8_gives_111 (fun v48 hf => ?_)
  refine lv_if_ne (tgt := 127) hx hb dX8_gives_112 (by decide) (fun q_ => ?_) (fun q_ => ?_)
  · have hf := (r_ite hf).2 q_
    exact t_X8_gives_127 X hr hk hn r_42 B (lv_sub hl [0, 1, 2, 3, 4, 5, 6] rfl) hf
  · have hf := (r_ite hf).1 q_
    refine lv_iload hx hb dX8_gives_115 (lv_at hl 5 rfl) ?_
    refine r_aload_n hx hb dX8_gives_117 rfl (lv_at hl 0 rfl) ?_
    refine r_gR X B hf fX8_16 (fun _ _ => rfl) m_132 dX8_gives_118 (fun v49 hf => ?_)
    refine lv_iload hx hb dX8_gives_121 (lv_at hl 7 rfl) ?_
    refine r_aIi X B hf dX8_gives_123 (fun v50 hf => ?_)
    refine lv_iadd hx hb dX8_gives_124 ?_
    refine r_bd hf (fun v51 hf => ?_)
    refine lv_istore (i := 6) (lv' := [(6, .int v51), (0, va_rf (some l0)), (1, .int l1), (2, .int l2), (4, .int l4), (5, .int l5), (7, .int l7), (8, .int l8)]) hx hb dX8_gives_125 hl (by decide) (by first | rfl | simp [va_cat, cat_i, cat_r, cat_l]) (fun ls hl => ?_)
    exact t_X8_gives_127 X hr hk hn r_42 B (lv_sub hl [1, 2, 3, 4, 5, 0, 6] rfl) hf
set_option maxRecDepth 100000 in
set_option maxHeartbeats 4000000 in
theorem t_X8_gives_103 {p : Program} {l : Launch} {e : Env} {s : State} {m : MethodId} {args : Array Value} {below : List Frame} {meth : Method} {c : Code} {D : RG} {b : Nat} {vv : Int32} {hh : AH} (X : r_C p c cX8_gives 11 s m args RX8 D b) (hr : meth.sig.returnType = (some .int)) (hk : meth.locks = false) (hn : meth.name = "gives") {k_42 : AH → Nat → Int32 → Int32 → Int32 → Int32 → Int32 → Int32 → Option (Int32 × AH)} (r_42 : ∀ (h : AH) (H : Heap) (locs : List Loc) (ls : Array Slot) (l0 : Nat) (l1 : Int32) (l2 : Int32) (l4 : Int32) (l5 : Int32) (l6 : Int32) (l7 : Int32), r_B D b s h H locs → lv_has ls 11 [(0, va_rf (some l0)), (1, .int l1), (2, .int l2), (4, .int l4), (5, .int l5), (6, .int l6), (7, .int l7)] → k_42 h l0 l1 l2 l4 l5 l6 l7 = some (vv, hh) → W p l e ({ frames := 3, cells := 0, slots := 0, locals := 70 } : Room) s m args below meth c H locs 0 0 (MQ below (r_Q D b (some (.int vv)) hh) args s 0 0 (fun q => b ≤ q)) (F0 m 42 ls [])) {h : AH} {H : Heap} {locs : List Loc} {ls : Array Slot} {l0 : Nat} {l1 : Int32} {l2 : Int32} {l4 : Int32} {l5 : Int32} {l6 : Int32} {l7 : Int32} {l8 : Int32} {s0 : Option Nat} {s1 : Int32} (B : r_B D b s h H locs) (hl : lv_has ls 11 [(0, va_rf (some l0)), (1, .int l1), (2, .int l2), (4, .int l4), (5, .int l5), (6, .int l6), (7, .int l7), (8, .int l8)]) (hf : f_X8_gives_103 k_42 h l0 l1 l2 l4 l5 l6 l7 l8 s0 s1 = some (vv, hh)) : W p l e ({ frames := 3, cells := 0, slots := 0, locals := 70 } : Room) s m args below meth c H locs 0 0 (MQ below (r_Q D b (some (.int vv)) hh) args s 0 0 (fun q => b ≤ q)) (F0 m 103 ls [.int s1, va_rf s0]) := by
  obtain ⟨⟨hx, hb, hml, hown, hts⟩, -⟩ := id X
  unfold f_X8_gives_103 at hf
  refine lv_iconst (v := 0) hx hb dX8_gives_103 (by decide) ?_
  exact t_X8_gives_104 X hr hk hn r_42 B (lv_sub hl [0, 1, 2, 3, 4, 5, 6, 7] rfl) hf
set_option maxRecDepth 100000 in
set_option maxHeartbeats 4000000 in
theorem t_X8_gives_42 {p : Program} {l : Launch} {e : Env} {s : State} {m : MethodId} {args : Array Value} {below : List Frame} {meth : Method} {c : Code} {D : RG} {b : Nat} {vv : Int32} {hh : AH} (X : r_C p c cX8_gives 11 s m args RX8 D b) (hr : meth.sig.returnType = (some .int)) (hk : meth.locks = false) (hn : meth.name = "gives") : ∀ (n : Nat) (h : AH) (H : Heap) (locs : List Loc) (ls : Array Slot) (l0 : Nat) (l1 : Int32) (l2 : Int32) (l4 : Int32) (l5 : Int32) (l6 : Int32) (l7 : Int32), r_B D b s h H locs → lv_has ls 11 [(0, va_rf (some l0)), (1, .int l1), (2, .int l2), (4, .int l4), (5, .int l5), (6, .int l6), (7, .int l7)] → f_X8_gives_42 n h l0 l1 l2 l4 l5 l6 l7 = some (vv, hh) → W p l e ({ frames := 3, cells := 0, slots := 0, locals := 70 } : Room) s m args below meth c H locs 0 0 (MQ below (r_Q D b (some (.int vv)) hh) args s 0 0 (fun q => b ≤ q)) (F0 m 42 ls []) := by
  obtain ⟨⟨hx, hb, hml, hown, hts⟩, -⟩ := id X
  intro n
  induction n with
  | zero =>
    intro h H locs ls l0 l1 l2 l4 l5 l6 l7 B hl hf
    cases hf
  | succ n ih =>
    intro h H locs ls l0 l1 l2 l4 l5 l6 l7 B hl hf
    unfold f_X8_gives_42 at hf
    refine lv_iload hx hb dX8_gives_42 (lv_at hl 6 rfl) ?_
    refine lv_iload hx hb dX8_gives_44 (lv_at hl 4 rfl) ?_
    refine lv_icmp_ge (tgt := 133) hx hb dX8_gives_46 (by decide) (fun q_ => ?_) (fun q_ => ?_)
    · have hf := (r_ite hf).1 q_
      refine r_aload_n hx hb dX8_gives_133 rfl (lv_at hl 0 rfl) ?_
      refine lv_bipush (v := 13) hx hb dX8_gives_134 (by decide) ?_
      refine lv_iconst (v := 0) hx hb dX8_gives_136 (by decide) ?_
      refine rcv_inv hf ?_
      intro a55 e56 s57 hf
      refine cal_inv hf ?_
      intro v52 h53 e54 hf
      refine r_call B (va_runV (As := [.int 13, .int 0]) (rest := []) X.1 (c_X8_custom (l := l) (D := D) (b := b) e54) (r_cwV X rfl m_574 m_575 m_576 m_5 m_577 rfl rfl hd_X8_custom ⟨Nat.le_of_ble_eq_true rfl, Nat.le_of_ble_eq_true rfl⟩) (r_preV X B s57 rfl [.int 13, .int 0]) rfl rfl hl.1 (by rw [e56]; rfl) (lv_room (by simp [va_cat, cat_i, cat_r, cat_l])) dX8_gives_137 ⟨Nat.zero_le _, Nat.zero_le _⟩) ?_
      intro H locs B
      refine W.cs (cells' := 0) (slots' := 0) rfl rfl (W.eq (g2 := F0 m 140 ls [.int v52]) rfl ?_)
      refine lv_iconst (v := 1) hx hb dX8_gives_140 (by decide) ?_
      refine lv_icmp_ne (tgt := 155) hx hb dX8_gives_141 (by decide) (fun q_ => ?_) (fun q_ => ?_)
      · have hf := (r_ite hf).2 q_
        exact t_X8_gives_155 X hr hk hn  B (lv_sub hl [0, 3, 4, 5] rfl) hf
      · have hf := (r_ite hf).1 q_
        refine lv_iload hx hb dX8_gives_144 (lv_at hl 3 rfl) ?_
        refine lv_iload hx hb dX8_gives_146 (lv_at hl 5 rfl) ?_
        refine lv_icmp_ge (tgt := 155) hx hb dX8_gives_148 (by decide) (fun q_ => ?_) (fun q_ => ?_)
        · have hf := (r_ite hf).1 q_
          exact t_X8_gives_155 X hr hk hn  B (lv_sub hl [0, 3, 4, 5] rfl) hf
        · have hf := (r_ite hf).2 q_
          refine lv_iconst (v := 1) hx hb dX8_gives_151 (by decide) ?_
          refine lv_goto (tgt := 156) hx hb dX8_gives_152 (by decide) ?_
          exact t_X8_gives_156 X hr hk hn  B (lv_sub hl [0, 3, 4, 5] rfl) hf
    · have hf := (r_ite hf).2 q_
      refine r_aload_n hx hb dX8_gives_49 rfl (lv_at hl 0 rfl) ?_
      refine r_gR X B hf fX8_41 (fun _ _ => rfl) m_146 dX8_gives_50 (fun v58 hf => ?_)
      refine lv_iload hx hb dX8_gives_53 (lv_at hl 6 rfl) ?_
      refine r_aIi X B hf dX8_gives_55 (fun v59 hf => ?_)
      refine lv_istore (i := 8) (lv' := [(8, .int v59), (0, va_rf (some l0)), (1, .int l1), (2, .int l2), (4, .int l4), (5, .int l5), (6, .int l6), (7, .int l7)]) hx hb dX8_gives_56 hl (by decide) (by first | rfl | simp [va_cat, cat_i, cat_r, cat_l]) (fun ls hl => ?_)
      refine r_aload_n hx hb dX8_gives_58 rfl (lv_at hl 1 rfl) ?_
      refine r_gR X B hf fX8_42 (fun _ _ => rfl) m_147 dX8_gives_59 (fun v60 hf => ?_)
      refine lv_iload hx hb dX8_gives_62 (lv_at hl 0 rfl) ?_
      refine lv_iconst (v := 0) hx hb dX8_gives_64 (by decide) ?_
      refine r_sIi X B hf dX8_gives_65 (fun h61 H locs B hf => ?_)
      refine r_aload_n hx hb dX8_gives_66 rfl (lv_at hl 1 rfl) ?_
      refine r_gR X B hf fX8_43 (fun _ _ => rfl) m_148 dX8_gives_67 (fun v62 hf => ?_)
      refine lv_iload hx hb dX8_gives_70 (lv_at hl 0 rfl) ?_
      refine r_aload_n hx hb dX8_gives_72 rfl (lv_at hl 1 rfl) ?_
      refine lv_iload_n hx hb dX8_gives_73 rfl (lv_at hl 2 rfl) ?_
      refine lv_iload_n hx hb dX8_gives_74 rfl (lv_at hl 3 rfl) ?_
      refine rcv_inv hf ?_
      intro a66 e67 s68 hf
      refine cal_inv hf ?_
      intro v63 h64 e65 hf
      refine r_call B (va_runV (As := [.int l1, .int l2]) (rest := [.int v59, va_rf v62]) X.1 (c_X8_isBad (l := l) (D := D) (b := b) e65) (r_cwV X rfl m_589 m_590 m_591 m_5 m_592 rfl rfl hd_X8_isBad ⟨Nat.le_of_ble_eq_true rfl, Nat.le_of_ble_eq_true rfl⟩) (r_preV X B s68 rfl [.int l1, .int l2]) rfl rfl hl.1 (by rw [e67]; rfl) (lv_room (by simp [va_cat, cat_i, cat_r, cat_l])) dX8_gives_75 ⟨Nat.zero_le _, Nat.zero_le _⟩) ?_
      intro H locs B
      refine W.cs (cells' := 0) (slots' := 0) rfl rfl (W.eq (g2 := F0 m 78 ls [.int v63, .int v59, va_rf v62]) rfl ?_)
      refine lv_if_eq (tgt := 103) hx hb dX8_gives_78 (by decide) (fun q_ => ?_) (fun q_ => ?_)
      · have hf := (r_ite hf).1 q_
        exact t_X8_gives_103 X hr hk hn ih B (lv_sub hl [1, 2, 3, 4, 5, 6, 7, 0] rfl) hf
      · have hf := (r_ite hf).2 q_
        refine r_aload_n hx hb dX8_gives_81 rfl (lv_at hl 1 rfl) ?_
        refine r_gR X B hf fX8_15 (fun _ _ => rfl) m_131 dX8_gives_82 (fun v69 hf => ?_)
        refine lv_iload hx hb dX8_gives_85 (lv_at hl 0 rfl) ?_
        refine r_aIi X B hf dX8_gives_87 (fun v70 hf => ?_)
        refine r_aload_n hx hb dX8_gives_88 rfl (lv_at hl 1 rfl) ?_
        refine lv_bipush (v := 11) hx hb dX8_gives_89 (by decide) ?_
        refine lv_bipush (v := 9) hx hb dX8_gives_91 (by decide) ?_
        refine rcv_inv hf ?_
        intro a74 e75 s76 hf
        refine cal_inv hf ?_
        intro v71 h72 e73 hf
        refine r_call B (va_runV (As := [.int 11, .int 9]) (rest := [.int v70, .int v59, va_rf v62]) X.1 (c_X8_custom (l := l) (D := D) (b := b) e73) (r_cwV X rfl m_574 m_575 m_576 m_5 m_577 rfl rfl hd_X8_custom ⟨Nat.le_of_ble_eq_true rfl, Nat.le_of_ble_eq_true rfl⟩) (r_preV X B s76 rfl [.int 11, .int 9]) rfl rfl hl.1 (by rw [e75]; rfl) (lv_room (by simp [va_cat, cat_i, cat_r, cat_l])) dX8_gives_93 ⟨Nat.zero_le _, Nat.zero_le _⟩) ?_
        intro H locs B
        refine W.cs (cells' := 0) (slots' := 0) rfl rfl (W.eq (g2 := F0 m 96 ls [.int v71, .int v70, .int v59, va_rf v62]) rfl ?_)
        refine lv_icmp_le (tgt := 103) hx hb dX8_gives_96 (by decide) (fun q_ => ?_) (fun q_ => ?_)
        · have hf := (r_ite hf).1 q_
          exact t_X8_gives_103 X hr hk hn ih B (lv_sub hl [1, 2, 3, 4, 5, 6, 7, 0] rfl) hf
        · have hf := (r_ite hf).2 q_
          refine lv_iconst (v := 1) hx hb dX8_gives_99 (by decide) ?_
          refine lv_goto (tgt := 104) hx hb dX8_gives_100 (by decide) ?_
          exact t_X8_gives_104 X hr hk hn ih B (lv_sub hl [1, 2, 3, 4, 5, 6, 7, 0] rfl) hf
set_option maxRecDepth 100000 in
set_option maxHeartbeats 4000000 in
theorem c_X8_gives {l : Launch} {D : RG} {b : Nat} {h : AH} {l0 : Nat} {l1 : Int32} {l2 : Int32} {l3 : Int32} {vv : Int32} {hh : AH} (hf : f_X8_gives h l0 l1 l2 l3 = some (vv, hh)) : Met l yX8_gives (Cond.code yX8_gives cX8_gives 11 (some .int) :: wsL_law) ({ frames := 3, cells := 0, slots := 0, locals := 70 } : Room) (va_Pc [.ref l0, .int l1, .int l2, .int l3] (r_I D b h)) (r_Q D b (some (.int vv)) hh) 0 0 (fun q => b ≤ q) := by
  refine r_ofW (own := RX8) rfl (by decide +kernel) (by simp [lg_sl, va_cat, cat_i, cat_r, cat_l]) ?_
  intro p e s m args below meth c ls X B hr hk hn hl
  have hl : lv_has ls 11 [(0, .ref l0), (1, .int l1), (2, .int l2), (3, .int l3)] := by simpa [lv_args, va_cat, cat_i, cat_r, cat_l] using hl
  have hl : lv_has ls 11 [(0, va_rf (some l0)), (1, .int l1), (2, .int l2), (3, .int l3)] := hl
  obtain ⟨⟨hx, hb, hml, hown, hts⟩, -⟩ := id X
  generalize s.heap = H at B ⊢
  generalize ([] : List Loc) = locs at B ⊢
  unfold f_X8_gives at hf
  refine lv_iload_n hx hb dX8_gives_0 rfl (lv_at hl 3 rfl) ?_
  refine lv_iconst (v := 0) hx hb dX8_gives_1 (by decide) ?_
  refine lv_iload_n hx hb dX8_gives_2 rfl (lv_at hl 2 rfl) ?_
  refine r_aload_n hx hb dX8_gives_3 rfl (lv_at hl 0 rfl) ?_
  refine lv_bipush (v := 12) hx hb dX8_gives_4 (by decide) ?_
  refine lv_iconst (v := 0) hx hb dX8_gives_6 (by decide) ?_
  refine rcv_inv hf ?_
  intro a80 e81 s82 hf
  refine cal_inv hf ?_
  intro v77 h78 e79 hf
  refine r_call B (va_runV (As := [.int 12, .int 0]) (rest := [.int l2, .int 0, .int l3]) X.1 (c_X8_custom (l := l) (D := D) (b := b) e79) (r_cwV X rfl m_574 m_575 m_576 m_5 m_577 rfl rfl hd_X8_custom ⟨Nat.le_of_ble_eq_true rfl, Nat.le_of_ble_eq_true rfl⟩) (r_preV X B s82 rfl [.int 12, .int 0]) rfl rfl hl.1 (by rw [e81]; rfl) (lv_room (by simp [va_cat, cat_i, cat_r, cat_l])) dX8_gives_7 ⟨Nat.zero_le _, Nat.zero_le _⟩) ?_
  intro H locs B
  refine W.cs (cells' := 0) (slots' := 0) rfl rfl (W.eq (g2 := F0 m 10 ls [.int v77, .int l2, .int 0, .int l3]) rfl ?_)
  refine r_aload_n hx hb dX8_gives_10 rfl (lv_at hl 0 rfl) ?_
  refine r_gR X B hf fX8_5 (fun _ _ => rfl) m_120 dX8_gives_11 (fun v83 hf => ?_)
  refine lv_iload_n hx hb dX8_gives_14 rfl (lv_at hl 1 rfl) ?_
  refine r_aIi X B hf dX8_gives_15 (fun v84 hf => ?_)
  refine lv_imul hx hb dX8_gives_16 ?_
  refine lv_bipush (v := 100) hx hb dX8_gives_17 (by decide) ?_
  refine r_div hx hb hf dX8_gives_19 (fun v85 hf => ?_)
  refine lv_isub hx hb dX8_gives_20 ?_
  refine va_mmax hx hb (by rw [hml]; exact hl.1.symm) hown (hts _ m_153) (hts _ m_44) (hts _ m_41) (hts _ m_45) (Nat.le_of_ble_eq_true rfl) (by simp [va_cat, cat_i, cat_r, cat_l]) (Nat.zero_le _) (Nat.zero_le _) dX8_gives_21 ?_
  refine r_bd hf (fun v86 hf => ?_)
  refine va_mmin hx hb (by rw [hml]; exact hl.1.symm) hown (hts _ m_152) (hts _ m_40) (hts _ m_41) (hts _ m_42) (Nat.le_of_ble_eq_true rfl) (by simp [va_cat, cat_i, cat_r, cat_l]) (Nat.zero_le _) (Nat.zero_le _) dX8_gives_24 ?_
  refine r_bd hf (fun v87 hf => ?_)
  refine lv_istore (i := 4) (lv' := [(4, .int v87), (0, va_rf (some l0)), (1, .int l1), (2, .int l2), (3, .int l3)]) hx hb dX8_gives_27 hl (by decide) (by first | rfl | simp [va_cat, cat_i, cat_r, cat_l]) (fun ls hl => ?_)
  refine r_aload_n hx hb dX8_gives_29 rfl (lv_at hl 1 rfl) ?_
  refine lv_iload_n hx hb dX8_gives_30 rfl (lv_at hl 2 rfl) ?_
  refine rcv_inv hf ?_
  intro a91 e92 s93 hf
  refine cal_inv hf ?_
  intro v88 h89 e90 hf
  refine r_call B (va_runV (As := [.int l1]) (rest := []) X.1 (c_X8_ordered (l := l) (D := D) (b := b) e90) (r_cwV X rfl m_578 m_579 m_580 m_5 m_581 rfl rfl hd_X8_ordered ⟨Nat.le_of_ble_eq_true rfl, Nat.le_of_ble_eq_true rfl⟩) (r_preV X B s93 rfl [.int l1]) rfl rfl hl.1 (by rw [e92]; rfl) (lv_room (by simp [va_cat, cat_i, cat_r, cat_l])) dX8_gives_31 ⟨Nat.zero_le _, Nat.zero_le _⟩) ?_
  intro H locs B
  refine W.cs (cells' := 0) (slots' := 0) rfl rfl (W.eq (g2 := F0 m 34 ls [.int v88]) rfl ?_)
  refine lv_istore (i := 5) (lv' := [(5, .int v88), (4, .int v87), (0, va_rf (some l0)), (1, .int l1), (2, .int l2), (3, .int l3)]) hx hb dX8_gives_34 hl (by decide) (by first | rfl | simp [va_cat, cat_i, cat_r, cat_l]) (fun ls hl => ?_)
  refine lv_iconst (v := 0) hx hb dX8_gives_36 (by decide) ?_
  refine lv_istore (i := 6) (lv' := [(6, .int 0), (5, .int v88), (4, .int v87), (0, va_rf (some l0)), (1, .int l1), (2, .int l2), (3, .int l3)]) hx hb dX8_gives_37 hl (by decide) (by first | rfl | simp [va_cat, cat_i, cat_r, cat_l]) (fun ls hl => ?_)
  refine lv_iconst (v := 0) hx hb dX8_gives_39 (by decide) ?_
  refine lv_istore (i := 7) (lv' := [(7, .int 0), (6, .int 0), (5, .int v88), (4, .int v87), (0, va_rf (some l0)), (1, .int l1), (2, .int l2), (3, .int l3)]) hx hb dX8_gives_40 hl (by decide) (by first | rfl | simp [va_cat, cat_i, cat_r, cat_l]) (fun ls hl => ?_)
  exact t_X8_gives_42 X hr hk hn  _ _ _ _ _ _ _ _ _ _ _ _ B (lv_sub hl [4, 5, 6, 3, 2, 1, 0] rfl) hf
def f_X8_flows_505 (h : AH) (l7 : Int32) : Option (Int32 × AH) := some (l7, h)
def f_X8_flows_483 (k_12 : AH → Nat → Option Nat → Option Nat → Option Nat → Int32 → Int32 → Int32 → Int32 → Int32 → Int32 → Option (Int32 × AH)) (h : AH) (l0 : Nat) (l1 : Option Nat) (l2 : Option Nat) (l3 : Option Nat) (l4 : Int32) (l5 : Int32) (l6 : Int32) (l7 : Int32) (l8 : Int32) (l9 : Int32) : Option (Int32 × AH) := bd (l9 + 1) (fun v1 => k_12 h l0 l1 l2 l3 l4 l5 l6 l7 l8 v1)
def f_X8_flows_466 (k_12 : AH → Nat → Option Nat → Option Nat → Option Nat → Int32 → Int32 → Int32 → Int32 → Int32 → Int32 → Option (Int32 × AH)) (h : AH) (l0 : Nat) (l1 : Option Nat) (l2 : Option Nat) (l3 : Option Nat) (l4 : Int32) (l5 : Int32) (l6 : Int32) (l7 : Int32) (l8 : Int32) (l9 : Int32) : Option (Int32 × AH) := bd (l8 + 1) (fun v2 => pI h (some l0) 8 29 v2 (fun h3 => gI h3 (some l0) 8 1 (fun v4 => pI h3 (some l0) 8 30 v4 (fun h5 => f_X8_flows_483 k_12 h5 l0 l1 l2 l3 l4 l5 l6 l7 v2 l9))))
def f_X8_flows_430 (k_297 : AH → Nat → Option Nat → Option Nat → Option Nat → Int32 → Int32 → Int32 → Int32 → Int32 → Int32 → Int32 → Int32 → Option (Int32 × AH)) (h : AH) (l0 : Nat) (l1 : Option Nat) (l2 : Option Nat) (l3 : Option Nat) (l4 : Int32) (l5 : Int32) (l6 : Int32) (l7 : Int32) (l8 : Int32) (l9 : Int32) (l14 : Int32) (l15 : Int32) : Option (Int32 × AH) := bd (l15 + 1) (fun v6 => k_297 h l0 l1 l2 l3 l4 l5 l6 l7 l8 l9 l14 v6)
def f_X8_flows_428 (k_297 : AH → Nat → Option Nat → Option Nat → Option Nat → Int32 → Int32 → Int32 → Int32 → Int32 → Int32 → Int32 → Int32 → Option (Int32 × AH)) (h : AH) (l0 : Nat) (l1 : Option Nat) (l2 : Option Nat) (l3 : Option Nat) (l4 : Int32) (l5 : Int32) (l6 : Int32) (l7 : Int32) (l8 : Int32) (l9 : Int32) (l14 : Int32) (l15 : Int32) (s0 : Option Nat) (s1 : Int32) (s2 : Int32) (s3 : Int32) : Option (Int32 × AH) := sI .int h s0 s1 (s2 + s3) (fun h7 => f_X8_flows_430 k_297 h7 l0 l1 l2 l3 l4 l5 l6 l7 l8 l9 l14 l15)
def f_X8_flows_382 (k_297 : AH → Nat → Option Nat → Option Nat → Option Nat → Int32 → Int32 → Int32 → Int32 → Int32 → Int32 → Int32 → Int32 → Option (Int32 × AH)) (h : AH) (l0 : Nat) (l1 : Option Nat) (l2 : Option Nat) (l3 : Option Nat) (l4 : Int32) (l5 : Int32) (l6 : Int32) (l7 : Int32) (l8 : Int32) (l9 : Int32) (l14 : Int32) (l15 : Int32) (s0 : Option Nat) (s1 : Int32) (s2 : Int32) (s3 : Int32) : Option (Int32 × AH) := cal (f_X8_one h s3) (fun v8 h9 => sI .int h9 s0 s1 (s2 + v8) (fun h11 => gR h11 (some l0) 8 22 (fun v12 => gR h11 (some l0) 8 17 (fun v13 => aI .int h11 v13 l15 (fun v14 => aI .int h11 v12 v14 (fun v15 => gR h11 (some l0) 8 42 (fun v16 => aI .int h11 v16 l15 (fun v17 => gR h11 (some l0) 8 16 (fun v18 => aI .int h11 v18 l15 (fun v19 => if v17 = v19 then gR h11 (some l0) 8 16 (fun v20 => aI .int h11 v20 l15 (fun v21 => f_X8_flows_428 k_297 h11 l0 l1 l2 l3 l4 l5 l6 l7 l8 l9 l14 l15 v12 v14 v15 v21)) else f_X8_flows_428 k_297 h11 l0 l1 l2 l3 l4 l5 l6 l7 l8 l9 l14 l15 v12 v14 v15 0))))))))))
def f_X8_flows_297 (k_12 : AH → Nat → Option Nat → Option Nat → Option Nat → Int32 → Int32 → Int32 → Int32 → Int32 → Int32 → Option (Int32 × AH)) : Nat → AH → Nat → Option Nat → Option Nat → Option Nat → Int32 → Int32 → Int32 → Int32 → Int32 → Int32 → Int32 → Int32 → Option (Int32 × AH)
  | 0, _, _, _, _, _, _, _, _, _, _, _, _, _ => none
  | n + 1, h, l0, l1, l2, l3, l4, l5, l6, l7, l8, l9, l14, l15 => gI h (some l0) 8 3 (fun v22 => if v22 ≤ l15 then if l14 = 0 then f_X8_flows_483 k_12 h l0 l1 l2 l3 l4 l5 l6 l7 l8 l9 else gR h (some l0) 8 12 (fun v23 => gI h (some l0) 8 1 (fun v24 => sI .int h v23 l9 v24 (fun h25 => if l8 = 0 then pI h25 (some l0) 8 28 l9 (fun h26 => f_X8_flows_466 k_12 h26 l0 l1 l2 l3 l4 l5 l6 l7 l8 l9) else f_X8_flows_466 k_12 h25 l0 l1 l2 l3 l4 l5 l6 l7 l8 l9))) else gR h (some l0) 8 14 (fun v27 => aI .int h v27 l15 (fun v28 => if v28 = l9 then gR h (some l0) 8 20 (fun v29 => gR h (some l0) 8 42 (fun v30 => aI .int h v30 l15 (fun v31 => sI .int h v29 l15 v31 (fun h32 => gR h32 (some l0) 8 19 (fun v33 => aI .int h32 v33 l15 (fun v34 => gR h32 (some l0) 8 42 (fun v35 => aI .int h32 v35 l15 (fun v36 => sI .int h32 v33 l15 (v34 + v36) (fun h37 => gR h37 (some l0) 8 18 (fun v38 => aI .int h37 v38 l15 (fun v39 => gR h37 (some l0) 8 42 (fun v40 => aI .int h37 v40 l15 (fun v41 => gR h37 (some l0) 8 16 (fun v42 => aI .int h37 v42 l15 (fun v43 => if v41 = v43 then f_X8_flows_382 (f_X8_flows_297 k_12 n) h37 l0 l1 l2 l3 l4 l5 l6 l7 l8 l9 l14 l15 v38 l15 v39 1 else f_X8_flows_382 (f_X8_flows_297 k_12 n) h37 l0 l1 l2 l3 l4 l5 l6 l7 l8 l9 l14 l15 v38 l15 v39 0))))))))))))))) else f_X8_flows_430 (f_X8_flows_297 k_12 n) h l0 l1 l2 l3 l4 l5 l6 l7 l8 l9 l14 l15)))
def f_X8_flows_216 (k_166 : AH → Nat → Option Nat → Option Nat → Option Nat → Int32 → Int32 → Int32 → Int32 → Int32 → Int32 → Int32 → Int32 → Int32 → Int32 → Int32 → Option (Int32 × AH)) (h : AH) (l0 : Nat) (l1 : Option Nat) (l2 : Option Nat) (l3 : Option Nat) (l4 : Int32) (l5 : Int32) (l6 : Int32) (l7 : Int32) (l8 : Int32) (l9 : Int32) (l11 : Int32) (l12 : Int32) (l13 : Int32) (l14 : Int32) (l15 : Int32) : Option (Int32 × AH) := bd (l15 + 1) (fun v44 => k_166 h l0 l1 l2 l3 l4 l5 l6 l7 l8 l9 l11 l12 l13 l14 v44)
def f_X8_flows_166 (k_12 : AH → Nat → Option Nat → Option Nat → Option Nat → Int32 → Int32 → Int32 → Int32 → Int32 → Int32 → Option (Int32 × AH)) : Nat → AH → Nat → Option Nat → Option Nat → Option Nat → Int32 → Int32 → Int32 → Int32 → Int32 → Int32 → Int32 → Int32 → Int32 → Int32 → Int32 → Option (Int32 × AH)
  | 0, _, _, _, _, _, _, _, _, _, _, _, _, _, _, _, _ => none
  | n + 1, h, l0, l1, l2, l3, l4, l5, l6, l7, l8, l9, l11, l12, l13, l14, l15 => gI h (some l0) 8 3 (fun v45 => if v45 ≤ l15 then if l5 = 0 then f_X8_flows_483 k_12 h l0 l1 l2 l3 l4 l5 l6 l7 l8 l9 else gR h (some l0) 8 10 (fun v46 => sI .int h v46 l9 l12 (fun h47 => gR h47 (some l0) 8 11 (fun v48 => sI .int h47 v48 l9 l13 (fun h49 => gI h49 (some l0) 8 24 (fun v50 => pI h49 (some l0) 8 24 (v50 + l11) (fun h51 => gI h51 (some l0) 8 25 (fun v52 => dv l12 2 (fun v53 => pI h51 (some l0) 8 25 (v52 + (l12 - v53)) (fun h54 => gI h54 (some l0) 8 26 (fun v55 => gR h54 (some l0) 8 4 (fun v56 => aI .int h54 v56 l9 (fun v57 => pI h54 (some l0) 8 26 (v55 + (l4 * v57)) (fun h58 => f_X8_flows_297 k_12 FU h58 l0 l1 l2 l3 l4 l5 l6 l7 l8 l9 l14 0))))))))))))) else gR h (some l0) 8 14 (fun v59 => aI .int h v59 l15 (fun v60 => if v60 = l9 then gR h (some l0) 8 42 (fun v61 => aI .int h v61 l15 (fun v62 => gR h (some l0) 8 16 (fun v63 => aI .int h v63 l15 (fun v64 => if v62 = v64 then gR h (some l0) 8 16 (fun v65 => aI .int h v65 l15 (fun v66 => bd (l7 + v66) (fun v67 => f_X8_flows_216 (f_X8_flows_166 k_12 n) h l0 l1 l2 l3 l4 l5 l6 v67 l8 l9 l11 l12 l13 l14 l15))) else f_X8_flows_216 (f_X8_flows_166 k_12 n) h l0 l1 l2 l3 l4 l5 l6 l7 l8 l9 l11 l12 l13 l14 l15)))) else f_X8_flows_216 (f_X8_flows_166 k_12 n) h l0 l1 l2 l3 l4 l5 l6 l7 l8 l9 l11 l12 l13 l14 l15)))
def f_X8_flows_148 (k_12 : AH → Nat → Option Nat → Option Nat → Option Nat → Int32 → Int32 → Int32 → Int32 → Int32 → Int32 → Option (Int32 × AH)) (h : AH) (l0 : Nat) (l1 : Option Nat) (l2 : Option Nat) (l3 : Option Nat) (l4 : Int32) (l5 : Int32) (l7 : Int32) (l8 : Int32) (l9 : Int32) (l10 : Int32) (l11 : Int32) (l12 : Int32) (l13 : Int32) (l14 : Int32) : Option (Int32 × AH) := sI .int h l1 l9 l10 (fun h68 => dv l12 2 (fun v69 => bd (v69 + l13) (fun v70 => f_X8_flows_166 k_12 FU h68 l0 l1 l2 l3 l4 l5 v70 l7 l8 l9 l11 l12 l13 l14 0)))
def f_X8_flows_126 (k_12 : AH → Nat → Option Nat → Option Nat → Option Nat → Int32 → Int32 → Int32 → Int32 → Int32 → Int32 → Option (Int32 × AH)) (h : AH) (l0 : Nat) (l1 : Option Nat) (l2 : Option Nat) (l3 : Option Nat) (l4 : Int32) (l5 : Int32) (l7 : Int32) (l8 : Int32) (l9 : Int32) (l10 : Int32) (l11 : Int32) (l12 : Int32) (l13 : Int32) (s0 : Int32) : Option (Int32 × AH) := if s0 = 0 then f_X8_flows_148 k_12 h l0 l1 l2 l3 l4 l5 l7 l8 l9 l10 l11 l12 l13 s0 else sI .boolean h l2 l9 1 (fun h71 => bd (l13 + l10) (fun v72 => f_X8_flows_148 k_12 h71 l0 l1 l2 l3 l4 l5 l7 l8 l9 0 l11 l12 v72 s0))
def f_X8_flows_125 (k_12 : AH → Nat → Option Nat → Option Nat → Option Nat → Int32 → Int32 → Int32 → Int32 → Int32 → Int32 → Option (Int32 × AH)) (h : AH) (l0 : Nat) (l1 : Option Nat) (l2 : Option Nat) (l3 : Option Nat) (l4 : Int32) (l5 : Int32) (l7 : Int32) (l8 : Int32) (l9 : Int32) (l10 : Int32) (l11 : Int32) (l12 : Int32) (l13 : Int32) : Option (Int32 × AH) := f_X8_flows_126 k_12 h l0 l1 l2 l3 l4 l5 l7 l8 l9 l10 l11 l12 l13 0
def f_X8_flows_12 : Nat → AH → Nat → Option Nat → Option Nat → Option Nat → Int32 → Int32 → Int32 → Int32 → Int32 → Int32 → Option (Int32 × AH)
  | 0, _, _, _, _, _, _, _, _, _, _, _ => none
  | n + 1, h, l0, l1, l2, l3, l4, l5, l6, l7, l8, l9 => gI h (some l0) 8 0 (fun v73 => if v73 ≤ l9 then if l5 = 0 then f_X8_flows_505 h l7 else gI h (some l0) 8 23 (fun v74 => pI h (some l0) 8 23 (v74 + l6) (fun h75 => f_X8_flows_505 h75 l7)) else aI .int h l1 l9 (fun v76 => gR h (some l0) 8 4 (fun v77 => aI .int h v77 l9 (fun v78 => bd ((v76 + (l4 * v78)) + l6) (fun v79 => dv v79 50 (fun v80 => bd (v79 - v80) (fun v81 => aI .int h l3 l9 (fun v82 => rcv h (some l0) 8 (fun a86 => cal (f_X8_gives h a86 l9 v81 v82) (fun v83 h84 => bd (v81 - v83) (fun v89 => aI .boolean h84 l2 l9 (fun v90 => rcv h84 (some l0) 8 (fun a94 => cal (f_X8_room h84 a94 l9 v90) (fun v91 h92 => bd (mx 0 (v89 - v91)) (fun v97 => bd (v89 - v97) (fun v98 => aI .boolean h92 l2 l9 (fun v99 => if v99 = 0 then gR h92 (some l0) 8 6 (fun v100 => aI .int h92 v100 l9 (fun v101 => if v97 ≤ v101 then f_X8_flows_125 (f_X8_flows_12 n) h92 l0 l1 l2 l3 l4 l5 l7 l8 l9 v98 v80 v83 v97 else f_X8_flows_126 (f_X8_flows_12 n) h92 l0 l1 l2 l3 l4 l5 l7 l8 l9 v98 v80 v83 v97 1)) else f_X8_flows_125 (f_X8_flows_12 n) h92 l0 l1 l2 l3 l4 l5 l7 l8 l9 v98 v80 v83 v97)))))))))))))))))
def f_X8_flows (h : AH) (l0 : Nat) (l1 : Option Nat) (l2 : Option Nat) (l3 : Option Nat) (l4 : Int32) (l5 : Int32) : Option (Int32 × AH) := f_X8_flows_12 FU h l0 l1 l2 l3 l4 l5 0 0 0 0
set_option maxRecDepth 100000 in
set_option maxHeartbeats 4000000 in
theorem t_X8_flows_505 {p : Program} {l : Launch} {e : Env} {s : State} {m : MethodId} {args : Array Value} {below : List Frame} {meth : Method} {c : Code} {D : RG} {b : Nat} {vv : Int32} {hh : AH} (X : r_C p c cX8_flows 16 s m args RX8 D b) (hr : meth.sig.returnType = (some .int)) (hk : meth.locks = false) (hn : meth.name = "flows") {h : AH} {H : Heap} {locs : List Loc} {ls : Array Slot} {l7 : Int32} (B : r_B D b s h H locs) (hl : lv_has ls 16 [(7, .int l7)]) (hf : f_X8_flows_505 h l7 = some (vv, hh)) : W p l e ({ frames := 4, cells := 0, slots := 0, locals := 100 } : Room) s m args below meth c H locs 0 0 (MQ below (r_Q D b (some (.int vv)) hh) args s 0 0 (fun q => b ≤ q)) (F0 m 505 ls []) := by
  obtain ⟨⟨hx, hb, hml, hown, hts⟩, -⟩ := id X
  unfold f_X8_flows_505 at hf
  refine lv_iload hx hb dX8_flows_505 (lv_at hl 0 rfl) ?_
  exact r_iret X B hr hk hf dX8_flows_507
set_option maxRecDepth 100000 in
set_option maxHeartbeats 4000000 in
theorem t_X8_flows_483 {p : Program} {l : Launch} {e : Env} {s : State} {m : MethodId} {args : Array Value} {below : List Frame} {meth : Method} {c : Code} {D : RG} {b : Nat} {vv : Int32} {hh : AH} (X : r_C p c cX8_flows 16 s m args RX8 D b) (hr : meth.sig.returnType = (some .int)) (hk : meth.locks = false) (hn : meth.name = "flows") {k_12 : AH → Nat → Option Nat → Option Nat → Option Nat → Int32 → Int32 → Int32 → Int32 → Int32 → Int32 → Option (Int32 × AH)} (r_12 : ∀ (h : AH) (H : Heap) (locs : List Loc) (ls : Array Slot) (l0 : Nat) (l1 : Option Nat) (l2 : Option Nat) (l3 : Option Nat) (l4 : Int32) (l5 : Int32) (l6 : Int32) (l7 : Int32) (l8 : Int32) (l9 : Int32), r_B D b s h H locs → lv_has ls 16 [(0, va_rf (some l0)), (1, va_rf l1), (2, va_rf l2), (3, va_rf l3), (4, .int l4), (5, .int l5), (6, .int l6), (7, .int l7), (8, .int l8), (9, .int l9)] → k_12 h l0 l1 l2 l3 l4 l5 l6 l7 l8 l9 = some (vv, hh) → W p l e ({ frames := 4, cells := 0, slots := 0, locals := 100 } : Room) s m args below meth c H locs 0 0 (MQ below (r_Q D b (some (.int vv)) hh) args s 0 0 (fun q => b ≤ q)) (F0 m 12 ls [])) {h : AH} {H : Heap} {locs : List Loc} {ls : Array Slot} {l0 : Nat} {l1 : Option Nat} {l2 : Option Nat} {l3 : Option Nat} {l4 : Int32} {l5 : Int32} {l6 : Int32} {l7 : Int32} {l8 : Int32} {l9 : Int32} (B : r_B D b s h H locs) (hl : lv_has ls 16 [(0, va_rf (some l0)), (1, va_rf l1), (2, va_rf l2), (3, va_rf l3), (4, .int l4), (5, .int l5), (6, .int l6), (7, .int l7), (8, .int l8), (9, .int l9)]) (hf : f_X8_flows_483 k_12 h l0 l1 l2 l3 l4 l5 l6 l7 l8 l9 = some (vv, hh)) : W p l e ({ frames := 4, cells := 0, slots := 0, locals := 100 } : Room) s m args below meth c H locs 0 0 (MQ below (r_Q D b (some (.int vv)) hh) args s 0 0 (fun q => b ≤ q)) (F0 m 483 ls []) := by
  obtain ⟨⟨hx, hb, hml, hown, hts⟩, -⟩ := id X
  unfold f_X8_flows_483 at hf
  refine r_iinc (lv' := fun v1 => [(9, .int v1), (0, va_rf (some l0)), (1, va_rf l1), (2, va_rf l2), (3, va_rf l3), (4, .int l4), (5, .int l5), (6, .int l6), (7, .int l7), (8, .int l8)]) hx hb hf dX8_flows_483 hl (k := 9) rfl (by decide) (by decide) (fun v => by first | rfl | simp [va_cat, cat_i, cat_r, cat_l]) (fun v1 ls hl hf => ?_)
  refine lv_goto (tgt := 12) hx hb dX8_flows_486 (by decide) ?_
  exact r_12 _ _ _ _ _ _ _ _ _ _ _ _ _ _ B (lv_sub hl [1, 2, 3, 4, 5, 6, 7, 8, 9, 0] rfl) hf
set_option maxRecDepth 100000 in
set_option maxHeartbeats 4000000 in
theorem t_X8_flows_466 {p : Program} {l : Launch} {e : Env} {s : State} {m : MethodId} {args : Array Value} {below : List Frame} {meth : Method} {c : Code} {D : RG} {b : Nat} {vv : Int32} {hh : AH} (X : r_C p c cX8_flows 16 s m args RX8 D b) (hr : meth.sig.returnType = (some .int)) (hk : meth.locks = false) (hn : meth.name = "flows") {k_12 : AH → Nat → Option Nat → Option Nat → Option Nat → Int32 → Int32 → Int32 → Int32 → Int32 → Int32 → Option (Int32 × AH)} (r_12 : ∀ (h : AH) (H : Heap) (locs : List Loc) (ls : Array Slot) (l0 : Nat) (l1 : Option Nat) (l2 : Option Nat) (l3 : Option Nat) (l4 : Int32) (l5 : Int32) (l6 : Int32) (l7 : Int32) (l8 : Int32) (l9 : Int32), r_B D b s h H locs → lv_has ls 16 [(0, va_rf (some l0)), (1, va_rf l1), (2, va_rf l2), (3, va_rf l3), (4, .int l4), (5, .int l5), (6, .int l6), (7, .int l7), (8, .int l8), (9, .int l9)] → k_12 h l0 l1 l2 l3 l4 l5 l6 l7 l8 l9 = some (vv, hh) → W p l e ({ frames := 4, cells := 0, slots := 0, locals := 100 } : Room) s m args below meth c H locs 0 0 (MQ below (r_Q D b (some (.int vv)) hh) args s 0 0 (fun q => b ≤ q)) (F0 m 12 ls [])) {h : AH} {H : Heap} {locs : List Loc} {ls : Array Slot} {l0 : Nat} {l1 : Option Nat} {l2 : Option Nat} {l3 : Option Nat} {l4 : Int32} {l5 : Int32} {l6 : Int32} {l7 : Int32} {l8 : Int32} {l9 : Int32} (B : r_B D b s h H locs) (hl : lv_has ls 16 [(0, va_rf (some l0)), (1, va_rf l1), (2, va_rf l2), (3, va_rf l3), (4, .int l4), (5, .int l5), (6, .int l6), (7, .int l7), (8, .int l8), (9, .int l9)]) (hf : f_X8_flows_466 k_12 h l0 l1 l2 l3 l4 l5 l6 l7 l8 l9 = some (vv, hh)) : W p l e ({ frames := 4, cells := 0, slots := 0, locals := 100 } : Room) s m args below meth c H locs 0 0 (MQ below (r_Q D b (some (.int vv)) hh) args s 0 0 (fun q => b ≤ q)) (F0 m 466 ls []) := by
  obtain ⟨⟨hx, hb, hml, hown, hts⟩, -⟩ := id X
  unfold f_X8_flows_466 at hf
  refine r_iinc (lv' := fun v2 => [(8, .int v2), (0, va_rf (some l0)), (1, va_rf l1), (2, va_rf l2), (3, va_rf l3), (4, .int l4), (5, .int l5), (6, .int l6), (7, .int l7), (9, .int l9)]) hx hb hf dX8_flows_466 hl (k := 8) rfl (by decide) (by decide) (fun v => by first | rfl | simp [va_cat, cat_i, cat_r, cat_l]) (fun v2 ls hl hf => ?_)
  refine r_aload_n hx hb dX8_flows_469 rfl (lv_at hl 1 rfl) ?_
  refine lv_iload hx hb dX8_flows_470 (lv_at hl 0 rfl) ?_
  refine r_pI X B hf fX8_29 (Or.inl rfl) m_140 dX8_flows_472 (fun h3 H locs B hf => ?_)
  refine r_aload_n hx hb dX8_flows_475 rfl (lv_at hl 1 rfl) ?_
  refine r_aload_n hx hb dX8_flows_476 rfl (lv_at hl 1 rfl) ?_
  refine r_gI X B hf fX8_1 (fun _ _ => rfl) m_173 dX8_flows_477 (fun v4 hf => ?_)
  refine r_pI X B hf fX8_30 (Or.inl rfl) m_141 dX8_flows_480 (fun h5 H locs B hf => ?_)
  exact t_X8_flows_483 X hr hk hn r_12 B (lv_sub hl [1, 2, 3, 4, 5, 6, 7, 8, 0, 9] rfl) hf
set_option maxRecDepth 100000 in
set_option maxHeartbeats 4000000 in
theorem t_X8_flows_430 {p : Program} {l : Launch} {e : Env} {s : State} {m : MethodId} {args : Array Value} {below : List Frame} {meth : Method} {c : Code} {D : RG} {b : Nat} {vv : Int32} {hh : AH} (X : r_C p c cX8_flows 16 s m args RX8 D b) (hr : meth.sig.returnType = (some .int)) (hk : meth.locks = false) (hn : meth.name = "flows") {k_297 : AH → Nat → Option Nat → Option Nat → Option Nat → Int32 → Int32 → Int32 → Int32 → Int32 → Int32 → Int32 → Int32 → Option (Int32 × AH)} (r_297 : ∀ (h : AH) (H : Heap) (locs : List Loc) (ls : Array Slot) (l0 : Nat) (l1 : Option Nat) (l2 : Option Nat) (l3 : Option Nat) (l4 : Int32) (l5 : Int32) (l6 : Int32) (l7 : Int32) (l8 : Int32) (l9 : Int32) (l14 : Int32) (l15 : Int32), r_B D b s h H locs → lv_has ls 16 [(0, va_rf (some l0)), (1, va_rf l1), (2, va_rf l2), (3, va_rf l3), (4, .int l4), (5, .int l5), (6, .int l6), (7, .int l7), (8, .int l8), (9, .int l9), (14, .int l14), (15, .int l15)] → k_297 h l0 l1 l2 l3 l4 l5 l6 l7 l8 l9 l14 l15 = some (vv, hh) → W p l e ({ frames := 4, cells := 0, slots := 0, locals := 100 } : Room) s m args below meth c H locs 0 0 (MQ below (r_Q D b (some (.int vv)) hh) args s 0 0 (fun q => b ≤ q)) (F0 m 297 ls [])) {h : AH} {H : Heap} {locs : List Loc} {ls : Array Slot} {l0 : Nat} {l1 : Option Nat} {l2 : Option Nat} {l3 : Option Nat} {l4 : Int32} {l5 : Int32} {l6 : Int32} {l7 : Int32} {l8 : Int32} {l9 : Int32} {l14 : Int32} {l15 : Int32} (B : r_B D b s h H locs) (hl : lv_has ls 16 [(0, va_rf (some l0)), (1, va_rf l1), (2, va_rf l2), (3, va_rf l3), (4, .int l4), (5, .int l5), (6, .int l6), (7, .int l7), (8, .int l8), (9, .int l9), (14, .int l14), (15, .int l15)]) (hf : f_X8_flows_430 k_297 h l0 l1 l2 l3 l4 l5 l6 l7 l8 l9 l14 l15 = some (vv, hh)) : W p l e ({ frames := 4, cells := 0, slots := 0, locals := 100 } : Room) s m args below meth c H locs 0 0 (MQ below (r_Q D b (some (.int vv)) hh) args s 0 0 (fun q => b ≤ q)) (F0 m 430 ls []) := by
  obtain ⟨⟨hx, hb, hml, hown, hts⟩, -⟩ := id X
  unfold f_X8_flows_430 at hf
  refine r_iinc (lv' := fun v6 => [(15, .int v6), (0, va_rf (some l0)), (1, va_rf l1), (2, va_rf l2), (3, va_rf l3), (4, .int l4), (5, .int l5), (6, .int l6), (7, .int l7), (8, .int l8), (9, .int l9), (14, .int l14)]) hx hb hf dX8_flows_430 hl (k := 11) rfl (by decide) (by decide) (fun v => by first | rfl | simp [va_cat, cat_i, cat_r, cat_l]) (fun v6 ls hl hf => ?_)
  refine lv_goto (tgt := 297) hx hb dX8_flows_433 (by decide) ?_
  exact r_297 _ _ _ _ _ _ _ _ _ _ _ _ _ _ _ _ B (lv_sub hl [1, 2, 3, 4, 5, 6, 7, 8, 9, 10, 11, 0] rfl) hf
set_option maxRecDepth 100000 in
set_option maxHeartbeats 4000000 in
theorem t_X8_flows_428 {p : Program} {l : Launch} {e : Env} {s : State} {m : MethodId} {args : Array Value} {below : List Frame} {meth : Method} {c : Code} {D : RG} {b : Nat} {vv : Int32} {hh : AH} (X : r_C p c cX8_flows 16 s m args RX8 D b) (hr : meth.sig.returnType = (some .int)) (hk : meth.locks = false) (hn : meth.name = "flows") {k_297 : AH → Nat → Option Nat → Option Nat → Option Nat → Int32 → Int32 → Int32 → Int32 → Int32 → Int32 → Int32 → Int32 → Option (Int32 × AH)} (r_297 : ∀ (h : AH) (H : Heap) (locs : List Loc) (ls : Array Slot) (l0 : Nat) (l1 : Option Nat) (l2 : Option Nat) (l3 : Option Nat) (l4 : Int32) (l5 : Int32) (l6 : Int32) (l7 : Int32) (l8 : Int32) (l9 : Int32) (l14 : Int32) (l15 : Int32), r_B D b s h H locs → lv_has ls 16 [(0, va_rf (some l0)), (1, va_rf l1), (2, va_rf l2), (3, va_rf l3), (4, .int l4), (5, .int l5), (6, .int l6), (7, .int l7), (8, .int l8), (9, .int l9), (14, .int l14), (15, .int l15)] → k_297 h l0 l1 l2 l3 l4 l5 l6 l7 l8 l9 l14 l15 = some (vv, hh) → W p l e ({ frames := 4, cells := 0, slots := 0, locals := 100 } : Room) s m args below meth c H locs 0 0 (MQ below (r_Q D b (some (.int vv)) hh) args s 0 0 (fun q => b ≤ q)) (F0 m 297 ls [])) {h : AH} {H : Heap} {locs : List Loc} {ls : Array Slot} {l0 : Nat} {l1 : Option Nat} {l2 : Option Nat} {l3 : Option Nat} {l4 : Int32} {l5 : Int32} {l6 : Int32} {l7 : Int32} {l8 : Int32} {l9 : Int32} {l14 : Int32} {l15 : Int32} {s0 : Option Nat} {s1 : Int32} {s2 : Int32} {s3 : Int32} (B : r_B D b s h H locs) (hl : lv_has ls 16 [(0, va_rf (some l0)), (1, va_rf l1), (2, va_rf l2), (3, va_rf l3), (4, .int l4), (5, .int l5), (6, .int l6), (7, .int l7), (8, .int l8), (9, .int l9), (14, .int l14), (15, .int l15)]) (hf : f_X8_flows_428 k_297 h l0 l1 l2 l3 l4 l5 l6 l7 l8 l9 l14 l15 s0 s1 s2 s3 = some (vv, hh)) : W p l e ({ frames := 4, cells := 0, slots := 0, locals := 100 } : Room) s m args below meth c H locs 0 0 (MQ below (r_Q D b (some (.int vv)) hh) args s 0 0 (fun q => b ≤ q)) (F0 m 428 ls [.int s3, .int s2, .int s1, va_rf s0]) := by
  obtain ⟨⟨hx, hb, hml, hown, hts⟩, -⟩ := id X
  unfold f_X8_flows_428 at hf
  refine lv_iadd hx hb dX8_flows_428 ?_
  refine r_sIi X B hf dX8_flows_429 (fun h7 H locs B hf => ?_)
  exact t_X8_flows_430 X hr hk hn r_297 B (lv_sub hl [0, 1, 2, 3, 4, 5, 6, 7, 8, 9, 10, 11] rfl) hf
set_option maxRecDepth 100000 in
set_option maxHeartbeats 4000000 in
theorem t_X8_flows_382 {p : Program} {l : Launch} {e : Env} {s : State} {m : MethodId} {args : Array Value} {below : List Frame} {meth : Method} {c : Code} {D : RG} {b : Nat} {vv : Int32} {hh : AH} (X : r_C p c cX8_flows 16 s m args RX8 D b) (hr : meth.sig.returnType = (some .int)) (hk : meth.locks = false) (hn : meth.name = "flows") {k_297 : AH → Nat → Option Nat → Option Nat → Option Nat → Int32 → Int32 → Int32 → Int32 → Int32 → Int32 → Int32 → Int32 → Option (Int32 × AH)} (r_297 : ∀ (h : AH) (H : Heap) (locs : List Loc) (ls : Array Slot) (l0 : Nat) (l1 : Option Nat) (l2 : Option Nat) (l3 : Option Nat) (l4 : Int32) (l5 : Int32) (l6 : Int32) (l7 : Int32) (l8 : Int32) (l9 : Int32) (l14 : Int32) (l15 : Int32), r_B D b s h H locs → lv_has ls 16 [(0, va_rf (some l0)), (1, va_rf l1), (2, va_rf l2), (3, va_rf l3), (4, .int l4), (5, .int l5), (6, .int l6), (7, .int l7), (8, .int l8), (9, .int l9), (14, .int l14), (15, .int l15)] → k_297 h l0 l1 l2 l3 l4 l5 l6 l7 l8 l9 l14 l15 = some (vv, hh) → W p l e ({ frames := 4, cells := 0, slots := 0, locals := 100 } : Room) s m args below meth c H locs 0 0 (MQ below (r_Q D b (some (.int vv)) hh) args s 0 0 (fun q => b ≤ q)) (F0 m 297 ls [])) {h : AH} {H : Heap} {locs : List Loc} {ls : Array Slot} {l0 : Nat} {l1 : Option Nat} {l2 : Option Nat} {l3 : Option Nat} {l4 : Int32} {l5 : Int32} {l6 : Int32} {l7 : Int32} {l8 : Int32} {l9 : Int32} {l14 : Int32} {l15 : Int32} {s0 : Option Nat} {s1 : Int32} {s2 : Int32} {s3 : Int32} (B : r_B D b s h H locs) (hl : lv_has ls 16 [(0, va_rf (some l0)), (1, va_rf l1), (2, va_rf l2), (3, va_rf l3), (4, .int l4), (5, .int l5), (6, .int l6), (7, .int l7), (8, .int l8), (9, .int l9), (14, .int l14), (15, .int l15)]) (hf : f_X8_flows_382 k_297 h l0 l1 l2 l3 l4 l5 l6 l7 l8 l9 l14 l15 s0 s1 s2 s3 = some (vv, hh)) : W p l e ({ frames := 4, cells := 0, slots := 0, locals := 100 } : Room) s m args below meth c H locs 0 0 (MQ below (r_Q D b (some (.int vv)) hh) args s 0 0 (fun q => b ≤ q)) (F0 m 382 ls [.int s3, .int s2, .int s1, va_rf s0]) := by
  obtain ⟨⟨hx, hb, hml, hown, hts⟩, -⟩ := id X
  unfold f_X8_flows_382 at hf
  refine cal_inv hf ?_
  intro v8 h9 e10 hf
  refine r_call B (va_runS (As := [.int s3]) (rest := [.int s2, .int s1, va_rf s0]) X.1 (c_X8_one (l := l) (D := D) (b := b) e10) (r_cwS X m_586 m_587 m_5 m_588 rfl rfl hd_X8_one ⟨Nat.le_of_ble_eq_true rfl, Nat.le_of_ble_eq_true rfl⟩) (r_preS X B [.int s3]) rfl rfl hl.1 rfl (lv_room (by simp [va_cat, cat_i, cat_r, cat_l])) dX8_flows_382 ⟨Nat.zero_le _, Nat.zero_le _⟩) ?_
  intro H locs B
  refine W.cs (cells' := 0) (slots' := 0) rfl rfl (W.eq (g2 := F0 m 385 ls [.int v8, .int s2, .int s1, va_rf s0]) rfl ?_)
  refine lv_iadd hx hb dX8_flows_385 ?_
  refine r_sIi X B hf dX8_flows_386 (fun h11 H locs B hf => ?_)
  refine r_aload_n hx hb dX8_flows_387 rfl (lv_at hl 0 rfl) ?_
  refine r_gR X B hf fX8_22 (fun _ _ => rfl) m_138 dX8_flows_388 (fun v12 hf => ?_)
  refine r_aload_n hx hb dX8_flows_391 rfl (lv_at hl 0 rfl) ?_
  refine r_gR X B hf fX8_17 (fun _ _ => rfl) m_133 dX8_flows_392 (fun v13 hf => ?_)
  refine lv_iload hx hb dX8_flows_395 (lv_at hl 11 rfl) ?_
  refine r_aIi X B hf dX8_flows_397 (fun v14 hf => ?_)
  refine lv_dup2_11 hx hb dX8_flows_398 (rfl) (va_cat _) ?_
  refine r_aIi X B hf dX8_flows_399 (fun v15 hf => ?_)
  refine r_aload_n hx hb dX8_flows_400 rfl (lv_at hl 0 rfl) ?_
  refine r_gR X B hf fX8_42 (fun _ _ => rfl) m_147 dX8_flows_401 (fun v16 hf => ?_)
  refine lv_iload hx hb dX8_flows_404 (lv_at hl 11 rfl) ?_
  refine r_aIi X B hf dX8_flows_406 (fun v17 hf => ?_)
  refine r_aload_n hx hb dX8_flows_407 rfl (lv_at hl 0 rfl) ?_
  refine r_gR X B hf fX8_16 (fun _ _ => rfl) m_132 dX8_flows_408 (fun v18 hf => ?_)
  refine lv_iload hx hb dX8_flows_411 (lv_at hl 11 rfl) ?_
  refine r_aIi X B hf dX8_flows_413 (fun v19 hf => ?_)
  refine lv_icmp_ne (tgt := 427) hx hb dX8_flows_414 (by decide) (fun q_ => ?_) (fun q_ => ?_)
  · have hf := (r_ite hf).2 q_
    refine lv_iconst (v := 0) hx hb dX8_flows_427 (by decide) ?_
    exact t_X8_flows_428 X hr hk hn r_297 B (lv_sub hl [0, 1, 2, 3, 4, 5, 6, 7, 8, 9, 10, 11] rfl) hf
  · have hf := (r_ite hf).1 q_
    refine r_aload_n hx hb dX8_flows_417 rfl (lv_at hl 0 rfl) ?_
    refine r_gR X B hf fX8_16 (fun _ _ => rfl) m_132 dX8_flows_418 (fun v20 hf => ?_)
    refine lv_iload hx hb dX8_flows_421 (lv_at hl 11 rfl) ?_
    refine r_aIi X B hf dX8_flows_423 (fun v21 hf => ?_)
    refine lv_goto (tgt := 428) hx hb dX8_flows_424 (by decide) ?_
    exact t_X8_flows_428 X hr hk hn r_297 B (lv_sub hl [0, 1, 2, 3, 4, 5, 6, 7, 8, 9, 10, 11] rfl) hf
set_option maxRecDepth 100000 in
set_option maxHeartbeats 4000000 in
theorem t_X8_flows_297 {p : Program} {l : Launch} {e : Env} {s : State} {m : MethodId} {args : Array Value} {below : List Frame} {meth : Method} {c : Code} {D : RG} {b : Nat} {vv : Int32} {hh : AH} (X : r_C p c cX8_flows 16 s m args RX8 D b) (hr : meth.sig.returnType = (some .int)) (hk : meth.locks = false) (hn : meth.name = "flows") {k_12 : AH → Nat → Option Nat → Option Nat → Option Nat → Int32 → Int32 → Int32 → Int32 → Int32 → Int32 → Option (Int32 × AH)} (r_12 : ∀ (h : AH) (H : Heap) (locs : List Loc) (ls : Array Slot) (l0 : Nat) (l1 : Option Nat) (l2 : Option Nat) (l3 : Option Nat) (l4 : Int32) (l5 : Int32) (l6 : Int32) (l7 : Int32) (l8 : Int32) (l9 : Int32), r_B D b s h H locs → lv_has ls 16 [(0, va_rf (some l0)), (1, va_rf l1), (2, va_rf l2), (3, va_rf l3), (4, .int l4), (5, .int l5), (6, .int l6), (7, .int l7), (8, .int l8), (9, .int l9)] → k_12 h l0 l1 l2 l3 l4 l5 l6 l7 l8 l9 = some (vv, hh) → W p l e ({ frames := 4, cells := 0, slots := 0, locals := 100 } : Room) s m args below meth c H locs 0 0 (MQ below (r_Q D b (some (.int vv)) hh) args s 0 0 (fun q => b ≤ q)) (F0 m 12 ls [])) : ∀ (n : Nat) (h : AH) (H : Heap) (locs : List Loc) (ls : Array Slot) (l0 : Nat) (l1 : Option Nat) (l2 : Option Nat) (l3 : Option Nat) (l4 : Int32) (l5 : Int32) (l6 : Int32) (l7 : Int32) (l8 : Int32) (l9 : Int32) (l14 : Int32) (l15 : Int32), r_B D b s h H locs → lv_has ls 16 [(0, va_rf (some l0)), (1, va_rf l1), (2, va_rf l2), (3, va_rf l3), (4, .int l4), (5, .int l5), (6, .int l6), (7, .int l7), (8, .int l8), (9, .int l9), (14, .int l14), (15, .int l15)] → f_X8_flows_297 k_12 n h l0 l1 l2 l3 l4 l5 l6 l7 l8 l9 l14 l15 = some (vv, hh) → W p l e ({ frames := 4, cells := 0, slots := 0, locals := 100 } : Room) s m args below meth c H locs 0 0 (MQ below (r_Q D b (some (.int vv)) hh) args s 0 0 (fun q => b ≤ q)) (F0 m 297 ls []) := by
  obtain ⟨⟨hx, hb, hml, hown, hts⟩, -⟩ := id X
  intro n
  induction n with
  | zero =>
    intro h H locs ls l0 l1 l2 l3 l4 l5 l6 l7 l8 l9 l14 l15 B hl hf
    cases hf
  | succ n ih =>
    intro h H locs ls l0 l1 l2 l3 l4 l5 l6 l7 l8 l9 l14 l15 B hl hf
    unfold f_X8_flows_297 at hf
    refine lv_iload hx hb dX8_flows_297 (lv_at hl 11 rfl) ?_
    refine r_aload_n hx hb dX8_flows_299 rfl (lv_at hl 0 rfl) ?_
    refine r_gI X B hf fX8_3 (fun _ _ => rfl) m_243 dX8_flows_300 (fun v22 hf => ?_)
    refine lv_icmp_ge (tgt := 436) hx hb dX8_flows_303 (by decide) (fun q_ => ?_) (fun q_ => ?_)
    · have hf := (r_ite hf).1 q_
      refine lv_iload hx hb dX8_flows_436 (lv_at hl 10 rfl) ?_
      refine lv_if_ne (tgt := 444) hx hb dX8_flows_438 (by decide) (fun q_ => ?_) (fun q_ => ?_)
      · have hf := (r_ite hf).2 q_
        refine r_aload_n hx hb dX8_flows_444 rfl (lv_at hl 0 rfl) ?_
        refine r_gR X B hf fX8_12 (fun _ _ => rfl) m_127 dX8_flows_445 (fun v23 hf => ?_)
        refine lv_iload hx hb dX8_flows_448 (lv_at hl 9 rfl) ?_
        refine r_aload_n hx hb dX8_flows_450 rfl (lv_at hl 0 rfl) ?_
        refine r_gI X B hf fX8_1 (fun _ _ => rfl) m_173 dX8_flows_451 (fun v24 hf => ?_)
        refine r_sIi X B hf dX8_flows_454 (fun h25 H locs B hf => ?_)
        refine lv_iload hx hb dX8_flows_455 (lv_at hl 8 rfl) ?_
        refine lv_if_ne (tgt := 466) hx hb dX8_flows_457 (by decide) (fun q_ => ?_) (fun q_ => ?_)
        · have hf := (r_ite hf).2 q_
          exact t_X8_flows_466 X hr hk hn r_12 B (lv_sub hl [0, 1, 2, 3, 4, 5, 6, 7, 8, 9] rfl) hf
        · have hf := (r_ite hf).1 q_
          refine r_aload_n hx hb dX8_flows_460 rfl (lv_at hl 0 rfl) ?_
          refine lv_iload hx hb dX8_flows_461 (lv_at hl 9 rfl) ?_
          refine r_pI X B hf fX8_28 (Or.inl rfl) m_139 dX8_flows_463 (fun h26 H locs B hf => ?_)
          exact t_X8_flows_466 X hr hk hn r_12 B (lv_sub hl [0, 1, 2, 3, 4, 5, 6, 7, 8, 9] rfl) hf
      · have hf := (r_ite hf).1 q_
        refine lv_goto (tgt := 483) hx hb dX8_flows_441 (by decide) ?_
        exact t_X8_flows_483 X hr hk hn r_12 B (lv_sub hl [0, 1, 2, 3, 4, 5, 6, 7, 8, 9] rfl) hf
    · have hf := (r_ite hf).2 q_
      refine r_aload_n hx hb dX8_flows_306 rfl (lv_at hl 0 rfl) ?_
      refine r_gR X B hf fX8_14 (fun _ _ => rfl) m_130 dX8_flows_307 (fun v27 hf => ?_)
      refine lv_iload hx hb dX8_flows_310 (lv_at hl 11 rfl) ?_
      refine r_aIi X B hf dX8_flows_312 (fun v28 hf => ?_)
      refine lv_iload hx hb dX8_flows_313 (lv_at hl 9 rfl) ?_
      refine lv_icmp_eq (tgt := 321) hx hb dX8_flows_315 (by decide) (fun q_ => ?_) (fun q_ => ?_)
      · have hf := (r_ite hf).1 q_
        refine r_aload_n hx hb dX8_flows_321 rfl (lv_at hl 0 rfl) ?_
        refine r_gR X B hf fX8_20 (fun _ _ => rfl) m_136 dX8_flows_322 (fun v29 hf => ?_)
        refine lv_iload hx hb dX8_flows_325 (lv_at hl 11 rfl) ?_
        refine r_aload_n hx hb dX8_flows_327 rfl (lv_at hl 0 rfl) ?_
        refine r_gR X B hf fX8_42 (fun _ _ => rfl) m_147 dX8_flows_328 (fun v30 hf => ?_)
        refine lv_iload hx hb dX8_flows_331 (lv_at hl 11 rfl) ?_
        refine r_aIi X B hf dX8_flows_333 (fun v31 hf => ?_)
        refine r_sIi X B hf dX8_flows_334 (fun h32 H locs B hf => ?_)
        refine r_aload_n hx hb dX8_flows_335 rfl (lv_at hl 0 rfl) ?_
        refine r_gR X B hf fX8_19 (fun _ _ => rfl) m_135 dX8_flows_336 (fun v33 hf => ?_)
        refine lv_iload hx hb dX8_flows_339 (lv_at hl 11 rfl) ?_
        refine lv_dup2_11 hx hb dX8_flows_341 (rfl) (va_cat _) ?_
        refine r_aIi X B hf dX8_flows_342 (fun v34 hf => ?_)
        refine r_aload_n hx hb dX8_flows_343 rfl (lv_at hl 0 rfl) ?_
        refine r_gR X B hf fX8_42 (fun _ _ => rfl) m_147 dX8_flows_344 (fun v35 hf => ?_)
        refine lv_iload hx hb dX8_flows_347 (lv_at hl 11 rfl) ?_
        refine r_aIi X B hf dX8_flows_349 (fun v36 hf => ?_)
        refine lv_iadd hx hb dX8_flows_350 ?_
        refine r_sIi X B hf dX8_flows_351 (fun h37 H locs B hf => ?_)
        refine r_aload_n hx hb dX8_flows_352 rfl (lv_at hl 0 rfl) ?_
        refine r_gR X B hf fX8_18 (fun _ _ => rfl) m_134 dX8_flows_353 (fun v38 hf => ?_)
        refine lv_iload hx hb dX8_flows_356 (lv_at hl 11 rfl) ?_
        refine lv_dup2_11 hx hb dX8_flows_358 (rfl) (va_cat _) ?_
        refine r_aIi X B hf dX8_flows_359 (fun v39 hf => ?_)
        refine r_aload_n hx hb dX8_flows_360 rfl (lv_at hl 0 rfl) ?_
        refine r_gR X B hf fX8_42 (fun _ _ => rfl) m_147 dX8_flows_361 (fun v40 hf => ?_)
        refine lv_iload hx hb dX8_flows_364 (lv_at hl 11 rfl) ?_
        refine r_aIi X B hf dX8_flows_366 (fun v41 hf => ?_)
        refine r_aload_n hx hb dX8_flows_367 rfl (lv_at hl 0 rfl) ?_
        refine r_gR X B hf fX8_16 (fun _ _ => rfl) m_132 dX8_flows_368 (fun v42 hf => ?_)
        refine lv_iload hx hb dX8_flows_371 (lv_at hl 11 rfl) ?_
        refine r_aIi X B hf dX8_flows_373 (fun v43 hf => ?_)
        refine lv_icmp_ne (tgt := 381) hx hb dX8_flows_374 (by decide) (fun q_ => ?_) (fun q_ => ?_)
        · have hf := (r_ite hf).2 q_
          refine lv_iconst (v := 0) hx hb dX8_flows_381 (by decide) ?_
          exact t_X8_flows_382 X hr hk hn ih B (lv_sub hl [0, 1, 2, 3, 4, 5, 6, 7, 8, 9, 10, 11] rfl) hf
        · have hf := (r_ite hf).1 q_
          refine lv_iconst (v := 1) hx hb dX8_flows_377 (by decide) ?_
          refine lv_goto (tgt := 382) hx hb dX8_flows_378 (by decide) ?_
          exact t_X8_flows_382 X hr hk hn ih B (lv_sub hl [0, 1, 2, 3, 4, 5, 6, 7, 8, 9, 10, 11] rfl) hf
      · have hf := (r_ite hf).2 q_
        refine lv_goto (tgt := 430) hx hb dX8_flows_318 (by decide) ?_
        exact t_X8_flows_430 X hr hk hn ih B (lv_sub hl [0, 1, 2, 3, 4, 5, 6, 7, 8, 9, 10, 11] rfl) hf
set_option maxRecDepth 100000 in
set_option maxHeartbeats 4000000 in
theorem t_X8_flows_216 {p : Program} {l : Launch} {e : Env} {s : State} {m : MethodId} {args : Array Value} {below : List Frame} {meth : Method} {c : Code} {D : RG} {b : Nat} {vv : Int32} {hh : AH} (X : r_C p c cX8_flows 16 s m args RX8 D b) (hr : meth.sig.returnType = (some .int)) (hk : meth.locks = false) (hn : meth.name = "flows") {k_166 : AH → Nat → Option Nat → Option Nat → Option Nat → Int32 → Int32 → Int32 → Int32 → Int32 → Int32 → Int32 → Int32 → Int32 → Int32 → Int32 → Option (Int32 × AH)} (r_166 : ∀ (h : AH) (H : Heap) (locs : List Loc) (ls : Array Slot) (l0 : Nat) (l1 : Option Nat) (l2 : Option Nat) (l3 : Option Nat) (l4 : Int32) (l5 : Int32) (l6 : Int32) (l7 : Int32) (l8 : Int32) (l9 : Int32) (l11 : Int32) (l12 : Int32) (l13 : Int32) (l14 : Int32) (l15 : Int32), r_B D b s h H locs → lv_has ls 16 [(0, va_rf (some l0)), (1, va_rf l1), (2, va_rf l2), (3, va_rf l3), (4, .int l4), (5, .int l5), (6, .int l6), (7, .int l7), (8, .int l8), (9, .int l9), (11, .int l11), (12, .int l12), (13, .int l13), (14, .int l14), (15, .int l15)] → k_166 h l0 l1 l2 l3 l4 l5 l6 l7 l8 l9 l11 l12 l13 l14 l15 = some (vv, hh) → W p l e ({ frames := 4, cells := 0, slots := 0, locals := 100 } : Room) s m args below meth c H locs 0 0 (MQ below (r_Q D b (some (.int vv)) hh) args s 0 0 (fun q => b ≤ q)) (F0 m 166 ls [])) {h : AH} {H : Heap} {locs : List Loc} {ls : Array Slot} {l0 : Nat} {l1 : Option Nat} {l2 : Option Nat} {l3 : Option Nat} {l4 : Int32} {l5 : Int32} {l6 : Int32} {l7 : Int32} {l8 : Int32} {l9 : Int32} {l11 : Int32} {l12 : Int32} {l13 : Int32} {l14 : Int32} {l15 : Int32} (B : r_B D b s h H locs) (hl : lv_has ls 16 [(0, va_rf (some l0)), (1, va_rf l1), (2, va_rf l2), (3, va_rf l3), (4, .int l4), (5, .int l5), (6, .int l6), (7, .int l7), (8, .int l8), (9, .int l9), (11, .int l11), (12, .int l12), (13, .int l13), (14, .int l14), (15, .int l15)]) (hf : f_X8_flows_216 k_166 h l0 l1 l2 l3 l4 l5 l6 l7 l8 l9 l11 l12 l13 l14 l15 = some (vv, hh)) : W p l e ({ frames := 4, cells := 0, slots := 0, locals := 100 } : Room) s m args below meth c H locs 0 0 (MQ below (r_Q D b (some (.int vv)) hh) args s 0 0 (fun q => b ≤ q)) (F0 m 216 ls []) := by
  obtain ⟨⟨hx, hb, hml, hown, hts⟩, -⟩ := id X
  unfold f_X8_flows_216 at hf
  refine r_iinc (lv' := fun v44 => [(15, .int v44), (0, va_rf (some l0)), (1, va_rf l1), (2, va_rf l2), (3, va_rf l3), (4, .int l4), (5, .int l5), (6, .int l6), (7, .int l7), (8, .int l8), (9, .int l9), (11, .int l11), (12, .int l12), (13, .int l13), (14, .int l14)]) hx hb hf dX8_flows_216 hl (k := 14) rfl (by decide) (by decide) (fun v => by first | rfl | simp [va_cat, cat_i, cat_r, cat_l]) (fun v44 ls hl hf => ?_)
  refine lv_goto (tgt := 166) hx hb dX8_flows_219 (by decide) ?_
  exact r_166 _ _ _ _ _ _ _ _ _ _ _ _ _ _ _ _ _ _ _ B (lv_sub hl [1, 2, 3, 4, 5, 6, 7, 8, 9, 10, 11, 12, 13, 14, 0] rfl) hf
set_option maxRecDepth 100000 in
set_option maxHeartbeats 4000000 in
theorem t_X8_flows_166 {p : Program} {l : Launch} {e : Env} {s : State} {m : MethodId} {args : Array Value} {below : List Frame} {meth : Method} {c : Code} {D : RG} {b : Nat} {vv : Int32} {hh : AH} (X : r_C p c cX8_flows 16 s m args RX8 D b) (hr : meth.sig.returnType = (some .int)) (hk : meth.locks = false) (hn : meth.name = "flows") {k_12 : AH → Nat → Option Nat → Option Nat → Option Nat → Int32 → Int32 → Int32 → Int32 → Int32 → Int32 → Option (Int32 × AH)} (r_12 : ∀ (h : AH) (H : Heap) (locs : List Loc) (ls : Array Slot) (l0 : Nat) (l1 : Option Nat) (l2 : Option Nat) (l3 : Option Nat) (l4 : Int32) (l5 : Int32) (l6 : Int32) (l7 : Int32) (l8 : Int32) (l9 : Int32), r_B D b s h H locs → lv_has ls 16 [(0, va_rf (some l0)), (1, va_rf l1), (2, va_rf l2), (3, va_rf l3), (4, .int l4), (5, .int l5), (6, .int l6), (7, .int l7), (8, .int l8), (9, .int l9)] → k_12 h l0 l1 l2 l3 l4 l5 l6 l7 l8 l9 = some (vv, hh) → W p l e ({ frames := 4, cells := 0, slots := 0, locals := 100 } : Room) s m args below meth c H locs 0 0 (MQ below (r_Q D b (some (.int vv)) hh) args s 0 0 (fun q => b ≤ q)) (F0 m 12 ls [])) : ∀ (n : Nat) (h : AH) (H : Heap) (locs : List Loc) (ls : Array Slot) (l0 : Nat) (l1 : Option Nat) (l2 : Option Nat) (l3 : Option Nat) (l4 : Int32) (l5 : Int32) (l6 : Int32) (l7 : Int32) (l8 : Int32) (l9 : Int32) (l11 : Int32) (l12 : Int32) (l13 : Int32) (l14 : Int32) (l15 : Int32), r_B D b s h H locs → lv_has ls 16 [(0, va_rf (some l0)), (1, va_rf l1), (2, va_rf l2), (3, va_rf l3), (4, .int l4), (5, .int l5), (6, .int l6), (7, .int l7), (8, .int l8), (9, .int l9), (11, .int l11), (12, .int l12), (13, .int l13), (14, .int l14), (15, .int l15)] → f_X8_flows_166 k_12 n h l0 l1 l2 l3 l4 l5 l6 l7 l8 l9 l11 l12 l13 l14 l15 = some (vv, hh) → W p l e ({ frames := 4, cells := 0, slots := 0, locals := 100 } : Room) s m args below meth c H locs 0 0 (MQ below (r_Q D b (some (.int vv)) hh) args s 0 0 (fun q => b ≤ q)) (F0 m 166 ls []) := by
  obtain ⟨⟨hx, hb, hml, hown, hts⟩, -⟩ := id X
  intro n
  induction n with
  | zero =>
    intro h H locs ls l0 l1 l2 l3 l4 l5 l6 l7 l8 l9 l11 l12 l13 l14 l15 B hl hf
    cases hf
  | succ n ih =>
    intro h H locs ls l0 l1 l2 l3 l4 l5 l6 l7 l8 l9 l11 l12 l13 l14 l15 B hl hf
    unfold f_X8_flows_166 at hf
    refine lv_iload hx hb dX8_flows_166 (lv_at hl 14 rfl) ?_
    refine r_aload_n hx hb dX8_flows_168 rfl (lv_at hl 0 rfl) ?_
    refine r_gI X B hf fX8_3 (fun _ _ => rfl) m_243 dX8_flows_169 (fun v45 hf => ?_)
    refine lv_icmp_ge (tgt := 222) hx hb dX8_flows_172 (by decide) (fun q_ => ?_) (fun q_ => ?_)
    · have hf := (r_ite hf).1 q_
      refine lv_iload hx hb dX8_flows_222 (lv_at hl 5 rfl) ?_
      refine lv_if_ne (tgt := 230) hx hb dX8_flows_224 (by decide) (fun q_ => ?_) (fun q_ => ?_)
      · have hf := (r_ite hf).2 q_
        refine r_aload_n hx hb dX8_flows_230 rfl (lv_at hl 0 rfl) ?_
        refine r_gR X B hf fX8_10 (fun _ _ => rfl) m_125 dX8_flows_231 (fun v46 hf => ?_)
        refine lv_iload hx hb dX8_flows_234 (lv_at hl 9 rfl) ?_
        refine lv_iload hx hb dX8_flows_236 (lv_at hl 11 rfl) ?_
        refine r_sIi X B hf dX8_flows_238 (fun h47 H locs B hf => ?_)
        refine r_aload_n hx hb dX8_flows_239 rfl (lv_at hl 0 rfl) ?_
        refine r_gR X B hf fX8_11 (fun _ _ => rfl) m_126 dX8_flows_240 (fun v48 hf => ?_)
        refine lv_iload hx hb dX8_flows_243 (lv_at hl 9 rfl) ?_
        refine lv_iload hx hb dX8_flows_245 (lv_at hl 12 rfl) ?_
        refine r_sIi X B hf dX8_flows_247 (fun h49 H locs B hf => ?_)
        refine r_aload_n hx hb dX8_flows_248 rfl (lv_at hl 0 rfl) ?_
        refine lv_dup hx hb dX8_flows_249 (va_cat _) ?_
        refine r_gI X B hf fX8_24 (fun _ _ => rfl) m_566 dX8_flows_250 (fun v50 hf => ?_)
        refine lv_iload hx hb dX8_flows_253 (lv_at hl 10 rfl) ?_
        refine lv_iadd hx hb dX8_flows_255 ?_
        refine r_pI X B hf fX8_24 (Or.inl rfl) m_566 dX8_flows_256 (fun h51 H locs B hf => ?_)
        refine r_aload_n hx hb dX8_flows_259 rfl (lv_at hl 0 rfl) ?_
        refine lv_dup hx hb dX8_flows_260 (va_cat _) ?_
        refine r_gI X B hf fX8_25 (fun _ _ => rfl) m_567 dX8_flows_261 (fun v52 hf => ?_)
        refine lv_iload hx hb dX8_flows_264 (lv_at hl 11 rfl) ?_
        refine lv_iload hx hb dX8_flows_266 (lv_at hl 11 rfl) ?_
        refine lv_iconst (v := 2) hx hb dX8_flows_268 (by decide) ?_
        refine r_div hx hb hf dX8_flows_269 (fun v53 hf => ?_)
        refine lv_isub hx hb dX8_flows_270 ?_
        refine lv_iadd hx hb dX8_flows_271 ?_
        refine r_pI X B hf fX8_25 (Or.inl rfl) m_567 dX8_flows_272 (fun h54 H locs B hf => ?_)
        refine r_aload_n hx hb dX8_flows_275 rfl (lv_at hl 0 rfl) ?_
        refine lv_dup hx hb dX8_flows_276 (va_cat _) ?_
        refine r_gI X B hf fX8_26 (fun _ _ => rfl) m_568 dX8_flows_277 (fun v55 hf => ?_)
        refine lv_iload hx hb dX8_flows_280 (lv_at hl 4 rfl) ?_
        refine r_aload_n hx hb dX8_flows_282 rfl (lv_at hl 0 rfl) ?_
        refine r_gR X B hf fX8_4 (fun _ _ => rfl) m_119 dX8_flows_283 (fun v56 hf => ?_)
        refine lv_iload hx hb dX8_flows_286 (lv_at hl 9 rfl) ?_
        refine r_aIi X B hf dX8_flows_288 (fun v57 hf => ?_)
        refine lv_imul hx hb dX8_flows_289 ?_
        refine lv_iadd hx hb dX8_flows_290 ?_
        refine r_pI X B hf fX8_26 (Or.inl rfl) m_568 dX8_flows_291 (fun h58 H locs B hf => ?_)
        refine lv_iconst (v := 0) hx hb dX8_flows_294 (by decide) ?_
        refine lv_istore (i := 15) (lv' := [(15, .int 0), (0, va_rf (some l0)), (1, va_rf l1), (2, va_rf l2), (3, va_rf l3), (4, .int l4), (5, .int l5), (6, .int l6), (7, .int l7), (8, .int l8), (9, .int l9), (11, .int l11), (12, .int l12), (13, .int l13), (14, .int l14)]) hx hb dX8_flows_295 hl (by decide) (by first | rfl | simp [va_cat, cat_i, cat_r, cat_l]) (fun ls hl => ?_)
        exact t_X8_flows_297 X hr hk hn r_12 _ _ _ _ _ _ _ _ _ _ _ _ _ _ _ _ _ B (lv_sub hl [1, 2, 3, 4, 5, 6, 7, 8, 9, 10, 14, 0] rfl) hf
      · have hf := (r_ite hf).1 q_
        refine lv_goto (tgt := 483) hx hb dX8_flows_227 (by decide) ?_
        exact t_X8_flows_483 X hr hk hn r_12 B (lv_sub hl [0, 1, 2, 3, 4, 5, 6, 7, 8, 9] rfl) hf
    · have hf := (r_ite hf).2 q_
      refine r_aload_n hx hb dX8_flows_175 rfl (lv_at hl 0 rfl) ?_
      refine r_gR X B hf fX8_14 (fun _ _ => rfl) m_130 dX8_flows_176 (fun v59 hf => ?_)
      refine lv_iload hx hb dX8_flows_179 (lv_at hl 14 rfl) ?_
      refine r_aIi X B hf dX8_flows_181 (fun v60 hf => ?_)
      refine lv_iload hx hb dX8_flows_182 (lv_at hl 9 rfl) ?_
      refine lv_icmp_ne (tgt := 216) hx hb dX8_flows_184 (by decide) (fun q_ => ?_) (fun q_ => ?_)
      · have hf := (r_ite hf).2 q_
        exact t_X8_flows_216 X hr hk hn ih B (lv_sub hl [0, 1, 2, 3, 4, 5, 6, 7, 8, 9, 10, 11, 12, 13, 14] rfl) hf
      · have hf := (r_ite hf).1 q_
        refine r_aload_n hx hb dX8_flows_187 rfl (lv_at hl 0 rfl) ?_
        refine r_gR X B hf fX8_42 (fun _ _ => rfl) m_147 dX8_flows_188 (fun v61 hf => ?_)
        refine lv_iload hx hb dX8_flows_191 (lv_at hl 14 rfl) ?_
        refine r_aIi X B hf dX8_flows_193 (fun v62 hf => ?_)
        refine r_aload_n hx hb dX8_flows_194 rfl (lv_at hl 0 rfl) ?_
        refine r_gR X B hf fX8_16 (fun _ _ => rfl) m_132 dX8_flows_195 (fun v63 hf => ?_)
        refine lv_iload hx hb dX8_flows_198 (lv_at hl 14 rfl) ?_
        refine r_aIi X B hf dX8_flows_200 (fun v64 hf => ?_)
        refine lv_icmp_ne (tgt := 216) hx hb dX8_flows_201 (by decide) (fun q_ => ?_) (fun q_ => ?_)
        · have hf := (r_ite hf).2 q_
          exact t_X8_flows_216 X hr hk hn ih B (lv_sub hl [0, 1, 2, 3, 4, 5, 6, 7, 8, 9, 10, 11, 12, 13, 14] rfl) hf
        · have hf := (r_ite hf).1 q_
          refine lv_iload hx hb dX8_flows_204 (lv_at hl 7 rfl) ?_
          refine r_aload_n hx hb dX8_flows_206 rfl (lv_at hl 0 rfl) ?_
          refine r_gR X B hf fX8_16 (fun _ _ => rfl) m_132 dX8_flows_207 (fun v65 hf => ?_)
          refine lv_iload hx hb dX8_flows_210 (lv_at hl 14 rfl) ?_
          refine r_aIi X B hf dX8_flows_212 (fun v66 hf => ?_)
          refine lv_iadd hx hb dX8_flows_213 ?_
          refine r_bd hf (fun v67 hf => ?_)
          refine lv_istore (i := 7) (lv' := [(7, .int v67), (0, va_rf (some l0)), (1, va_rf l1), (2, va_rf l2), (3, va_rf l3), (4, .int l4), (5, .int l5), (6, .int l6), (8, .int l8), (9, .int l9), (11, .int l11), (12, .int l12), (13, .int l13), (14, .int l14), (15, .int l15)]) hx hb dX8_flows_214 hl (by decide) (by first | rfl | simp [va_cat, cat_i, cat_r, cat_l]) (fun ls hl => ?_)
          exact t_X8_flows_216 X hr hk hn ih B (lv_sub hl [1, 2, 3, 4, 5, 6, 7, 0, 8, 9, 10, 11, 12, 13, 14] rfl) hf
set_option maxRecDepth 100000 in
set_option maxHeartbeats 4000000 in
theorem t_X8_flows_148 {p : Program} {l : Launch} {e : Env} {s : State} {m : MethodId} {args : Array Value} {below : List Frame} {meth : Method} {c : Code} {D : RG} {b : Nat} {vv : Int32} {hh : AH} (X : r_C p c cX8_flows 16 s m args RX8 D b) (hr : meth.sig.returnType = (some .int)) (hk : meth.locks = false) (hn : meth.name = "flows") {k_12 : AH → Nat → Option Nat → Option Nat → Option Nat → Int32 → Int32 → Int32 → Int32 → Int32 → Int32 → Option (Int32 × AH)} (r_12 : ∀ (h : AH) (H : Heap) (locs : List Loc) (ls : Array Slot) (l0 : Nat) (l1 : Option Nat) (l2 : Option Nat) (l3 : Option Nat) (l4 : Int32) (l5 : Int32) (l6 : Int32) (l7 : Int32) (l8 : Int32) (l9 : Int32), r_B D b s h H locs → lv_has ls 16 [(0, va_rf (some l0)), (1, va_rf l1), (2, va_rf l2), (3, va_rf l3), (4, .int l4), (5, .int l5), (6, .int l6), (7, .int l7), (8, .int l8), (9, .int l9)] → k_12 h l0 l1 l2 l3 l4 l5 l6 l7 l8 l9 = some (vv, hh) → W p l e ({ frames := 4, cells := 0, slots := 0, locals := 100 } : Room) s m args below meth c H locs 0 0 (MQ below (r_Q D b (some (.int vv)) hh) args s 0 0 (fun q => b ≤ q)) (F0 m 12 ls [])) {h : AH} {H : Heap} {locs : List Loc} {ls : Array Slot} {l0 : Nat} {l1 : Option Nat} {l2 : Option Nat} {l3 : Option Nat} {l4 : Int32} {l5 : Int32} {l7 : Int32} {l8 : Int32} {l9 : Int32} {l10 : Int32} {l11 : Int32} {l12 : Int32} {l13 : Int32} {l14 : Int32} (B : r_B D b s h H locs) (hl : lv_has ls 16 [(0, va_rf (some l0)), (1, va_rf l1), (2, va_rf l2), (3, va_rf l3), (4, .int l4), (5, .int l5), (7, .int l7), (8, .int l8), (9, .int l9), (10, .int l10), (11, .int l11), (12, .int l12), (13, .int l13), (14, .int l14)]) (hf : f_X8_flows_148 k_12 h l0 l1 l2 l3 l4 l5 l7 l8 l9 l10 l11 l12 l13 l14 = some (vv, hh)) : W p l e ({ frames := 4, cells := 0, slots := 0, locals := 100 } : Room) s m args below meth c H locs 0 0 (MQ below (r_Q D b (some (.int vv)) hh) args s 0 0 (fun q => b ≤ q)) (F0 m 148 ls []) := by
  obtain ⟨⟨hx, hb, hml, hown, hts⟩, -⟩ := id X
  unfold f_X8_flows_148 at hf
  refine r_aload_n hx hb dX8_flows_148 rfl (lv_at hl 1 rfl) ?_
  refine lv_iload hx hb dX8_flows_149 (lv_at hl 8 rfl) ?_
  refine lv_iload hx hb dX8_flows_151 (lv_at hl 9 rfl) ?_
  refine r_sIi X B hf dX8_flows_153 (fun h68 H locs B hf => ?_)
  refine lv_iload hx hb dX8_flows_154 (lv_at hl 11 rfl) ?_
  refine lv_iconst (v := 2) hx hb dX8_flows_156 (by decide) ?_
  refine r_div hx hb hf dX8_flows_157 (fun v69 hf => ?_)
  refine lv_iload hx hb dX8_flows_158 (lv_at hl 12 rfl) ?_
  refine lv_iadd hx hb dX8_flows_160 ?_
  refine r_bd hf (fun v70 hf => ?_)
  refine lv_istore (i := 6) (lv' := [(6, .int v70), (0, va_rf (some l0)), (1, va_rf l1), (2, va_rf l2), (3, va_rf l3), (4, .int l4), (5, .int l5), (7, .int l7), (8, .int l8), (9, .int l9), (10, .int l10), (11, .int l11), (12, .int l12), (13, .int l13), (14, .int l14)]) hx hb dX8_flows_161 hl (by decide) (by first | rfl | simp [va_cat, cat_i, cat_r, cat_l]) (fun ls hl => ?_)
  refine lv_iconst (v := 0) hx hb dX8_flows_163 (by decide) ?_
  refine lv_istore (i := 15) (lv' := [(15, .int 0), (6, .int v70), (0, va_rf (some l0)), (1, va_rf l1), (2, va_rf l2), (3, va_rf l3), (4, .int l4), (5, .int l5), (7, .int l7), (8, .int l8), (9, .int l9), (10, .int l10), (11, .int l11), (12, .int l12), (13, .int l13), (14, .int l14)]) hx hb dX8_flows_164 hl (by decide) (by first | rfl | simp [va_cat, cat_i, cat_r, cat_l]) (fun ls hl => ?_)
  exact t_X8_flows_166 X hr hk hn r_12 _ _ _ _ _ _ _ _ _ _ _ _ _ _ _ _ _ _ _ _ B (lv_sub hl [2, 3, 4, 5, 6, 7, 1, 8, 9, 10, 12, 13, 14, 15, 0] rfl) hf
set_option maxRecDepth 100000 in
set_option maxHeartbeats 4000000 in
theorem t_X8_flows_126 {p : Program} {l : Launch} {e : Env} {s : State} {m : MethodId} {args : Array Value} {below : List Frame} {meth : Method} {c : Code} {D : RG} {b : Nat} {vv : Int32} {hh : AH} (X : r_C p c cX8_flows 16 s m args RX8 D b) (hr : meth.sig.returnType = (some .int)) (hk : meth.locks = false) (hn : meth.name = "flows") {k_12 : AH → Nat → Option Nat → Option Nat → Option Nat → Int32 → Int32 → Int32 → Int32 → Int32 → Int32 → Option (Int32 × AH)} (r_12 : ∀ (h : AH) (H : Heap) (locs : List Loc) (ls : Array Slot) (l0 : Nat) (l1 : Option Nat) (l2 : Option Nat) (l3 : Option Nat) (l4 : Int32) (l5 : Int32) (l6 : Int32) (l7 : Int32) (l8 : Int32) (l9 : Int32), r_B D b s h H locs → lv_has ls 16 [(0, va_rf (some l0)), (1, va_rf l1), (2, va_rf l2), (3, va_rf l3), (4, .int l4), (5, .int l5), (6, .int l6), (7, .int l7), (8, .int l8), (9, .int l9)] → k_12 h l0 l1 l2 l3 l4 l5 l6 l7 l8 l9 = some (vv, hh) → W p l e ({ frames := 4, cells := 0, slots := 0, locals := 100 } : Room) s m args below meth c H locs 0 0 (MQ below (r_Q D b (some (.int vv)) hh) args s 0 0 (fun q => b ≤ q)) (F0 m 12 ls [])) {h : AH} {H : Heap} {locs : List Loc} {ls : Array Slot} {l0 : Nat} {l1 : Option Nat} {l2 : Option Nat} {l3 : Option Nat} {l4 : Int32} {l5 : Int32} {l7 : Int32} {l8 : Int32} {l9 : Int32} {l10 : Int32} {l11 : Int32} {l12 : Int32} {l13 : Int32} {s0 : Int32} (B : r_B D b s h H locs) (hl : lv_has ls 16 [(0, va_rf (some l0)), (1, va_rf l1), (2, va_rf l2), (3, va_rf l3), (4, .int l4), (5, .int l5), (7, .int l7), (8, .int l8), (9, .int l9), (10, .int l10), (11, .int l11), (12, .int l12), (13, .int l13)]) (hf : f_X8_flows_126 k_12 h l0 l1 l2 l3 l4 l5 l7 l8 l9 l10 l11 l12 l13 s0 = some (vv, hh)) : W p l e ({ frames := 4, cells := 0, slots := 0, locals := 100 } : Room) s m args below meth c H locs 0 0 (MQ below (r_Q D b (some (.int vv)) hh) args s 0 0 (fun q => b ≤ q)) (F0 m 126 ls [.int s0]) := by
  obtain ⟨⟨hx, hb, hml, hown, hts⟩, -⟩ := id X
  unfold f_X8_flows_126 at hf
  refine lv_istore (i := 14) (lv' := [(14, .int s0), (0, va_rf (some l0)), (1, va_rf l1), (2, va_rf l2), (3, va_rf l3), (4, .int l4), (5, .int l5), (7, .int l7), (8, .int l8), (9, .int l9), (10, .int l10), (11, .int l11), (12, .int l12), (13, .int l13)]) hx hb dX8_flows_126 hl (by decide) (by first | rfl | simp [va_cat, cat_i, cat_r, cat_l]) (fun ls hl => ?_)
  refine lv_iload hx hb dX8_flows_128 (lv_at hl 0 rfl) ?_
  refine lv_if_eq (tgt := 148) hx hb dX8_flows_130 (by decide) (fun q_ => ?_) (fun q_ => ?_)
  · have hf := (r_ite hf).1 q_
    exact t_X8_flows_148 X hr hk hn r_12 B (lv_sub hl [1, 2, 3, 4, 5, 6, 7, 8, 9, 10, 11, 12, 13, 0] rfl) hf
  · have hf := (r_ite hf).2 q_
    refine r_aload_n hx hb dX8_flows_133 rfl (lv_at hl 3 rfl) ?_
    refine lv_iload hx hb dX8_flows_134 (lv_at hl 9 rfl) ?_
    refine lv_iconst (v := 1) hx hb dX8_flows_136 (by decide) ?_
    refine r_sIz X B hf dX8_flows_137 (fun h71 H locs B hf => ?_)
    refine lv_iload hx hb dX8_flows_138 (lv_at hl 13 rfl) ?_
    refine lv_iload hx hb dX8_flows_140 (lv_at hl 10 rfl) ?_
    refine lv_iadd hx hb dX8_flows_142 ?_
    refine r_bd hf (fun v72 hf => ?_)
    refine lv_istore (i := 13) (lv' := [(13, .int v72), (14, .int s0), (0, va_rf (some l0)), (1, va_rf l1), (2, va_rf l2), (3, va_rf l3), (4, .int l4), (5, .int l5), (7, .int l7), (8, .int l8), (9, .int l9), (10, .int l10), (11, .int l11), (12, .int l12)]) hx hb dX8_flows_143 hl (by decide) (by first | rfl | simp [va_cat, cat_i, cat_r, cat_l]) (fun ls hl => ?_)
    refine lv_iconst (v := 0) hx hb dX8_flows_145 (by decide) ?_
    refine lv_istore (i := 10) (lv' := [(10, .int 0), (13, .int v72), (14, .int s0), (0, va_rf (some l0)), (1, va_rf l1), (2, va_rf l2), (3, va_rf l3), (4, .int l4), (5, .int l5), (7, .int l7), (8, .int l8), (9, .int l9), (11, .int l11), (12, .int l12)]) hx hb dX8_flows_146 hl (by decide) (by first | rfl | simp [va_cat, cat_i, cat_r, cat_l]) (fun ls hl => ?_)
    exact t_X8_flows_148 X hr hk hn r_12 B (lv_sub hl [3, 4, 5, 6, 7, 8, 9, 10, 11, 0, 12, 13, 1, 2] rfl) hf
set_option maxRecDepth 100000 in
set_option maxHeartbeats 4000000 in
theorem t_X8_flows_125 {p : Program} {l : Launch} {e : Env} {s : State} {m : MethodId} {args : Array Value} {below : List Frame} {meth : Method} {c : Code} {D : RG} {b : Nat} {vv : Int32} {hh : AH} (X : r_C p c cX8_flows 16 s m args RX8 D b) (hr : meth.sig.returnType = (some .int)) (hk : meth.locks = false) (hn : meth.name = "flows") {k_12 : AH → Nat → Option Nat → Option Nat → Option Nat → Int32 → Int32 → Int32 → Int32 → Int32 → Int32 → Option (Int32 × AH)} (r_12 : ∀ (h : AH) (H : Heap) (locs : List Loc) (ls : Array Slot) (l0 : Nat) (l1 : Option Nat) (l2 : Option Nat) (l3 : Option Nat) (l4 : Int32) (l5 : Int32) (l6 : Int32) (l7 : Int32) (l8 : Int32) (l9 : Int32), r_B D b s h H locs → lv_has ls 16 [(0, va_rf (some l0)), (1, va_rf l1), (2, va_rf l2), (3, va_rf l3), (4, .int l4), (5, .int l5), (6, .int l6), (7, .int l7), (8, .int l8), (9, .int l9)] → k_12 h l0 l1 l2 l3 l4 l5 l6 l7 l8 l9 = some (vv, hh) → W p l e ({ frames := 4, cells := 0, slots := 0, locals := 100 } : Room) s m args below meth c H locs 0 0 (MQ below (r_Q D b (some (.int vv)) hh) args s 0 0 (fun q => b ≤ q)) (F0 m 12 ls [])) {h : AH} {H : Heap} {locs : List Loc} {ls : Array Slot} {l0 : Nat} {l1 : Option Nat} {l2 : Option Nat} {l3 : Option Nat} {l4 : Int32} {l5 : Int32} {l7 : Int32} {l8 : Int32} {l9 : Int32} {l10 : Int32} {l11 : Int32} {l12 : Int32} {l13 : Int32} (B : r_B D b s h H locs) (hl : lv_has ls 16 [(0, va_rf (some l0)), (1, va_rf l1), (2, va_rf l2), (3, va_rf l3), (4, .int l4), (5, .int l5), (7, .int l7), (8, .int l8), (9, .int l9), (10, .int l10), (11, .int l11), (12, .int l12), (13, .int l13)]) (hf : f_X8_flows_125 k_12 h l0 l1 l2 l3 l4 l5 l7 l8 l9 l10 l11 l12 l13 = some (vv, hh)) : W p l e ({ frames := 4, cells := 0, slots := 0, locals := 100 } : Room) s m args below meth c H locs 0 0 (MQ below (r_Q D b (some (.int vv)) hh) args s 0 0 (fun q => b ≤ q)) (F0 m 125 ls []) := by
  obtain ⟨⟨hx, hb, hml, hown, hts⟩, -⟩ := id X
  unfold f_X8_flows_125 at hf
  refine lv_iconst (v := 0) hx hb dX8_flows_125 (by decide) ?_
  exact t_X8_flows_126 X hr hk hn r_12 B (lv_sub hl [0, 1, 2, 3, 4, 5, 6, 7, 8, 9, 10, 11, 12] rfl) hf
set_option maxRecDepth 100000 in
set_option maxHeartbeats 4000000 in
theorem t_X8_flows_12 {p : Program} {l : Launch} {e : Env} {s : State} {m : MethodId} {args : Array Value} {below : List Frame} {meth : Method} {c : Code} {D : RG} {b : Nat} {vv : Int32} {hh : AH} (X : r_C p c cX8_flows 16 s m args RX8 D b) (hr : meth.sig.returnType = (some .int)) (hk : meth.locks = false) (hn : meth.name = "flows") : ∀ (n : Nat) (h : AH) (H : Heap) (locs : List Loc) (ls : Array Slot) (l0 : Nat) (l1 : Option Nat) (l2 : Option Nat) (l3 : Option Nat) (l4 : Int32) (l5 : Int32) (l6 : Int32) (l7 : Int32) (l8 : Int32) (l9 : Int32), r_B D b s h H locs → lv_has ls 16 [(0, va_rf (some l0)), (1, va_rf l1), (2, va_rf l2), (3, va_rf l3), (4, .int l4), (5, .int l5), (6, .int l6), (7, .int l7), (8, .int l8), (9, .int l9)] → f_X8_flows_12 n h l0 l1 l2 l3 l4 l5 l6 l7 l8 l9 = some (vv, hh) → W p l e ({ frames := 4, cells := 0, slots := 0, locals := 100 } : Room) s m args below meth c H locs 0 0 (MQ below (r_Q D b (some (.int vv)) hh) args s 0 0 (fun q => b ≤ q)) (F0 m 12 ls []) := by
  obtain ⟨⟨hx, hb, hml, hown, hts⟩, -⟩ := id X
  intro n
  induction n with
  | zero =>
    intro h H locs ls l0 l1 l2 l3 l4 l5 l6 l7 l8 l9 B hl hf
    cases hf
  | succ n ih =>
    intro h H locs ls l0 l1 l2 l3 l4 l5 l6 l7 l8 l9 B hl hf
    unfold f_X8_flows_12 at hf
    refine lv_iload hx hb dX8_flows_12 (lv_at hl 9 rfl) ?_
    refine r_aload_n hx hb dX8_flows_14 rfl (lv_at hl 0 rfl) ?_
    refine r_gI X B hf fX8_0 (fun _ _ => rfl) m_154 dX8_flows_15 (fun v73 hf => ?_)
    refine lv_icmp_ge (tgt := 489) hx hb dX8_flows_18 (by decide) (fun q_ => ?_) (fun q_ => ?_)
    · have hf := (r_ite hf).1 q_
      refine lv_iload hx hb dX8_flows_489 (lv_at hl 5 rfl) ?_
      refine lv_if_eq (tgt := 505) hx hb dX8_flows_491 (by decide) (fun q_ => ?_) (fun q_ => ?_)
      · have hf := (r_ite hf).1 q_
        exact t_X8_flows_505 X hr hk hn  B (lv_sub hl [7] rfl) hf
      · have hf := (r_ite hf).2 q_
        refine r_aload_n hx hb dX8_flows_494 rfl (lv_at hl 0 rfl) ?_
        refine lv_dup hx hb dX8_flows_495 (va_cat _) ?_
        refine r_gI X B hf fX8_23 (fun _ _ => rfl) m_569 dX8_flows_496 (fun v74 hf => ?_)
        refine lv_iload hx hb dX8_flows_499 (lv_at hl 6 rfl) ?_
        refine lv_iadd hx hb dX8_flows_501 ?_
        refine r_pI X B hf fX8_23 (Or.inl rfl) m_569 dX8_flows_502 (fun h75 H locs B hf => ?_)
        exact t_X8_flows_505 X hr hk hn  B (lv_sub hl [7] rfl) hf
    · have hf := (r_ite hf).2 q_
      refine r_aload_n hx hb dX8_flows_21 rfl (lv_at hl 1 rfl) ?_
      refine lv_iload hx hb dX8_flows_22 (lv_at hl 9 rfl) ?_
      refine r_aIi X B hf dX8_flows_24 (fun v76 hf => ?_)
      refine lv_iload hx hb dX8_flows_25 (lv_at hl 4 rfl) ?_
      refine r_aload_n hx hb dX8_flows_27 rfl (lv_at hl 0 rfl) ?_
      refine r_gR X B hf fX8_4 (fun _ _ => rfl) m_119 dX8_flows_28 (fun v77 hf => ?_)
      refine lv_iload hx hb dX8_flows_31 (lv_at hl 9 rfl) ?_
      refine r_aIi X B hf dX8_flows_33 (fun v78 hf => ?_)
      refine lv_imul hx hb dX8_flows_34 ?_
      refine lv_iadd hx hb dX8_flows_35 ?_
      refine lv_iload hx hb dX8_flows_36 (lv_at hl 6 rfl) ?_
      refine lv_iadd hx hb dX8_flows_38 ?_
      refine r_bd hf (fun v79 hf => ?_)
      refine lv_istore (i := 10) (lv' := [(10, .int v79), (0, va_rf (some l0)), (1, va_rf l1), (2, va_rf l2), (3, va_rf l3), (4, .int l4), (5, .int l5), (6, .int l6), (7, .int l7), (8, .int l8), (9, .int l9)]) hx hb dX8_flows_39 hl (by decide) (by first | rfl | simp [va_cat, cat_i, cat_r, cat_l]) (fun ls hl => ?_)
      refine lv_iload hx hb dX8_flows_41 (lv_at hl 0 rfl) ?_
      refine lv_bipush (v := 50) hx hb dX8_flows_43 (by decide) ?_
      refine r_div hx hb hf dX8_flows_45 (fun v80 hf => ?_)
      refine lv_istore (i := 11) (lv' := [(11, .int v80), (10, .int v79), (0, va_rf (some l0)), (1, va_rf l1), (2, va_rf l2), (3, va_rf l3), (4, .int l4), (5, .int l5), (6, .int l6), (7, .int l7), (8, .int l8), (9, .int l9)]) hx hb dX8_flows_46 hl (by decide) (by first | rfl | simp [va_cat, cat_i, cat_r, cat_l]) (fun ls hl => ?_)
      refine lv_iload hx hb dX8_flows_48 (lv_at hl 1 rfl) ?_
      refine lv_iload hx hb dX8_flows_50 (lv_at hl 0 rfl) ?_
      refine lv_isub hx hb dX8_flows_52 ?_
      refine r_bd hf (fun v81 hf => ?_)
      refine lv_istore (i := 10) (lv' := [(10, .int v81), (11, .int v80), (0, va_rf (some l0)), (1, va_rf l1), (2, va_rf l2), (3, va_rf l3), (4, .int l4), (5, .int l5), (6, .int l6), (7, .int l7), (8, .int l8), (9, .int l9)]) hx hb dX8_flows_53 hl (by decide) (by first | rfl | simp [va_cat, cat_i, cat_r, cat_l]) (fun ls hl => ?_)
      refine r_aload_n hx hb dX8_flows_55 rfl (lv_at hl 2 rfl) ?_
      refine lv_iload hx hb dX8_flows_56 (lv_at hl 11 rfl) ?_
      refine lv_iload hx hb dX8_flows_58 (lv_at hl 0 rfl) ?_
      refine r_aload_n hx hb dX8_flows_60 rfl (lv_at hl 5 rfl) ?_
      refine lv_iload hx hb dX8_flows_61 (lv_at hl 11 rfl) ?_
      refine r_aIi X B hf dX8_flows_63 (fun v82 hf => ?_)
      refine rcv_inv hf ?_
      intro a86 e87 s88 hf
      refine cal_inv hf ?_
      intro v83 h84 e85 hf
      refine r_call B (va_runV (As := [.int l9, .int v81, .int v82]) (rest := []) X.1 (c_X8_gives (l := l) (D := D) (b := b) e85) (r_cwV X rfl m_570 m_571 m_572 m_5 m_573 rfl rfl hd_X8_gives ⟨Nat.le_of_ble_eq_true rfl, Nat.le_of_ble_eq_true rfl⟩) (r_preV X B s88 rfl [.int l9, .int v81, .int v82]) rfl rfl hl.1 (by rw [e87]; rfl) (lv_room (by simp [va_cat, cat_i, cat_r, cat_l])) dX8_flows_64 ⟨Nat.zero_le _, Nat.zero_le _⟩) ?_
      intro H locs B
      refine W.cs (cells' := 0) (slots' := 0) rfl rfl (W.eq (g2 := F0 m 67 ls [.int v83]) rfl ?_)
      refine lv_istore (i := 12) (lv' := [(12, .int v83), (10, .int v81), (11, .int v80), (0, va_rf (some l0)), (1, va_rf l1), (2, va_rf l2), (3, va_rf l3), (4, .int l4), (5, .int l5), (6, .int l6), (7, .int l7), (8, .int l8), (9, .int l9)]) hx hb dX8_flows_67 hl (by decide) (by first | rfl | simp [va_cat, cat_i, cat_r, cat_l]) (fun ls hl => ?_)
      refine lv_iload hx hb dX8_flows_69 (lv_at hl 1 rfl) ?_
      refine lv_iload hx hb dX8_flows_71 (lv_at hl 0 rfl) ?_
      refine lv_isub hx hb dX8_flows_73 ?_
      refine r_bd hf (fun v89 hf => ?_)
      refine lv_istore (i := 10) (lv' := [(10, .int v89), (12, .int v83), (11, .int v80), (0, va_rf (some l0)), (1, va_rf l1), (2, va_rf l2), (3, va_rf l3), (4, .int l4), (5, .int l5), (6, .int l6), (7, .int l7), (8, .int l8), (9, .int l9)]) hx hb dX8_flows_74 hl (by decide) (by first | rfl | simp [va_cat, cat_i, cat_r, cat_l]) (fun ls hl => ?_)
      refine lv_iconst (v := 0) hx hb dX8_flows_76 (by decide) ?_
      refine lv_iload hx hb dX8_flows_77 (lv_at hl 0 rfl) ?_
      refine r_aload_n hx hb dX8_flows_79 rfl (lv_at hl 3 rfl) ?_
      refine lv_iload hx hb dX8_flows_80 (lv_at hl 12 rfl) ?_
      refine r_aload_n hx hb dX8_flows_82 rfl (lv_at hl 5 rfl) ?_
      refine lv_iload hx hb dX8_flows_83 (lv_at hl 12 rfl) ?_
      refine r_aIz X B hf dX8_flows_85 (fun v90 hf => ?_)
      refine rcv_inv hf ?_
      intro a94 e95 s96 hf
      refine cal_inv hf ?_
      intro v91 h92 e93 hf
      refine r_call B (va_runV (As := [.int l9, .int v90]) (rest := [.int v89, .int 0]) X.1 (c_X8_room (l := l) (D := D) (b := b) e93) (r_cwV X rfl m_197 m_198 m_199 m_5 m_200 rfl rfl hd_X8_room ⟨Nat.le_of_ble_eq_true rfl, Nat.le_of_ble_eq_true rfl⟩) (r_preV X B s96 rfl [.int l9, .int v90]) rfl rfl hl.1 (by rw [e95]; rfl) (lv_room (by simp [va_cat, cat_i, cat_r, cat_l])) dX8_flows_86 ⟨Nat.zero_le _, Nat.zero_le _⟩) ?_
      intro H locs B
      refine W.cs (cells' := 0) (slots' := 0) rfl rfl (W.eq (g2 := F0 m 89 ls [.int v91, .int v89, .int 0]) rfl ?_)
      refine lv_isub hx hb dX8_flows_89 ?_
      refine va_mmax hx hb (by rw [hml]; exact hl.1.symm) hown (hts _ m_153) (hts _ m_44) (hts _ m_41) (hts _ m_45) (Nat.le_of_ble_eq_true rfl) (by simp [va_cat, cat_i, cat_r, cat_l]) (Nat.zero_le _) (Nat.zero_le _) dX8_flows_90 ?_
      refine r_bd hf (fun v97 hf => ?_)
      refine lv_istore (i := 13) (lv' := [(13, .int v97), (10, .int v89), (12, .int v83), (11, .int v80), (0, va_rf (some l0)), (1, va_rf l1), (2, va_rf l2), (3, va_rf l3), (4, .int l4), (5, .int l5), (6, .int l6), (7, .int l7), (8, .int l8), (9, .int l9)]) hx hb dX8_flows_93 hl (by decide) (by first | rfl | simp [va_cat, cat_i, cat_r, cat_l]) (fun ls hl => ?_)
      refine lv_iload hx hb dX8_flows_95 (lv_at hl 1 rfl) ?_
      refine lv_iload hx hb dX8_flows_97 (lv_at hl 0 rfl) ?_
      refine lv_isub hx hb dX8_flows_99 ?_
      refine r_bd hf (fun v98 hf => ?_)
      refine lv_istore (i := 10) (lv' := [(10, .int v98), (13, .int v97), (12, .int v83), (11, .int v80), (0, va_rf (some l0)), (1, va_rf l1), (2, va_rf l2), (3, va_rf l3), (4, .int l4), (5, .int l5), (6, .int l6), (7, .int l7), (8, .int l8), (9, .int l9)]) hx hb dX8_flows_100 hl (by decide) (by first | rfl | simp [va_cat, cat_i, cat_r, cat_l]) (fun ls hl => ?_)
      refine r_aload_n hx hb dX8_flows_102 rfl (lv_at hl 6 rfl) ?_
      refine lv_iload hx hb dX8_flows_103 (lv_at hl 13 rfl) ?_
      refine r_aIz X B hf dX8_flows_105 (fun v99 hf => ?_)
      refine lv_if_ne (tgt := 125) hx hb dX8_flows_106 (by decide) (fun q_ => ?_) (fun q_ => ?_)
      · have hf := (r_ite hf).2 q_
        exact t_X8_flows_125 X hr hk hn ih B (lv_sub hl [4, 5, 6, 7, 8, 9, 11, 12, 13, 0, 3, 2, 1] rfl) hf
      · have hf := (r_ite hf).1 q_
        refine lv_iload hx hb dX8_flows_109 (lv_at hl 1 rfl) ?_
        refine r_aload_n hx hb dX8_flows_111 rfl (lv_at hl 4 rfl) ?_
        refine r_gR X B hf fX8_6 (fun _ _ => rfl) m_121 dX8_flows_112 (fun v100 hf => ?_)
        refine lv_iload hx hb dX8_flows_115 (lv_at hl 13 rfl) ?_
        refine r_aIi X B hf dX8_flows_117 (fun v101 hf => ?_)
        refine lv_icmp_le (tgt := 125) hx hb dX8_flows_118 (by decide) (fun q_ => ?_) (fun q_ => ?_)
        · have hf := (r_ite hf).1 q_
          exact t_X8_flows_125 X hr hk hn ih B (lv_sub hl [4, 5, 6, 7, 8, 9, 11, 12, 13, 0, 3, 2, 1] rfl) hf
        · have hf := (r_ite hf).2 q_
          refine lv_iconst (v := 1) hx hb dX8_flows_121 (by decide) ?_
          refine lv_goto (tgt := 126) hx hb dX8_flows_122 (by decide) ?_
          exact t_X8_flows_126 X hr hk hn ih B (lv_sub hl [4, 5, 6, 7, 8, 9, 11, 12, 13, 0, 3, 2, 1] rfl) hf
set_option maxRecDepth 100000 in
set_option maxHeartbeats 4000000 in
theorem c_X8_flows {l : Launch} {D : RG} {b : Nat} {h : AH} {l0 : Nat} {l1 : Option Nat} {l2 : Option Nat} {l3 : Option Nat} {l4 : Int32} {l5 : Int32} {vv : Int32} {hh : AH} (hf : f_X8_flows h l0 l1 l2 l3 l4 l5 = some (vv, hh)) : Met l yX8_flows (Cond.code yX8_flows cX8_flows 16 (some .int) :: wsL_law) ({ frames := 4, cells := 0, slots := 0, locals := 100 } : Room) (va_Pc [.ref l0, va_rf l1, va_rf l2, va_rf l3, .int l4, .int l5] (r_I D b h)) (r_Q D b (some (.int vv)) hh) 0 0 (fun q => b ≤ q) := by
  refine r_ofW (own := RX8) rfl (by decide +kernel) (by simp [lg_sl, va_cat, cat_i, cat_r, cat_l]) ?_
  intro p e s m args below meth c ls X B hr hk hn hl
  have hl : lv_has ls 16 [(0, .ref l0), (1, va_rf l1), (2, va_rf l2), (3, va_rf l3), (4, .int l4), (5, .int l5)] := by simpa [lv_args, va_cat, cat_i, cat_r, cat_l] using hl
  have hl : lv_has ls 16 [(0, va_rf (some l0)), (1, va_rf l1), (2, va_rf l2), (3, va_rf l3), (4, .int l4), (5, .int l5)] := hl
  obtain ⟨⟨hx, hb, hml, hown, hts⟩, -⟩ := id X
  generalize s.heap = H at B ⊢
  generalize ([] : List Loc) = locs at B ⊢
  unfold f_X8_flows at hf
  refine lv_iconst (v := 0) hx hb dX8_flows_0 (by decide) ?_
  refine lv_istore (i := 6) (lv' := [(6, .int 0), (0, va_rf (some l0)), (1, va_rf l1), (2, va_rf l2), (3, va_rf l3), (4, .int l4), (5, .int l5)]) hx hb dX8_flows_1 hl (by decide) (by first | rfl | simp [va_cat, cat_i, cat_r, cat_l]) (fun ls hl => ?_)
  refine lv_iconst (v := 0) hx hb dX8_flows_3 (by decide) ?_
  refine lv_istore (i := 7) (lv' := [(7, .int 0), (6, .int 0), (0, va_rf (some l0)), (1, va_rf l1), (2, va_rf l2), (3, va_rf l3), (4, .int l4), (5, .int l5)]) hx hb dX8_flows_4 hl (by decide) (by first | rfl | simp [va_cat, cat_i, cat_r, cat_l]) (fun ls hl => ?_)
  refine lv_iconst (v := 0) hx hb dX8_flows_6 (by decide) ?_
  refine lv_istore (i := 8) (lv' := [(8, .int 0), (7, .int 0), (6, .int 0), (0, va_rf (some l0)), (1, va_rf l1), (2, va_rf l2), (3, va_rf l3), (4, .int l4), (5, .int l5)]) hx hb dX8_flows_7 hl (by decide) (by first | rfl | simp [va_cat, cat_i, cat_r, cat_l]) (fun ls hl => ?_)
  refine lv_iconst (v := 0) hx hb dX8_flows_9 (by decide) ?_
  refine lv_istore (i := 9) (lv' := [(9, .int 0), (8, .int 0), (7, .int 0), (6, .int 0), (0, va_rf (some l0)), (1, va_rf l1), (2, va_rf l2), (3, va_rf l3), (4, .int l4), (5, .int l5)]) hx hb dX8_flows_10 hl (by decide) (by first | rfl | simp [va_cat, cat_i, cat_r, cat_l]) (fun ls hl => ?_)
  exact t_X8_flows_12 X hr hk hn  _ _ _ _ _ _ _ _ _ _ _ _ _ _ _ B (lv_sub hl [4, 5, 6, 7, 8, 9, 3, 2, 1, 0] rfl) hf
