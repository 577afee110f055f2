def f_X8_day_85 (k_34 : AH → Nat → Int32 → Option (Int32 × AH)) (h : AH) (l0 : Nat) (l2 : Int32) : Option (Int32 × AH) := bd (l2 + 1) (fun v1 => k_34 h l0 v1)
def f_X8_day_34 : Nat → AH → Nat → Int32 → Option (Int32 × AH)
  | 0, _, _, _ => none
  | n + 1, h, l0, l2 => gI h (some l0) 8 0 (fun v2 => if v2 ≤ l2 then gR h (some l0) 8 7 (fun v3 => gR h (some l0) 8 13 (fun v4 => gR h (some l0) 8 8 (fun v5 => gI h (some l0) 8 2 (fun v6 => rcv h (some l0) 8 (fun a10 => cal (f_X8_flows h a10 v3 v4 v5 v6 1) (fun v7 h8 => gI h8 (some l0) 8 1 (fun v13 => pI h8 (some l0) 8 1 (v13 + 1) (fun h14 => gI h14 (some l0) 8 1 (fun v15 => some (v15, h14)))))))))) else gI h (some l0) 8 1 (fun v16 => rm (v16 + 1) 100 (fun v17 => if v17 = 0 then gR h (some l0) 8 9 (fun v18 => gR h (some l0) 8 5 (fun v19 => aI .int h v19 l2 (fun v20 => gR h (some l0) 8 9 (fun v21 => aI .int h v21 l2 (fun v22 => gR h (some l0) 8 5 (fun v23 => aI .int h v23 l2 (fun v24 => dv v24 50 (fun v25 => bd (mn v20 (v22 + v25)) (fun v26 => sI .int h v18 l2 v26 (fun h27 => f_X8_day_85 (f_X8_day_34 n) h27 l0 l2)))))))))) else f_X8_day_85 (f_X8_day_34 n) h l0 l2)))
def f_X8_day_32 (h : AH) (l0 : Nat) : Option (Int32 × AH) := f_X8_day_34 FU h l0 0
def f_X8_day_20 (h : AH)  : Option (Int32 × AH) := some ((-1), h)
def f_X8_day (h : AH) (l0 : Nat) (l1 : Int32) : Option (Int32 × AH) := cal (f_X8_isIn h l1 (-1) 50) (fun v28 h29 => if v28 = 0 then f_X8_day_20 h29 else gI h29 (some l0) 8 1 (fun v31 => if v31 = 1000 then f_X8_day_20 h29 else if l1 = (-1) then f_X8_day_32 h29 l0 else pI h29 (some l0) 8 2 l1 (fun h32 => f_X8_day_32 h32 l0)))
set_option maxRecDepth 100000 in
set_option maxHeartbeats 4000000 in
theorem t_X8_day_85 {p : Program} {l : Launch} {e : Env} {s : State} {m : MethodId} {args : Array Value} {below : List Frame} {meth : Method} {c : Code} {D : RG} {b : Nat} {vv : Int32} {hh : AH} (X : r_C p c cX8_day 3 s m args RX8 D b) (hr : meth.sig.returnType = (some .int)) (hk : meth.locks = false) (hn : meth.name = "day") {k_34 : AH → Nat → Int32 → Option (Int32 × AH)} (r_34 : ∀ (h : AH) (H : Heap) (locs : List Loc) (ls : Array Slot) (l0 : Nat) (l2 : Int32), r_B D b s h H locs → lv_has ls 3 [(0, va_rf (some l0)), (2, .int l2)] → k_34 h l0 l2 = some (vv, hh) → W p l e ({ frames := 5, cells := 0, slots := 0, locals := 135 } : Room) s m args below meth c H locs 0 0 (MQ below (r_Q D b (some (.int vv)) hh) args s 0 0 (fun q => b ≤ q)) (F0 m 34 ls [])) {h : AH} {H : Heap} {locs : List Loc} {ls : Array Slot} {l0 : Nat} {l2 : Int32} (B : r_B D b s h H locs) (hl : lv_has ls 3 [(0, va_rf (some l0)), (2, .int l2)]) (hf : f_X8_day_85 k_34 h l0 l2 = some (vv, hh)) : W p l e ({ frames := 5, cells := 0, slots := 0, locals := 135 } : Room) s m args below meth c H locs 0 0 (MQ below (r_Q D b (some (.int vv)) hh) args s 0 0 (fun q => b ≤ q)) (F0 m 85 ls []) := by
  obtain ⟨⟨hx, hb, hml, hown, hts⟩, -⟩ := id X
  unfold f_X8_day_85 at hf
  refine r_iinc (lv' := fun v1 => [(2, .int v1), (0, va_rf (some l0))]) hx hb hf dX8_day_85 hl (k := 1) rfl (by decide) (by decide) (fun v => by first | rfl | simp [va_cat, cat_i, cat_r, cat_l]) (fun v1 ls hl hf => ?_)
  refine lv_goto (tgt := 34) hx hb dX8_day_88 (by decide) ?_
  exact r_34 _ _ _ _ _ _ B (lv_sub hl [1, 0] rfl) hf
set_option maxRecDepth 100000 in
set_option maxHeartbeats 4000000 in
theorem t_X8_day_34 {p : Program} {l : Launch} {e : Env} {s : State} {m : MethodId} {args : Array Value} {below : List Frame} {meth : Method} {c : Code} {D : RG} {b : Nat} {vv : Int32} {hh : AH} (X : r_C p c cX8_day 3 s m args RX8 D b) (hr : meth.sig.returnType = (some .int)) (hk : meth.locks = false) (hn : meth.name = "day") : ∀ (n : Nat) (h : AH) (H : Heap) (locs : List Loc) (ls : Array Slot) (l0 : Nat) (l2 : Int32), r_B D b s h H locs → lv_has ls 3 [(0, va_rf (some l0)), (2, .int l2)] → f_X8_day_34 n h l0 l2 = some (vv, hh) → W p l e ({ frames := 5, cells := 0, slots := 0, locals := 135 } : Room) s m args below meth c H locs 0 0 (MQ below (r_Q D b (some (.int vv)) hh) args s 0 0 (fun q => b ≤ q)) (F0 m 34 ls []) := by
  obtain ⟨⟨hx, hb, hml, hown, hts⟩, -⟩ := id X
  intro n
  induction n with
  | zero =>
    intro h H locs ls l0 l2 B hl hf
    cases hf
  | succ n ih =>
    intro h H locs ls l0 l2 B hl hf
    unfold f_X8_day_34 at hf
    refine lv_iload_n hx hb dX8_day_34 rfl (lv_at hl 1 rfl) ?_
    refine r_aload_n hx hb dX8_day_35 rfl (lv_at hl 0 rfl) ?_
    refine r_gI X B hf fX8_0 (fun _ _ => rfl) m_154 dX8_day_36 (fun v2 hf => ?_)
    refine lv_icmp_ge (tgt := 91) hx hb dX8_day_39 (by decide) (fun q_ => ?_) (fun q_ => ?_)
    · have hf := (r_ite hf).1 q_
      refine r_aload_n hx hb dX8_day_91 rfl (lv_at hl 0 rfl) ?_
      refine r_aload_n hx hb dX8_day_92 rfl (lv_at hl 0 rfl) ?_
      refine r_gR X B hf fX8_7 (fun _ _ => rfl) m_122 dX8_day_93 (fun v3 hf => ?_)
      refine r_aload_n hx hb dX8_day_96 rfl (lv_at hl 0 rfl) ?_
      refine r_gR X B hf fX8_13 (fun _ _ => rfl) m_129 dX8_day_97 (fun v4 hf => ?_)
      refine r_aload_n hx hb dX8_day_100 rfl (lv_at hl 0 rfl) ?_
      refine r_gR X B hf fX8_8 (fun _ _ => rfl) m_123 dX8_day_101 (fun v5 hf => ?_)
      refine r_aload_n hx hb dX8_day_104 rfl (lv_at hl 0 rfl) ?_
      refine r_gI X B hf fX8_2 (fun _ _ => rfl) m_561 dX8_day_105 (fun v6 hf => ?_)
      refine lv_iconst (v := 1) hx hb dX8_day_108 (by decide) ?_
      refine rcv_inv hf ?_
      intro a10 e11 s12 hf
      refine cal_inv hf ?_
      intro v7 h8 e9 hf
      refine r_call B (va_runV (As := [va_rf v3, va_rf v4, va_rf v5, .int v6, .int 1]) (rest := []) X.1 (c_X8_flows (l := l) (D := D) (b := b) e9) (r_cwV X rfl m_562 m_563 m_564 m_5 m_565 rfl rfl hd_X8_flows ⟨Nat.le_of_ble_eq_true rfl, Nat.le_of_ble_eq_true rfl⟩) (r_preV X B s12 rfl [va_rf v3, va_rf v4, va_rf v5, .int v6, .int 1]) rfl rfl hl.1 (by rw [e11]; rfl) (lv_room (by simp [va_cat, cat_i, cat_r, cat_l])) dX8_day_109 ⟨Nat.zero_le _, Nat.zero_le _⟩) ?_
      intro H locs B
      refine W.cs (cells' := 0) (slots' := 0) rfl rfl (W.eq (g2 := F0 m 112 ls [.int v7]) rfl ?_)
      refine lv_pop hx hb dX8_day_112 (rfl) ?_
      refine r_aload_n hx hb dX8_day_113 rfl (lv_at hl 0 rfl) ?_
      refine lv_dup hx hb dX8_day_114 (va_cat _) ?_
      refine r_gI X B hf fX8_1 (fun _ _ => rfl) m_173 dX8_day_115 (fun v13 hf => ?_)
      refine lv_iconst (v := 1) hx hb dX8_day_118 (by decide) ?_
      refine lv_iadd hx hb dX8_day_119 ?_
      refine r_pI X B hf fX8_1 (Or.inl rfl) m_173 dX8_day_120 (fun h14 H locs B hf => ?_)
      refine r_aload_n hx hb dX8_day_123 rfl (lv_at hl 0 rfl) ?_
      refine r_gI X B hf fX8_1 (fun _ _ => rfl) m_173 dX8_day_124 (fun v15 hf => ?_)
      exact r_iret X B hr hk hf dX8_day_127
    · have hf := (r_ite hf).2 q_
      refine r_aload_n hx hb dX8_day_42 rfl (lv_at hl 0 rfl) ?_
      refine r_gI X B hf fX8_1 (fun _ _ => rfl) m_173 dX8_day_43 (fun v16 hf => ?_)
      refine lv_iconst (v := 1) hx hb dX8_day_46 (by decide) ?_
      refine lv_iadd hx hb dX8_day_47 ?_
      refine lv_bipush (v := 100) hx hb dX8_day_48 (by decide) ?_
      refine r_rem hx hb hf dX8_day_50 (fun v17 hf => ?_)
      refine lv_if_ne (tgt := 85) hx hb dX8_day_51 (by decide) (fun q_ => ?_) (fun q_ => ?_)
      · have hf := (r_ite hf).2 q_
        exact t_X8_day_85 X hr hk hn ih B (lv_sub hl [0, 1] rfl) hf
      · have hf := (r_ite hf).1 q_
        refine r_aload_n hx hb dX8_day_54 rfl (lv_at hl 0 rfl) ?_
        refine r_gR X B hf fX8_9 (fun _ _ => rfl) m_124 dX8_day_55 (fun v18 hf => ?_)
        refine lv_iload_n hx hb dX8_day_58 rfl (lv_at hl 1 rfl) ?_
        refine r_aload_n hx hb dX8_day_59 rfl (lv_at hl 0 rfl) ?_
        refine r_gR X B hf fX8_5 (fun _ _ => rfl) m_120 dX8_day_60 (fun v19 hf => ?_)
        refine lv_iload_n hx hb dX8_day_63 rfl (lv_at hl 1 rfl) ?_
        refine r_aIi X B hf dX8_day_64 (fun v20 hf => ?_)
        refine r_aload_n hx hb dX8_day_65 rfl (lv_at hl 0 rfl) ?_
        refine r_gR X B hf fX8_9 (fun _ _ => rfl) m_124 dX8_day_66 (fun v21 hf => ?_)
        refine lv_iload_n hx hb dX8_day_69 rfl (lv_at hl 1 rfl) ?_
        refine r_aIi X B hf dX8_day_70 (fun v22 hf => ?_)
        refine r_aload_n hx hb dX8_day_71 rfl (lv_at hl 0 rfl) ?_
        refine r_gR X B hf fX8_5 (fun _ _ => rfl) m_120 dX8_day_72 (fun v23 hf => ?_)
        refine lv_iload_n hx hb dX8_day_75 rfl (lv_at hl 1 rfl) ?_
        refine r_aIi X B hf dX8_day_76 (fun v24 hf => ?_)
        refine lv_bipush (v := 50) hx hb dX8_day_77 (by decide) ?_
        refine r_div hx hb hf dX8_day_79 (fun v25 hf => ?_)
        refine lv_iadd hx hb dX8_day_80 ?_
        refine va_mmin hx hb (by rw [hml]; exact hl.1.symm) hown (hts _ m_152) (hts _ m_40) (hts _ m_41) (hts _ m_42) (Nat.le_of_ble_eq_true rfl) (by simp [va_cat, cat_i, cat_r, cat_l]) (Nat.zero_le _) (Nat.zero_le _) dX8_day_81 ?_
        refine r_bd hf (fun v26 hf => ?_)
        refine r_sIi X B hf dX8_day_84 (fun h27 H locs B hf => ?_)
        exact t_X8_day_85 X hr hk hn ih B (lv_sub hl [0, 1] rfl) hf
set_option maxRecDepth 100000 in
set_option maxHeartbeats 4000000 in
theorem t_X8_day_32 {p : Program} {l : Launch} {e : Env} {s : State} {m : MethodId} {args : Array Value} {below : List Frame} {meth : Method} {c : Code} {D : RG} {b : Nat} {vv : Int32} {hh : AH} (X : r_C p c cX8_day 3 s m args RX8 D b) (hr : meth.sig.returnType = (some .int)) (hk : meth.locks = false) (hn : meth.name = "day") {h : AH} {H : Heap} {locs : List Loc} {ls : Array Slot} {l0 : Nat} (B : r_B D b s h H locs) (hl : lv_has ls 3 [(0, va_rf (some l0))]) (hf : f_X8_day_32 h l0 = some (vv, hh)) : W p l e ({ frames := 5, cells := 0, slots := 0, locals := 135 } : Room) s m args below meth c H locs 0 0 (MQ below (r_Q D b (some (.int vv)) hh) args s 0 0 (fun q => b ≤ q)) (F0 m 32 ls []) := by
  obtain ⟨⟨hx, hb, hml, hown, hts⟩, -⟩ := id X
  unfold f_X8_day_32 at hf
  refine lv_iconst (v := 0) hx hb dX8_day_32 (by decide) ?_
  refine lv_istore_n (i := 2) (lv' := [(2, .int 0), (0, va_rf (some l0))]) hx hb dX8_day_33 rfl hl (by decide) (by first | rfl | simp [va_cat, cat_i, cat_r, cat_l]) (fun ls hl => ?_)
  exact t_X8_day_34 X hr hk hn  _ _ _ _ _ _ _ B (lv_sub hl [1, 0] rfl) hf
set_option maxRecDepth 100000 in
set_option maxHeartbeats 4000000 in
theorem t_X8_day_20 {p : Program} {l : Launch} {e : Env} {s : State} {m : MethodId} {args : Array Value} {below : List Frame} {meth : Method} {c : Code} {D : RG} {b : Nat} {vv : Int32} {hh : AH} (X : r_C p c cX8_day 3 s m args RX8 D b) (hr : meth.sig.returnType = (some .int)) (hk : meth.locks = false) (hn : meth.name = "day") {h : AH} {H : Heap} {locs : List Loc} {ls : Array Slot}  (B : r_B D b s h H locs) (hl : lv_has ls 3 []) (hf : f_X8_day_20 h  = some (vv, hh)) : W p l e ({ frames := 5, cells := 0, slots := 0, locals := 135 } : Room) s m args below meth c H locs 0 0 (MQ below (r_Q D b (some (.int vv)) hh) args s 0 0 (fun q => b ≤ q)) (F0 m 20 ls []) := by
  obtain ⟨⟨hx, hb, hml, hown, hts⟩, -⟩ := id X
  unfold f_X8_day_20 at hf
  refine lv_iconst (v := (-1)) hx hb dX8_day_20 (by decide) ?_
  exact r_iret X B hr hk hf dX8_day_21
set_option maxRecDepth 100000 in
set_option maxHeartbeats 4000000 in
theorem c_X8_day {l : Launch} {D : RG} {b : Nat} {h : AH} {l0 : Nat} {l1 : Int32} {vv : Int32} {hh : AH} (hf : f_X8_day h l0 l1 = some (vv, hh)) : Met l yX8_day (Cond.code yX8_day cX8_day 3 (some .int) :: wsL_law) ({ frames := 5, cells := 0, slots := 0, locals := 135 } : Room) (va_Pc [.ref l0, .int l1] (r_I D b h)) (r_Q D b (some (.int vv)) hh) 0 0 (fun q => b ≤ q) := by
  refine r_ofW (own := RX8) rfl (by decide +kernel) (by simp [lg_sl, va_cat, cat_i, cat_r, cat_l]) ?_
  intro p e s m args below meth c ls X B hr hk hn hl
  have hl : lv_has ls 3 [(0, .ref l0), (1, .int l1)] := by simpa [lv_args, va_cat, cat_i, cat_r, cat_l] using hl
  have hl : lv_has ls 3 [(0, va_rf (some l0)), (1, .int l1)] := hl
  obtain ⟨⟨hx, hb, hml, hown, hts⟩, -⟩ := id X
  generalize s.heap = H at B ⊢
  generalize ([] : List Loc) = locs at B ⊢
  unfold f_X8_day at hf
  refine lv_iload_n hx hb dX8_day_0 rfl (lv_at hl 1 rfl) ?_
  refine lv_iconst (v := (-1)) hx hb dX8_day_1 (by decide) ?_
  refine lv_bipush (v := 50) hx hb dX8_day_2 (by decide) ?_
  refine cal_inv hf ?_
  intro v28 h29 e30 hf
  refine r_call B (va_runS (As := [.int l1, .int (-1), .int 50]) (rest := []) X.1 (c_X8_isIn (l := l) (D := D) (b := b) e30) (r_cwS X m_178 m_179 m_5 m_180 rfl rfl hd_X8_isIn ⟨Nat.le_of_ble_eq_true rfl, Nat.le_of_ble_eq_true rfl⟩) (r_preS X B [.int l1, .int (-1), .int 50]) rfl rfl hl.1 rfl (lv_room (by simp [va_cat, cat_i, cat_r, cat_l])) dX8_day_4 ⟨Nat.zero_le _, Nat.zero_le _⟩) ?_
  intro H locs B
  refine W.cs (cells' := 0) (slots' := 0) rfl rfl (W.eq (g2 := F0 m 7 ls [.int v28]) rfl ?_)
  refine lv_if_eq (tgt := 20) hx hb dX8_day_7 (by decide) (fun q_ => ?_) (fun q_ => ?_)
  · have hf := (r_ite hf).1 q_
    exact t_X8_day_20 X hr hk hn  B (lv_sub hl [] rfl) hf
  · have hf := (r_ite hf).2 q_
    refine r_aload_n hx hb dX8_day_10 rfl (lv_at hl 0 rfl) ?_
    refine r_gI X B hf fX8_1 (fun _ _ => rfl) m_173 dX8_day_11 (fun v31 hf => ?_)
    refine lv_sipush (v := 1000) hx hb dX8_day_14 (by decide) ?_
    refine lv_icmp_ne (tgt := 22) hx hb dX8_day_17 (by decide) (fun q_ => ?_) (fun q_ => ?_)
    · have hf := (r_ite hf).2 q_
      refine lv_iload_n hx hb dX8_day_22 rfl (lv_at hl 1 rfl) ?_
      refine lv_iconst (v := (-1)) hx hb dX8_day_23 (by decide) ?_
      refine lv_icmp_eq (tgt := 32) hx hb dX8_day_24 (by decide) (fun q_ => ?_) (fun q_ => ?_)
      · have hf := (r_ite hf).1 q_
        exact t_X8_day_32 X hr hk hn  B (lv_sub hl [0] rfl) hf
      · have hf := (r_ite hf).2 q_
        refine r_aload_n hx hb dX8_day_27 rfl (lv_at hl 0 rfl) ?_
        refine lv_iload_n hx hb dX8_day_28 rfl (lv_at hl 1 rfl) ?_
        refine r_pI X B hf fX8_2 (Or.inl rfl) m_561 dX8_day_29 (fun h32 H locs B hf => ?_)
        exact t_X8_day_32 X hr hk hn  B (lv_sub hl [0] rfl) hf
    · have hf := (r_ite hf).1 q_
      exact t_X8_day_20 X hr hk hn  B (lv_sub hl [] rfl) hf
def f_X8_told (h : AH) (l0 : Nat) (l1 : Int32) (l2 : Int32) : Option (Int32 × AH) := rcv h (some l0) 8 (fun a4 => cal (f_X8_isTank h a4 l1) (fun v1 h2 => if v1 = 0 then some ((-1), h2) else if l2 = 0 then gR h2 (some l0) 8 4 (fun v7 => aI .int h2 v7 l1 (fun v8 => some (v8, h2))) else if l2 = 1 then gR h2 (some l0) 8 5 (fun v9 => aI .int h2 v9 l1 (fun v10 => some (v10, h2))) else if l2 = 2 then gR h2 (some l0) 8 6 (fun v11 => aI .int h2 v11 l1 (fun v12 => some (v12, h2))) else if l2 = 3 then gR h2 (some l0) 8 7 (fun v13 => aI .int h2 v13 l1 (fun v14 => some (v14, h2))) else if l2 = 4 then gR h2 (some l0) 8 8 (fun v15 => aI .int h2 v15 l1 (fun v16 => some (v16, h2))) else if l2 = 5 then gR h2 (some l0) 8 9 (fun v17 => aI .int h2 v17 l1 (fun v18 => some (v18, h2))) else if l2 = 6 then gR h2 (some l0) 8 13 (fun v19 => aI .boolean h2 v19 l1 (fun v20 => cal (f_X8_one h2 v20) (fun v21 h22 => some (v21, h22)))) else if l2 = 7 then gR h2 (some l0) 8 13 (fun v24 => aI .boolean h2 v24 l1 (fun v25 => rcv h2 (some l0) 8 (fun a29 => cal (f_X8_room h2 a29 l1 v25) (fun v26 h27 => some (v26, h27))))) else if l2 = 8 then gR h2 (some l0) 8 10 (fun v32 => aI .int h2 v32 l1 (fun v33 => some (v33, h2))) else if l2 = 9 then gR h2 (some l0) 8 11 (fun v34 => aI .int h2 v34 l1 (fun v35 => some (v35, h2))) else if l2 = 10 then gR h2 (some l0) 8 12 (fun v36 => aI .int h2 v36 l1 (fun v37 => some (v37, h2))) else if l2 = 11 then gR h2 (some l0) 8 7 (fun v38 => aI .int h2 v38 l1 (fun v39 => rcv h2 (some l0) 8 (fun a43 => cal (f_X8_isBad h2 a43 l1 v39) (fun v40 h41 => cal (f_X8_one h41 v40) (fun v46 h47 => some (v46, h47)))))) else some ((-1), h2)))
set_option maxRecDepth 100000 in
set_option maxHeartbeats 4000000 in
theorem c_X8_told {l : Launch} {D : RG} {b : Nat} {h : AH} {l0 : Nat} {l1 : Int32} {l2 : Int32} {vv : Int32} {hh : AH} (hf : f_X8_told h l0 l1 l2 = some (vv, hh)) : Met l yX8_told (Cond.code yX8_told cX8_told 3 (some .int) :: wsL_law) ({ frames := 2, cells := 0, slots := 0, locals := 43 } : Room) (va_Pc [.ref l0, .int l1, .int l2] (r_I D b h)) (r_Q D b (some (.int vv)) hh) 0 0 (fun q => b ≤ q) := by
  refine r_ofW (own := RX8) rfl (by decide +kernel) (by simp [lg_sl, va_cat, cat_i, cat_r, cat_l]) ?_
  intro p e s m args below meth c ls X B hr hk hn hl
  have hl : lv_has ls 3 [(0, .ref l0), (1, .int l1), (2, .int l2)] := by simpa [lv_args, va_cat, cat_i, cat_r, cat_l] using hl
  have hl : lv_has ls 3 [(0, va_rf (some l0)), (1, .int l1), (2, .int l2)] := hl
  obtain ⟨⟨hx, hb, hml, hown, hts⟩, -⟩ := id X
  generalize s.heap = H at B ⊢
  generalize ([] : List Loc) = locs at B ⊢
  unfold f_X8_told at hf
  refine r_aload_n hx hb dX8_told_0 rfl (lv_at hl 0 rfl) ?_
  refine lv_iload_n hx hb dX8_told_1 rfl (lv_at hl 1 rfl) ?_
  refine rcv_inv hf ?_
  intro a4 e5 s6 hf
  refine cal_inv hf ?_
  intro v1 h2 e3 hf
  refine r_call B (va_runV (As := [.int l1]) (rest := []) X.1 (c_X8_isTank (l := l) (D := D) (b := b) e3) (r_cwV X rfl m_174 m_175 m_176 m_5 m_177 rfl rfl hd_X8_isTank ⟨Nat.le_of_ble_eq_true rfl, Nat.le_of_ble_eq_true rfl⟩) (r_preV X B s6 rfl [.int l1]) rfl rfl hl.1 (by rw [e5]; rfl) (lv_room (by simp [va_cat, cat_i, cat_r, cat_l])) dX8_told_2 ⟨Nat.zero_le _, Nat.zero_le _⟩) ?_
  intro H locs B
  refine W.cs (cells' := 0) (slots' := 0) rfl rfl (W.eq (g2 := F0 m 5 ls [.int v1]) rfl ?_)
  refine lv_if_ne (tgt := 10) hx hb dX8_told_5 (by decide) (fun q_ => ?_) (fun q_ => ?_)
  · have hf := (r_ite hf).2 q_
    refine lv_iload_n hx hb dX8_told_10 rfl (lv_at hl 2 rfl) ?_
    by_cases q_0 : l2 = 0
    · have hf := (r_ite hf).1 q_0
      refine lv_tableIn (off := 61) (tgt := 72) hx hb dX8_told_11 (by rw [q_0]; decide) (by rw [q_0]; decide) (by rw [q_0]; rfl) (by decide) ?_
      refine r_aload_n hx hb dX8_told_72 rfl (lv_at hl 0 rfl) ?_
      refine r_gR X B hf fX8_4 (fun _ _ => rfl) m_119 dX8_told_73 (fun v7 hf => ?_)
      refine lv_iload_n hx hb dX8_told_76 rfl (lv_at hl 1 rfl) ?_
      refine r_aIi X B hf dX8_told_77 (fun v8 hf => ?_)
      exact r_iret X B hr hk hf dX8_told_78
    · have hf := (r_ite hf).2 q_0
      by_cases q_1 : l2 = 1
      · have hf := (r_ite hf).1 q_1
        refine lv_tableIn (off := 68) (tgt := 79) hx hb dX8_told_11 (by rw [q_1]; decide) (by rw [q_1]; decide) (by rw [q_1]; rfl) (by decide) ?_
        refine r_aload_n hx hb dX8_told_79 rfl (lv_at hl 0 rfl) ?_
        refine r_gR X B hf fX8_5 (fun _ _ => rfl) m_120 dX8_told_80 (fun v9 hf => ?_)
        refine lv_iload_n hx hb dX8_told_83 rfl (lv_at hl 1 rfl) ?_
        refine r_aIi X B hf dX8_told_84 (fun v10 hf => ?_)
        exact r_iret X B hr hk hf dX8_told_85
      · have hf := (r_ite hf).2 q_1
        by_cases q_2 : l2 = 2
        · have hf := (r_ite hf).1 q_2
          refine lv_tableIn (off := 75) (tgt := 86) hx hb dX8_told_11 (by rw [q_2]; decide) (by rw [q_2]; decide) (by rw [q_2]; rfl) (by decide) ?_
          refine r_aload_n hx hb dX8_told_86 rfl (lv_at hl 0 rfl) ?_
          refine r_gR X B hf fX8_6 (fun _ _ => rfl) m_121 dX8_told_87 (fun v11 hf => ?_)
          refine lv_iload_n hx hb dX8_told_90 rfl (lv_at hl 1 rfl) ?_
          refine r_aIi X B hf dX8_told_91 (fun v12 hf => ?_)
          exact r_iret X B hr hk hf dX8_told_92
        · have hf := (r_ite hf).2 q_2
          by_cases q_3 : l2 = 3
          · have hf := (r_ite hf).1 q_3
            refine lv_tableIn (off := 82) (tgt := 93) hx hb dX8_told_11 (by rw [q_3]; decide) (by rw [q_3]; decide) (by rw [q_3]; rfl) (by decide) ?_
            refine r_aload_n hx hb dX8_told_93 rfl (lv_at hl 0 rfl) ?_
            refine r_gR X B hf fX8_7 (fun _ _ => rfl) m_122 dX8_told_94 (fun v13 hf => ?_)
            refine lv_iload_n hx hb dX8_told_97 rfl (lv_at hl 1 rfl) ?_
            refine r_aIi X B hf dX8_told_98 (fun v14 hf => ?_)
            exact r_iret X B hr hk hf dX8_told_99
          · have hf := (r_ite hf).2 q_3
            by_cases q_4 : l2 = 4
            · have hf := (r_ite hf).1 q_4
              refine lv_tableIn (off := 89) (tgt := 100) hx hb dX8_told_11 (by rw [q_4]; decide) (by rw [q_4]; decide) (by rw [q_4]; rfl) (by decide) ?_
              refine r_aload_n hx hb dX8_told_100 rfl (lv_at hl 0 rfl) ?_
              refine r_gR X B hf fX8_8 (fun _ _ => rfl) m_123 dX8_told_101 (fun v15 hf => ?_)
              refine lv_iload_n hx hb dX8_told_104 rfl (lv_at hl 1 rfl) ?_
              refine r_aIi X B hf dX8_told_105 (fun v16 hf => ?_)
              exact r_iret X B hr hk hf dX8_told_106
            · have hf := (r_ite hf).2 q_4
              by_cases q_5 : l2 = 5
              · have hf := (r_ite hf).1 q_5
                refine lv_tableIn (off := 96) (tgt := 107) hx hb dX8_told_11 (by rw [q_5]; decide) (by rw [q_5]; decide) (by rw [q_5]; rfl) (by decide) ?_
                refine r_aload_n hx hb dX8_told_107 rfl (lv_at hl 0 rfl) ?_
                refine r_gR X B hf fX8_9 (fun _ _ => rfl) m_124 dX8_told_108 (fun v17 hf => ?_)
                refine lv_iload_n hx hb dX8_told_111 rfl (lv_at hl 1 rfl) ?_
                refine r_aIi X B hf dX8_told_112 (fun v18 hf => ?_)
                exact r_iret X B hr hk hf dX8_told_113
              · have hf := (r_ite hf).2 q_5
                by_cases q_6 : l2 = 6
                · have hf := (r_ite hf).1 q_6
                  refine lv_tableIn (off := 103) (tgt := 114) hx hb dX8_told_11 (by rw [q_6]; decide) (by rw [q_6]; decide) (by rw [q_6]; rfl) (by decide) ?_
                  refine r_aload_n hx hb dX8_told_114 rfl (lv_at hl 0 rfl) ?_
                  refine r_gR X B hf fX8_13 (fun _ _ => rfl) m_129 dX8_told_115 (fun v19 hf => ?_)
                  refine lv_iload_n hx hb dX8_told_118 rfl (lv_at hl 1 rfl) ?_
                  refine r_aIz X B hf dX8_told_119 (fun v20 hf => ?_)
                  refine cal_inv hf ?_
                  intro v21 h22 e23 hf
                  refine r_call B (va_runS (As := [.int v20]) (rest := []) X.1 (c_X8_one (l := l) (D := D) (b := b) e23) (r_cwS X m_586 m_587 m_5 m_588 rfl rfl hd_X8_one ⟨Nat.le_of_ble_eq_true rfl, Nat.le_of_ble_eq_true rfl⟩) (r_preS X B [.int v20]) rfl rfl hl.1 rfl (lv_room (by simp [va_cat, cat_i, cat_r, cat_l])) dX8_told_120 ⟨Nat.zero_le _, Nat.zero_le _⟩) ?_
                  intro H locs B
                  refine W.cs (cells' := 0) (slots' := 0) rfl rfl (W.eq (g2 := F0 m 123 ls [.int v21]) rfl ?_)
                  exact r_iret X B hr hk hf dX8_told_123
                · have hf := (r_ite hf).2 q_6
                  by_cases q_7 : l2 = 7
                  · have hf := (r_ite hf).1 q_7
                    refine lv_tableIn (off := 113) (tgt := 124) hx hb dX8_told_11 (by rw [q_7]; decide) (by rw [q_7]; decide) (by rw [q_7]; rfl) (by decide) ?_
                    refine r_aload_n hx hb dX8_told_124 rfl (lv_at hl 0 rfl) ?_
                    refine lv_iload_n hx hb dX8_told_125 rfl (lv_at hl 1 rfl) ?_
                    refine r_aload_n hx hb dX8_told_126 rfl (lv_at hl 0 rfl) ?_
                    refine r_gR X B hf fX8_13 (fun _ _ => rfl) m_129 dX8_told_127 (fun v24 hf => ?_)
                    refine lv_iload_n hx hb dX8_told_130 rfl (lv_at hl 1 rfl) ?_
                    refine r_aIz X B hf dX8_told_131 (fun v25 hf => ?_)
                    refine rcv_inv hf ?_
                    intro a29 e30 s31 hf
                    refine cal_inv hf ?_
                    intro v26 h27 e28 hf
                    refine r_call B (va_runV (As := [.int l1, .int v25]) (rest := []) X.1 (c_X8_room (l := l) (D := D) (b := b) e28) (r_cwV X rfl m_197 m_198 m_199 m_5 m_200 rfl rfl hd_X8_room ⟨Nat.le_of_ble_eq_true rfl, Nat.le_of_ble_eq_true rfl⟩) (r_preV X B s31 rfl [.int l1, .int v25]) rfl rfl hl.1 (by rw [e30]; rfl) (lv_room (by simp [va_cat, cat_i, cat_r, cat_l])) dX8_told_132 ⟨Nat.zero_le _, Nat.zero_le _⟩) ?_
                    intro H locs B
                    refine W.cs (cells' := 0) (slots' := 0) rfl rfl (W.eq (g2 := F0 m 135 ls [.int v26]) rfl ?_)
                    exact r_iret X B hr hk hf dX8_told_135
                  · have hf := (r_ite hf).2 q_7
                    by_cases q_8 : l2 = 8
                    · have hf := (r_ite hf).1 q_8
                      refine lv_tableIn (off := 125) (tgt := 136) hx hb dX8_told_11 (by rw [q_8]; decide) (by rw [q_8]; decide) (by rw [q_8]; rfl) (by decide) ?_
                      refine r_aload_n hx hb dX8_told_136 rfl (lv_at hl 0 rfl) ?_
                      refine r_gR X B hf fX8_10 (fun _ _ => rfl) m_125 dX8_told_137 (fun v32 hf => ?_)
                      refine lv_iload_n hx hb dX8_told_140 rfl (lv_at hl 1 rfl) ?_
                      refine r_aIi X B hf dX8_told_141 (fun v33 hf => ?_)
                      exact r_iret X B hr hk hf dX8_told_142
                    · have hf := (r_ite hf).2 q_8
                      by_cases q_9 : l2 = 9
                      · have hf := (r_ite hf).1 q_9
                        refine lv_tableIn (off := 132) (tgt := 143) hx hb dX8_told_11 (by rw [q_9]; decide) (by rw [q_9]; decide) (by rw [q_9]; rfl) (by decide) ?_
                        refine r_aload_n hx hb dX8_told_143 rfl (lv_at hl 0 rfl) ?_
                        refine r_gR X B hf fX8_11 (fun _ _ => rfl) m_126 dX8_told_144 (fun v34 hf => ?_)
                        refine lv_iload_n hx hb dX8_told_147 rfl (lv_at hl 1 rfl) ?_
                        refine r_aIi X B hf dX8_told_148 (fun v35 hf => ?_)
                        exact r_iret X B hr hk hf dX8_told_149
                      · have hf := (r_ite hf).2 q_9
                        by_cases q_10 : l2 = 10
                        · have hf := (r_ite hf).1 q_10
                          refine lv_tableIn (off := 139) (tgt := 150) hx hb dX8_told_11 (by rw [q_10]; decide) (by rw [q_10]; decide) (by rw [q_10]; rfl) (by decide) ?_
                          refine r_aload_n hx hb dX8_told_150 rfl (lv_at hl 0 rfl) ?_
                          refine r_gR X B hf fX8_12 (fun _ _ => rfl) m_127 dX8_told_151 (fun v36 hf => ?_)
                          refine lv_iload_n hx hb dX8_told_154 rfl (lv_at hl 1 rfl) ?_
                          refine r_aIi X B hf dX8_told_155 (fun v37 hf => ?_)
                          exact r_iret X B hr hk hf dX8_told_156
                        · have hf := (r_ite hf).2 q_10
                          by_cases q_11 : l2 = 11
                          · have hf := (r_ite hf).1 q_11
                            refine lv_tableIn (off := 146) (tgt := 157) hx hb dX8_told_11 (by rw [q_11]; decide) (by rw [q_11]; decide) (by rw [q_11]; rfl) (by decide) ?_
                            refine r_aload_n hx hb dX8_told_157 rfl (lv_at hl 0 rfl) ?_
                            refine lv_iload_n hx hb dX8_told_158 rfl (lv_at hl 1 rfl) ?_
                            refine r_aload_n hx hb dX8_told_159 rfl (lv_at hl 0 rfl) ?_
                            refine r_gR X B hf fX8_7 (fun _ _ => rfl) m_122 dX8_told_160 (fun v38 hf => ?_)
                            refine lv_iload_n hx hb dX8_told_163 rfl (lv_at hl 1 rfl) ?_
                            refine r_aIi X B hf dX8_told_164 (fun v39 hf => ?_)
                            refine rcv_inv hf ?_
                            intro a43 e44 s45 hf
                            refine cal_inv hf ?_
                            intro v40 h41 e42 hf
                            refine r_call B (va_runV (As := [.int l1, .int v39]) (rest := []) X.1 (c_X8_isBad (l := l) (D := D) (b := b) e42) (r_cwV X rfl m_589 m_590 m_591 m_5 m_592 rfl rfl hd_X8_isBad ⟨Nat.le_of_ble_eq_true rfl, Nat.le_of_ble_eq_true rfl⟩) (r_preV X B s45 rfl [.int l1, .int v39]) rfl rfl hl.1 (by rw [e44]; rfl) (lv_room (by simp [va_cat, cat_i, cat_r, cat_l])) dX8_told_165 ⟨Nat.zero_le _, Nat.zero_le _⟩) ?_
                            intro H locs B
                            refine W.cs (cells' := 0) (slots' := 0) rfl rfl (W.eq (g2 := F0 m 168 ls [.int v40]) rfl ?_)
                            refine cal_inv hf ?_
                            intro v46 h47 e48 hf
                            refine r_call B (va_runS (As := [.int v40]) (rest := []) X.1 (c_X8_one (l := l) (D := D) (b := b) e48) (r_cwS X m_586 m_587 m_5 m_588 rfl rfl hd_X8_one ⟨Nat.le_of_ble_eq_true rfl, Nat.le_of_ble_eq_true rfl⟩) (r_preS X B [.int v40]) rfl rfl hl.1 rfl (lv_room (by simp [va_cat, cat_i, cat_r, cat_l])) dX8_told_168 ⟨Nat.zero_le _, Nat.zero_le _⟩) ?_
                            intro H locs B
                            refine W.cs (cells' := 0) (slots' := 0) rfl rfl (W.eq (g2 := F0 m 171 ls [.int v46]) rfl ?_)
                            exact r_iret X B hr hk hf dX8_told_171
                          · have hf := (r_ite hf).2 q_11
                            have w_0 := lv_neT (a := 0) q_0 (by decide)
                            have w_1 := lv_neT (a := 1) q_1 (by decide)
                            have w_2 := lv_neT (a := 2) q_2 (by decide)
                            have w_3 := lv_neT (a := 3) q_3 (by decide)
                            have w_4 := lv_neT (a := 4) q_4 (by decide)
                            have w_5 := lv_neT (a := 5) q_5 (by decide)
                            have w_6 := lv_neT (a := 6) q_6 (by decide)
                            have w_7 := lv_neT (a := 7) q_7 (by decide)
                            have w_8 := lv_neT (a := 8) q_8 (by decide)
                            have w_9 := lv_neT (a := 9) q_9 (by decide)
                            have w_10 := lv_neT (a := 10) q_10 (by decide)
                            have w_11 := lv_neT (a := 11) q_11 (by decide)
                            refine lv_tableOut (tgt := 172) hx hb dX8_told_11 (by omega) (by decide) ?_
                            refine lv_iconst (v := (-1)) hx hb dX8_told_172 (by decide) ?_
                            exact r_iret X B hr hk hf dX8_told_173
  · have hf := (r_ite hf).1 q_
    refine lv_iconst (v := (-1)) hx hb dX8_told_8 (by decide) ?_
    exact r_iret X B hr hk hf dX8_told_9
def f_X8_fieldOf (h : AH) (l0 : Nat) (l1 : Int32) (l2 : Int32) : Option (Int32 × AH) := gI h (some l0) 8 3 (fun v1 => cal (f_X8_isIn h l1 0 (v1 - 1)) (fun v2 h3 => if v2 = 0 then some ((-1), h3) else if l2 = 0 then gR h3 (some l0) 8 14 (fun v5 => aI .int h3 v5 l1 (fun v6 => some (v6, h3))) else if l2 = 1 then gR h3 (some l0) 8 15 (fun v7 => aI .int h3 v7 l1 (fun v8 => some (v8, h3))) else if l2 = 2 then gR h3 (some l0) 8 16 (fun v9 => aI .int h3 v9 l1 (fun v10 => some (v10, h3))) else if l2 = 3 then gR h3 (some l0) 8 17 (fun v11 => aI .int h3 v11 l1 (fun v12 => some (v12, h3))) else if l2 = 4 then gR h3 (some l0) 8 21 (fun v13 => aI .boolean h3 v13 l1 (fun v14 => cal (f_X8_one h3 v14) (fun v15 h16 => some (v15, h16)))) else if l2 = 5 then gR h3 (some l0) 8 18 (fun v18 => aI .int h3 v18 l1 (fun v19 => some (v19, h3))) else if l2 = 6 then gR h3 (some l0) 8 19 (fun v20 => aI .int h3 v20 l1 (fun v21 => some (v21, h3))) else if l2 = 7 then gR h3 (some l0) 8 20 (fun v22 => aI .int h3 v22 l1 (fun v23 => some (v23, h3))) else some ((-1), h3)))
set_option maxRecDepth 100000 in
set_option maxHeartbeats 4000000 in
theorem c_X8_fieldOf {l : Launch} {D : RG} {b : Nat} {h : AH} {l0 : Nat} {l1 : Int32} {l2 : Int32} {vv : Int32} {hh : AH} (hf : f_X8_fieldOf h l0 l1 l2 = some (vv, hh)) : Met l yX8_fieldOf (Cond.code yX8_fieldOf cX8_fieldOf 3 (some .int) :: wsL_law) ({ frames := 1, cells := 0, slots := 0, locals := 22 } : Room) (va_Pc [.ref l0, .int l1, .int l2] (r_I D b h)) (r_Q D b (some (.int vv)) hh) 0 0 (fun q => b ≤ q) := by
  refine r_ofW (own := RX8) rfl (by decide +kernel) (by simp [lg_sl, va_cat, cat_i, cat_r, cat_l]) ?_
  intro p e s m args below meth c ls X B hr hk hn hl
  have hl : lv_has ls 3 [(0, .ref l0), (1, .int l1), (2, .int l2)] := by simpa [lv_args, va_cat, cat_i, cat_r, cat_l] using hl
  have hl : lv_has ls 3 [(0, va_rf (some l0)), (1, .int l1), (2, .int l2)] := hl
  obtain ⟨⟨hx, hb, hml, hown, hts⟩, -⟩ := id X
  generalize s.heap = H at B ⊢
  generalize ([] : List Loc) = locs at B ⊢
  unfold f_X8_fieldOf at hf
  refine lv_iload_n hx hb dX8_fieldOf_0 rfl (lv_at hl 1 rfl) ?_
  refine lv_iconst (v := 0) hx hb dX8_fieldOf_1 (by decide) ?_
  refine r_aload_n hx hb dX8_fieldOf_2 rfl (lv_at hl 0 rfl) ?_
  refine r_gI X B hf fX8_3 (fun _ _ => rfl) m_243 dX8_fieldOf_3 (fun v1 hf => ?_)
  refine lv_iconst (v := 1) hx hb dX8_fieldOf_6 (by decide) ?_
  refine lv_isub hx hb dX8_fieldOf_7 ?_
  refine cal_inv hf ?_
  intro v2 h3 e4 hf
  refine r_call B (va_runS (As := [.int l1, .int 0, .int (v1 - 1)]) (rest := []) X.1 (c_X8_isIn (l := l) (D := D) (b := b) e4) (r_cwS X m_178 m_179 m_5 m_180 rfl rfl hd_X8_isIn ⟨Nat.le_of_ble_eq_true rfl, Nat.le_of_ble_eq_true rfl⟩) (r_preS X B [.int l1, .int 0, .int (v1 - 1)]) rfl rfl hl.1 rfl (lv_room (by simp [va_cat, cat_i, cat_r, cat_l])) dX8_fieldOf_8 ⟨Nat.zero_le _, Nat.zero_le _⟩) ?_
  intro H locs B
  refine W.cs (cells' := 0) (slots' := 0) rfl rfl (W.eq (g2 := F0 m 11 ls [.int v2]) rfl ?_)
  refine lv_if_ne (tgt := 16) hx hb dX8_fieldOf_11 (by decide) (fun q_ => ?_) (fun q_ => ?_)
  · have hf := (r_ite hf).2 q_
    refine lv_iload_n hx hb dX8_fieldOf_16 rfl (lv_at hl 2 rfl) ?_
    by_cases q_0 : l2 = 0
    · have hf := (r_ite hf).1 q_0
      refine lv_tableIn (off := 47) (tgt := 64) hx hb dX8_fieldOf_17 (by rw [q_0]; decide) (by rw [q_0]; decide) (by rw [q_0]; rfl) (by decide) ?_
      refine r_aload_n hx hb dX8_fieldOf_64 rfl (lv_at hl 0 rfl) ?_
      refine r_gR X B hf fX8_14 (fun _ _ => rfl) m_130 dX8_fieldOf_65 (fun v5 hf => ?_)
      refine lv_iload_n hx hb dX8_fieldOf_68 rfl (lv_at hl 1 rfl) ?_
      refine r_aIi X B hf dX8_fieldOf_69 (fun v6 hf => ?_)
      exact r_iret X B hr hk hf dX8_fieldOf_70
    · have hf := (r_ite hf).2 q_0
      by_cases q_1 : l2 = 1
      · have hf := (r_ite hf).1 q_1
        refine lv_tableIn (off := 54) (tgt := 71) hx hb dX8_fieldOf_17 (by rw [q_1]; decide) (by rw [q_1]; decide) (by rw [q_1]; rfl) (by decide) ?_
        refine r_aload_n hx hb dX8_fieldOf_71 rfl (lv_at hl 0 rfl) ?_
        refine r_gR X B hf fX8_15 (fun _ _ => rfl) m_131 dX8_fieldOf_72 (fun v7 hf => ?_)
        refine lv_iload_n hx hb dX8_fieldOf_75 rfl (lv_at hl 1 rfl) ?_
        refine r_aIi X B hf dX8_fieldOf_76 (fun v8 hf => ?_)
        exact r_iret X B hr hk hf dX8_fieldOf_77
      · have hf := (r_ite hf).2 q_1
        by_cases q_2 : l2 = 2
        · have hf := (r_ite hf).1 q_2
          refine lv_tableIn (off := 61) (tgt := 78) hx hb dX8_fieldOf_17 (by rw [q_2]; decide) (by rw [q_2]; decide) (by rw [q_2]; rfl) (by decide) ?_
          refine r_aload_n hx hb dX8_fieldOf_78 rfl (lv_at hl 0 rfl) ?_
          refine r_gR X B hf fX8_16 (fun _ _ => rfl) m_132 dX8_fieldOf_79 (fun v9 hf => ?_)
          refine lv_iload_n hx hb dX8_fieldOf_82 rfl (lv_at hl 1 rfl) ?_
          refine r_aIi X B hf dX8_fieldOf_83 (fun v10 hf => ?_)
          exact r_iret X B hr hk hf dX8_fieldOf_84
        · have hf := (r_ite hf).2 q_2
          by_cases q_3 : l2 = 3
          · have hf := (r_ite hf).1 q_3
            refine lv_tableIn (off := 68) (tgt := 85) hx hb dX8_fieldOf_17 (by rw [q_3]; decide) (by rw [q_3]; decide) (by rw [q_3]; rfl) (by decide) ?_
            refine r_aload_n hx hb dX8_fieldOf_85 rfl (lv_at hl 0 rfl) ?_
            refine r_gR X B hf fX8_17 (fun _ _ => rfl) m_133 dX8_fieldOf_86 (fun v11 hf => ?_)
            refine lv_iload_n hx hb dX8_fieldOf_89 rfl (lv_at hl 1 rfl) ?_
            refine r_aIi X B hf dX8_fieldOf_90 (fun v12 hf => ?_)
            exact r_iret X B hr hk hf dX8_fieldOf_91
          · have hf := (r_ite hf).2 q_3
            by_cases q_4 : l2 = 4
            · have hf := (r_ite hf).1 q_4
              refine lv_tableIn (off := 75) (tgt := 92) hx hb dX8_fieldOf_17 (by rw [q_4]; decide) (by rw [q_4]; decide) (by rw [q_4]; rfl) (by decide) ?_
              refine r_aload_n hx hb dX8_fieldOf_92 rfl (lv_at hl 0 rfl) ?_
              refine r_gR X B hf fX8_21 (fun _ _ => rfl) m_137 dX8_fieldOf_93 (fun v13 hf => ?_)
              refine lv_iload_n hx hb dX8_fieldOf_96 rfl (lv_at hl 1 rfl) ?_
              refine r_aIz X B hf dX8_fieldOf_97 (fun v14 hf => ?_)
              refine cal_inv hf ?_
              intro v15 h16 e17 hf
              refine r_call B (va_runS (As := [.int v14]) (rest := []) X.1 (c_X8_one (l := l) (D := D) (b := b) e17) (r_cwS X m_586 m_587 m_5 m_588 rfl rfl hd_X8_one ⟨Nat.le_of_ble_eq_true rfl, Nat.le_of_ble_eq_true rfl⟩) (r_preS X B [.int v14]) rfl rfl hl.1 rfl (lv_room (by simp [va_cat, cat_i, cat_r, cat_l])) dX8_fieldOf_98 ⟨Nat.zero_le _, Nat.zero_le _⟩) ?_
              intro H locs B
              refine W.cs (cells' := 0) (slots' := 0) rfl rfl (W.eq (g2 := F0 m 101 ls [.int v15]) rfl ?_)
              exact r_iret X B hr hk hf dX8_fieldOf_101
            · have hf := (r_ite hf).2 q_4
              by_cases q_5 : l2 = 5
              · have hf := (r_ite hf).1 q_5
                refine lv_tableIn (off := 85) (tgt := 102) hx hb dX8_fieldOf_17 (by rw [q_5]; decide) (by rw [q_5]; decide) (by rw [q_5]; rfl) (by decide) ?_
                refine r_aload_n hx hb dX8_fieldOf_102 rfl (lv_at hl 0 rfl) ?_
                refine r_gR X B hf fX8_18 (fun _ _ => rfl) m_134 dX8_fieldOf_103 (fun v18 hf => ?_)
                refine lv_iload_n hx hb dX8_fieldOf_106 rfl (lv_at hl 1 rfl) ?_
                refine r_aIi X B hf dX8_fieldOf_107 (fun v19 hf => ?_)
                exact r_iret X B hr hk hf dX8_fieldOf_108
              · have hf := (r_ite hf).2 q_5
                by_cases q_6 : l2 = 6
                · have hf := (r_ite hf).1 q_6
                  refine lv_tableIn (off := 92) (tgt := 109) hx hb dX8_fieldOf_17 (by rw [q_6]; decide) (by rw [q_6]; decide) (by rw [q_6]; rfl) (by decide) ?_
                  refine r_aload_n hx hb dX8_fieldOf_109 rfl (lv_at hl 0 rfl) ?_
                  refine r_gR X B hf fX8_19 (fun _ _ => rfl) m_135 dX8_fieldOf_110 (fun v20 hf => ?_)
                  refine lv_iload_n hx hb dX8_fieldOf_113 rfl (lv_at hl 1 rfl) ?_
                  refine r_aIi X B hf dX8_fieldOf_114 (fun v21 hf => ?_)
                  exact r_iret X B hr hk hf dX8_fieldOf_115
                · have hf := (r_ite hf).2 q_6
                  by_cases q_7 : l2 = 7
                  · have hf := (r_ite hf).1 q_7
                    refine lv_tableIn (off := 99) (tgt := 116) hx hb dX8_fieldOf_17 (by rw [q_7]; decide) (by rw [q_7]; decide) (by rw [q_7]; rfl) (by decide) ?_
                    refine r_aload_n hx hb dX8_fieldOf_116 rfl (lv_at hl 0 rfl) ?_
                    refine r_gR X B hf fX8_20 (fun _ _ => rfl) m_136 dX8_fieldOf_117 (fun v22 hf => ?_)
                    refine lv_iload_n hx hb dX8_fieldOf_120 rfl (lv_at hl 1 rfl) ?_
                    refine r_aIi X B hf dX8_fieldOf_121 (fun v23 hf => ?_)
                    exact r_iret X B hr hk hf dX8_fieldOf_122
                  · have hf := (r_ite hf).2 q_7
                    have w_0 := lv_neT (a := 0) q_0 (by decide)
                    have w_1 := lv_neT (a := 1) q_1 (by decide)
                    have w_2 := lv_neT (a := 2) q_2 (by decide)
                    have w_3 := lv_neT (a := 3) q_3 (by decide)
                    have w_4 := lv_neT (a := 4) q_4 (by decide)
                    have w_5 := lv_neT (a := 5) q_5 (by decide)
                    have w_6 := lv_neT (a := 6) q_6 (by decide)
                    have w_7 := lv_neT (a := 7) q_7 (by decide)
                    refine lv_tableOut (tgt := 123) hx hb dX8_fieldOf_17 (by omega) (by decide) ?_
                    refine lv_iconst (v := (-1)) hx hb dX8_fieldOf_123 (by decide) ?_
                    exact r_iret X B hr hk hf dX8_fieldOf_124
  · have hf := (r_ite hf).1 q_
    refine lv_iconst (v := (-1)) hx hb dX8_fieldOf_14 (by decide) ?_
    exact r_iret X B hr hk hf dX8_fieldOf_15
def f_X8_owner_20 (h : AH) (s0 : Int32) : Option (Int32 × AH) := some (s0, h)
def f_X8_owner (h : AH) (l0 : Nat) (l1 : Int32) : Option (Int32 × AH) := cal (f_X8_isIn h l1 0 9) (fun v1 h2 => if v1 = 0 then f_X8_owner_20 h2 (-1) else gR h2 (some l0) 8 22 (fun v4 => aI .int h2 v4 l1 (fun v5 => f_X8_owner_20 h2 v5)))
set_option maxRecDepth 100000 in
set_option maxHeartbeats 4000000 in
theorem t_X8_owner_20 {p : Program} {l : Launch} {e : Env} {s : State} {m : MethodId} {args : Array Value} {below : List Frame} {meth : Method} {c : Code} {D : RG} {b : Nat} {vv : Int32} {hh : AH} (X : r_C p c cX8_owner 2 s m args RX8 D b) (hr : meth.sig.returnType = (some .int)) (hk : meth.locks = false) (hn : meth.name = "owner") {h : AH} {H : Heap} {locs : List Loc} {ls : Array Slot} {s0 : Int32} (B : r_B D b s h H locs) (hl : lv_has ls 2 []) (hf : f_X8_owner_20 h s0 = some (vv, hh)) : W p l e ({ frames := 1, cells := 0, slots := 0, locals := 22 } : Room) s m args below meth c H locs 0 0 (MQ below (r_Q D b (some (.int vv)) hh) args s 0 0 (fun q => b ≤ q)) (F0 m 20 ls [.int s0]) := by
  obtain ⟨⟨hx, hb, hml, hown, hts⟩, -⟩ := id X
  unfold f_X8_owner_20 at hf
  exact r_iret X B hr hk hf dX8_owner_20
set_option maxRecDepth 100000 in
set_option maxHeartbeats 4000000 in
theorem c_X8_owner {l : Launch} {D : RG} {b : Nat} {h : AH} {l0 : Nat} {l1 : Int32} {vv : Int32} {hh : AH} (hf : f_X8_owner h l0 l1 = some (vv, hh)) : Met l yX8_owner (Cond.code yX8_owner cX8_owner 2 (some .int) :: wsL_law) ({ frames := 1, cells := 0, slots := 0, locals := 22 } : Room) (va_Pc [.ref l0, .int l1] (r_I D b h)) (r_Q D b (some (.int vv)) hh) 0 0 (fun q => b ≤ q) := by
  refine r_ofW (own := RX8) rfl (by decide +kernel) (by simp [lg_sl, va_cat, cat_i, cat_r, cat_l]) ?_
  intro p e s m args below meth c ls X B hr hk hn hl
  have hl : lv_has ls 2 [(0, .ref l0), (1, .int l1)] := by simpa [lv_args, va_cat, cat_i, cat_r, cat_l] using hl
  have hl : lv_has ls 2 [(0, va_rf (some l0)), (1, .int l1)] := hl
  obtain ⟨⟨hx, hb, hml, hown, hts⟩, -⟩ := id X
  generalize s.heap = H at B ⊢
  generalize ([] : List Loc) = locs at B ⊢
  unfold f_X8_owner at hf
  refine lv_iload_n hx hb dX8_owner_0 rfl (lv_at hl 1 rfl) ?_
  refine lv_iconst (v := 0) hx hb dX8_owner_1 (by decide) ?_
  refine lv_bipush (v := 9) hx hb dX8_owner_2 (by decide) ?_
  refine cal_inv hf ?_
  intro v1 h2 e3 hf
  refine r_call B (va_runS (As := [.int l1, .int 0, .int 9]) (rest := []) X.1 (c_X8_isIn (l := l) (D := D) (b := b) e3) (r_cwS X m_178 m_179 m_5 m_180 rfl rfl hd_X8_isIn ⟨Nat.le_of_ble_eq_true rfl, Nat.le_of_ble_eq_true rfl⟩) (r_preS X B [.int l1, .int 0, .int 9]) rfl rfl hl.1 rfl (lv_room (by simp [va_cat, cat_i, cat_r, cat_l])) dX8_owner_4 ⟨Nat.zero_le _, Nat.zero_le _⟩) ?_
  intro H locs B
  refine W.cs (cells' := 0) (slots' := 0) rfl rfl (W.eq (g2 := F0 m 7 ls [.int v1]) rfl ?_)
  refine lv_if_eq (tgt := 19) hx hb dX8_owner_7 (by decide) (fun q_ => ?_) (fun q_ => ?_)
  · have hf := (r_ite hf).1 q_
    refine lv_iconst (v := (-1)) hx hb dX8_owner_19 (by decide) ?_
    exact t_X8_owner_20 X hr hk hn  B (lv_sub hl [] rfl) hf
  · have hf := (r_ite hf).2 q_
    refine r_aload_n hx hb dX8_owner_10 rfl (lv_at hl 0 rfl) ?_
    refine r_gR X B hf fX8_22 (fun _ _ => rfl) m_138 dX8_owner_11 (fun v4 hf => ?_)
    refine lv_iload_n hx hb dX8_owner_14 rfl (lv_at hl 1 rfl) ?_
    refine r_aIi X B hf dX8_owner_15 (fun v5 hf => ?_)
    refine lv_goto (tgt := 20) hx hb dX8_owner_16 (by decide) ?_
    exact t_X8_owner_20 X hr hk hn  B (lv_sub hl [] rfl) hf
def f_X8_tries_45 : Nat → AH → Nat → Int32 → Int32 → Int32 → Int32 → Option (Int32 × AH)
  | 0, _, _, _, _, _, _ => none
  | n + 1, h, l0, l1, l2, l3, l4 => if l1 ≤ l4 then some (l3, h) else gR h (some l0) 8 44 (fun v1 => gR h (some l0) 8 46 (fun v2 => gR h (some l0) 8 45 (fun v3 => rcv h (some l0) 8 (fun a7 => cal (f_X8_flows h a7 v1 v2 v3 l2 0) (fun v4 h5 => bd (l3 + v4) (fun v10 => bd (l4 + 1) (fun v11 => f_X8_tries_45 n h5 l0 l1 l2 v10 v11)))))))
def f_X8_tries_2 : Nat → AH → Nat → Int32 → Int32 → Int32 → Option (Int32 × AH)
  | 0, _, _, _, _, _ => none
  | n + 1, h, l0, l1, l2, l3 => gI h (some l0) 8 0 (fun v12 => if v12 ≤ l3 then f_X8_tries_45 FU h l0 l1 l2 0 0 else gR h (some l0) 8 44 (fun v13 => gR h (some l0) 8 7 (fun v14 => aI .int h v14 l3 (fun v15 => sI .int h v13 l3 v15 (fun h16 => gR h16 (some l0) 8 46 (fun v17 => gR h16 (some l0) 8 13 (fun v18 => aI .boolean h16 v18 l3 (fun v19 => sI .boolean h16 v17 l3 v19 (fun h20 => bd (l3 + 1) (fun v21 => f_X8_tries_2 n h20 l0 l1 l2 v21))))))))))
def f_X8_tries (h : AH) (l0 : Nat) (l1 : Int32) (l2 : Int32) : Option (Int32 × AH) := f_X8_tries_2 FU h l0 l1 l2 0
set_option maxRecDepth 100000 in
set_option maxHeartbeats 4000000 in
theorem t_X8_tries_45 {p : Program} {l : Launch} {e : Env} {s : State} {m : MethodId} {args : Array Value} {below : List Frame} {meth : Method} {c : Code} {D : RG} {b : Nat} {vv : Int32} {hh : AH} (X : r_C p c cX8_tries 5 s m args RX8 D b) (hr : meth.sig.returnType = (some .int)) (hk : meth.locks = false) (hn : meth.name = "tries") : ∀ (n : Nat) (h : AH) (H : Heap) (locs : List Loc) (ls : Array Slot) (l0 : Nat) (l1 : Int32) (l2 : Int32) (l3 : Int32) (l4 : Int32), r_B D b s h H locs → lv_has ls 5 [(0, va_rf (some l0)), (1, .int l1), (2, .int l2), (3, .int l3), (4, .int l4)] → f_X8_tries_45 n h l0 l1 l2 l3 l4 = some (vv, hh) → W p l e ({ frames := 5, cells := 0, slots := 0, locals := 135 } : Room) s m args below meth c H locs 0 0 (MQ below (r_Q D b (some (.int vv)) hh) args s 0 0 (fun q => b ≤ q)) (F0 m 45 ls []) := by
  obtain ⟨⟨hx, hb, hml, hown, hts⟩, -⟩ := id X
  intro n
  induction n with
  | zero =>
    intro h H locs ls l0 l1 l2 l3 l4 B hl hf
    cases hf
  | succ n ih =>
    intro h H locs ls l0 l1 l2 l3 l4 B hl hf
    unfold f_X8_tries_45 at hf
    refine lv_iload hx hb dX8_tries_45 (lv_at hl 4 rfl) ?_
    refine lv_iload_n hx hb dX8_tries_47 rfl (lv_at hl 1 rfl) ?_
    refine lv_icmp_ge (tgt := 78) hx hb dX8_tries_48 (by decide) (fun q_ => ?_) (fun q_ => ?_)
    · have hf := (r_ite hf).1 q_
      refine lv_iload_n hx hb dX8_tries_78 rfl (lv_at hl 3 rfl) ?_
      exact r_iret X B hr hk hf dX8_tries_79
    · have hf := (r_ite hf).2 q_
      refine lv_iload_n hx hb dX8_tries_51 rfl (lv_at hl 3 rfl) ?_
      refine r_aload_n hx hb dX8_tries_52 rfl (lv_at hl 0 rfl) ?_
      refine r_aload_n hx hb dX8_tries_53 rfl (lv_at hl 0 rfl) ?_
      refine r_gR X B hf fX8_44 (fun _ _ => rfl) m_149 dX8_tries_54 (fun v1 hf => ?_)
      refine r_aload_n hx hb dX8_tries_57 rfl (lv_at hl 0 rfl) ?_
      refine r_gR X B hf fX8_46 (fun _ _ => rfl) m_151 dX8_tries_58 (fun v2 hf => ?_)
      refine r_aload_n hx hb dX8_tries_61 rfl (lv_at hl 0 rfl) ?_
      refine r_gR X B hf fX8_45 (fun _ _ => rfl) m_150 dX8_tries_62 (fun v3 hf => ?_)
      refine lv_iload_n hx hb dX8_tries_65 rfl (lv_at hl 2 rfl) ?_
      refine lv_iconst (v := 0) hx hb dX8_tries_66 (by decide) ?_
      refine rcv_inv hf ?_
      intro a7 e8 s9 hf
      refine cal_inv hf ?_
      intro v4 h5 e6 hf
      refine r_call B (va_runV (As := [va_rf v1, va_rf v2, va_rf v3, .int l2, .int 0]) (rest := [.int l3]) X.1 (c_X8_flows (l := l) (D := D) (b := b) e6) (r_cwV X rfl m_562 m_563 m_564 m_5 m_565 rfl rfl hd_X8_flows ⟨Nat.le_of_ble_eq_true rfl, Nat.le_of_ble_eq_true rfl⟩) (r_preV X B s9 rfl [va_rf v1, va_rf v2, va_rf v3, .int l2, .int 0]) rfl rfl hl.1 (by rw [e8]; rfl) (lv_room (by simp [va_cat, cat_i, cat_r, cat_l])) dX8_tries_67 ⟨Nat.zero_le _, Nat.zero_le _⟩) ?_
      intro H locs B
      refine W.cs (cells' := 0) (slots' := 0) rfl rfl (W.eq (g2 := F0 m 70 ls [.int v4, .int l3]) rfl ?_)
      refine lv_iadd hx hb dX8_tries_70 ?_
      refine r_bd hf (fun v10 hf => ?_)
      refine lv_istore_n (i := 3) (lv' := [(3, .int v10), (0, va_rf (some l0)), (1, .int l1), (2, .int l2), (4, .int l4)]) hx hb dX8_tries_71 rfl hl (by decide) (by first | rfl | simp [va_cat, cat_i, cat_r, cat_l]) (fun ls hl => ?_)
      refine r_iinc (lv' := fun v11 => [(4, .int v11), (3, .int v10), (0, va_rf (some l0)), (1, .int l1), (2, .int l2)]) hx hb hf dX8_tries_72 hl (k := 4) rfl (by decide) (by decide) (fun v => by first | rfl | simp [va_cat, cat_i, cat_r, cat_l]) (fun v11 ls hl hf => ?_)
      refine lv_goto (tgt := 45) hx hb dX8_tries_75 (by decide) ?_
      exact ih _ _ _ _ _ _ _ _ _ B (lv_sub hl [2, 3, 4, 1, 0] rfl) hf
set_option maxRecDepth 100000 in
set_option maxHeartbeats 4000000 in
theorem t_X8_tries_2 {p : Program} {l : Launch} {e : Env} {s : State} {m : MethodId} {args : Array Value} {below : List Frame} {meth : Method} {c : Code} {D : RG} {b : Nat} {vv : Int32} {hh : AH} (X : r_C p c cX8_tries 5 s m args RX8 D b) (hr : meth.sig.returnType = (some .int)) (hk : meth.locks = false) (hn : meth.name = "tries") : ∀ (n : Nat) (h : AH) (H : Heap) (locs : List Loc) (ls : Array Slot) (l0 : Nat) (l1 : Int32) (l2 : Int32) (l3 : Int32), r_B D b s h H locs → lv_has ls 5 [(0, va_rf (some l0)), (1, .int l1), (2, .int l2), (3, .int l3)] → f_X8_tries_2 n h l0 l1 l2 l3 = some (vv, hh) → W p l e ({ frames := 5, cells := 0, slots := 0, locals := 135 } : Room) s m args below meth c H locs 0 0 (MQ below (r_Q D b (some (.int vv)) hh) args s 0 0 (fun q => b ≤ q)) (F0 m 2 ls []) := by
  obtain ⟨⟨hx, hb, hml, hown, hts⟩, -⟩ := id X
  intro n
  induction n with
  | zero =>
    intro h H locs ls l0 l1 l2 l3 B hl hf
    cases hf
  | succ n ih =>
    intro h H locs ls l0 l1 l2 l3 B hl hf
    unfold f_X8_tries_2 at hf
    refine lv_iload_n hx hb dX8_tries_2 rfl (lv_at hl 3 rfl) ?_
    refine r_aload_n hx hb dX8_tries_3 rfl (lv_at hl 0 rfl) ?_
    refine r_gI X B hf fX8_0 (fun _ _ => rfl) m_154 dX8_tries_4 (fun v12 hf => ?_)
    refine lv_icmp_ge (tgt := 40) hx hb dX8_tries_7 (by decide) (fun q_ => ?_) (fun q_ => ?_)
    · have hf := (r_ite hf).1 q_
      refine lv_iconst (v := 0) hx hb dX8_tries_40 (by decide) ?_
      refine lv_istore_n (i := 3) (lv' := [(3, .int 0), (0, va_rf (some l0)), (1, .int l1), (2, .int l2)]) hx hb dX8_tries_41 rfl hl (by decide) (by first | rfl | simp [va_cat, cat_i, cat_r, cat_l]) (fun ls hl => ?_)
      refine lv_iconst (v := 0) hx hb dX8_tries_42 (by decide) ?_
      refine lv_istore (i := 4) (lv' := [(4, .int 0), (3, .int 0), (0, va_rf (some l0)), (1, .int l1), (2, .int l2)]) hx hb dX8_tries_43 hl (by decide) (by first | rfl | simp [va_cat, cat_i, cat_r, cat_l]) (fun ls hl => ?_)
      exact t_X8_tries_45 X hr hk hn  _ _ _ _ _ _ _ _ _ _ B (lv_sub hl [2, 3, 4, 1, 0] rfl) hf
    · have hf := (r_ite hf).2 q_
      refine r_aload_n hx hb dX8_tries_10 rfl (lv_at hl 0 rfl) ?_
      refine r_gR X B hf fX8_44 (fun _ _ => rfl) m_149 dX8_tries_11 (fun v13 hf => ?_)
      refine lv_iload_n hx hb dX8_tries_14 rfl (lv_at hl 3 rfl) ?_
      refine r_aload_n hx hb dX8_tries_15 rfl (lv_at hl 0 rfl) ?_
      refine r_gR X B hf fX8_7 (fun _ _ => rfl) m_122 dX8_tries_16 (fun v14 hf => ?_)
      refine lv_iload_n hx hb dX8_tries_19 rfl (lv_at hl 3 rfl) ?_
      refine r_aIi X B hf dX8_tries_20 (fun v15 hf => ?_)
      refine r_sIi X B hf dX8_tries_21 (fun h16 H locs B hf => ?_)
      refine r_aload_n hx hb dX8_tries_22 rfl (lv_at hl 0 rfl) ?_
      refine r_gR X B hf fX8_46 (fun _ _ => rfl) m_151 dX8_tries_23 (fun v17 hf => ?_)
      refine lv_iload_n hx hb dX8_tries_26 rfl (lv_at hl 3 rfl) ?_
      refine r_aload_n hx hb dX8_tries_27 rfl (lv_at hl 0 rfl) ?_
      refine r_gR X B hf fX8_13 (fun _ _ => rfl) m_129 dX8_tries_28 (fun v18 hf => ?_)
      refine lv_iload_n hx hb dX8_tries_31 rfl (lv_at hl 3 rfl) ?_
      refine r_aIz X B hf dX8_tries_32 (fun v19 hf => ?_)
      refine r_sIz X B hf dX8_tries_33 (fun h20 H locs B hf => ?_)
      refine r_iinc (lv' := fun v21 => [(3, .int v21), (0, va_rf (some l0)), (1, .int l1), (2, .int l2)]) hx hb hf dX8_tries_34 hl (k := 3) rfl (by decide) (by decide) (fun v => by first | rfl | simp [va_cat, cat_i, cat_r, cat_l]) (fun v21 ls hl hf => ?_)
      refine lv_goto (tgt := 2) hx hb dX8_tries_37 (by decide) ?_
      exact ih _ _ _ _ _ _ _ _ B (lv_sub hl [1, 2, 3, 0] rfl) hf
set_option maxRecDepth 100000 in
set_option maxHeartbeats 4000000 in
theorem c_X8_tries {l : Launch} {D : RG} {b : Nat} {h : AH} {l0 : Nat} {l1 : Int32} {l2 : Int32} {vv : Int32} {hh : AH} (hf : f_X8_tries h l0 l1 l2 = some (vv, hh)) : Met l yX8_tries (Cond.code yX8_tries cX8_tries 5 (some .int) :: wsL_law) ({ frames := 5, cells := 0, slots := 0, locals := 135 } : Room) (va_Pc [.ref l0, .int l1, .int l2] (r_I D b h)) (r_Q D b (some (.int vv)) hh) 0 0 (fun q => b ≤ q) := by
  refine r_ofW (own := RX8) rfl (by decide +kernel) (by simp [lg_sl, va_cat, cat_i, cat_r, cat_l]) ?_
  intro p e s m args below meth c ls X B hr hk hn hl
  have hl : lv_has ls 5 [(0, .ref l0), (1, .int l1), (2, .int l2)] := by simpa [lv_args, va_cat, cat_i, cat_r, cat_l] using hl
  have hl : lv_has ls 5 [(0, va_rf (some l0)), (1, .int l1), (2, .int l2)] := hl
  obtain ⟨⟨hx, hb, hml, hown, hts⟩, -⟩ := id X
  generalize s.heap = H at B ⊢
  generalize ([] : List Loc) = locs at B ⊢
  unfold f_X8_tries at hf
  refine lv_iconst (v := 0) hx hb dX8_tries_0 (by decide) ?_
  refine lv_istore_n (i := 3) (lv' := [(3, .int 0), (0, va_rf (some l0)), (1, .int l1), (2, .int l2)]) hx hb dX8_tries_1 rfl hl (by decide) (by first | rfl | simp [va_cat, cat_i, cat_r, cat_l]) (fun ls hl => ?_)
  exact t_X8_tries_2 X hr hk hn  _ _ _ _ _ _ _ _ _ B (lv_sub hl [1, 2, 3, 0] rfl) hf
def f_X8_openings_2 : Nat → AH → Nat → Int32 → Option (Unit × AH)
  | 0, _, _, _ => none
  | n + 1, h, l0, l1 => gI h (some l0) 8 0 (fun v1 => if v1 ≤ l1 then some ((), h) else gR h (some l0) 8 45 (fun v2 => gR h (some l0) 8 8 (fun v3 => aI .int h v3 l1 (fun v4 => sI .int h v2 l1 v4 (fun h5 => bd (l1 + 1) (fun v6 => f_X8_openings_2 n h5 l0 v6))))))
def f_X8_openings (h : AH) (l0 : Nat) : Option (Unit × AH) := f_X8_openings_2 FU h l0 0
set_option maxRecDepth 100000 in
set_option maxHeartbeats 4000000 in
theorem t_X8_openings_2 {p : Program} {l : Launch} {e : Env} {s : State} {m : MethodId} {args : Array Value} {below : List Frame} {meth : Method} {c : Code} {D : RG} {b : Nat} {vv : Unit} {hh : AH} (X : r_C p c cX8_openings 2 s m args RX8 D b) (hr : meth.sig.returnType = none) (hk : meth.locks = false) (hn : meth.name = "openings") : ∀ (n : Nat) (h : AH) (H : Heap) (locs : List Loc) (ls : Array Slot) (l0 : Nat) (l1 : Int32), r_B D b s h H locs → lv_has ls 2 [(0, va_rf (some l0)), (1, .int l1)] → f_X8_openings_2 n h l0 l1 = some (vv, hh) → W p l e ({ frames := 0, cells := 0, slots := 0, locals := 0 } : Room) s m args below meth c H locs 0 0 (MQ below (r_Q D b none hh) args s 0 0 (fun q => b ≤ q)) (F0 m 2 ls []) := by
  obtain ⟨⟨hx, hb, hml, hown, hts⟩, -⟩ := id X
  intro n
  induction n with
  | zero =>
    intro h H locs ls l0 l1 B hl hf
    cases hf
  | succ n ih =>
    intro h H locs ls l0 l1 B hl hf
    unfold f_X8_openings_2 at hf
    refine lv_iload_n hx hb dX8_openings_2 rfl (lv_at hl 1 rfl) ?_
    refine r_aload_n hx hb dX8_openings_3 rfl (lv_at hl 0 rfl) ?_
    refine r_gI X B hf fX8_0 (fun _ _ => rfl) m_154 dX8_openings_4 (fun v1 hf => ?_)
    refine lv_icmp_ge (tgt := 28) hx hb dX8_openings_7 (by decide) (fun q_ => ?_) (fun q_ => ?_)
    · have hf := (r_ite hf).1 q_
      exact r_vret X B hr hk hf dX8_openings_28
    · have hf := (r_ite hf).2 q_
      refine r_aload_n hx hb dX8_openings_10 rfl (lv_at hl 0 rfl) ?_
      refine r_gR X B hf fX8_45 (fun _ _ => rfl) m_150 dX8_openings_11 (fun v2 hf => ?_)
      refine lv_iload_n hx hb dX8_openings_14 rfl (lv_at hl 1 rfl) ?_
      refine r_aload_n hx hb dX8_openings_15 rfl (lv_at hl 0 rfl) ?_
      refine r_gR X B hf fX8_8 (fun _ _ => rfl) m_123 dX8_openings_16 (fun v3 hf => ?_)
      refine lv_iload_n hx hb dX8_openings_19 rfl (lv_at hl 1 rfl) ?_
      refine r_aIi X B hf dX8_openings_20 (fun v4 hf => ?_)
      refine r_sIi X B hf dX8_openings_21 (fun h5 H locs B hf => ?_)
      refine r_iinc (lv' := fun v6 => [(1, .int v6), (0, va_rf (some l0))]) hx hb hf dX8_openings_22 hl (k := 1) rfl (by decide) (by decide) (fun v => by first | rfl | simp [va_cat, cat_i, cat_r, cat_l]) (fun v6 ls hl hf => ?_)
      refine lv_goto (tgt := 2) hx hb dX8_openings_25 (by decide) ?_
      exact ih _ _ _ _ _ _ B (lv_sub hl [1, 0] rfl) hf
set_option maxRecDepth 100000 in
set_option maxHeartbeats 4000000 in
theorem c_X8_openings {l : Launch} {D : RG} {b : Nat} {h : AH} {l0 : Nat} {vv : Unit} {hh : AH} (hf : f_X8_openings h l0 = some (vv, hh)) : Met l yX8_openings (Cond.code yX8_openings cX8_openings 2 none :: wsL_law) ({ frames := 0, cells := 0, slots := 0, locals := 0 } : Room) (va_Pc [.ref l0] (r_I D b h)) (r_Q D b none hh) 0 0 (fun q => b ≤ q) := by
  refine r_ofW (own := RX8) rfl (by decide +kernel) (by simp [lg_sl, va_cat, cat_i, cat_r, cat_l]) ?_
  intro p e s m args below meth c ls X B hr hk hn hl
  have hl : lv_has ls 2 [(0, .ref l0)] := by simpa [lv_args, va_cat, cat_i, cat_r, cat_l] using hl
  have hl : lv_has ls 2 [(0, va_rf (some l0))] := hl
  obtain ⟨⟨hx, hb, hml, hown, hts⟩, -⟩ := id X
  generalize s.heap = H at B ⊢
  generalize ([] : List Loc) = locs at B ⊢
  unfold f_X8_openings at hf
  refine lv_iconst (v := 0) hx hb dX8_openings_0 (by decide) ?_
  refine lv_istore_n (i := 1) (lv' := [(1, .int 0), (0, va_rf (some l0))]) hx hb dX8_openings_1 rfl hl (by decide) (by first | rfl | simp [va_cat, cat_i, cat_r, cat_l]) (fun ls hl => ?_)
  exact t_X8_openings_2 X hr hk hn  _ _ _ _ _ _ _ B (lv_sub hl [1, 0] rfl) hf
def f_X8_isTrial_25 (h : AH) (s0 : Int32) : Option (Int32 × AH) := rZ s0 h
def f_X8_isTrial_24 (h : AH)  : Option (Int32 × AH) := f_X8_isTrial_25 h 0
def f_X8_isTrial (h : AH) (l0 : Int32) (l1 : Int32) : Option (Int32 × AH) := cal (f_X8_isIn h l0 1 10) (fun v1 h2 => if v1 = 0 then f_X8_isTrial_24 h2 else cal (f_X8_isIn h2 l1 0 50) (fun v4 h5 => if v4 = 0 then f_X8_isTrial_24 h5 else f_X8_isTrial_25 h5 1))
set_option maxRecDepth 100000 in
set_option maxHeartbeats 4000000 in
theorem t_X8_isTrial_25 {p : Program} {l : Launch} {e : Env} {s : State} {m : MethodId} {args : Array Value} {below : List Frame} {meth : Method} {c : Code} {D : RG} {b : Nat} {vv : Int32} {hh : AH} (X : r_C p c cX8_isTrial 2 s m args RX8 D b) (hr : meth.sig.returnType = (some .boolean)) (hk : meth.locks = false) (hn : meth.name = "isTrial") {h : AH} {H : Heap} {locs : List Loc} {ls : Array Slot} {s0 : Int32} (B : r_B D b s h H locs) (hl : lv_has ls 2 []) (hf : f_X8_isTrial_25 h s0 = some (vv, hh)) : W p l e ({ frames := 1, cells := 0, slots := 0, locals := 22 } : Room) s m args below meth c H locs 0 0 (MQ below (r_Q D b (some (.int vv)) hh) args s 0 0 (fun q => b ≤ q)) (F0 m 25 ls [.int s0]) := by
  obtain ⟨⟨hx, hb, hml, hown, hts⟩, -⟩ := id X
  unfold f_X8_isTrial_25 at hf
  exact r_zret X B hr hk hf dX8_isTrial_25
set_option maxRecDepth 100000 in
set_option maxHeartbeats 4000000 in
theorem t_X8_isTrial_24 {p : Program} {l : Launch} {e : Env} {s : State} {m : MethodId} {args : Array Value} {below : List Frame} {meth : Method} {c : Code} {D : RG} {b : Nat} {vv : Int32} {hh : AH} (X : r_C p c cX8_isTrial 2 s m args RX8 D b) (hr : meth.sig.returnType = (some .boolean)) (hk : meth.locks = false) (hn : meth.name = "isTrial") {h : AH} {H : Heap} {locs : List Loc} {ls : Array Slot}  (B : r_B D b s h H locs) (hl : lv_has ls 2 []) (hf : f_X8_isTrial_24 h  = some (vv, hh)) : W p l e ({ frames := 1, cells := 0, slots := 0, locals := 22 } : Room) s m args below meth c H locs 0 0 (MQ below (r_Q D b (some (.int vv)) hh) args s 0 0 (fun q => b ≤ q)) (F0 m 24 ls []) := by
  obtain ⟨⟨hx, hb, hml, hown, hts⟩, -⟩ := id X
  unfold f_X8_isTrial_24 at hf
  refine lv_iconst (v := 0) hx hb dX8_isTrial_24 (by decide) ?_
  exact t_X8_isTrial_25 X hr hk hn  B (lv_sub hl [] rfl) hf
set_option maxRecDepth 100000 in
set_option maxHeartbeats 4000000 in
theorem c_X8_isTrial {l : Launch} {D : RG} {b : Nat} {h : AH} {l0 : Int32} {l1 : Int32} {vv : Int32} {hh : AH} (hf : f_X8_isTrial h l0 l1 = some (vv, hh)) : Met l yX8_isTrial (Cond.code yX8_isTrial cX8_isTrial 2 (some .boolean) :: wsL_law) ({ frames := 1, cells := 0, slots := 0, locals := 22 } : Room) (va_Pc [.int l0, .int l1] (r_I D b h)) (r_Q D b (some (.int vv)) hh) 0 0 (fun q => b ≤ q) := by
  refine r_ofW (own := RX8) rfl (by decide +kernel) (by simp [lg_sl, va_cat, cat_i, cat_r, cat_l]) ?_
  intro p e s m args below meth c ls X B hr hk hn hl
  have hl : lv_has ls 2 [(0, .int l0), (1, .int l1)] := by simpa [lv_args, va_cat, cat_i, cat_r, cat_l] using hl
  have hl : lv_has ls 2 [(0, .int l0), (1, .int l1)] := hl
  obtain ⟨⟨hx, hb, hml, hown, hts⟩, -⟩ := id X
  generalize s.heap = H at B ⊢
  generalize ([] : List Loc) = locs at B ⊢
  unfold f_X8_isTrial at hf
  refine lv_iload_n hx hb dX8_isTrial_0 rfl (lv_at hl 0 rfl) ?_
  refine lv_iconst (v := 1) hx hb dX8_isTrial_1 (by decide) ?_
  refine lv_bipush (v := 10) hx hb dX8_isTrial_2 (by decide) ?_
  refine cal_inv hf ?_
  intro v1 h2 e3 hf
  refine r_call B (va_runS (As := [.int l0, .int 1, .int 10]) (rest := []) X.1 (c_X8_isIn (l := l) (D := D) (b := b) e3) (r_cwS X m_178 m_179 m_5 m_180 rfl rfl hd_X8_isIn ⟨Nat.le_of_ble_eq_true rfl, Nat.le_of_ble_eq_true rfl⟩) (r_preS X B [.int l0, .int 1, .int 10]) rfl rfl hl.1 rfl (lv_room (by simp [va_cat, cat_i, cat_r, cat_l])) dX8_isTrial_4 ⟨Nat.zero_le _, Nat.zero_le _⟩) ?_
  intro H locs B
  refine W.cs (cells' := 0) (slots' := 0) rfl rfl (W.eq (g2 := F0 m 7 ls [.int v1]) rfl ?_)
  refine lv_if_eq (tgt := 24) hx hb dX8_isTrial_7 (by decide) (fun q_ => ?_) (fun q_ => ?_)
  · have hf := (r_ite hf).1 q_
    exact t_X8_isTrial_24 X hr hk hn  B (lv_sub hl [] rfl) hf
  · have hf := (r_ite hf).2 q_
    refine lv_iload_n hx hb dX8_isTrial_10 rfl (lv_at hl 1 rfl) ?_
    refine lv_iconst (v := 0) hx hb dX8_isTrial_11 (by decide) ?_
    refine lv_bipush (v := 50) hx hb dX8_isTrial_12 (by decide) ?_
    refine cal_inv hf ?_
    intro v4 h5 e6 hf
    refine r_call B (va_runS (As := [.int l1, .int 0, .int 50]) (rest := []) X.1 (c_X8_isIn (l := l) (D := D) (b := b) e6) (r_cwS X m_178 m_179 m_5 m_180 rfl rfl hd_X8_isIn ⟨Nat.le_of_ble_eq_true rfl, Nat.le_of_ble_eq_true rfl⟩) (r_preS X B [.int l1, .int 0, .int 50]) rfl rfl hl.1 rfl (lv_room (by simp [va_cat, cat_i, cat_r, cat_l])) dX8_isTrial_14 ⟨Nat.zero_le _, Nat.zero_le _⟩) ?_
    intro H locs B
    refine W.cs (cells' := 0) (slots' := 0) rfl rfl (W.eq (g2 := F0 m 17 ls [.int v4]) rfl ?_)
    refine lv_if_eq (tgt := 24) hx hb dX8_isTrial_17 (by decide) (fun q_ => ?_) (fun q_ => ?_)
    · have hf := (r_ite hf).1 q_
      exact t_X8_isTrial_24 X hr hk hn  B (lv_sub hl [] rfl) hf
    · have hf := (r_ite hf).2 q_
      refine lv_iconst (v := 1) hx hb dX8_isTrial_20 (by decide) ?_
      refine lv_goto (tgt := 25) hx hb dX8_isTrial_21 (by decide) ?_
      exact t_X8_isTrial_25 X hr hk hn  B (lv_sub hl [] rfl) hf
def f_X8_tried_16 (h : AH)  : Option (Int32 × AH) := some ((-1), h)
def f_X8_tried (h : AH) (l0 : Nat) (l1 : Int32) (l2 : Int32) (l3 : Int32) : Option (Int32 × AH) := rcv h (some l0) 8 (fun a4 => cal (f_X8_isTank h a4 l1) (fun v1 h2 => if v1 = 0 then f_X8_tried_16 h2 else cal (f_X8_isTrial h2 l2 l3) (fun v7 h8 => if v7 = 0 then f_X8_tried_16 h8 else rcv h8 (some l0) 8 (fun a13 => cal (f_X8_openings h8 a13) (fun v10 h11 => rcv h11 (some l0) 8 (fun a19 => cal (f_X8_tries h11 a19 l2 l3) (fun v16 h17 => gR h17 (some l0) 8 44 (fun v22 => aI .int h17 v22 l1 (fun v23 => some (v23, h17))))))))))
set_option maxRecDepth 100000 in
set_option maxHeartbeats 4000000 in
theorem t_X8_tried_16 {p : Program} {l : Launch} {e : Env} {s : State} {m : MethodId} {args : Array Value} {below : List Frame} {meth : Method} {c : Code} {D : RG} {b : Nat} {vv : Int32} {hh : AH} (X : r_C p c cX8_tried 4 s m args RX8 D b) (hr : meth.sig.returnType = (some .int)) (hk : meth.locks = false) (hn : meth.name = "tried") {h : AH} {H : Heap} {locs : List Loc} {ls : Array Slot}  (B : r_B D b s h H locs) (hl : lv_has ls 4 []) (hf : f_X8_tried_16 h  = some (vv, hh)) : W p l e ({ frames := 6, cells := 0, slots := 0, locals := 159 } : Room) s m args below meth c H locs 0 0 (MQ below (r_Q D b (some (.int vv)) hh) args s 0 0 (fun q => b ≤ q)) (F0 m 16 ls []) := by
  obtain ⟨⟨hx, hb, hml, hown, hts⟩, -⟩ := id X
  unfold f_X8_tried_16 at hf
  refine lv_iconst (v := (-1)) hx hb dX8_tried_16 (by decide) ?_
  exact r_iret X B hr hk hf dX8_tried_17
set_option maxRecDepth 100000 in
set_option maxHeartbeats 4000000 in
theorem c_X8_tried {l : Launch} {D : RG} {b : Nat} {h : AH} {l0 : Nat} {l1 : Int32} {l2 : Int32} {l3 : Int32} {vv : Int32} {hh : AH} (hf : f_X8_tried h l0 l1 l2 l3 = some (vv, hh)) : Met l yX8_tried (Cond.code yX8_tried cX8_tried 4 (some .int) :: wsL_law) ({ frames := 6, cells := 0, slots := 0, locals := 159 } : Room) (va_Pc [.ref l0, .int l1, .int l2, .int l3] (r_I D b h)) (r_Q D b (some (.int vv)) hh) 0 0 (fun q => b ≤ q) := by
  refine r_ofW (own := RX8) rfl (by decide +kernel) (by simp [lg_sl, va_cat, cat_i, cat_r, cat_l]) ?_
  intro p e s m args below meth c ls X B hr hk hn hl
  have hl : lv_has ls 4 [(0, .ref l0), (1, .int l1), (2, .int l2), (3, .int l3)] := by simpa [lv_args, va_cat, cat_i, cat_r, cat_l] using hl
  have hl : lv_has ls 4 [(0, va_rf (some l0)), (1, .int l1), (2, .int l2), (3, .int l3)] := hl
  obtain ⟨⟨hx, hb, hml, hown, hts⟩, -⟩ := id X
  generalize s.heap = H at B ⊢
  generalize ([] : List Loc) = locs at B ⊢
  unfold f_X8_tried at hf
  refine r_aload_n hx hb dX8_tried_0 rfl (lv_at hl 0 rfl) ?_
  refine lv_iload_n hx hb dX8_tried_1 rfl (lv_at hl 1 rfl) ?_
  refine rcv_inv hf ?_
  intro a4 e5 s6 hf
  refine cal_inv hf ?_
  intro v1 h2 e3 hf
  refine r_call B (va_runV (As := [.int l1]) (rest := []) X.1 (c_X8_isTank (l := l) (D := D) (b := b) e3) (r_cwV X rfl m_174 m_175 m_176 m_5 m_177 rfl rfl hd_X8_isTank ⟨Nat.le_of_ble_eq_true rfl, Nat.le_of_ble_eq_true rfl⟩) (r_preV X B s6 rfl [.int l1]) rfl rfl hl.1 (by rw [e5]; rfl) (lv_room (by simp [va_cat, cat_i, cat_r, cat_l])) dX8_tried_2 ⟨Nat.zero_le _, Nat.zero_le _⟩) ?_
  intro H locs B
  refine W.cs (cells' := 0) (slots' := 0) rfl rfl (W.eq (g2 := F0 m 5 ls [.int v1]) rfl ?_)
  refine lv_if_eq (tgt := 16) hx hb dX8_tried_5 (by decide) (fun q_ => ?_) (fun q_ => ?_)
  · have hf := (r_ite hf).1 q_
    exact t_X8_tried_16 X hr hk hn  B (lv_sub hl [] rfl) hf
  · have hf := (r_ite hf).2 q_
    refine lv_iload_n hx hb dX8_tried_8 rfl (lv_at hl 2 rfl) ?_
    refine lv_iload_n hx hb dX8_tried_9 rfl (lv_at hl 3 rfl) ?_
    refine cal_inv hf ?_
    intro v7 h8 e9 hf
    refine r_call B (va_runS (As := [.int l2, .int l3]) (rest := []) X.1 (c_X8_isTrial (l := l) (D := D) (b := b) e9) (r_cwS X m_655 m_656 m_5 m_657 rfl rfl hd_X8_isTrial ⟨Nat.le_of_ble_eq_true rfl, Nat.le_of_ble_eq_true rfl⟩) (r_preS X B [.int l2, .int l3]) rfl rfl hl.1 rfl (lv_room (by simp [va_cat, cat_i, cat_r, cat_l])) dX8_tried_10 ⟨Nat.zero_le _, Nat.zero_le _⟩) ?_
    intro H locs B
    refine W.cs (cells' := 0) (slots' := 0) rfl rfl (W.eq (g2 := F0 m 13 ls [.int v7]) rfl ?_)
    refine lv_if_ne (tgt := 18) hx hb dX8_tried_13 (by decide) (fun q_ => ?_) (fun q_ => ?_)
    · have hf := (r_ite hf).2 q_
      refine r_aload_n hx hb dX8_tried_18 rfl (lv_at hl 0 rfl) ?_
      refine rcv_inv hf ?_
      intro a13 e14 s15 hf
      refine cal_inv hf ?_
      intro v10 h11 e12 hf
      refine r_call B (va_runV (As := []) (rest := []) X.1 (c_X8_openings (l := l) (D := D) (b := b) e12) (r_cwV X rfl m_658 m_659 m_660 m_5 m_661 rfl rfl hd_X8_openings ⟨Nat.le_of_ble_eq_true rfl, Nat.le_of_ble_eq_true rfl⟩) (r_preV X B s15 rfl []) rfl rfl hl.1 (by rw [e14]; rfl) (lv_room (by simp [va_cat, cat_i, cat_r, cat_l])) dX8_tried_19 ⟨Nat.zero_le _, Nat.zero_le _⟩) ?_
      intro H locs B
      refine W.cs (cells' := 0) (slots' := 0) rfl rfl (W.eq (g2 := F0 m 22 ls []) rfl ?_)
      refine r_aload_n hx hb dX8_tried_22 rfl (lv_at hl 0 rfl) ?_
      refine lv_iload_n hx hb dX8_tried_23 rfl (lv_at hl 2 rfl) ?_
      refine lv_iload_n hx hb dX8_tried_24 rfl (lv_at hl 3 rfl) ?_
      refine rcv_inv hf ?_
      intro a19 e20 s21 hf
      refine cal_inv hf ?_
      intro v16 h17 e18 hf
      refine r_call B (va_runV (As := [.int l2, .int l3]) (rest := []) X.1 (c_X8_tries (l := l) (D := D) (b := b) e18) (r_cwV X rfl m_662 m_663 m_664 m_5 m_665 rfl rfl hd_X8_tries ⟨Nat.le_of_ble_eq_true rfl, Nat.le_of_ble_eq_true rfl⟩) (r_preV X B s21 rfl [.int l2, .int l3]) rfl rfl hl.1 (by rw [e20]; rfl) (lv_room (by simp [va_cat, cat_i, cat_r, cat_l])) dX8_tried_25 ⟨Nat.zero_le _, Nat.zero_le _⟩) ?_
      intro H locs B
      refine W.cs (cells' := 0) (slots' := 0) rfl rfl (W.eq (g2 := F0 m 28 ls [.int v16]) rfl ?_)
      refine lv_pop hx hb dX8_tried_28 (rfl) ?_
      refine r_aload_n hx hb dX8_tried_29 rfl (lv_at hl 0 rfl) ?_
      refine r_gR X B hf fX8_44 (fun _ _ => rfl) m_149 dX8_tried_30 (fun v22 hf => ?_)
      refine lv_iload_n hx hb dX8_tried_33 rfl (lv_at hl 1 rfl) ?_
      refine r_aIi X B hf dX8_tried_34 (fun v23 hf => ?_)
      exact r_iret X B hr hk hf dX8_tried_35
    · have hf := (r_ite hf).1 q_
      exact t_X8_tried_16 X hr hk hn  B (lv_sub hl [] rfl) hf
def f_X8_lost_30 (h : AH)  : Option (Int32 × AH) := some ((-100000), h)
def f_X8_lost (h : AH) (l0 : Nat) (l1 : Int32) (l2 : Int32) (l3 : Int32) (l4 : Int32) : Option (Int32 × AH) := rcv h (some l0) 8 (fun a4 => cal (f_X8_isTank h a4 l1) (fun v1 h2 => if v1 = 0 then f_X8_lost_30 h2 else rcv h2 (some l0) 8 (fun a10 => cal (f_X8_isTank h2 a10 l2) (fun v7 h8 => if v7 = 0 then f_X8_lost_30 h8 else if l2 ≤ l1 then f_X8_lost_30 h8 else cal (f_X8_isTrial h8 l3 l4) (fun v13 h14 => if v13 = 0 then f_X8_lost_30 h14 else rcv h14 (some l0) 8 (fun a19 => cal (f_X8_openings h14 a19) (fun v16 h17 => rcv h17 (some l0) 8 (fun a25 => cal (f_X8_tries h17 a25 l3 l4) (fun v22 h23 => gR h23 (some l0) 8 44 (fun v28 => aI .int h23 v28 l2 (fun v29 => gR h23 (some l0) 8 45 (fun v30 => sI .int h23 v30 l1 0 (fun h31 => rcv h31 (some l0) 8 (fun a35 => cal (f_X8_tries h31 a35 l3 l4) (fun v32 h33 => gR h33 (some l0) 8 44 (fun v38 => aI .int h33 v38 l2 (fun v39 => some ((v39 - v29), h33))))))))))))))))))
set_option maxRecDepth 100000 in
set_option maxHeartbeats 4000000 in
theorem t_X8_lost_30 {p : Program} {l : Launch} {e : Env} {s : State} {m : MethodId} {args : Array Value} {below : List Frame} {meth : Method} {c : Code} {D : RG} {b : Nat} {vv : Int32} {hh : AH} (X : r_C p c cX8_lost 6 s m args RX8 D b) (hr : meth.sig.returnType = (some .int)) (hk : meth.locks = false) (hn : meth.name = "lost") {h : AH} {H : Heap} {locs : List Loc} {ls : Array Slot}  (B : r_B D b s h H locs) (hl : lv_has ls 6 []) (hf : f_X8_lost_30 h  = some (vv, hh)) : W p l e ({ frames := 6, cells := 0, slots := 0, locals := 159 } : Room) s m args below meth c H locs 0 0 (MQ below (r_Q D b (some (.int vv)) hh) args s 0 0 (fun q => b ≤ q)) (F0 m 30 ls []) := by
  obtain ⟨⟨hx, hb, hml, hown, hts⟩, -⟩ := id X
  unfold f_X8_lost_30 at hf
  refine lv_ldc (v := (-100000)) hx hb hown (hts _ m_675) dX8_lost_30 ?_
  exact r_iret X B hr hk hf dX8_lost_32
set_option maxRecDepth 100000 in
set_option maxHeartbeats 4000000 in
theorem c_X8_lost {l : Launch} {D : RG} {b : Nat} {h : AH} {l0 : Nat} {l1 : Int32} {l2 : Int32} {l3 : Int32} {l4 : Int32} {vv : Int32} {hh : AH} (hf : f_X8_lost h l0 l1 l2 l3 l4 = some (vv, hh)) : Met l yX8_lost (Cond.code yX8_lost cX8_lost 6 (some .int) :: wsL_law) ({ frames := 6, cells := 0, slots := 0, locals := 159 } : Room) (va_Pc [.ref l0, .int l1, .int l2, .int l3, .int l4] (r_I D b h)) (r_Q D b (some (.int vv)) hh) 0 0 (fun q => b ≤ q) := by
  refine r_ofW (own := RX8) rfl (by decide +kernel) (by simp [lg_sl, va_cat, cat_i, cat_r, cat_l]) ?_
  intro p e s m args below meth c ls X B hr hk hn hl
  have hl : lv_has ls 6 [(0, .ref l0), (1, .int l1), (2, .int l2), (3, .int l3), (4, .int l4)] := by simpa [lv_args, va_cat, cat_i, cat_r, cat_l] using hl
  have hl : lv_has ls 6 [(0, va_rf (some l0)), (1, .int l1), (2, .int l2), (3, .int l3), (4, .int l4)] := hl
  obtain ⟨⟨hx, hb, hml, hown, hts⟩, -⟩ := id X
  generalize s.heap = H at B ⊢
  generalize ([] : List Loc) = locs at B ⊢
  unfold f_X8_lost at hf
  refine r_aload_n hx hb dX8_lost_0 rfl (lv_at hl 0 rfl) ?_
  refine lv_iload_n hx hb dX8_lost_1 rfl (lv_at hl 1 rfl) ?_
  refine rcv_inv hf ?_
  intro a4 e5 s6 hf
  refine cal_inv hf ?_
  intro v1 h2 e3 hf
  refine r_call B (va_runV (As := [.int l1]) (rest := []) X.1 (c_X8_isTank (l := l) (D := D) (b := b) e3) (r_cwV X rfl m_174 m_175 m_176 m_5 m_177 rfl rfl hd_X8_isTank ⟨Nat.le_of_ble_eq_true rfl, Nat.le_of_ble_eq_true rfl⟩) (r_preV X B s6 rfl [.int l1]) rfl rfl hl.1 (by rw [e5]; rfl) (lv_room (by simp [va_cat, cat_i, cat_r, cat_l])) dX8_lost_2 ⟨Nat.zero_le _, Nat.zero_le _⟩) ?_
  intro H locs B
  refine W.cs (cells' := 0) (slots' := 0) rfl rfl (W.eq (g2 := F0 m 5 ls [.int v1]) rfl ?_)
  refine lv_if_eq (tgt := 30) hx hb dX8_lost_5 (by decide) (fun q_ => ?_) (fun q_ => ?_)
  · have hf := (r_ite hf).1 q_
    exact t_X8_lost_30 X hr hk hn  B (lv_sub hl [] rfl) hf
  · have hf := (r_ite hf).2 q_
    refine r_aload_n hx hb dX8_lost_8 rfl (lv_at hl 0 rfl) ?_
    refine lv_iload_n hx hb dX8_lost_9 rfl (lv_at hl 2 rfl) ?_
    refine rcv_inv hf ?_
    intro a10 e11 s12 hf
    refine cal_inv hf ?_
    intro v7 h8 e9 hf
    refine r_call B (va_runV (As := [.int l2]) (rest := []) X.1 (c_X8_isTank (l := l) (D := D) (b := b) e9) (r_cwV X rfl m_174 m_175 m_176 m_5 m_177 rfl rfl hd_X8_isTank ⟨Nat.le_of_ble_eq_true rfl, Nat.le_of_ble_eq_true rfl⟩) (r_preV X B s12 rfl [.int l2]) rfl rfl hl.1 (by rw [e11]; rfl) (lv_room (by simp [va_cat, cat_i, cat_r, cat_l])) dX8_lost_10 ⟨Nat.zero_le _, Nat.zero_le _⟩) ?_
    intro H locs B
    refine W.cs (cells' := 0) (slots' := 0) rfl rfl (W.eq (g2 := F0 m 13 ls [.int v7]) rfl ?_)
    refine lv_if_eq (tgt := 30) hx hb dX8_lost_13 (by decide) (fun q_ => ?_) (fun q_ => ?_)
    · have hf := (r_ite hf).1 q_
      exact t_X8_lost_30 X hr hk hn  B (lv_sub hl [] rfl) hf
    · have hf := (r_ite hf).2 q_
      refine lv_iload_n hx hb dX8_lost_16 rfl (lv_at hl 1 rfl) ?_
      refine lv_iload_n hx hb dX8_lost_17 rfl (lv_at hl 2 rfl) ?_
      refine lv_icmp_ge (tgt := 30) hx hb dX8_lost_18 (by decide) (fun q_ => ?_) (fun q_ => ?_)
      · have hf := (r_ite hf).1 q_
        exact t_X8_lost_30 X hr hk hn  B (lv_sub hl [] rfl) hf
      · have hf := (r_ite hf).2 q_
        refine lv_iload_n hx hb dX8_lost_21 rfl (lv_at hl 3 rfl) ?_
        refine lv_iload hx hb dX8_lost_22 (lv_at hl 4 rfl) ?_
        refine cal_inv hf ?_
        intro v13 h14 e15 hf
        refine r_call B (va_runS (As := [.int l3, .int l4]) (rest := []) X.1 (c_X8_isTrial (l := l) (D := D) (b := b) e15) (r_cwS X m_655 m_656 m_5 m_657 rfl rfl hd_X8_isTrial ⟨Nat.le_of_ble_eq_true rfl, Nat.le_of_ble_eq_true rfl⟩) (r_preS X B [.int l3, .int l4]) rfl rfl hl.1 rfl (lv_room (by simp [va_cat, cat_i, cat_r, cat_l])) dX8_lost_24 ⟨Nat.zero_le _, Nat.zero_le _⟩) ?_
        intro H locs B
        refine W.cs (cells' := 0) (slots' := 0) rfl rfl (W.eq (g2 := F0 m 27 ls [.int v13]) rfl ?_)
        refine lv_if_ne (tgt := 33) hx hb dX8_lost_27 (by decide) (fun q_ => ?_) (fun q_ => ?_)
        · have hf := (r_ite hf).2 q_
          refine r_aload_n hx hb dX8_lost_33 rfl (lv_at hl 0 rfl) ?_
          refine rcv_inv hf ?_
          intro a19 e20 s21 hf
          refine cal_inv hf ?_
          intro v16 h17 e18 hf
          refine r_call B (va_runV (As := []) (rest := []) X.1 (c_X8_openings (l := l) (D := D) (b := b) e18) (r_cwV X rfl m_658 m_659 m_660 m_5 m_661 rfl rfl hd_X8_openings ⟨Nat.le_of_ble_eq_true rfl, Nat.le_of_ble_eq_true rfl⟩) (r_preV X B s21 rfl []) rfl rfl hl.1 (by rw [e20]; rfl) (lv_room (by simp [va_cat, cat_i, cat_r, cat_l])) dX8_lost_34 ⟨Nat.zero_le _, Nat.zero_le _⟩) ?_
          intro H locs B
          refine W.cs (cells' := 0) (slots' := 0) rfl rfl (W.eq (g2 := F0 m 37 ls []) rfl ?_)
          refine r_aload_n hx hb dX8_lost_37 rfl (lv_at hl 0 rfl) ?_
          refine lv_iload_n hx hb dX8_lost_38 rfl (lv_at hl 3 rfl) ?_
          refine lv_iload hx hb dX8_lost_39 (lv_at hl 4 rfl) ?_
          refine rcv_inv hf ?_
          intro a25 e26 s27 hf
          refine cal_inv hf ?_
          intro v22 h23 e24 hf
          refine r_call B (va_runV (As := [.int l3, .int l4]) (rest := []) X.1 (c_X8_tries (l := l) (D := D) (b := b) e24) (r_cwV X rfl m_662 m_663 m_664 m_5 m_665 rfl rfl hd_X8_tries ⟨Nat.le_of_ble_eq_true rfl, Nat.le_of_ble_eq_true rfl⟩) (r_preV X B s27 rfl [.int l3, .int l4]) rfl rfl hl.1 (by rw [e26]; rfl) (lv_room (by simp [va_cat, cat_i, cat_r, cat_l])) dX8_lost_41 ⟨Nat.zero_le _, Nat.zero_le _⟩) ?_
          intro H locs B
          refine W.cs (cells' := 0) (slots' := 0) rfl rfl (W.eq (g2 := F0 m 44 ls [.int v22]) rfl ?_)
          refine lv_pop hx hb dX8_lost_44 (rfl) ?_
          refine r_aload_n hx hb dX8_lost_45 rfl (lv_at hl 0 rfl) ?_
          refine r_gR X B hf fX8_44 (fun _ _ => rfl) m_149 dX8_lost_46 (fun v28 hf => ?_)
          refine lv_iload_n hx hb dX8_lost_49 rfl (lv_at hl 2 rfl) ?_
          refine r_aIi X B hf dX8_lost_50 (fun v29 hf => ?_)
          refine lv_istore (i := 5) (lv' := [(5, .int v29), (0, va_rf (some l0)), (1, .int l1), (2, .int l2), (3, .int l3), (4, .int l4)]) hx hb dX8_lost_51 hl (by decide) (by first | rfl | simp [va_cat, cat_i, cat_r, cat_l]) (fun ls hl => ?_)
          refine r_aload_n hx hb dX8_lost_53 rfl (lv_at hl 1 rfl) ?_
          refine r_gR X B hf fX8_45 (fun _ _ => rfl) m_150 dX8_lost_54 (fun v30 hf => ?_)
          refine lv_iload_n hx hb dX8_lost_57 rfl (lv_at hl 2 rfl) ?_
          refine lv_iconst (v := 0) hx hb dX8_lost_58 (by decide) ?_
          refine r_sIi X B hf dX8_lost_59 (fun h31 H locs B hf => ?_)
          refine r_aload_n hx hb dX8_lost_60 rfl (lv_at hl 1 rfl) ?_
          refine lv_iload_n hx hb dX8_lost_61 rfl (lv_at hl 4 rfl) ?_
          refine lv_iload hx hb dX8_lost_62 (lv_at hl 5 rfl) ?_
          refine rcv_inv hf ?_
          intro a35 e36 s37 hf
          refine cal_inv hf ?_
          intro v32 h33 e34 hf
          refine r_call B (va_runV (As := [.int l3, .int l4]) (rest := []) X.1 (c_X8_tries (l := l) (D := D) (b := b) e34) (r_cwV X rfl m_662 m_663 m_664 m_5 m_665 rfl rfl hd_X8_tries ⟨Nat.le_of_ble_eq_true rfl, Nat.le_of_ble_eq_true rfl⟩) (r_preV X B s37 rfl [.int l3, .int l4]) rfl rfl hl.1 (by rw [e36]; rfl) (lv_room (by simp [va_cat, cat_i, cat_r, cat_l])) dX8_lost_64 ⟨Nat.zero_le _, Nat.zero_le _⟩) ?_
          intro H locs B
          refine W.cs (cells' := 0) (slots' := 0) rfl rfl (W.eq (g2 := F0 m 67 ls [.int v32]) rfl ?_)
          refine lv_pop hx hb dX8_lost_67 (rfl) ?_
          refine r_aload_n hx hb dX8_lost_68 rfl (lv_at hl 1 rfl) ?_
          refine r_gR X B hf fX8_44 (fun _ _ => rfl) m_149 dX8_lost_69 (fun v38 hf => ?_)
          refine lv_iload_n hx hb dX8_lost_72 rfl (lv_at hl 3 rfl) ?_
          refine r_aIi X B hf dX8_lost_73 (fun v39 hf => ?_)
          refine lv_iload hx hb dX8_lost_74 (lv_at hl 0 rfl) ?_
          refine lv_isub hx hb dX8_lost_76 ?_
          exact r_iret X B hr hk hf dX8_lost_77
        · have hf := (r_ite hf).1 q_
          exact t_X8_lost_30 X hr hk hn  B (lv_sub hl [] rfl) hf
def f_X8_most_179 : Nat → AH → Int32 → Int32 → Int32 → Option (Int32 × AH)
  | 0, _, _, _, _ => none
  | n + 1, h, l2, l8, l9 => if l2 ≤ l9 then rm l8 5 (fun v1 => some ((5 * v1), h)) else dv l8 5 (fun v2 => bd (l9 + 1) (fun v3 => f_X8_most_179 n h l2 v2 v3))
def f_X8_most_161 (k_80 : AH → Nat → Int32 → Int32 → Int32 → Int32 → Int32 → Int32 → Int32 → Int32 → Int32 → Option (Int32 × AH)) (h : AH) (l0 : Nat) (l1 : Int32) (l2 : Int32) (l3 : Int32) (l4 : Int32) (l5 : Int32) (l6 : Int32) (l7 : Int32) (l8 : Int32) (l9 : Int32) : Option (Int32 × AH) := bd (l9 + 1) (fun v4 => k_80 h l0 l1 l2 l3 l4 l5 l6 l7 l8 v4)
def f_X8_most_153 (k_80 : AH → Nat → Int32 → Int32 → Int32 → Int32 → Int32 → Int32 → Int32 → Int32 → Int32 → Option (Int32 × AH)) (h : AH) (l0 : Nat) (l1 : Int32) (l2 : Int32) (l3 : Int32) (l4 : Int32) (l5 : Int32) (l6 : Int32) (l9 : Int32) (l11 : Int32) : Option (Int32 × AH) := f_X8_most_161 k_80 h l0 l1 l2 l3 l4 l5 l6 l11 l9 l9
def f_X8_most_96 (k_80 : AH → Nat → Int32 → Int32 → Int32 → Int32 → Int32 → Int32 → Int32 → Int32 → Int32 → Option (Int32 × AH)) : Nat → AH → Nat → Int32 → Int32 → Int32 → Int32 → Int32 → Int32 → Int32 → Int32 → Int32 → Int32 → Int32 → Option (Int32 × AH)
  | 0, _, _, _, _, _, _, _, _, _, _, _, _, _ => none
  | n + 1, h, l0, l1, l2, l3, l4, l5, l6, l7, l8, l9, l10, l11 => if l11 < 0 then rcv h (some l0) 8 (fun a8 => cal (f_X8_tries h a8 l3 l4) (fun v5 h6 => if l7 = (-1) then f_X8_most_153 k_80 h6 l0 l1 l2 l3 l4 l5 l6 l9 v5 else if l7 < v5 then f_X8_most_153 k_80 h6 l0 l1 l2 l3 l4 l5 l6 l9 v5 else f_X8_most_161 k_80 h6 l0 l1 l2 l3 l4 l5 l6 l7 l8 l9)) else gR h (some l0) 8 45 (fun v11 => rm l10 5 (fun v12 => sI .int h v11 (l1 + l11) (5 * v12) (fun h13 => dv l10 5 (fun v14 => bd (l11 + (-1)) (fun v15 => f_X8_most_96 k_80 n h13 l0 l1 l2 l3 l4 l5 l6 l7 l8 l9 v14 v15)))))
def f_X8_most_80 : Nat → AH → Nat → Int32 → Int32 → Int32 → Int32 → Int32 → Int32 → Int32 → Int32 → Int32 → Option (Int32 × AH)
  | 0, _, _, _, _, _, _, _, _, _, _, _ => none
  | n + 1, h, l0, l1, l2, l3, l4, l5, l6, l7, l8, l9 => if l6 ≤ l9 then if l5 = 0 then some (l7, h) else f_X8_most_179 FU h l2 l8 l5 else bd (l2 - 1) (fun v16 => f_X8_most_96 (f_X8_most_80 n) FU h l0 l1 l2 l3 l4 l5 l6 l7 l8 l9 l9 v16)
def f_X8_most_69 (h : AH) (l0 : Nat) (l1 : Int32) (l2 : Int32) (l3 : Int32) (l4 : Int32) (l5 : Int32) (s0 : Int32) : Option (Int32 × AH) := f_X8_most_80 FU h l0 l1 l2 l3 l4 l5 s0 (-1) 0 0
def f_X8_most_42 (h : AH)  : Option (Int32 × AH) := some ((-1), h)
def f_X8_most (h : AH) (l0 : Nat) (l1 : Int32) (l2 : Int32) (l3 : Int32) (l4 : Int32) (l5 : Int32) : Option (Int32 × AH) := cal (f_X8_isIn h l2 1 3) (fun v17 h18 => if v17 = 0 then f_X8_most_42 h18 else gI h18 (some l0) 8 0 (fun v20 => cal (f_X8_isIn h18 l1 0 (v20 - l2)) (fun v21 h22 => if v21 = 0 then f_X8_most_42 h22 else cal (f_X8_isTrial h22 l3 l4) (fun v24 h25 => if v24 = 0 then f_X8_most_42 h25 else cal (f_X8_isIn h25 l5 0 l2) (fun v27 h28 => if v27 = 0 then f_X8_most_42 h28 else rcv h28 (some l0) 8 (fun a33 => cal (f_X8_openings h28 a33) (fun v30 h31 => if l2 = 1 then f_X8_most_69 h31 l0 l1 l2 l3 l4 l5 5 else if l2 = 2 then f_X8_most_69 h31 l0 l1 l2 l3 l4 l5 25 else f_X8_most_69 h31 l0 l1 l2 l3 l4 l5 125)))))))
set_option maxRecDepth 100000 in
set_option maxHeartbeats 4000000 in
theorem t_X8_most_179 {p : Program} {l : Launch} {e : Env} {s : State} {m : MethodId} {args : Array Value} {below : List Frame} {meth : Method} {c : Code} {D : RG} {b : Nat} {vv : Int32} {hh : AH} (X : r_C p c cX8_most 12 s m args RX8 D b) (hr : meth.sig.returnType = (some .int)) (hk : meth.locks = false) (hn : meth.name = "most") : ∀ (n : Nat) (h : AH) (H : Heap) (locs : List Loc) (ls : Array Slot) (l2 : Int32) (l8 : Int32) (l9 : Int32), r_B D b s h H locs → lv_has ls 12 [(2, .int l2), (8, .int l8), (9, .int l9)] → f_X8_most_179 n h l2 l8 l9 = some (vv, hh) → W p l e ({ frames := 6, cells := 0, slots := 0, locals := 159 } : Room) s m args below meth c H locs 0 0 (MQ below (r_Q D b (some (.int vv)) hh) args s 0 0 (fun q => b ≤ q)) (F0 m 179 ls []) := by
  obtain ⟨⟨hx, hb, hml, hown, hts⟩, -⟩ := id X
  intro n
  induction n with
  | zero =>
    intro h H locs ls l2 l8 l9 B hl hf
    cases hf
  | succ n ih =>
    intro h H locs ls l2 l8 l9 B hl hf
    unfold f_X8_most_179 at hf
    refine lv_iload hx hb dX8_most_179 (lv_at hl 2 rfl) ?_
    refine lv_iload_n hx hb dX8_most_181 rfl (lv_at hl 0 rfl) ?_
    refine lv_icmp_ge (tgt := 197) hx hb dX8_most_182 (by decide) (fun q_ => ?_) (fun q_ => ?_)
    · have hf := (r_ite hf).1 q_
      refine lv_iconst (v := 5) hx hb dX8_most_197 (by decide) ?_
      refine lv_iload hx hb dX8_most_198 (lv_at hl 1 rfl) ?_
      refine lv_iconst (v := 5) hx hb dX8_most_200 (by decide) ?_
      refine r_rem hx hb hf dX8_most_201 (fun v1 hf => ?_)
      refine lv_imul hx hb dX8_most_202 ?_
      exact r_iret X B hr hk hf dX8_most_203
    · have hf := (r_ite hf).2 q_
      refine lv_iload hx hb dX8_most_185 (lv_at hl 1 rfl) ?_
      refine lv_iconst (v := 5) hx hb dX8_most_187 (by decide) ?_
      refine r_div hx hb hf dX8_most_188 (fun v2 hf => ?_)
      refine lv_istore (i := 8) (lv' := [(8, .int v2), (2, .int l2), (9, .int l9)]) hx hb dX8_most_189 hl (by decide) (by first | rfl | simp [va_cat, cat_i, cat_r, cat_l]) (fun ls hl => ?_)
      refine r_iinc (lv' := fun v3 => [(9, .int v3), (8, .int v2), (2, .int l2)]) hx hb hf dX8_most_191 hl (k := 2) rfl (by decide) (by decide) (fun v => by first | rfl | simp [va_cat, cat_i, cat_r, cat_l]) (fun v3 ls hl hf => ?_)
      refine lv_goto (tgt := 179) hx hb dX8_most_194 (by decide) ?_
      exact ih _ _ _ _ _ _ _ B (lv_sub hl [2, 1, 0] rfl) hf
set_option maxRecDepth 100000 in
set_option maxHeartbeats 4000000 in
theorem t_X8_most_161 {p : Program} {l : Launch} {e : Env} {s : State} {m : MethodId} {args : Array Value} {below : List Frame} {meth : Method} {c : Code} {D : RG} {b : Nat} {vv : Int32} {hh : AH} (X : r_C p c cX8_most 12 s m args RX8 D b) (hr : meth.sig.returnType = (some .int)) (hk : meth.locks = false) (hn : meth.name = "most") {k_80 : AH → Nat → Int32 → Int32 → Int32 → Int32 → Int32 → Int32 → Int32 → Int32 → Int32 → Option (Int32 × AH)} (r_80 : ∀ (h : AH) (H : Heap) (locs : List Loc) (ls : Array Slot) (l0 : Nat) (l1 : Int32) (l2 : Int32) (l3 : Int32) (l4 : Int32) (l5 : Int32) (l6 : Int32) (l7 : Int32) (l8 : Int32) (l9 : Int32), r_B D b s h H locs → lv_has ls 12 [(0, va_rf (some l0)), (1, .int l1), (2, .int l2), (3, .int l3), (4, .int l4), (5, .int l5), (6, .int l6), (7, .int l7), (8, .int l8), (9, .int l9)] → k_80 h l0 l1 l2 l3 l4 l5 l6 l7 l8 l9 = some (vv, hh) → W p l e ({ frames := 6, cells := 0, slots := 0, locals := 159 } : Room) s m args below meth c H locs 0 0 (MQ below (r_Q D b (some (.int vv)) hh) args s 0 0 (fun q => b ≤ q)) (F0 m 80 ls [])) {h : AH} {H : Heap} {locs : List Loc} {ls : Array Slot} {l0 : Nat} {l1 : Int32} {l2 : Int32} {l3 : Int32} {l4 : Int32} {l5 : Int32} {l6 : Int32} {l7 : Int32} {l8 : Int32} {l9 : Int32} (B : r_B D b s h H locs) (hl : lv_has ls 12 [(0, va_rf (some l0)), (1, .int l1), (2, .int l2), (3, .int l3), (4, .int l4), (5, .int l5), (6, .int l6), (7, .int l7), (8, .int l8), (9, .int l9)]) (hf : f_X8_most_161 k_80 h l0 l1 l2 l3 l4 l5 l6 l7 l8 l9 = some (vv, hh)) : W p l e ({ frames := 6, cells := 0, slots := 0, locals := 159 } : Room) s m args below meth c H locs 0 0 (MQ below (r_Q D b (some (.int vv)) hh) args s 0 0 (fun q => b ≤ q)) (F0 m 161 ls []) := by
  obtain ⟨⟨hx, hb, hml, hown, hts⟩, -⟩ := id X
  unfold f_X8_most_161 at hf
  refine r_iinc (lv' := fun v4 => [(9, .int v4), (0, va_rf (some l0)), (1, .int l1), (2, .int l2), (3, .int l3), (4, .int l4), (5, .int l5), (6, .int l6), (7, .int l7), (8, .int l8)]) hx hb hf dX8_most_161 hl (k := 9) rfl (by decide) (by decide) (fun v => by first | rfl | simp [va_cat, cat_i, cat_r, cat_l]) (fun v4 ls hl hf => ?_)
  refine lv_goto (tgt := 80) hx hb dX8_most_164 (by decide) ?_
  exact r_80 _ _ _ _ _ _ _ _ _ _ _ _ _ _ B (lv_sub hl [1, 2, 3, 4, 5, 6, 7, 8, 9, 0] rfl) hf
set_option maxRecDepth 100000 in
set_option maxHeartbeats 4000000 in
theorem t_X8_most_153 {p : Program} {l : Launch} {e : Env} {s : State} {m : MethodId} {args : Array Value} {below : List Frame} {meth : Method} {c : Code} {D : RG} {b : Nat} {vv : Int32} {hh : AH} (X : r_C p c cX8_most 12 s m args RX8 D b) (hr : meth.sig.returnType = (some .int)) (hk : meth.locks = false) (hn : meth.name = "most") {k_80 : AH → Nat → Int32 → Int32 → Int32 → Int32 → Int32 → Int32 → Int32 → Int32 → Int32 → Option (Int32 × AH)} (r_80 : ∀ (h : AH) (H : Heap) (locs : List Loc) (ls : Array Slot) (l0 : Nat) (l1 : Int32) (l2 : Int32) (l3 : Int32) (l4 : Int32) (l5 : Int32) (l6 : Int32) (l7 : Int32) (l8 : Int32) (l9 : Int32), r_B D b s h H locs → lv_has ls 12 [(0, va_rf (some l0)), (1, .int l1), (2, .int l2), (3, .int l3), (4, .int l4), (5, .int l5), (6, .int l6), (7, .int l7), (8, .int l8), (9, .int l9)] → k_80 h l0 l1 l2 l3 l4 l5 l6 l7 l8 l9 = some (vv, hh) → W p l e ({ frames := 6, cells := 0, slots := 0, locals := 159 } : Room) s m args below meth c H locs 0 0 (MQ below (r_Q D b (some (.int vv)) hh) args s 0 0 (fun q => b ≤ q)) (F0 m 80 ls [])) {h : AH} {H : Heap} {locs : List Loc} {ls : Array Slot} {l0 : Nat} {l1 : Int32} {l2 : Int32} {l3 : Int32} {l4 : Int32} {l5 : Int32} {l6 : Int32} {l9 : Int32} {l11 : Int32} (B : r_B D b s h H locs) (hl : lv_has ls 12 [(0, va_rf (some l0)), (1, .int l1), (2, .int l2), (3, .int l3), (4, .int l4), (5, .int l5), (6, .int l6), (9, .int l9), (11, .int l11)]) (hf : f_X8_most_153 k_80 h l0 l1 l2 l3 l4 l5 l6 l9 l11 = some (vv, hh)) : W p l e ({ frames := 6, cells := 0, slots := 0, locals := 159 } : Room) s m args below meth c H locs 0 0 (MQ below (r_Q D b (some (.int vv)) hh) args s 0 0 (fun q => b ≤ q)) (F0 m 153 ls []) := by
  obtain ⟨⟨hx, hb, hml, hown, hts⟩, -⟩ := id X
  unfold f_X8_most_153 at hf
  refine lv_iload hx hb dX8_most_153 (lv_at hl 8 rfl) ?_
  refine lv_istore (i := 7) (lv' := [(7, .int l11), (0, va_rf (some l0)), (1, .int l1), (2, .int l2), (3, .int l3), (4, .int l4), (5, .int l5), (6, .int l6), (9, .int l9), (11, .int l11)]) hx hb dX8_most_155 hl (by decide) (by first | rfl | simp [va_cat, cat_i, cat_r, cat_l]) (fun ls hl => ?_)
  refine lv_iload hx hb dX8_most_157 (lv_at hl 8 rfl) ?_
  refine lv_istore (i := 8) (lv' := [(8, .int l9), (7, .int l11), (0, va_rf (some l0)), (1, .int l1), (2, .int l2), (3, .int l3), (4, .int l4), (5, .int l5), (6, .int l6), (9, .int l9), (11, .int l11)]) hx hb dX8_most_159 hl (by decide) (by first | rfl | simp [va_cat, cat_i, cat_r, cat_l]) (fun ls hl => ?_)
  exact t_X8_most_161 X hr hk hn r_80 B (lv_sub hl [2, 3, 4, 5, 6, 7, 8, 1, 0, 9] rfl) hf
set_option maxRecDepth 100000 in
set_option maxHeartbeats 4000000 in
theorem t_X8_most_96 {p : Program} {l : Launch} {e : Env} {s : State} {m : MethodId} {args : Array Value} {below : List Frame} {meth : Method} {c : Code} {D : RG} {b : Nat} {vv : Int32} {hh : AH} (X : r_C p c cX8_most 12 s m args RX8 D b) (hr : meth.sig.returnType = (some .int)) (hk : meth.locks = false) (hn : meth.name = "most") {k_80 : AH → Nat → Int32 → Int32 → Int32 → Int32 → Int32 → Int32 → Int32 → Int32 → Int32 → Option (Int32 × AH)} (r_80 : ∀ (h : AH) (H : Heap) (locs : List Loc) (ls : Array Slot) (l0 : Nat) (l1 : Int32) (l2 : Int32) (l3 : Int32) (l4 : Int32) (l5 : Int32) (l6 : Int32) (l7 : Int32) (l8 : Int32) (l9 : Int32), r_B D b s h H locs → lv_has ls 12 [(0, va_rf (some l0)), (1, .int l1), (2, .int l2), (3, .int l3), (4, .int l4), (5, .int l5), (6, .int l6), (7, .int l7), (8, .int l8), (9, .int l9)] → k_80 h l0 l1 l2 l3 l4 l5 l6 l7 l8 l9 = some (vv, hh) → W p l e ({ frames := 6, cells := 0, slots := 0, locals := 159 } : Room) s m args below meth c H locs 0 0 (MQ below (r_Q D b (some (.int vv)) hh) args s 0 0 (fun q => b ≤ q)) (F0 m 80 ls [])) : ∀ (n : Nat) (h : AH) (H : Heap) (locs : List Loc) (ls : Array Slot) (l0 : Nat) (l1 : Int32) (l2 : Int32) (l3 : Int32) (l4 : Int32) (l5 : Int32) (l6 : Int32) (l7 : Int32) (l8 : Int32) (l9 : Int32) (l10 : Int32) (l11 : Int32), r_B D b s h H locs → lv_has ls 12 [(0, va_rf (some l0)), (1, .int l1), (2, .int l2), (3, .int l3), (4, .int l4), (5, .int l5), (6, .int l6), (7, .int l7), (8, .int l8), (9, .int l9), (10, .int l10), (11, .int l11)] → f_X8_most_96 k_80 n h l0 l1 l2 l3 l4 l5 l6 l7 l8 l9 l10 l11 = some (vv, hh) → W p l e ({ frames := 6, cells := 0, slots := 0, locals := 159 } : Room) s m args below meth c H locs 0 0 (MQ below (r_Q D b (some (.int vv)) hh) args s 0 0 (fun q => b ≤ q)) (F0 m 96 ls []) := by
  obtain ⟨⟨hx, hb, hml, hown, hts⟩, -⟩ := id X
  intro n
  induction n with
  | zero =>
    intro h H locs ls l0 l1 l2 l3 l4 l5 l6 l7 l8 l9 l10 l11 B hl hf
    cases hf
  | succ n ih =>
    intro h H locs ls l0 l1 l2 l3 l4 l5 l6 l7 l8 l9 l10 l11 B hl hf
    unfold f_X8_most_96 at hf
    refine lv_iload hx hb dX8_most_96 (lv_at hl 11 rfl) ?_
    refine lv_if_lt (tgt := 128) hx hb dX8_most_98 (by decide) (fun q_ => ?_) (fun q_ => ?_)
    · have hf := (r_ite hf).1 q_
      refine r_aload_n hx hb dX8_most_128 rfl (lv_at hl 0 rfl) ?_
      refine lv_iload_n hx hb dX8_most_129 rfl (lv_at hl 3 rfl) ?_
      refine lv_iload hx hb dX8_most_130 (lv_at hl 4 rfl) ?_
      refine rcv_inv hf ?_
      intro a8 e9 s10 hf
      refine cal_inv hf ?_
      intro v5 h6 e7 hf
      refine r_call B (va_runV (As := [.int l3, .int l4]) (rest := []) X.1 (c_X8_tries (l := l) (D := D) (b := b) e7) (r_cwV X rfl m_662 m_663 m_664 m_5 m_665 rfl rfl hd_X8_tries ⟨Nat.le_of_ble_eq_true rfl, Nat.le_of_ble_eq_true rfl⟩) (r_preV X B s10 rfl [.int l3, .int l4]) rfl rfl hl.1 (by rw [e9]; rfl) (lv_room (by simp [va_cat, cat_i, cat_r, cat_l])) dX8_most_132 ⟨Nat.zero_le _, Nat.zero_le _⟩) ?_
      intro H locs B
      refine W.cs (cells' := 0) (slots' := 0) rfl rfl (W.eq (g2 := F0 m 135 ls [.int v5]) rfl ?_)
      refine lv_istore (i := 11) (lv' := [(11, .int v5), (0, va_rf (some l0)), (1, .int l1), (2, .int l2), (3, .int l3), (4, .int l4), (5, .int l5), (6, .int l6), (7, .int l7), (8, .int l8), (9, .int l9), (10, .int l10)]) hx hb dX8_most_135 hl (by decide) (by first | rfl | simp [va_cat, cat_i, cat_r, cat_l]) (fun ls hl => ?_)
      refine lv_iload hx hb dX8_most_137 (lv_at hl 8 rfl) ?_
      refine lv_iconst (v := (-1)) hx hb dX8_most_139 (by decide) ?_
      refine lv_icmp_eq (tgt := 153) hx hb dX8_most_140 (by decide) (fun q_ => ?_) (fun q_ => ?_)
      · have hf := (r_ite hf).1 q_
        exact t_X8_most_153 X hr hk hn r_80 B (lv_sub hl [1, 2, 3, 4, 5, 6, 7, 10, 0] rfl) hf
      · have hf := (r_ite hf).2 q_
        refine lv_iload hx hb dX8_most_143 (lv_at hl 0 rfl) ?_
        refine lv_iload hx hb dX8_most_145 (lv_at hl 8 rfl) ?_
        refine lv_icmp_gt (tgt := 153) hx hb dX8_most_147 (by decide) (fun q_ => ?_) (fun q_ => ?_)
        · have hf := (r_ite hf).1 q_
          exact t_X8_most_153 X hr hk hn r_80 B (lv_sub hl [1, 2, 3, 4, 5, 6, 7, 10, 0] rfl) hf
        · have hf := (r_ite hf).2 q_
          refine lv_goto (tgt := 161) hx hb dX8_most_150 (by decide) ?_
          exact t_X8_most_161 X hr hk hn r_80 B (lv_sub hl [1, 2, 3, 4, 5, 6, 7, 8, 9, 10] rfl) hf
    · have hf := (r_ite hf).2 q_
      refine r_aload_n hx hb dX8_most_101 rfl (lv_at hl 0 rfl) ?_
      refine r_gR X B hf fX8_45 (fun _ _ => rfl) m_150 dX8_most_102 (fun v11 hf => ?_)
      refine lv_iload_n hx hb dX8_most_105 rfl (lv_at hl 1 rfl) ?_
      refine lv_iload hx hb dX8_most_106 (lv_at hl 11 rfl) ?_
      refine lv_iadd hx hb dX8_most_108 ?_
      refine lv_iconst (v := 5) hx hb dX8_most_109 (by decide) ?_
      refine lv_iload hx hb dX8_most_110 (lv_at hl 10 rfl) ?_
      refine lv_iconst (v := 5) hx hb dX8_most_112 (by decide) ?_
      refine r_rem hx hb hf dX8_most_113 (fun v12 hf => ?_)
      refine lv_imul hx hb dX8_most_114 ?_
      refine r_sIi X B hf dX8_most_115 (fun h13 H locs B hf => ?_)
      refine lv_iload hx hb dX8_most_116 (lv_at hl 10 rfl) ?_
      refine lv_iconst (v := 5) hx hb dX8_most_118 (by decide) ?_
      refine r_div hx hb hf dX8_most_119 (fun v14 hf => ?_)
      refine lv_istore (i := 10) (lv' := [(10, .int v14), (0, va_rf (some l0)), (1, .int l1), (2, .int l2), (3, .int l3), (4, .int l4), (5, .int l5), (6, .int l6), (7, .int l7), (8, .int l8), (9, .int l9), (11, .int l11)]) hx hb dX8_most_120 hl (by decide) (by first | rfl | simp [va_cat, cat_i, cat_r, cat_l]) (fun ls hl => ?_)
      refine r_iinc (lv' := fun v15 => [(11, .int v15), (10, .int v14), (0, va_rf (some l0)), (1, .int l1), (2, .int l2), (3, .int l3), (4, .int l4), (5, .int l5), (6, .int l6), (7, .int l7), (8, .int l8), (9, .int l9)]) hx hb hf dX8_most_122 hl (k := 11) rfl (by decide) (by decide) (fun v => by first | rfl | simp [va_cat, cat_i, cat_r, cat_l]) (fun v15 ls hl hf => ?_)
      refine lv_goto (tgt := 96) hx hb dX8_most_125 (by decide) ?_
      exact ih _ _ _ _ _ _ _ _ _ _ _ _ _ _ _ _ B (lv_sub hl [2, 3, 4, 5, 6, 7, 8, 9, 10, 11, 1, 0] rfl) hf
set_option maxRecDepth 100000 in
set_option maxHeartbeats 4000000 in
theorem t_X8_most_80 {p : Program} {l : Launch} {e : Env} {s : State} {m : MethodId} {args : Array Value} {below : List Frame} {meth : Method} {c : Code} {D : RG} {b : Nat} {vv : Int32} {hh : AH} (X : r_C p c cX8_most 12 s m args RX8 D b) (hr : meth.sig.returnType = (some .int)) (hk : meth.locks = false) (hn : meth.name = "most") : ∀ (n : Nat) (h : AH) (H : Heap) (locs : List Loc) (ls : Array Slot) (l0 : Nat) (l1 : Int32) (l2 : Int32) (l3 : Int32) (l4 : Int32) (l5 : Int32) (l6 : Int32) (l7 : Int32) (l8 : Int32) (l9 : Int32), r_B D b s h H locs → lv_has ls 12 [(0, va_rf (some l0)), (1, .int l1), (2, .int l2), (3, .int l3), (4, .int l4), (5, .int l5), (6, .int l6), (7, .int l7), (8, .int l8), (9, .int l9)] → f_X8_most_80 n h l0 l1 l2 l3 l4 l5 l6 l7 l8 l9 = some (vv, hh) → W p l e ({ frames := 6, cells := 0, slots := 0, locals := 159 } : Room) s m args below meth c H locs 0 0 (MQ below (r_Q D b (some (.int vv)) hh) args s 0 0 (fun q => b ≤ q)) (F0 m 80 ls []) := by
  obtain ⟨⟨hx, hb, hml, hown, hts⟩, -⟩ := id X
  intro n
  induction n with
  | zero =>
    intro h H locs ls l0 l1 l2 l3 l4 l5 l6 l7 l8 l9 B hl hf
    cases hf
  | succ n ih =>
    intro h H locs ls l0 l1 l2 l3 l4 l5 l6 l7 l8 l9 B hl hf
    unfold f_X8_most_80 at hf
    refine lv_iload hx hb dX8_most_80 (lv_at hl 9 rfl) ?_
    refine lv_iload hx hb dX8_most_82 (lv_at hl 6 rfl) ?_
    refine lv_icmp_ge (tgt := 167) hx hb dX8_most_84 (by decide) (fun q_ => ?_) (fun q_ => ?_)
    · have hf := (r_ite hf).1 q_
      refine lv_iload hx hb dX8_most_167 (lv_at hl 5 rfl) ?_
      refine lv_if_ne (tgt := 175) hx hb dX8_most_169 (by decide) (fun q_ => ?_) (fun q_ => ?_)
      · have hf := (r_ite hf).2 q_
        refine lv_iload hx hb dX8_most_175 (lv_at hl 5 rfl) ?_
        refine lv_istore (i := 9) (lv' := [(9, .int l5), (0, va_rf (some l0)), (1, .int l1), (2, .int l2), (3, .int l3), (4, .int l4), (5, .int l5), (6, .int l6), (7, .int l7), (8, .int l8)]) hx hb dX8_most_177 hl (by decide) (by first | rfl | simp [va_cat, cat_i, cat_r, cat_l]) (fun ls hl => ?_)
        exact t_X8_most_179 X hr hk hn  _ _ _ _ _ _ _ _ B (lv_sub hl [3, 9, 0] rfl) hf
      · have hf := (r_ite hf).1 q_
        refine lv_iload hx hb dX8_most_172 (lv_at hl 7 rfl) ?_
        exact r_iret X B hr hk hf dX8_most_174
    · have hf := (r_ite hf).2 q_
      refine lv_iload hx hb dX8_most_87 (lv_at hl 9 rfl) ?_
      refine lv_istore (i := 10) (lv' := [(10, .int l9), (0, va_rf (some l0)), (1, .int l1), (2, .int l2), (3, .int l3), (4, .int l4), (5, .int l5), (6, .int l6), (7, .int l7), (8, .int l8), (9, .int l9)]) hx hb dX8_most_89 hl (by decide) (by first | rfl | simp [va_cat, cat_i, cat_r, cat_l]) (fun ls hl => ?_)
      refine lv_iload_n hx hb dX8_most_91 rfl (lv_at hl 3 rfl) ?_
      refine lv_iconst (v := 1) hx hb dX8_most_92 (by decide) ?_
      refine lv_isub hx hb dX8_most_93 ?_
      refine r_bd hf (fun v16 hf => ?_)
      refine lv_istore (i := 11) (lv' := [(11, .int v16), (10, .int l9), (0, va_rf (some l0)), (1, .int l1), (2, .int l2), (3, .int l3), (4, .int l4), (5, .int l5), (6, .int l6), (7, .int l7), (8, .int l8), (9, .int l9)]) hx hb dX8_most_94 hl (by decide) (by first | rfl | simp [va_cat, cat_i, cat_r, cat_l]) (fun ls hl => ?_)
      exact t_X8_most_96 X hr hk hn ih _ _ _ _ _ _ _ _ _ _ _ _ _ _ _ _ _ B (lv_sub hl [2, 3, 4, 5, 6, 7, 8, 9, 10, 11, 1, 0] rfl) hf
set_option maxRecDepth 100000 in
set_option maxHeartbeats 4000000 in
theorem t_X8_most_69 {p : Program} {l : Launch} {e : Env} {s : State} {m : MethodId} {args : Array Value} {below : List Frame} {meth : Method} {c : Code} {D : RG} {b : Nat} {vv : Int32} {hh : AH} (X : r_C p c cX8_most 12 s m args RX8 D b) (hr : meth.sig.returnType = (some .int)) (hk : meth.locks = false) (hn : meth.name = "most") {h : AH} {H : Heap} {locs : List Loc} {ls : Array Slot} {l0 : Nat} {l1 : Int32} {l2 : Int32} {l3 : Int32} {l4 : Int32} {l5 : Int32} {s0 : Int32} (B : r_B D b s h H locs) (hl : lv_has ls 12 [(0, va_rf (some l0)), (1, .int l1), (2, .int l2), (3, .int l3), (4, .int l4), (5, .int l5)]) (hf : f_X8_most_69 h l0 l1 l2 l3 l4 l5 s0 = some (vv, hh)) : W p l e ({ frames := 6, cells := 0, slots := 0, locals := 159 } : Room) s m args below meth c H locs 0 0 (MQ below (r_Q D b (some (.int vv)) hh) args s 0 0 (fun q => b ≤ q)) (F0 m 69 ls [.int s0]) := by
  obtain ⟨⟨hx, hb, hml, hown, hts⟩, -⟩ := id X
  unfold f_X8_most_69 at hf
  refine lv_istore (i := 6) (lv' := [(6, .int s0), (0, va_rf (some l0)), (1, .int l1), (2, .int l2), (3, .int l3), (4, .int l4), (5, .int l5)]) hx hb dX8_most_69 hl (by decide) (by first | rfl | simp [va_cat, cat_i, cat_r, cat_l]) (fun ls hl => ?_)
  refine lv_iconst (v := (-1)) hx hb dX8_most_71 (by decide) ?_
  refine lv_istore (i := 7) (lv' := [(7, .int (-1)), (6, .int s0), (0, va_rf (some l0)), (1, .int l1), (2, .int l2), (3, .int l3), (4, .int l4), (5, .int l5)]) hx hb dX8_most_72 hl (by decide) (by first | rfl | simp [va_cat, cat_i, cat_r, cat_l]) (fun ls hl => ?_)
  refine lv_iconst (v := 0) hx hb dX8_most_74 (by decide) ?_
  refine lv_istore (i := 8) (lv' := [(8, .int 0), (7, .int (-1)), (6, .int s0), (0, va_rf (some l0)), (1, .int l1), (2, .int l2), (3, .int l3), (4, .int l4), (5, .int l5)]) hx hb dX8_most_75 hl (by decide) (by first | rfl | simp [va_cat, cat_i, cat_r, cat_l]) (fun ls hl => ?_)
  refine lv_iconst (v := 0) hx hb dX8_most_77 (by decide) ?_
  refine lv_istore (i := 9) (lv' := [(9, .int 0), (8, .int 0), (7, .int (-1)), (6, .int s0), (0, va_rf (some l0)), (1, .int l1), (2, .int l2), (3, .int l3), (4, .int l4), (5, .int l5)]) hx hb dX8_most_78 hl (by decide) (by first | rfl | simp [va_cat, cat_i, cat_r, cat_l]) (fun ls hl => ?_)
  exact t_X8_most_80 X hr hk hn  _ _ _ _ _ _ _ _ _ _ _ _ _ _ _ B (lv_sub hl [4, 5, 6, 7, 8, 9, 3, 2, 1, 0] rfl) hf
set_option maxRecDepth 100000 in
set_option maxHeartbeats 4000000 in
theorem t_X8_most_42 {p : Program} {l : Launch} {e : Env} {s : State} {m : MethodId} {args : Array Value} {below : List Frame} {meth : Method} {c : Code} {D : RG} {b : Nat} {vv : Int32} {hh : AH} (X : r_C p c cX8_most 12 s m args RX8 D b) (hr : meth.sig.returnType = (some .int)) (hk : meth.locks = false) (hn : meth.name = "most") {h : AH} {H : Heap} {locs : List Loc} {ls : Array Slot}  (B : r_B D b s h H locs) (hl : lv_has ls 12 []) (hf : f_X8_most_42 h  = some (vv, hh)) : W p l e ({ frames := 6, cells := 0, slots := 0, locals := 159 } : Room) s m args below meth c H locs 0 0 (MQ below (r_Q D b (some (.int vv)) hh) args s 0 0 (fun q => b ≤ q)) (F0 m 42 ls []) := by
  obtain ⟨⟨hx, hb, hml, hown, hts⟩, -⟩ := id X
  unfold f_X8_most_42 at hf
  refine lv_iconst (v := (-1)) hx hb dX8_most_42 (by decide) ?_
  exact r_iret X B hr hk hf dX8_most_43
set_option maxRecDepth 100000 in
set_option maxHeartbeats 4000000 in
theorem c_X8_most {l : Launch} {D : RG} {b : Nat} {h : AH} {l0 : Nat} {l1 : Int32} {l2 : Int32} {l3 : Int32} {l4 : Int32} {l5 : Int32} {vv : Int32} {hh : AH} (hf : f_X8_most h l0 l1 l2 l3 l4 l5 = some (vv, hh)) : Met l yX8_most (Cond.code yX8_most cX8_most 12 (some .int) :: wsL_law) ({ frames := 6, cells := 0, slots := 0, locals := 159 } : Room) (va_Pc [.ref l0, .int l1, .int l2, .int l3, .int l4, .int l5] (r_I D b h)) (r_Q D b (some (.int vv)) hh) 0 0 (fun q => b ≤ q) := by
  refine r_ofW (own := RX8) rfl (by decide +kernel) (by simp [lg_sl, va_cat, cat_i, cat_r, cat_l]) ?_
  intro p e s m args below meth c ls X B hr hk hn hl
  have hl : lv_has ls 12 [(0, .ref l0), (1, .int l1), (2, .int l2), (3, .int l3), (4, .int l4), (5, .int l5)] := by simpa [lv_args, va_cat, cat_i, cat_r, cat_l] using hl
  have hl : lv_has ls 12 [(0, va_rf (some l0)), (1, .int l1), (2, .int l2), (3, .int l3), (4, .int l4), (5, .int l5)] := hl
  obtain ⟨⟨hx, hb, hml, hown, hts⟩, -⟩ := id X
  generalize s.heap = H at B ⊢
  generalize ([] : List Loc) = locs at B ⊢
  unfold f_X8_most at hf
  refine lv_iload_n hx hb dX8_most_0 rfl (lv_at hl 2 rfl) ?_
  refine lv_iconst (v := 1) hx hb dX8_most_1 (by decide) ?_
  refine lv_iconst (v := 3) hx hb dX8_most_2 (by decide) ?_
  refine cal_inv hf ?_
  intro v17 h18 e19 hf
  refine r_call B (va_runS (As := [.int l2, .int 1, .int 3]) (rest := []) X.1 (c_X8_isIn (l := l) (D := D) (b := b) e19) (r_cwS X m_178 m_179 m_5 m_180 rfl rfl hd_X8_isIn ⟨Nat.le_of_ble_eq_true rfl, Nat.le_of_ble_eq_true rfl⟩) (r_preS X B [.int l2, .int 1, .int 3]) rfl rfl hl.1 rfl (lv_room (by simp [va_cat, cat_i, cat_r, cat_l])) dX8_most_3 ⟨Nat.zero_le _, Nat.zero_le _⟩) ?_
  intro H locs B
  refine W.cs (cells' := 0) (slots' := 0) rfl rfl (W.eq (g2 := F0 m 6 ls [.int v17]) rfl ?_)
  refine lv_if_eq (tgt := 42) hx hb dX8_most_6 (by decide) (fun q_ => ?_) (fun q_ => ?_)
  · have hf := (r_ite hf).1 q_
    exact t_X8_most_42 X hr hk hn  B (lv_sub hl [] rfl) hf
  · have hf := (r_ite hf).2 q_
    refine lv_iload_n hx hb dX8_most_9 rfl (lv_at hl 1 rfl) ?_
    refine lv_iconst (v := 0) hx hb dX8_most_10 (by decide) ?_
    refine r_aload_n hx hb dX8_most_11 rfl (lv_at hl 0 rfl) ?_
    refine r_gI X B hf fX8_0 (fun _ _ => rfl) m_154 dX8_most_12 (fun v20 hf => ?_)
    refine lv_iload_n hx hb dX8_most_15 rfl (lv_at hl 2 rfl) ?_
    refine lv_isub hx hb dX8_most_16 ?_
    refine cal_inv hf ?_
    intro v21 h22 e23 hf
    refine r_call B (va_runS (As := [.int l1, .int 0, .int (v20 - l2)]) (rest := []) X.1 (c_X8_isIn (l := l) (D := D) (b := b) e23) (r_cwS X m_178 m_179 m_5 m_180 rfl rfl hd_X8_isIn ⟨Nat.le_of_ble_eq_true rfl, Nat.le_of_ble_eq_true rfl⟩) (r_preS X B [.int l1, .int 0, .int (v20 - l2)]) rfl rfl hl.1 rfl (lv_room (by simp [va_cat, cat_i, cat_r, cat_l])) dX8_most_17 ⟨Nat.zero_le _, Nat.zero_le _⟩) ?_
    intro H locs B
    refine W.cs (cells' := 0) (slots' := 0) rfl rfl (W.eq (g2 := F0 m 20 ls [.int v21]) rfl ?_)
    refine lv_if_eq (tgt := 42) hx hb dX8_most_20 (by decide) (fun q_ => ?_) (fun q_ => ?_)
    · have hf := (r_ite hf).1 q_
      exact t_X8_most_42 X hr hk hn  B (lv_sub hl [] rfl) hf
    · have hf := (r_ite hf).2 q_
      refine lv_iload_n hx hb dX8_most_23 rfl (lv_at hl 3 rfl) ?_
      refine lv_iload hx hb dX8_most_24 (lv_at hl 4 rfl) ?_
      refine cal_inv hf ?_
      intro v24 h25 e26 hf
      refine r_call B (va_runS (As := [.int l3, .int l4]) (rest := []) X.1 (c_X8_isTrial (l := l) (D := D) (b := b) e26) (r_cwS X m_655 m_656 m_5 m_657 rfl rfl hd_X8_isTrial ⟨Nat.le_of_ble_eq_true rfl, Nat.le_of_ble_eq_true rfl⟩) (r_preS X B [.int l3, .int l4]) rfl rfl hl.1 rfl (lv_room (by simp [va_cat, cat_i, cat_r, cat_l])) dX8_most_26 ⟨Nat.zero_le _, Nat.zero_le _⟩) ?_
      intro H locs B
      refine W.cs (cells' := 0) (slots' := 0) rfl rfl (W.eq (g2 := F0 m 29 ls [.int v24]) rfl ?_)
      refine lv_if_eq (tgt := 42) hx hb dX8_most_29 (by decide) (fun q_ => ?_) (fun q_ => ?_)
      · have hf := (r_ite hf).1 q_
        exact t_X8_most_42 X hr hk hn  B (lv_sub hl [] rfl) hf
      · have hf := (r_ite hf).2 q_
        refine lv_iload hx hb dX8_most_32 (lv_at hl 5 rfl) ?_
        refine lv_iconst (v := 0) hx hb dX8_most_34 (by decide) ?_
        refine lv_iload_n hx hb dX8_most_35 rfl (lv_at hl 2 rfl) ?_
        refine cal_inv hf ?_
        intro v27 h28 e29 hf
        refine r_call B (va_runS (As := [.int l5, .int 0, .int l2]) (rest := []) X.1 (c_X8_isIn (l := l) (D := D) (b := b) e29) (r_cwS X m_178 m_179 m_5 m_180 rfl rfl hd_X8_isIn ⟨Nat.le_of_ble_eq_true rfl, Nat.le_of_ble_eq_true rfl⟩) (r_preS X B [.int l5, .int 0, .int l2]) rfl rfl hl.1 rfl (lv_room (by simp [va_cat, cat_i, cat_r, cat_l])) dX8_most_36 ⟨Nat.zero_le _, Nat.zero_le _⟩) ?_
        intro H locs B
        refine W.cs (cells' := 0) (slots' := 0) rfl rfl (W.eq (g2 := F0 m 39 ls [.int v27]) rfl ?_)
        refine lv_if_ne (tgt := 44) hx hb dX8_most_39 (by decide) (fun q_ => ?_) (fun q_ => ?_)
        · have hf := (r_ite hf).2 q_
          refine r_aload_n hx hb dX8_most_44 rfl (lv_at hl 0 rfl) ?_
          refine rcv_inv hf ?_
          intro a33 e34 s35 hf
          refine cal_inv hf ?_
          intro v30 h31 e32 hf
          refine r_call B (va_runV (As := []) (rest := []) X.1 (c_X8_openings (l := l) (D := D) (b := b) e32) (r_cwV X rfl m_658 m_659 m_660 m_5 m_661 rfl rfl hd_X8_openings ⟨Nat.le_of_ble_eq_true rfl, Nat.le_of_ble_eq_true rfl⟩) (r_preV X B s35 rfl []) rfl rfl hl.1 (by rw [e34]; rfl) (lv_room (by simp [va_cat, cat_i, cat_r, cat_l])) dX8_most_45 ⟨Nat.zero_le _, Nat.zero_le _⟩) ?_
          intro H locs B
          refine W.cs (cells' := 0) (slots' := 0) rfl rfl (W.eq (g2 := F0 m 48 ls []) rfl ?_)
          refine lv_iload_n hx hb dX8_most_48 rfl (lv_at hl 2 rfl) ?_
          refine lv_iconst (v := 1) hx hb dX8_most_49 (by decide) ?_
          refine lv_icmp_ne (tgt := 57) hx hb dX8_most_50 (by decide) (fun q_ => ?_) (fun q_ => ?_)
          · have hf := (r_ite hf).2 q_
            refine lv_iload_n hx hb dX8_most_57 rfl (lv_at hl 2 rfl) ?_
            refine lv_iconst (v := 2) hx hb dX8_most_58 (by decide) ?_
            refine lv_icmp_ne (tgt := 67) hx hb dX8_most_59 (by decide) (fun q_ => ?_) (fun q_ => ?_)
            · have hf := (r_ite hf).2 q_
              refine lv_bipush (v := 125) hx hb dX8_most_67 (by decide) ?_
              exact t_X8_most_69 X hr hk hn  B (lv_sub hl [0, 1, 2, 3, 4, 5] rfl) hf
            · have hf := (r_ite hf).1 q_
              refine lv_bipush (v := 25) hx hb dX8_most_62 (by decide) ?_
              refine lv_goto (tgt := 69) hx hb dX8_most_64 (by decide) ?_
              exact t_X8_most_69 X hr hk hn  B (lv_sub hl [0, 1, 2, 3, 4, 5] rfl) hf
          · have hf := (r_ite hf).1 q_
            refine lv_iconst (v := 5) hx hb dX8_most_53 (by decide) ?_
            refine lv_goto (tgt := 69) hx hb dX8_most_54 (by decide) ?_
            exact t_X8_most_69 X hr hk hn  B (lv_sub hl [0, 1, 2, 3, 4, 5] rfl) hf
        · have hf := (r_ite hf).1 q_
          exact t_X8_most_42 X hr hk hn  B (lv_sub hl [] rfl) hf
