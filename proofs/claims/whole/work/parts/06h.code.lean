def f_X8_takes (h : AH) (l0 : Nat) (l1 : Int64) : Option (Int32 × AH) := rcv h (some l0) 8 (fun a4 => cal (f_X8_word h a4) (fun v1 h2 => if (lg_cmp v1 l1) = 0 then gI h2 (some l0) 8 39 (fun v7 => pI h2 (some l0) 8 34 v7 (fun h8 => rZ 1 h8)) else rZ 0 h2))
set_option maxRecDepth 100000 in
set_option maxHeartbeats 4000000 in
theorem c_X8_takes {l : Launch} {D : RG} {b : Nat} {h : AH} {l0 : Nat} {l1 : Int64} {vv : Int32} {hh : AH} (hf : f_X8_takes h l0 l1 = some (vv, hh)) : Met l yX8_takes (Cond.code yX8_takes cX8_takes 3 (some .boolean) :: wsL_law) ({ frames := 2, cells := 0, slots := 0, locals := 42 } : Room) (va_Pc [.ref l0, .long l1] (r_I D b h)) (r_Q D b (some (.int vv)) hh) 0 0 (fun q => b ≤ q) := by
  refine r_ofW (own := RX8) rfl (by decide +kernel) (by simp [lg_sl, va_cat, cat_i, cat_r, cat_l]) ?_
  intro p e s m args below meth c ls X B hr hk hn hl
  have hl : lv_has ls 3 [(0, .ref l0), (1, .long l1)] := by simpa [lv_args, va_cat, cat_i, cat_r, cat_l] using hl
  have hl : lv_has ls 3 [(0, va_rf (some l0)), (1, .long l1)] := hl
  obtain ⟨⟨hx, hb, hml, hown, hts⟩, -⟩ := id X
  generalize s.heap = H at B ⊢
  generalize ([] : List Loc) = locs at B ⊢
  unfold f_X8_takes at hf
  refine r_aload_n hx hb dX8_takes_0 rfl (lv_at hl 0 rfl) ?_
  refine rcv_inv hf ?_
  intro a4 e5 s6 hf
  refine cal_inv hf ?_
  intro v1 h2 e3 hf
  refine r_call B (va_runV (As := []) (rest := []) X.1 (c_X8_word (l := l) (D := D) (b := b) e3) (r_cwV X rfl m_440 m_441 m_442 m_5 m_443 rfl rfl hd_X8_word ⟨Nat.le_of_ble_eq_true rfl, Nat.le_of_ble_eq_true rfl⟩) (r_preV X B s6 rfl []) rfl rfl hl.1 (by rw [e5]; rfl) (lv_room (by simp [va_cat, cat_i, cat_r, cat_l])) dX8_takes_1 ⟨Nat.zero_le _, Nat.zero_le _⟩) ?_
  intro H locs B
  refine W.cs (cells' := 0) (slots' := 0) rfl rfl (W.eq (g2 := F0 m 4 ls [.long v1]) rfl ?_)
  refine lv_lload_n hx hb dX8_takes_4 rfl (lv_at hl 1 rfl) ?_
  refine W.lcmp hx hb dX8_takes_5 ?_
  refine lv_if_eq (tgt := 11) hx hb dX8_takes_6 (by decide) (fun q_ => ?_) (fun q_ => ?_)
  · have hf := (r_ite hf).1 q_
    refine r_aload_n hx hb dX8_takes_11 rfl (lv_at hl 0 rfl) ?_
    refine r_aload_n hx hb dX8_takes_12 rfl (lv_at hl 0 rfl) ?_
    refine r_gI X B hf fX8_39 (fun _ _ => rfl) m_439 dX8_takes_13 (fun v7 hf => ?_)
    refine r_pI X B hf fX8_34 (Or.inl rfl) m_418 dX8_takes_16 (fun h8 H locs B hf => ?_)
    refine lv_iconst (v := 1) hx hb dX8_takes_19 (by decide) ?_
    exact r_zret X B hr hk hf dX8_takes_20
  · have hf := (r_ite hf).2 q_
    refine lv_iconst (v := 0) hx hb dX8_takes_9 (by decide) ?_
    exact r_zret X B hr hk hf dX8_takes_10
def f_X8_takesNumber_99 (h : AH)  : Option (Int32 × AH) := rZ 0 h
def f_X8_takesNumber_81 (h : AH) (l0 : Nat) (l1 : Int32) : Option (Int32 × AH) := gI h (some l0) 8 34 (fun v1 => if l1 = v1 then f_X8_takesNumber_99 h else gI h (some l0) 8 34 (fun v2 => if (l1 - v2) ≤ 3 then pI h (some l0) 8 34 l1 (fun h3 => rZ 1 h3) else f_X8_takesNumber_99 h))
def f_X8_takesNumber_75 (k_14 : AH → Nat → Int32 → Option (Int32 × AH)) (h : AH) (l0 : Nat) (l1 : Int32) : Option (Int32 × AH) := bd (l1 + 1) (fun v4 => k_14 h l0 v4)
def f_X8_takesNumber_14 : Nat → AH → Nat → Int32 → Option (Int32 × AH)
  | 0, _, _, _ => none
  | n + 1, h, l0, l1 => gI h (some l0) 8 35 (fun v5 => if v5 ≤ l1 then f_X8_takesNumber_81 h l0 l1 else gR h (some l0) 8 32 (fun v6 => aI .byte h v6 l1 (fun v7 => if v7 < 48 then f_X8_takesNumber_81 h l0 l1 else gR h (some l0) 8 32 (fun v8 => aI .byte h v8 l1 (fun v9 => if 57 < v9 then f_X8_takesNumber_81 h l0 l1 else gI h (some l0) 8 34 (fun v10 => if 3 ≤ (l1 - v10) then f_X8_takesNumber_75 (f_X8_takesNumber_14 n) h l0 l1 else gI h (some l0) 8 40 (fun v11 => gR h (some l0) 8 32 (fun v12 => aI .byte h v12 l1 (fun v13 => pI h (some l0) 8 40 (((10 * v11) + v13) - 48) (fun h14 => f_X8_takesNumber_75 (f_X8_takesNumber_14 n) h14 l0 l1))))))))))
def f_X8_takesNumber (h : AH) (l0 : Nat) : Option (Int32 × AH) := rcv h (some l0) 8 (fun a18 => cal (f_X8_blanks h a18) (fun v15 h16 => gI h16 (some l0) 8 34 (fun v21 => pI h16 (some l0) 8 40 0 (fun h22 => f_X8_takesNumber_14 FU h22 l0 v21))))
set_option maxRecDepth 100000 in
set_option maxHeartbeats 4000000 in
theorem t_X8_takesNumber_99 {p : Program} {l : Launch} {e : Env} {s : State} {m : MethodId} {args : Array Value} {below : List Frame} {meth : Method} {c : Code} {D : RG} {b : Nat} {vv : Int32} {hh : AH} (X : r_C p c cX8_takesNumber 2 s m args RX8 D b) (hr : meth.sig.returnType = (some .boolean)) (hk : meth.locks = false) (hn : meth.name = "takesNumber") {h : AH} {H : Heap} {locs : List Loc} {ls : Array Slot}  (B : r_B D b s h H locs) (hl : lv_has ls 2 []) (hf : f_X8_takesNumber_99 h  = some (vv, hh)) : W p l e ({ frames := 1, cells := 0, slots := 0, locals := 20 } : Room) s m args below meth c H locs 0 0 (MQ below (r_Q D b (some (.int vv)) hh) args s 0 0 (fun q => b ≤ q)) (F0 m 99 ls []) := by
  obtain ⟨⟨hx, hb, hml, hown, hts⟩, -⟩ := id X
  unfold f_X8_takesNumber_99 at hf
  refine lv_iconst (v := 0) hx hb dX8_takesNumber_99 (by decide) ?_
  exact r_zret X B hr hk hf dX8_takesNumber_100
set_option maxRecDepth 100000 in
set_option maxHeartbeats 4000000 in
theorem t_X8_takesNumber_81 {p : Program} {l : Launch} {e : Env} {s : State} {m : MethodId} {args : Array Value} {below : List Frame} {meth : Method} {c : Code} {D : RG} {b : Nat} {vv : Int32} {hh : AH} (X : r_C p c cX8_takesNumber 2 s m args RX8 D b) (hr : meth.sig.returnType = (some .boolean)) (hk : meth.locks = false) (hn : meth.name = "takesNumber") {h : AH} {H : Heap} {locs : List Loc} {ls : Array Slot} {l0 : Nat} {l1 : Int32} (B : r_B D b s h H locs) (hl : lv_has ls 2 [(0, va_rf (some l0)), (1, .int l1)]) (hf : f_X8_takesNumber_81 h l0 l1 = some (vv, hh)) : W p l e ({ frames := 1, cells := 0, slots := 0, locals := 20 } : Room) s m args below meth c H locs 0 0 (MQ below (r_Q D b (some (.int vv)) hh) args s 0 0 (fun q => b ≤ q)) (F0 m 81 ls []) := by
  obtain ⟨⟨hx, hb, hml, hown, hts⟩, -⟩ := id X
  unfold f_X8_takesNumber_81 at hf
  refine lv_iload_n hx hb dX8_takesNumber_81 rfl (lv_at hl 1 rfl) ?_
  refine r_aload_n hx hb dX8_takesNumber_82 rfl (lv_at hl 0 rfl) ?_
  refine r_gI X B hf fX8_34 (fun _ _ => rfl) m_418 dX8_takesNumber_83 (fun v1 hf => ?_)
  refine lv_icmp_eq (tgt := 99) hx hb dX8_takesNumber_86 (by decide) (fun q_ => ?_) (fun q_ => ?_)
  · have hf := (r_ite hf).1 q_
    exact t_X8_takesNumber_99 X hr hk hn  B (lv_sub hl [] rfl) hf
  · have hf := (r_ite hf).2 q_
    refine lv_iload_n hx hb dX8_takesNumber_89 rfl (lv_at hl 1 rfl) ?_
    refine r_aload_n hx hb dX8_takesNumber_90 rfl (lv_at hl 0 rfl) ?_
    refine r_gI X B hf fX8_34 (fun _ _ => rfl) m_418 dX8_takesNumber_91 (fun v2 hf => ?_)
    refine lv_isub hx hb dX8_takesNumber_94 ?_
    refine lv_iconst (v := 3) hx hb dX8_takesNumber_95 (by decide) ?_
    refine lv_icmp_le (tgt := 101) hx hb dX8_takesNumber_96 (by decide) (fun q_ => ?_) (fun q_ => ?_)
    · have hf := (r_ite hf).1 q_
      refine r_aload_n hx hb dX8_takesNumber_101 rfl (lv_at hl 0 rfl) ?_
      refine lv_iload_n hx hb dX8_takesNumber_102 rfl (lv_at hl 1 rfl) ?_
      refine r_pI X B hf fX8_34 (Or.inl rfl) m_418 dX8_takesNumber_103 (fun h3 H locs B hf => ?_)
      refine lv_iconst (v := 1) hx hb dX8_takesNumber_106 (by decide) ?_
      exact r_zret X B hr hk hf dX8_takesNumber_107
    · have hf := (r_ite hf).2 q_
      exact t_X8_takesNumber_99 X hr hk hn  B (lv_sub hl [] rfl) hf
set_option maxRecDepth 100000 in
set_option maxHeartbeats 4000000 in
theorem t_X8_takesNumber_75 {p : Program} {l : Launch} {e : Env} {s : State} {m : MethodId} {args : Array Value} {below : List Frame} {meth : Method} {c : Code} {D : RG} {b : Nat} {vv : Int32} {hh : AH} (X : r_C p c cX8_takesNumber 2 s m args RX8 D b) (hr : meth.sig.returnType = (some .boolean)) (hk : meth.locks = false) (hn : meth.name = "takesNumber") {k_14 : AH → Nat → Int32 → Option (Int32 × AH)} (r_14 : ∀ (h : AH) (H : Heap) (locs : List Loc) (ls : Array Slot) (l0 : Nat) (l1 : Int32), r_B D b s h H locs → lv_has ls 2 [(0, va_rf (some l0)), (1, .int l1)] → k_14 h l0 l1 = some (vv, hh) → W p l e ({ frames := 1, cells := 0, slots := 0, locals := 20 } : Room) s m args below meth c H locs 0 0 (MQ below (r_Q D b (some (.int vv)) hh) args s 0 0 (fun q => b ≤ q)) (F0 m 14 ls [])) {h : AH} {H : Heap} {locs : List Loc} {ls : Array Slot} {l0 : Nat} {l1 : Int32} (B : r_B D b s h H locs) (hl : lv_has ls 2 [(0, va_rf (some l0)), (1, .int l1)]) (hf : f_X8_takesNumber_75 k_14 h l0 l1 = some (vv, hh)) : W p l e ({ frames := 1, cells := 0, slots := 0, locals := 20 } : Room) s m args below meth c H locs 0 0 (MQ below (r_Q D b (some (.int vv)) hh) args s 0 0 (fun q => b ≤ q)) (F0 m 75 ls []) := by
  obtain ⟨⟨hx, hb, hml, hown, hts⟩, -⟩ := id X
  unfold f_X8_takesNumber_75 at hf
  refine r_iinc (lv' := fun v4 => [(1, .int v4), (0, va_rf (some l0))]) hx hb hf dX8_takesNumber_75 hl (k := 1) rfl (by decide) (by decide) (fun v => by first | rfl | simp [va_cat, cat_i, cat_r, cat_l]) (fun v4 ls hl hf => ?_)
  refine lv_goto (tgt := 14) hx hb dX8_takesNumber_78 (by decide) ?_
  exact r_14 _ _ _ _ _ _ B (lv_sub hl [1, 0] rfl) hf
set_option maxRecDepth 100000 in
set_option maxHeartbeats 4000000 in
theorem t_X8_takesNumber_14 {p : Program} {l : Launch} {e : Env} {s : State} {m : MethodId} {args : Array Value} {below : List Frame} {meth : Method} {c : Code} {D : RG} {b : Nat} {vv : Int32} {hh : AH} (X : r_C p c cX8_takesNumber 2 s m args RX8 D b) (hr : meth.sig.returnType = (some .boolean)) (hk : meth.locks = false) (hn : meth.name = "takesNumber") : ∀ (n : Nat) (h : AH) (H : Heap) (locs : List Loc) (ls : Array Slot) (l0 : Nat) (l1 : Int32), r_B D b s h H locs → lv_has ls 2 [(0, va_rf (some l0)), (1, .int l1)] → f_X8_takesNumber_14 n h l0 l1 = some (vv, hh) → W p l e ({ frames := 1, cells := 0, slots := 0, locals := 20 } : Room) s m args below meth c H locs 0 0 (MQ below (r_Q D b (some (.int vv)) hh) args s 0 0 (fun q => b ≤ q)) (F0 m 14 ls []) := by
  obtain ⟨⟨hx, hb, hml, hown, hts⟩, -⟩ := id X
  intro n
  induction n with
  | zero =>
    intro h H locs ls l0 l1 B hl hf
    cases hf
  | succ n ih =>
    intro h H locs ls l0 l1 B hl hf
    unfold f_X8_takesNumber_14 at hf
    refine lv_iload_n hx hb dX8_takesNumber_14 rfl (lv_at hl 1 rfl) ?_
    refine r_aload_n hx hb dX8_takesNumber_15 rfl (lv_at hl 0 rfl) ?_
    refine r_gI X B hf fX8_35 (fun _ _ => rfl) m_417 dX8_takesNumber_16 (fun v5 hf => ?_)
    refine lv_icmp_ge (tgt := 81) hx hb dX8_takesNumber_19 (by decide) (fun q_ => ?_) (fun q_ => ?_)
    · have hf := (r_ite hf).1 q_
      exact t_X8_takesNumber_81 X hr hk hn  B (lv_sub hl [0, 1] rfl) hf
    · have hf := (r_ite hf).2 q_
      refine r_aload_n hx hb dX8_takesNumber_22 rfl (lv_at hl 0 rfl) ?_
      refine r_gR X B hf fX8_32 (fun _ _ => rfl) m_143 dX8_takesNumber_23 (fun v6 hf => ?_)
      refine lv_iload_n hx hb dX8_takesNumber_26 rfl (lv_at hl 1 rfl) ?_
      refine r_aIb X B hf dX8_takesNumber_27 (fun v7 hf => ?_)
      refine lv_bipush (v := 48) hx hb dX8_takesNumber_28 (by decide) ?_
      refine lv_icmp_lt (tgt := 81) hx hb dX8_takesNumber_30 (by decide) (fun q_ => ?_) (fun q_ => ?_)
      · have hf := (r_ite hf).1 q_
        exact t_X8_takesNumber_81 X hr hk hn  B (lv_sub hl [0, 1] rfl) hf
      · have hf := (r_ite hf).2 q_
        refine r_aload_n hx hb dX8_takesNumber_33 rfl (lv_at hl 0 rfl) ?_
        refine r_gR X B hf fX8_32 (fun _ _ => rfl) m_143 dX8_takesNumber_34 (fun v8 hf => ?_)
        refine lv_iload_n hx hb dX8_takesNumber_37 rfl (lv_at hl 1 rfl) ?_
        refine r_aIb X B hf dX8_takesNumber_38 (fun v9 hf => ?_)
        refine lv_bipush (v := 57) hx hb dX8_takesNumber_39 (by decide) ?_
        refine lv_icmp_gt (tgt := 81) hx hb dX8_takesNumber_41 (by decide) (fun q_ => ?_) (fun q_ => ?_)
        · have hf := (r_ite hf).1 q_
          exact t_X8_takesNumber_81 X hr hk hn  B (lv_sub hl [0, 1] rfl) hf
        · have hf := (r_ite hf).2 q_
          refine lv_iload_n hx hb dX8_takesNumber_44 rfl (lv_at hl 1 rfl) ?_
          refine r_aload_n hx hb dX8_takesNumber_45 rfl (lv_at hl 0 rfl) ?_
          refine r_gI X B hf fX8_34 (fun _ _ => rfl) m_418 dX8_takesNumber_46 (fun v10 hf => ?_)
          refine lv_isub hx hb dX8_takesNumber_49 ?_
          refine lv_iconst (v := 3) hx hb dX8_takesNumber_50 (by decide) ?_
          refine lv_icmp_ge (tgt := 75) hx hb dX8_takesNumber_51 (by decide) (fun q_ => ?_) (fun q_ => ?_)
          · have hf := (r_ite hf).1 q_
            exact t_X8_takesNumber_75 X hr hk hn ih B (lv_sub hl [0, 1] rfl) hf
          · have hf := (r_ite hf).2 q_
            refine r_aload_n hx hb dX8_takesNumber_54 rfl (lv_at hl 0 rfl) ?_
            refine lv_bipush (v := 10) hx hb dX8_takesNumber_55 (by decide) ?_
            refine r_aload_n hx hb dX8_takesNumber_57 rfl (lv_at hl 0 rfl) ?_
            refine r_gI X B hf fX8_40 (fun _ _ => rfl) m_432 dX8_takesNumber_58 (fun v11 hf => ?_)
            refine lv_imul hx hb dX8_takesNumber_61 ?_
            refine r_aload_n hx hb dX8_takesNumber_62 rfl (lv_at hl 0 rfl) ?_
            refine r_gR X B hf fX8_32 (fun _ _ => rfl) m_143 dX8_takesNumber_63 (fun v12 hf => ?_)
            refine lv_iload_n hx hb dX8_takesNumber_66 rfl (lv_at hl 1 rfl) ?_
            refine r_aIb X B hf dX8_takesNumber_67 (fun v13 hf => ?_)
            refine lv_iadd hx hb dX8_takesNumber_68 ?_
            refine lv_bipush (v := 48) hx hb dX8_takesNumber_69 (by decide) ?_
            refine lv_isub hx hb dX8_takesNumber_71 ?_
            refine r_pI X B hf fX8_40 (Or.inl rfl) m_432 dX8_takesNumber_72 (fun h14 H locs B hf => ?_)
            exact t_X8_takesNumber_75 X hr hk hn ih B (lv_sub hl [0, 1] rfl) hf
set_option maxRecDepth 100000 in
set_option maxHeartbeats 4000000 in
theorem c_X8_takesNumber {l : Launch} {D : RG} {b : Nat} {h : AH} {l0 : Nat} {vv : Int32} {hh : AH} (hf : f_X8_takesNumber h l0 = some (vv, hh)) : Met l yX8_takesNumber (Cond.code yX8_takesNumber cX8_takesNumber 2 (some .boolean) :: wsL_law) ({ frames := 1, cells := 0, slots := 0, locals := 20 } : Room) (va_Pc [.ref l0] (r_I D b h)) (r_Q D b (some (.int vv)) hh) 0 0 (fun q => b ≤ q) := by
  refine r_ofW (own := RX8) rfl (by decide +kernel) (by simp [lg_sl, va_cat, cat_i, cat_r, cat_l]) ?_
  intro p e s m args below meth c ls X B hr hk hn hl
  have hl : lv_has ls 2 [(0, .ref l0)] := by simpa [lv_args, va_cat, cat_i, cat_r, cat_l] using hl
  have hl : lv_has ls 2 [(0, va_rf (some l0))] := hl
  obtain ⟨⟨hx, hb, hml, hown, hts⟩, -⟩ := id X
  generalize s.heap = H at B ⊢
  generalize ([] : List Loc) = locs at B ⊢
  unfold f_X8_takesNumber at hf
  refine r_aload_n hx hb dX8_takesNumber_0 rfl (lv_at hl 0 rfl) ?_
  refine rcv_inv hf ?_
  intro a18 e19 s20 hf
  refine cal_inv hf ?_
  intro v15 h16 e17 hf
  refine r_call B (va_runV (As := []) (rest := []) X.1 (c_X8_blanks (l := l) (D := D) (b := b) e17) (r_cwV X rfl m_420 m_421 m_422 m_5 m_423 rfl rfl hd_X8_blanks ⟨Nat.le_of_ble_eq_true rfl, Nat.le_of_ble_eq_true rfl⟩) (r_preV X B s20 rfl []) rfl rfl hl.1 (by rw [e19]; rfl) (lv_room (by simp [va_cat, cat_i, cat_r, cat_l])) dX8_takesNumber_1 ⟨Nat.zero_le _, Nat.zero_le _⟩) ?_
  intro H locs B
  refine W.cs (cells' := 0) (slots' := 0) rfl rfl (W.eq (g2 := F0 m 4 ls []) rfl ?_)
  refine r_aload_n hx hb dX8_takesNumber_4 rfl (lv_at hl 0 rfl) ?_
  refine r_gI X B hf fX8_34 (fun _ _ => rfl) m_418 dX8_takesNumber_5 (fun v21 hf => ?_)
  refine lv_istore_n (i := 1) (lv' := [(1, .int v21), (0, va_rf (some l0))]) hx hb dX8_takesNumber_8 rfl hl (by decide) (by first | rfl | simp [va_cat, cat_i, cat_r, cat_l]) (fun ls hl => ?_)
  refine r_aload_n hx hb dX8_takesNumber_9 rfl (lv_at hl 1 rfl) ?_
  refine lv_iconst (v := 0) hx hb dX8_takesNumber_10 (by decide) ?_
  refine r_pI X B hf fX8_40 (Or.inl rfl) m_432 dX8_takesNumber_11 (fun h22 H locs B hf => ?_)
  exact t_X8_takesNumber_14 X hr hk hn  _ _ _ _ _ _ _ B (lv_sub hl [1, 0] rfl) hf
def f_X8_statement_206 (h : AH)  : Option (Int32 × AH) := rZ 0 h
def f_X8_statement_177 (h : AH) (l0 : Nat) : Option (Int32 × AH) := rcv h (some l0) 8 (fun a4 => cal (f_X8_blanks h a4) (fun v1 h2 => gI h2 (some l0) 8 34 (fun v7 => gI h2 (some l0) 8 35 (fun v8 => if v7 = v8 then f_X8_statement_206 h2 else gR h2 (some l0) 8 32 (fun v9 => gI h2 (some l0) 8 34 (fun v10 => aI .byte h2 v9 v10 (fun v11 => if v11 = 59 then gI h2 (some l0) 8 34 (fun v12 => pI h2 (some l0) 8 34 (v12 + 1) (fun h13 => rZ 1 h13)) else f_X8_statement_206 h2)))))))
def f_X8_statement_53 (h : AH) (l0 : Nat) (s0 : Int32) : Option (Int32 × AH) := if s0 = (-1) then rZ 0 h else gR h (some l0) 8 37 (fun v14 => gR h (some l0) 8 37 (fun v15 => aI .int h v15 14 (fun v16 => sI .int h v14 (15 + v16) s0 (fun h17 => gR h17 (some l0) 8 37 (fun v18 => aI .int h17 v18 14 (fun v19 => sI .int h17 v18 14 (v19 + 1) (fun h20 => f_X8_statement_177 h20 l0)))))))
def f_X8_statement (h : AH) (l0 : Nat) : Option (Int32 × AH) := rcv h (some l0) 8 (fun a24 => cal (f_X8_takes h a24 439855772532) (fun v21 h22 => if v21 = 0 then rcv h22 (some l0) 8 (fun a30 => cal (f_X8_takes h22 a30 1852137842) (fun v27 h28 => if v27 = 0 then rcv h28 (some l0) 8 (fun a36 => cal (f_X8_takes h28 a36 1752132708) (fun v33 h34 => if v33 = 0 then rcv h34 (some l0) 8 (fun a42 => cal (f_X8_takes h34 a42 1717660018) (fun v39 h40 => if v39 = 0 then rZ 0 h40 else gR h40 (some l0) 8 37 (fun v45 => sI .int h40 v45 27 1 (fun h46 => f_X8_statement_177 h46 l0)))) else rcv h34 (some l0) 8 (fun a50 => cal (f_X8_takesNumber h34 a50) (fun v47 h48 => if v47 = 0 then rZ 0 h48 else gR h48 (some l0) 8 37 (fun v53 => gI h48 (some l0) 8 40 (fun v54 => sI .int h48 v53 26 v54 (fun h55 => f_X8_statement_177 h55 l0))))))) else rcv h28 (some l0) 8 (fun a59 => cal (f_X8_takesNumber h28 a59) (fun v56 h57 => if v56 = 0 then rZ 0 h57 else gR h57 (some l0) 8 37 (fun v62 => gI h57 (some l0) 8 40 (fun v63 => sI .int h57 v62 25 v63 (fun h64 => f_X8_statement_177 h64 l0))))))) else rcv h22 (some l0) 8 (fun a68 => cal (f_X8_takes h22 a68 127978976603237) (fun v65 h66 => if v65 = 0 then rcv h66 (some l0) 8 (fun a74 => cal (f_X8_takes h66 a74 495756340332) (fun v71 h72 => if v71 = 0 then rcv h72 (some l0) 8 (fun a80 => cal (f_X8_takes h72 a80 1852137842) (fun v77 h78 => if v77 = 0 then f_X8_statement_53 h78 l0 (-1) else f_X8_statement_53 h78 l0 2)) else f_X8_statement_53 h72 l0 1)) else f_X8_statement_53 h66 l0 0))))
set_option maxRecDepth 100000 in
set_option maxHeartbeats 4000000 in
theorem t_X8_statement_206 {p : Program} {l : Launch} {e : Env} {s : State} {m : MethodId} {args : Array Value} {below : List Frame} {meth : Method} {c : Code} {D : RG} {b : Nat} {vv : Int32} {hh : AH} (X : r_C p c cX8_statement 2 s m args RX8 D b) (hr : meth.sig.returnType = (some .boolean)) (hk : meth.locks = false) (hn : meth.name = "statement") {h : AH} {H : Heap} {locs : List Loc} {ls : Array Slot}  (B : r_B D b s h H locs) (hl : lv_has ls 2 []) (hf : f_X8_statement_206 h  = some (vv, hh)) : W p l e ({ frames := 3, cells := 0, slots := 0, locals := 64 } : Room) s m args below meth c H locs 0 0 (MQ below (r_Q D b (some (.int vv)) hh) args s 0 0 (fun q => b ≤ q)) (F0 m 206 ls []) := by
  obtain ⟨⟨hx, hb, hml, hown, hts⟩, -⟩ := id X
  unfold f_X8_statement_206 at hf
  refine lv_iconst (v := 0) hx hb dX8_statement_206 (by decide) ?_
  exact r_zret X B hr hk hf dX8_statement_207
set_option maxRecDepth 100000 in
set_option maxHeartbeats 4000000 in
theorem t_X8_statement_177 {p : Program} {l : Launch} {e : Env} {s : State} {m : MethodId} {args : Array Value} {below : List Frame} {meth : Method} {c : Code} {D : RG} {b : Nat} {vv : Int32} {hh : AH} (X : r_C p c cX8_statement 2 s m args RX8 D b) (hr : meth.sig.returnType = (some .boolean)) (hk : meth.locks = false) (hn : meth.name = "statement") {h : AH} {H : Heap} {locs : List Loc} {ls : Array Slot} {l0 : Nat} (B : r_B D b s h H locs) (hl : lv_has ls 2 [(0, va_rf (some l0))]) (hf : f_X8_statement_177 h l0 = some (vv, hh)) : W p l e ({ frames := 3, cells := 0, slots := 0, locals := 64 } : Room) s m args below meth c H locs 0 0 (MQ below (r_Q D b (some (.int vv)) hh) args s 0 0 (fun q => b ≤ q)) (F0 m 177 ls []) := by
  obtain ⟨⟨hx, hb, hml, hown, hts⟩, -⟩ := id X
  unfold f_X8_statement_177 at hf
  refine r_aload_n hx hb dX8_statement_177 rfl (lv_at hl 0 rfl) ?_
  refine rcv_inv hf ?_
  intro a4 e5 s6 hf
  refine cal_inv hf ?_
  intro v1 h2 e3 hf
  refine r_call B (va_runV (As := []) (rest := []) X.1 (c_X8_blanks (l := l) (D := D) (b := b) e3) (r_cwV X rfl m_420 m_421 m_422 m_5 m_423 rfl rfl hd_X8_blanks ⟨Nat.le_of_ble_eq_true rfl, Nat.le_of_ble_eq_true rfl⟩) (r_preV X B s6 rfl []) rfl rfl hl.1 (by rw [e5]; rfl) (lv_room (by simp [va_cat, cat_i, cat_r, cat_l])) dX8_statement_178 ⟨Nat.zero_le _, Nat.zero_le _⟩) ?_
  intro H locs B
  refine W.cs (cells' := 0) (slots' := 0) rfl rfl (W.eq (g2 := F0 m 181 ls []) rfl ?_)
  refine r_aload_n hx hb dX8_statement_181 rfl (lv_at hl 0 rfl) ?_
  refine r_gI X B hf fX8_34 (fun _ _ => rfl) m_418 dX8_statement_182 (fun v7 hf => ?_)
  refine r_aload_n hx hb dX8_statement_185 rfl (lv_at hl 0 rfl) ?_
  refine r_gI X B hf fX8_35 (fun _ _ => rfl) m_417 dX8_statement_186 (fun v8 hf => ?_)
  refine lv_icmp_eq (tgt := 206) hx hb dX8_statement_189 (by decide) (fun q_ => ?_) (fun q_ => ?_)
  · have hf := (r_ite hf).1 q_
    exact t_X8_statement_206 X hr hk hn  B (lv_sub hl [] rfl) hf
  · have hf := (r_ite hf).2 q_
    refine r_aload_n hx hb dX8_statement_192 rfl (lv_at hl 0 rfl) ?_
    refine r_gR X B hf fX8_32 (fun _ _ => rfl) m_143 dX8_statement_193 (fun v9 hf => ?_)
    refine r_aload_n hx hb dX8_statement_196 rfl (lv_at hl 0 rfl) ?_
    refine r_gI X B hf fX8_34 (fun _ _ => rfl) m_418 dX8_statement_197 (fun v10 hf => ?_)
    refine r_aIb X B hf dX8_statement_200 (fun v11 hf => ?_)
    refine lv_bipush (v := 59) hx hb dX8_statement_201 (by decide) ?_
    refine lv_icmp_eq (tgt := 208) hx hb dX8_statement_203 (by decide) (fun q_ => ?_) (fun q_ => ?_)
    · have hf := (r_ite hf).1 q_
      refine r_aload_n hx hb dX8_statement_208 rfl (lv_at hl 0 rfl) ?_
      refine lv_dup hx hb dX8_statement_209 (va_cat _) ?_
      refine r_gI X B hf fX8_34 (fun _ _ => rfl) m_418 dX8_statement_210 (fun v12 hf => ?_)
      refine lv_iconst (v := 1) hx hb dX8_statement_213 (by decide) ?_
      refine lv_iadd hx hb dX8_statement_214 ?_
      refine r_pI X B hf fX8_34 (Or.inl rfl) m_418 dX8_statement_215 (fun h13 H locs B hf => ?_)
      refine lv_iconst (v := 1) hx hb dX8_statement_218 (by decide) ?_
      exact r_zret X B hr hk hf dX8_statement_219
    · have hf := (r_ite hf).2 q_
      exact t_X8_statement_206 X hr hk hn  B (lv_sub hl [] rfl) hf
set_option maxRecDepth 100000 in
set_option maxHeartbeats 4000000 in
theorem t_X8_statement_53 {p : Program} {l : Launch} {e : Env} {s : State} {m : MethodId} {args : Array Value} {below : List Frame} {meth : Method} {c : Code} {D : RG} {b : Nat} {vv : Int32} {hh : AH} (X : r_C p c cX8_statement 2 s m args RX8 D b) (hr : meth.sig.returnType = (some .boolean)) (hk : meth.locks = false) (hn : meth.name = "statement") {h : AH} {H : Heap} {locs : List Loc} {ls : Array Slot} {l0 : Nat} {s0 : Int32} (B : r_B D b s h H locs) (hl : lv_has ls 2 [(0, va_rf (some l0))]) (hf : f_X8_statement_53 h l0 s0 = some (vv, hh)) : W p l e ({ frames := 3, cells := 0, slots := 0, locals := 64 } : Room) s m args below meth c H locs 0 0 (MQ below (r_Q D b (some (.int vv)) hh) args s 0 0 (fun q => b ≤ q)) (F0 m 53 ls [.int s0]) := by
  obtain ⟨⟨hx, hb, hml, hown, hts⟩, -⟩ := id X
  unfold f_X8_statement_53 at hf
  refine lv_istore_n (i := 1) (lv' := [(1, .int s0), (0, va_rf (some l0))]) hx hb dX8_statement_53 rfl hl (by decide) (by first | rfl | simp [va_cat, cat_i, cat_r, cat_l]) (fun ls hl => ?_)
  refine lv_iload_n hx hb dX8_statement_54 rfl (lv_at hl 0 rfl) ?_
  refine lv_iconst (v := (-1)) hx hb dX8_statement_55 (by decide) ?_
  refine lv_icmp_ne (tgt := 61) hx hb dX8_statement_56 (by decide) (fun q_ => ?_) (fun q_ => ?_)
  · have hf := (r_ite hf).2 q_
    refine r_aload_n hx hb dX8_statement_61 rfl (lv_at hl 1 rfl) ?_
    refine r_gR X B hf fX8_37 (fun _ _ => rfl) m_145 dX8_statement_62 (fun v14 hf => ?_)
    refine lv_bipush (v := 15) hx hb dX8_statement_65 (by decide) ?_
    refine r_aload_n hx hb dX8_statement_67 rfl (lv_at hl 1 rfl) ?_
    refine r_gR X B hf fX8_37 (fun _ _ => rfl) m_145 dX8_statement_68 (fun v15 hf => ?_)
    refine lv_bipush (v := 14) hx hb dX8_statement_71 (by decide) ?_
    refine r_aIi X B hf dX8_statement_73 (fun v16 hf => ?_)
    refine lv_iadd hx hb dX8_statement_74 ?_
    refine lv_iload_n hx hb dX8_statement_75 rfl (lv_at hl 0 rfl) ?_
    refine r_sIi X B hf dX8_statement_76 (fun h17 H locs B hf => ?_)
    refine r_aload_n hx hb dX8_statement_77 rfl (lv_at hl 1 rfl) ?_
    refine r_gR X B hf fX8_37 (fun _ _ => rfl) m_145 dX8_statement_78 (fun v18 hf => ?_)
    refine lv_bipush (v := 14) hx hb dX8_statement_81 (by decide) ?_
    refine lv_dup2_11 hx hb dX8_statement_83 (rfl) (va_cat _) ?_
    refine r_aIi X B hf dX8_statement_84 (fun v19 hf => ?_)
    refine lv_iconst (v := 1) hx hb dX8_statement_85 (by decide) ?_
    refine lv_iadd hx hb dX8_statement_86 ?_
    refine r_sIi X B hf dX8_statement_87 (fun h20 H locs B hf => ?_)
    refine lv_goto (tgt := 177) hx hb dX8_statement_88 (by decide) ?_
    exact t_X8_statement_177 X hr hk hn  B (lv_sub hl [1] rfl) hf
  · have hf := (r_ite hf).1 q_
    refine lv_iconst (v := 0) hx hb dX8_statement_59 (by decide) ?_
    exact r_zret X B hr hk hf dX8_statement_60
set_option maxRecDepth 100000 in
set_option maxHeartbeats 4000000 in
theorem c_X8_statement {l : Launch} {D : RG} {b : Nat} {h : AH} {l0 : Nat} {vv : Int32} {hh : AH} (hf : f_X8_statement h l0 = some (vv, hh)) : Met l yX8_statement (Cond.code yX8_statement cX8_statement 2 (some .boolean) :: wsL_law) ({ frames := 3, cells := 0, slots := 0, locals := 64 } : Room) (va_Pc [.ref l0] (r_I D b h)) (r_Q D b (some (.int vv)) hh) 0 0 (fun q => b ≤ q) := by
  refine r_ofW (own := RX8) rfl (by decide +kernel) (by simp [lg_sl, va_cat, cat_i, cat_r, cat_l]) ?_
  intro p e s m args below meth c ls X B hr hk hn hl
  have hl : lv_has ls 2 [(0, .ref l0)] := by simpa [lv_args, va_cat, cat_i, cat_r, cat_l] using hl
  have hl : lv_has ls 2 [(0, va_rf (some l0))] := hl
  obtain ⟨⟨hx, hb, hml, hown, hts⟩, -⟩ := id X
  generalize s.heap = H at B ⊢
  generalize ([] : List Loc) = locs at B ⊢
  unfold f_X8_statement at hf
  refine r_aload_n hx hb dX8_statement_0 rfl (lv_at hl 0 rfl) ?_
  refine lv_ldc2 (v := 439855772532) hx hb hown (hts _ m_428) dX8_statement_1 ?_
  refine rcv_inv hf ?_
  intro a24 e25 s26 hf
  refine cal_inv hf ?_
  intro v21 h22 e23 hf
  refine r_call B (va_runV (As := [.long 439855772532]) (rest := []) X.1 (c_X8_takes (l := l) (D := D) (b := b) e23) (r_cwV X rfl m_435 m_436 m_437 m_5 m_438 rfl rfl hd_X8_takes ⟨Nat.le_of_ble_eq_true rfl, Nat.le_of_ble_eq_true rfl⟩) (r_preV X B s26 rfl [.long 439855772532]) rfl rfl hl.1 (by rw [e25]; rfl) (lv_room (by simp [va_cat, cat_i, cat_r, cat_l])) dX8_statement_4 ⟨Nat.zero_le _, Nat.zero_le _⟩) ?_
  intro H locs B
  refine W.cs (cells' := 0) (slots' := 0) rfl rfl (W.eq (g2 := F0 m 7 ls [.int v21]) rfl ?_)
  refine lv_if_eq (tgt := 91) hx hb dX8_statement_7 (by decide) (fun q_ => ?_) (fun q_ => ?_)
  · have hf := (r_ite hf).1 q_
    refine r_aload_n hx hb dX8_statement_91 rfl (lv_at hl 0 rfl) ?_
    refine lv_ldc2 (v := 1852137842) hx hb hown (hts _ m_431) dX8_statement_92 ?_
    refine rcv_inv hf ?_
    intro a30 e31 s32 hf
    refine cal_inv hf ?_
    intro v27 h28 e29 hf
    refine r_call B (va_runV (As := [.long 1852137842]) (rest := []) X.1 (c_X8_takes (l := l) (D := D) (b := b) e29) (r_cwV X rfl m_435 m_436 m_437 m_5 m_438 rfl rfl hd_X8_takes ⟨Nat.le_of_ble_eq_true rfl, Nat.le_of_ble_eq_true rfl⟩) (r_preV X B s32 rfl [.long 1852137842]) rfl rfl hl.1 (by rw [e31]; rfl) (lv_room (by simp [va_cat, cat_i, cat_r, cat_l])) dX8_statement_95 ⟨Nat.zero_le _, Nat.zero_le _⟩) ?_
    intro H locs B
    refine W.cs (cells' := 0) (slots' := 0) rfl rfl (W.eq (g2 := F0 m 98 ls [.int v27]) rfl ?_)
    refine lv_if_eq (tgt := 124) hx hb dX8_statement_98 (by decide) (fun q_ => ?_) (fun q_ => ?_)
    · have hf := (r_ite hf).1 q_
      refine r_aload_n hx hb dX8_statement_124 rfl (lv_at hl 0 rfl) ?_
      refine lv_ldc2 (v := 1752132708) hx hb hown (hts _ m_433) dX8_statement_125 ?_
      refine rcv_inv hf ?_
      intro a36 e37 s38 hf
      refine cal_inv hf ?_
      intro v33 h34 e35 hf
      refine r_call B (va_runV (As := [.long 1752132708]) (rest := []) X.1 (c_X8_takes (l := l) (D := D) (b := b) e35) (r_cwV X rfl m_435 m_436 m_437 m_5 m_438 rfl rfl hd_X8_takes ⟨Nat.le_of_ble_eq_true rfl, Nat.le_of_ble_eq_true rfl⟩) (r_preV X B s38 rfl [.long 1752132708]) rfl rfl hl.1 (by rw [e37]; rfl) (lv_room (by simp [va_cat, cat_i, cat_r, cat_l])) dX8_statement_128 ⟨Nat.zero_le _, Nat.zero_le _⟩) ?_
      intro H locs B
      refine W.cs (cells' := 0) (slots' := 0) rfl rfl (W.eq (g2 := F0 m 131 ls [.int v33]) rfl ?_)
      refine lv_if_eq (tgt := 157) hx hb dX8_statement_131 (by decide) (fun q_ => ?_) (fun q_ => ?_)
      · have hf := (r_ite hf).1 q_
        refine r_aload_n hx hb dX8_statement_157 rfl (lv_at hl 0 rfl) ?_
        refine lv_ldc2 (v := 1717660018) hx hb hown (hts _ m_434) dX8_statement_158 ?_
        refine rcv_inv hf ?_
        intro a42 e43 s44 hf
        refine cal_inv hf ?_
        intro v39 h40 e41 hf
        refine r_call B (va_runV (As := [.long 1717660018]) (rest := []) X.1 (c_X8_takes (l := l) (D := D) (b := b) e41) (r_cwV X rfl m_435 m_436 m_437 m_5 m_438 rfl rfl hd_X8_takes ⟨Nat.le_of_ble_eq_true rfl, Nat.le_of_ble_eq_true rfl⟩) (r_preV X B s44 rfl [.long 1717660018]) rfl rfl hl.1 (by rw [e43]; rfl) (lv_room (by simp [va_cat, cat_i, cat_r, cat_l])) dX8_statement_161 ⟨Nat.zero_le _, Nat.zero_le _⟩) ?_
        intro H locs B
        refine W.cs (cells' := 0) (slots' := 0) rfl rfl (W.eq (g2 := F0 m 164 ls [.int v39]) rfl ?_)
        refine lv_if_ne (tgt := 169) hx hb dX8_statement_164 (by decide) (fun q_ => ?_) (fun q_ => ?_)
        · have hf := (r_ite hf).2 q_
          refine r_aload_n hx hb dX8_statement_169 rfl (lv_at hl 0 rfl) ?_
          refine r_gR X B hf fX8_37 (fun _ _ => rfl) m_145 dX8_statement_170 (fun v45 hf => ?_)
          refine lv_bipush (v := 27) hx hb dX8_statement_173 (by decide) ?_
          refine lv_iconst (v := 1) hx hb dX8_statement_175 (by decide) ?_
          refine r_sIi X B hf dX8_statement_176 (fun h46 H locs B hf => ?_)
          exact t_X8_statement_177 X hr hk hn  B (lv_sub hl [0] rfl) hf
        · have hf := (r_ite hf).1 q_
          refine lv_iconst (v := 0) hx hb dX8_statement_167 (by decide) ?_
          exact r_zret X B hr hk hf dX8_statement_168
      · have hf := (r_ite hf).2 q_
        refine r_aload_n hx hb dX8_statement_134 rfl (lv_at hl 0 rfl) ?_
        refine rcv_inv hf ?_
        intro a50 e51 s52 hf
        refine cal_inv hf ?_
        intro v47 h48 e49 hf
        refine r_call B (va_runV (As := []) (rest := []) X.1 (c_X8_takesNumber (l := l) (D := D) (b := b) e49) (r_cwV X rfl m_444 m_445 m_446 m_5 m_447 rfl rfl hd_X8_takesNumber ⟨Nat.le_of_ble_eq_true rfl, Nat.le_of_ble_eq_true rfl⟩) (r_preV X B s52 rfl []) rfl rfl hl.1 (by rw [e51]; rfl) (lv_room (by simp [va_cat, cat_i, cat_r, cat_l])) dX8_statement_135 ⟨Nat.zero_le _, Nat.zero_le _⟩) ?_
        intro H locs B
        refine W.cs (cells' := 0) (slots' := 0) rfl rfl (W.eq (g2 := F0 m 138 ls [.int v47]) rfl ?_)
        refine lv_if_ne (tgt := 143) hx hb dX8_statement_138 (by decide) (fun q_ => ?_) (fun q_ => ?_)
        · have hf := (r_ite hf).2 q_
          refine r_aload_n hx hb dX8_statement_143 rfl (lv_at hl 0 rfl) ?_
          refine r_gR X B hf fX8_37 (fun _ _ => rfl) m_145 dX8_statement_144 (fun v53 hf => ?_)
          refine lv_bipush (v := 26) hx hb dX8_statement_147 (by decide) ?_
          refine r_aload_n hx hb dX8_statement_149 rfl (lv_at hl 0 rfl) ?_
          refine r_gI X B hf fX8_40 (fun _ _ => rfl) m_432 dX8_statement_150 (fun v54 hf => ?_)
          refine r_sIi X B hf dX8_statement_153 (fun h55 H locs B hf => ?_)
          refine lv_goto (tgt := 177) hx hb dX8_statement_154 (by decide) ?_
          exact t_X8_statement_177 X hr hk hn  B (lv_sub hl [0] rfl) hf
        · have hf := (r_ite hf).1 q_
          refine lv_iconst (v := 0) hx hb dX8_statement_141 (by decide) ?_
          exact r_zret X B hr hk hf dX8_statement_142
    · have hf := (r_ite hf).2 q_
      refine r_aload_n hx hb dX8_statement_101 rfl (lv_at hl 0 rfl) ?_
      refine rcv_inv hf ?_
      intro a59 e60 s61 hf
      refine cal_inv hf ?_
      intro v56 h57 e58 hf
      refine r_call B (va_runV (As := []) (rest := []) X.1 (c_X8_takesNumber (l := l) (D := D) (b := b) e58) (r_cwV X rfl m_444 m_445 m_446 m_5 m_447 rfl rfl hd_X8_takesNumber ⟨Nat.le_of_ble_eq_true rfl, Nat.le_of_ble_eq_true rfl⟩) (r_preV X B s61 rfl []) rfl rfl hl.1 (by rw [e60]; rfl) (lv_room (by simp [va_cat, cat_i, cat_r, cat_l])) dX8_statement_102 ⟨Nat.zero_le _, Nat.zero_le _⟩) ?_
      intro H locs B
      refine W.cs (cells' := 0) (slots' := 0) rfl rfl (W.eq (g2 := F0 m 105 ls [.int v56]) rfl ?_)
      refine lv_if_ne (tgt := 110) hx hb dX8_statement_105 (by decide) (fun q_ => ?_) (fun q_ => ?_)
      · have hf := (r_ite hf).2 q_
        refine r_aload_n hx hb dX8_statement_110 rfl (lv_at hl 0 rfl) ?_
        refine r_gR X B hf fX8_37 (fun _ _ => rfl) m_145 dX8_statement_111 (fun v62 hf => ?_)
        refine lv_bipush (v := 25) hx hb dX8_statement_114 (by decide) ?_
        refine r_aload_n hx hb dX8_statement_116 rfl (lv_at hl 0 rfl) ?_
        refine r_gI X B hf fX8_40 (fun _ _ => rfl) m_432 dX8_statement_117 (fun v63 hf => ?_)
        refine r_sIi X B hf dX8_statement_120 (fun h64 H locs B hf => ?_)
        refine lv_goto (tgt := 177) hx hb dX8_statement_121 (by decide) ?_
        exact t_X8_statement_177 X hr hk hn  B (lv_sub hl [0] rfl) hf
      · have hf := (r_ite hf).1 q_
        refine lv_iconst (v := 0) hx hb dX8_statement_108 (by decide) ?_
        exact r_zret X B hr hk hf dX8_statement_109
  · have hf := (r_ite hf).2 q_
    refine r_aload_n hx hb dX8_statement_10 rfl (lv_at hl 0 rfl) ?_
    refine lv_ldc2 (v := 127978976603237) hx hb hown (hts _ m_429) dX8_statement_11 ?_
    refine rcv_inv hf ?_
    intro a68 e69 s70 hf
    refine cal_inv hf ?_
    intro v65 h66 e67 hf
    refine r_call B (va_runV (As := [.long 127978976603237]) (rest := []) X.1 (c_X8_takes (l := l) (D := D) (b := b) e67) (r_cwV X rfl m_435 m_436 m_437 m_5 m_438 rfl rfl hd_X8_takes ⟨Nat.le_of_ble_eq_true rfl, Nat.le_of_ble_eq_true rfl⟩) (r_preV X B s70 rfl [.long 127978976603237]) rfl rfl hl.1 (by rw [e69]; rfl) (lv_room (by simp [va_cat, cat_i, cat_r, cat_l])) dX8_statement_14 ⟨Nat.zero_le _, Nat.zero_le _⟩) ?_
    intro H locs B
    refine W.cs (cells' := 0) (slots' := 0) rfl rfl (W.eq (g2 := F0 m 17 ls [.int v65]) rfl ?_)
    refine lv_if_eq (tgt := 24) hx hb dX8_statement_17 (by decide) (fun q_ => ?_) (fun q_ => ?_)
    · have hf := (r_ite hf).1 q_
      refine r_aload_n hx hb dX8_statement_24 rfl (lv_at hl 0 rfl) ?_
      refine lv_ldc2 (v := 495756340332) hx hb hown (hts _ m_430) dX8_statement_25 ?_
      refine rcv_inv hf ?_
      intro a74 e75 s76 hf
      refine cal_inv hf ?_
      intro v71 h72 e73 hf
      refine r_call B (va_runV (As := [.long 495756340332]) (rest := []) X.1 (c_X8_takes (l := l) (D := D) (b := b) e73) (r_cwV X rfl m_435 m_436 m_437 m_5 m_438 rfl rfl hd_X8_takes ⟨Nat.le_of_ble_eq_true rfl, Nat.le_of_ble_eq_true rfl⟩) (r_preV X B s76 rfl [.long 495756340332]) rfl rfl hl.1 (by rw [e75]; rfl) (lv_room (by simp [va_cat, cat_i, cat_r, cat_l])) dX8_statement_28 ⟨Nat.zero_le _, Nat.zero_le _⟩) ?_
      intro H locs B
      refine W.cs (cells' := 0) (slots' := 0) rfl rfl (W.eq (g2 := F0 m 31 ls [.int v71]) rfl ?_)
      refine lv_if_eq (tgt := 38) hx hb dX8_statement_31 (by decide) (fun q_ => ?_) (fun q_ => ?_)
      · have hf := (r_ite hf).1 q_
        refine r_aload_n hx hb dX8_statement_38 rfl (lv_at hl 0 rfl) ?_
        refine lv_ldc2 (v := 1852137842) hx hb hown (hts _ m_431) dX8_statement_39 ?_
        refine rcv_inv hf ?_
        intro a80 e81 s82 hf
        refine cal_inv hf ?_
        intro v77 h78 e79 hf
        refine r_call B (va_runV (As := [.long 1852137842]) (rest := []) X.1 (c_X8_takes (l := l) (D := D) (b := b) e79) (r_cwV X rfl m_435 m_436 m_437 m_5 m_438 rfl rfl hd_X8_takes ⟨Nat.le_of_ble_eq_true rfl, Nat.le_of_ble_eq_true rfl⟩) (r_preV X B s82 rfl [.long 1852137842]) rfl rfl hl.1 (by rw [e81]; rfl) (lv_room (by simp [va_cat, cat_i, cat_r, cat_l])) dX8_statement_42 ⟨Nat.zero_le _, Nat.zero_le _⟩) ?_
        intro H locs B
        refine W.cs (cells' := 0) (slots' := 0) rfl rfl (W.eq (g2 := F0 m 45 ls [.int v77]) rfl ?_)
        refine lv_if_eq (tgt := 52) hx hb dX8_statement_45 (by decide) (fun q_ => ?_) (fun q_ => ?_)
        · have hf := (r_ite hf).1 q_
          refine lv_iconst (v := (-1)) hx hb dX8_statement_52 (by decide) ?_
          exact t_X8_statement_53 X hr hk hn  B (lv_sub hl [0] rfl) hf
        · have hf := (r_ite hf).2 q_
          refine lv_iconst (v := 2) hx hb dX8_statement_48 (by decide) ?_
          refine lv_goto (tgt := 53) hx hb dX8_statement_49 (by decide) ?_
          exact t_X8_statement_53 X hr hk hn  B (lv_sub hl [0] rfl) hf
      · have hf := (r_ite hf).2 q_
        refine lv_iconst (v := 1) hx hb dX8_statement_34 (by decide) ?_
        refine lv_goto (tgt := 53) hx hb dX8_statement_35 (by decide) ?_
        exact t_X8_statement_53 X hr hk hn  B (lv_sub hl [0] rfl) hf
    · have hf := (r_ite hf).2 q_
      refine lv_iconst (v := 0) hx hb dX8_statement_20 (by decide) ?_
      refine lv_goto (tgt := 53) hx hb dX8_statement_21 (by decide) ?_
      exact t_X8_statement_53 X hr hk hn  B (lv_sub hl [0] rfl) hf
def f_X8_custom__171 : Nat → AH → Nat → Int32 → Int32 → Option (Int32 × AH)
  | 0, _, _, _, _ => none
  | n + 1, h, l0, l2, l4 => if 14 ≤ l4 then pZ h (some l0) 8 38 1 (fun h1 => some (l2, h1)) else gR h (some l0) 8 37 (fun v2 => gR h (some l0) 8 37 (fun v3 => aI .int h v3 (14 + l4) (fun v4 => sI .int h v2 l4 v4 (fun h5 => bd (l4 + 1) (fun v6 => f_X8_custom__171 n h5 l0 l2 v6)))))
def f_X8_custom__159 (h : AH) (l0 : Nat) (l2 : Int32) (l3 : Int32) (s0 : Nat) (s1 : Int32) : Option (Int32 × AH) := pI h (some s0) 8 36 s1 (fun h7 => if l3 = 0 then some ((-1), h7) else f_X8_custom__171 FU h7 l0 l2 0)
def f_X8_custom__146 (h : AH) (l0 : Nat) (l2 : Int32) (l3 : Int32) : Option (Int32 × AH) := if l3 = 0 then gI h (some l0) 8 34 (fun v8 => f_X8_custom__159 h l0 l2 l3 l0 v8) else f_X8_custom__159 h l0 l2 l3 l0 (-1)
def f_X8_custom__131 (k_98 : AH → Nat → Int32 → Int32 → Option (Int32 × AH)) (h : AH) (l0 : Nat) (l2 : Int32) (s0 : Int32) : Option (Int32 × AH) := bd (l2 + 1) (fun v9 => if s0 = 0 then k_98 h l0 v9 s0 else rcv h (some l0) 8 (fun a13 => cal (f_X8_blanks h a13) (fun v10 h11 => k_98 h11 l0 v9 s0)))
def f_X8_custom__130 (k_98 : AH → Nat → Int32 → Int32 → Option (Int32 × AH)) (h : AH) (l0 : Nat) (l2 : Int32) : Option (Int32 × AH) := f_X8_custom__131 k_98 h l0 l2 0
def f_X8_custom__98 : Nat → AH → Nat → Int32 → Int32 → Option (Int32 × AH)
  | 0, _, _, _, _ => none
  | n + 1, h, l0, l2, l3 => if l3 = 0 then f_X8_custom__146 h l0 l2 l3 else gI h (some l0) 8 34 (fun v16 => gI h (some l0) 8 35 (fun v17 => if v17 ≤ v16 then f_X8_custom__146 h l0 l2 l3 else if 10 ≤ l2 then f_X8_custom__130 (f_X8_custom__98 n) h l0 l2 else rcv h (some l0) 8 (fun a21 => cal (f_X8_statement h a21) (fun v18 h19 => if v18 = 0 then f_X8_custom__130 (f_X8_custom__98 n) h19 l0 l2 else f_X8_custom__131 (f_X8_custom__98 n) h19 l0 l2 1))))
def f_X8_custom__83 (k_57 : AH → Nat → Int32 → Option (Int32 × AH)) (h : AH) (l0 : Nat) (l2 : Int32) (s0 : Option Nat) (s1 : Int32) (s2 : Int32) : Option (Int32 × AH) := sI .int h s0 s1 s2 (fun h24 => bd (l2 + 1) (fun v25 => k_57 h24 l0 v25))
def f_X8_custom__57 : Nat → AH → Nat → Int32 → Option (Int32 × AH)
  | 0, _, _, _ => none
  | n + 1, h, l0, l2 => if 14 ≤ l2 then rcv h (some l0) 8 (fun a29 => cal (f_X8_blanks h a29) (fun v26 h27 => f_X8_custom__98 FU h27 l0 0 1)) else gR h (some l0) 8 37 (fun v32 => if l2 = 11 then f_X8_custom__83 (f_X8_custom__57 n) h l0 l2 v32 (14 + l2) 9 else f_X8_custom__83 (f_X8_custom__57 n) h l0 l2 v32 (14 + l2) 0)
def f_X8_custom__17 : Nat → AH → Nat → Int32 → Int32 → Option (Int32 × AH)
  | 0, _, _, _, _ => none
  | n + 1, h, l0, l1, l2 => if l1 ≤ l2 then pI h (some l0) 8 35 l1 (fun h33 => pI h33 (some l0) 8 33 0 (fun h34 => pI h34 (some l0) 8 34 0 (fun h35 => f_X8_custom__57 FU h35 l0 0))) else gR h (some l0) 8 32 (fun v36 => gR h (some l0) 8 31 (fun v37 => aI .byte h v37 l2 (fun v38 => sI .byte h v36 l2 v38 (fun h39 => bd (l2 + 1) (fun v40 => f_X8_custom__17 n h39 l0 l1 v40)))))
def f_X8_custom_ (h : AH) (l0 : Nat) (l1 : Int32) : Option (Int32 × AH) := gI h (some l0) 8 33 (fun v41 => cal (f_X8_isIn h l1 0 v41) (fun v42 h43 => if v42 = 0 then some ((-2), h43) else f_X8_custom__17 FU h43 l0 l1 0))
set_option maxRecDepth 100000 in
set_option maxHeartbeats 4000000 in
theorem t_X8_custom__171 {p : Program} {l : Launch} {e : Env} {s : State} {m : MethodId} {args : Array Value} {below : List Frame} {meth : Method} {c : Code} {D : RG} {b : Nat} {vv : Int32} {hh : AH} (X : r_C p c cX8_custom_ 5 s m args RX8 D b) (hr : meth.sig.returnType = (some .int)) (hk : meth.locks = false) (hn : meth.name = "custom") : ∀ (n : Nat) (h : AH) (H : Heap) (locs : List Loc) (ls : Array Slot) (l0 : Nat) (l2 : Int32) (l4 : Int32), r_B D b s h H locs → lv_has ls 5 [(0, va_rf (some l0)), (2, .int l2), (4, .int l4)] → f_X8_custom__171 n h l0 l2 l4 = some (vv, hh) → W p l e ({ frames := 4, cells := 0, slots := 0, locals := 85 } : Room) s m args below meth c H locs 0 0 (MQ below (r_Q D b (some (.int vv)) hh) args s 0 0 (fun q => b ≤ q)) (F0 m 171 ls []) := by
  obtain ⟨⟨hx, hb, hml, hown, hts⟩, -⟩ := id X
  intro n
  induction n with
  | zero =>
    intro h H locs ls l0 l2 l4 B hl hf
    cases hf
  | succ n ih =>
    intro h H locs ls l0 l2 l4 B hl hf
    unfold f_X8_custom__171 at hf
    refine lv_iload hx hb dX8_custom__171 (lv_at hl 2 rfl) ?_
    refine lv_bipush (v := 14) hx hb dX8_custom__173 (by decide) ?_
    refine lv_icmp_ge (tgt := 201) hx hb dX8_custom__175 (by decide) (fun q_ => ?_) (fun q_ => ?_)
    · have hf := (r_ite hf).1 q_
      refine r_aload_n hx hb dX8_custom__201 rfl (lv_at hl 0 rfl) ?_
      refine lv_iconst (v := 1) hx hb dX8_custom__202 (by decide) ?_
      refine r_pZ X B hf fX8_38 (Or.inl rfl) m_419 dX8_custom__203 (fun h1 H locs B hf => ?_)
      refine lv_iload_n hx hb dX8_custom__206 rfl (lv_at hl 1 rfl) ?_
      exact r_iret X B hr hk hf dX8_custom__207
    · have hf := (r_ite hf).2 q_
      refine r_aload_n hx hb dX8_custom__178 rfl (lv_at hl 0 rfl) ?_
      refine r_gR X B hf fX8_37 (fun _ _ => rfl) m_145 dX8_custom__179 (fun v2 hf => ?_)
      refine lv_iload hx hb dX8_custom__182 (lv_at hl 2 rfl) ?_
      refine r_aload_n hx hb dX8_custom__184 rfl (lv_at hl 0 rfl) ?_
      refine r_gR X B hf fX8_37 (fun _ _ => rfl) m_145 dX8_custom__185 (fun v3 hf => ?_)
      refine lv_bipush (v := 14) hx hb dX8_custom__188 (by decide) ?_
      refine lv_iload hx hb dX8_custom__190 (lv_at hl 2 rfl) ?_
      refine lv_iadd hx hb dX8_custom__192 ?_
      refine r_aIi X B hf dX8_custom__193 (fun v4 hf => ?_)
      refine r_sIi X B hf dX8_custom__194 (fun h5 H locs B hf => ?_)
      refine r_iinc (lv' := fun v6 => [(4, .int v6), (0, va_rf (some l0)), (2, .int l2)]) hx hb hf dX8_custom__195 hl (k := 2) rfl (by decide) (by decide) (fun v => by first | rfl | simp [va_cat, cat_i, cat_r, cat_l]) (fun v6 ls hl hf => ?_)
      refine lv_goto (tgt := 171) hx hb dX8_custom__198 (by decide) ?_
      exact ih _ _ _ _ _ _ _ B (lv_sub hl [1, 2, 0] rfl) hf
set_option maxRecDepth 100000 in
set_option maxHeartbeats 4000000 in
theorem t_X8_custom__159 {p : Program} {l : Launch} {e : Env} {s : State} {m : MethodId} {args : Array Value} {below : List Frame} {meth : Method} {c : Code} {D : RG} {b : Nat} {vv : Int32} {hh : AH} (X : r_C p c cX8_custom_ 5 s m args RX8 D b) (hr : meth.sig.returnType = (some .int)) (hk : meth.locks = false) (hn : meth.name = "custom") {h : AH} {H : Heap} {locs : List Loc} {ls : Array Slot} {l0 : Nat} {l2 : Int32} {l3 : Int32} {s0 : Nat} {s1 : Int32} (B : r_B D b s h H locs) (hl : lv_has ls 5 [(0, va_rf (some l0)), (2, .int l2), (3, .int l3)]) (hf : f_X8_custom__159 h l0 l2 l3 s0 s1 = some (vv, hh)) : W p l e ({ frames := 4, cells := 0, slots := 0, locals := 85 } : Room) s m args below meth c H locs 0 0 (MQ below (r_Q D b (some (.int vv)) hh) args s 0 0 (fun q => b ≤ q)) (F0 m 159 ls [.int s1, va_rf (some s0)]) := by
  obtain ⟨⟨hx, hb, hml, hown, hts⟩, -⟩ := id X
  unfold f_X8_custom__159 at hf
  refine r_pI X B hf fX8_36 (Or.inl rfl) m_144 dX8_custom__159 (fun h7 H locs B hf => ?_)
  refine lv_iload_n hx hb dX8_custom__162 rfl (lv_at hl 2 rfl) ?_
  refine lv_if_ne (tgt := 168) hx hb dX8_custom__163 (by decide) (fun q_ => ?_) (fun q_ => ?_)
  · have hf := (r_ite hf).2 q_
    refine lv_iconst (v := 0) hx hb dX8_custom__168 (by decide) ?_
    refine lv_istore (i := 4) (lv' := [(4, .int 0), (0, va_rf (some l0)), (2, .int l2), (3, .int l3)]) hx hb dX8_custom__169 hl (by decide) (by first | rfl | simp [va_cat, cat_i, cat_r, cat_l]) (fun ls hl => ?_)
    exact t_X8_custom__171 X hr hk hn  _ _ _ _ _ _ _ _ B (lv_sub hl [1, 2, 0] rfl) hf
  · have hf := (r_ite hf).1 q_
    refine lv_iconst (v := (-1)) hx hb dX8_custom__166 (by decide) ?_
    exact r_iret X B hr hk hf dX8_custom__167
set_option maxRecDepth 100000 in
set_option maxHeartbeats 4000000 in
theorem t_X8_custom__146 {p : Program} {l : Launch} {e : Env} {s : State} {m : MethodId} {args : Array Value} {below : List Frame} {meth : Method} {c : Code} {D : RG} {b : Nat} {vv : Int32} {hh : AH} (X : r_C p c cX8_custom_ 5 s m args RX8 D b) (hr : meth.sig.returnType = (some .int)) (hk : meth.locks = false) (hn : meth.name = "custom") {h : AH} {H : Heap} {locs : List Loc} {ls : Array Slot} {l0 : Nat} {l2 : Int32} {l3 : Int32} (B : r_B D b s h H locs) (hl : lv_has ls 5 [(0, va_rf (some l0)), (2, .int l2), (3, .int l3)]) (hf : f_X8_custom__146 h l0 l2 l3 = some (vv, hh)) : W p l e ({ frames := 4, cells := 0, slots := 0, locals := 85 } : Room) s m args below meth c H locs 0 0 (MQ below (r_Q D b (some (.int vv)) hh) args s 0 0 (fun q => b ≤ q)) (F0 m 146 ls []) := by
  obtain ⟨⟨hx, hb, hml, hown, hts⟩, -⟩ := id X
  unfold f_X8_custom__146 at hf
  refine r_aload_n hx hb dX8_custom__146 rfl (lv_at hl 0 rfl) ?_
  refine lv_iload_n hx hb dX8_custom__147 rfl (lv_at hl 2 rfl) ?_
  refine lv_if_eq (tgt := 155) hx hb dX8_custom__148 (by decide) (fun q_ => ?_) (fun q_ => ?_)
  · have hf := (r_ite hf).1 q_
    refine r_aload_n hx hb dX8_custom__155 rfl (lv_at hl 0 rfl) ?_
    refine r_gI X B hf fX8_34 (fun _ _ => rfl) m_418 dX8_custom__156 (fun v8 hf => ?_)
    exact t_X8_custom__159 X hr hk hn  B (lv_sub hl [0, 1, 2] rfl) hf
  · have hf := (r_ite hf).2 q_
    refine lv_iconst (v := (-1)) hx hb dX8_custom__151 (by decide) ?_
    refine lv_goto (tgt := 159) hx hb dX8_custom__152 (by decide) ?_
    exact t_X8_custom__159 X hr hk hn  B (lv_sub hl [0, 1, 2] rfl) hf
set_option maxRecDepth 100000 in
set_option maxHeartbeats 4000000 in
theorem t_X8_custom__131 {p : Program} {l : Launch} {e : Env} {s : State} {m : MethodId} {args : Array Value} {below : List Frame} {meth : Method} {c : Code} {D : RG} {b : Nat} {vv : Int32} {hh : AH} (X : r_C p c cX8_custom_ 5 s m args RX8 D b) (hr : meth.sig.returnType = (some .int)) (hk : meth.locks = false) (hn : meth.name = "custom") {k_98 : AH → Nat → Int32 → Int32 → Option (Int32 × AH)} (r_98 : ∀ (h : AH) (H : Heap) (locs : List Loc) (ls : Array Slot) (l0 : Nat) (l2 : Int32) (l3 : Int32), r_B D b s h H locs → lv_has ls 5 [(0, va_rf (some l0)), (2, .int l2), (3, .int l3)] → k_98 h l0 l2 l3 = some (vv, hh) → W p l e ({ frames := 4, cells := 0, slots := 0, locals := 85 } : Room) s m args below meth c H locs 0 0 (MQ below (r_Q D b (some (.int vv)) hh) args s 0 0 (fun q => b ≤ q)) (F0 m 98 ls [])) {h : AH} {H : Heap} {locs : List Loc} {ls : Array Slot} {l0 : Nat} {l2 : Int32} {s0 : Int32} (B : r_B D b s h H locs) (hl : lv_has ls 5 [(0, va_rf (some l0)), (2, .int l2)]) (hf : f_X8_custom__131 k_98 h l0 l2 s0 = some (vv, hh)) : W p l e ({ frames := 4, cells := 0, slots := 0, locals := 85 } : Room) s m args below meth c H locs 0 0 (MQ below (r_Q D b (some (.int vv)) hh) args s 0 0 (fun q => b ≤ q)) (F0 m 131 ls [.int s0]) := by
  obtain ⟨⟨hx, hb, hml, hown, hts⟩, -⟩ := id X
  unfold f_X8_custom__131 at hf
  refine lv_istore_n (i := 3) (lv' := [(3, .int s0), (0, va_rf (some l0)), (2, .int l2)]) hx hb dX8_custom__131 rfl hl (by decide) (by first | rfl | simp [va_cat, cat_i, cat_r, cat_l]) (fun ls hl => ?_)
  refine r_iinc (lv' := fun v9 => [(2, .int v9), (3, .int s0), (0, va_rf (some l0))]) hx hb hf dX8_custom__132 hl (k := 2) rfl (by decide) (by decide) (fun v => by first | rfl | simp [va_cat, cat_i, cat_r, cat_l]) (fun v9 ls hl hf => ?_)
  refine lv_iload_n hx hb dX8_custom__135 rfl (lv_at hl 1 rfl) ?_
  refine lv_if_eq (tgt := 98) hx hb dX8_custom__136 (by decide) (fun q_ => ?_) (fun q_ => ?_)
  · have hf := (r_ite hf).1 q_
    exact r_98 _ _ _ _ _ _ _ B (lv_sub hl [2, 0, 1] rfl) hf
  · have hf := (r_ite hf).2 q_
    refine r_aload_n hx hb dX8_custom__139 rfl (lv_at hl 2 rfl) ?_
    refine rcv_inv hf ?_
    intro a13 e14 s15 hf
    refine cal_inv hf ?_
    intro v10 h11 e12 hf
    refine r_call B (va_runV (As := []) (rest := []) X.1 (c_X8_blanks (l := l) (D := D) (b := b) e12) (r_cwV X rfl m_420 m_421 m_422 m_5 m_423 rfl rfl hd_X8_blanks ⟨Nat.le_of_ble_eq_true rfl, Nat.le_of_ble_eq_true rfl⟩) (r_preV X B s15 rfl []) rfl rfl hl.1 (by rw [e14]; rfl) (lv_room (by simp [va_cat, cat_i, cat_r, cat_l])) dX8_custom__140 ⟨Nat.zero_le _, Nat.zero_le _⟩) ?_
    intro H locs B
    refine W.cs (cells' := 0) (slots' := 0) rfl rfl (W.eq (g2 := F0 m 143 ls []) rfl ?_)
    refine lv_goto (tgt := 98) hx hb dX8_custom__143 (by decide) ?_
    exact r_98 _ _ _ _ _ _ _ B (lv_sub hl [2, 0, 1] rfl) hf
set_option maxRecDepth 100000 in
set_option maxHeartbeats 4000000 in
theorem t_X8_custom__130 {p : Program} {l : Launch} {e : Env} {s : State} {m : MethodId} {args : Array Value} {below : List Frame} {meth : Method} {c : Code} {D : RG} {b : Nat} {vv : Int32} {hh : AH} (X : r_C p c cX8_custom_ 5 s m args RX8 D b) (hr : meth.sig.returnType = (some .int)) (hk : meth.locks = false) (hn : meth.name = "custom") {k_98 : AH → Nat → Int32 → Int32 → Option (Int32 × AH)} (r_98 : ∀ (h : AH) (H : Heap) (locs : List Loc) (ls : Array Slot) (l0 : Nat) (l2 : Int32) (l3 : Int32), r_B D b s h H locs → lv_has ls 5 [(0, va_rf (some l0)), (2, .int l2), (3, .int l3)] → k_98 h l0 l2 l3 = some (vv, hh) → W p l e ({ frames := 4, cells := 0, slots := 0, locals := 85 } : Room) s m args below meth c H locs 0 0 (MQ below (r_Q D b (some (.int vv)) hh) args s 0 0 (fun q => b ≤ q)) (F0 m 98 ls [])) {h : AH} {H : Heap} {locs : List Loc} {ls : Array Slot} {l0 : Nat} {l2 : Int32} (B : r_B D b s h H locs) (hl : lv_has ls 5 [(0, va_rf (some l0)), (2, .int l2)]) (hf : f_X8_custom__130 k_98 h l0 l2 = some (vv, hh)) : W p l e ({ frames := 4, cells := 0, slots := 0, locals := 85 } : Room) s m args below meth c H locs 0 0 (MQ below (r_Q D b (some (.int vv)) hh) args s 0 0 (fun q => b ≤ q)) (F0 m 130 ls []) := by
  obtain ⟨⟨hx, hb, hml, hown, hts⟩, -⟩ := id X
  unfold f_X8_custom__130 at hf
  refine lv_iconst (v := 0) hx hb dX8_custom__130 (by decide) ?_
  exact t_X8_custom__131 X hr hk hn r_98 B (lv_sub hl [0, 1] rfl) hf
set_option maxRecDepth 100000 in
set_option maxHeartbeats 4000000 in
theorem t_X8_custom__98 {p : Program} {l : Launch} {e : Env} {s : State} {m : MethodId} {args : Array Value} {below : List Frame} {meth : Method} {c : Code} {D : RG} {b : Nat} {vv : Int32} {hh : AH} (X : r_C p c cX8_custom_ 5 s m args RX8 D b) (hr : meth.sig.returnType = (some .int)) (hk : meth.locks = false) (hn : meth.name = "custom") : ∀ (n : Nat) (h : AH) (H : Heap) (locs : List Loc) (ls : Array Slot) (l0 : Nat) (l2 : Int32) (l3 : Int32), r_B D b s h H locs → lv_has ls 5 [(0, va_rf (some l0)), (2, .int l2), (3, .int l3)] → f_X8_custom__98 n h l0 l2 l3 = some (vv, hh) → W p l e ({ frames := 4, cells := 0, slots := 0, locals := 85 } : Room) s m args below meth c H locs 0 0 (MQ below (r_Q D b (some (.int vv)) hh) args s 0 0 (fun q => b ≤ q)) (F0 m 98 ls []) := by
  obtain ⟨⟨hx, hb, hml, hown, hts⟩, -⟩ := id X
  intro n
  induction n with
  | zero =>
    intro h H locs ls l0 l2 l3 B hl hf
    cases hf
  | succ n ih =>
    intro h H locs ls l0 l2 l3 B hl hf
    unfold f_X8_custom__98 at hf
    refine lv_iload_n hx hb dX8_custom__98 rfl (lv_at hl 2 rfl) ?_
    refine lv_if_eq (tgt := 146) hx hb dX8_custom__99 (by decide) (fun q_ => ?_) (fun q_ => ?_)
    · have hf := (r_ite hf).1 q_
      exact t_X8_custom__146 X hr hk hn  B (lv_sub hl [0, 1, 2] rfl) hf
    · have hf := (r_ite hf).2 q_
      refine r_aload_n hx hb dX8_custom__102 rfl (lv_at hl 0 rfl) ?_
      refine r_gI X B hf fX8_34 (fun _ _ => rfl) m_418 dX8_custom__103 (fun v16 hf => ?_)
      refine r_aload_n hx hb dX8_custom__106 rfl (lv_at hl 0 rfl) ?_
      refine r_gI X B hf fX8_35 (fun _ _ => rfl) m_417 dX8_custom__107 (fun v17 hf => ?_)
      refine lv_icmp_ge (tgt := 146) hx hb dX8_custom__110 (by decide) (fun q_ => ?_) (fun q_ => ?_)
      · have hf := (r_ite hf).1 q_
        exact t_X8_custom__146 X hr hk hn  B (lv_sub hl [0, 1, 2] rfl) hf
      · have hf := (r_ite hf).2 q_
        refine lv_iload_n hx hb dX8_custom__113 rfl (lv_at hl 1 rfl) ?_
        refine lv_bipush (v := 10) hx hb dX8_custom__114 (by decide) ?_
        refine lv_icmp_ge (tgt := 130) hx hb dX8_custom__116 (by decide) (fun q_ => ?_) (fun q_ => ?_)
        · have hf := (r_ite hf).1 q_
          exact t_X8_custom__130 X hr hk hn ih B (lv_sub hl [0, 1] rfl) hf
        · have hf := (r_ite hf).2 q_
          refine r_aload_n hx hb dX8_custom__119 rfl (lv_at hl 0 rfl) ?_
          refine rcv_inv hf ?_
          intro a21 e22 s23 hf
          refine cal_inv hf ?_
          intro v18 h19 e20 hf
          refine r_call B (va_runV (As := []) (rest := []) X.1 (c_X8_statement (l := l) (D := D) (b := b) e20) (r_cwV X rfl m_424 m_425 m_426 m_5 m_427 rfl rfl hd_X8_statement ⟨Nat.le_of_ble_eq_true rfl, Nat.le_of_ble_eq_true rfl⟩) (r_preV X B s23 rfl []) rfl rfl hl.1 (by rw [e22]; rfl) (lv_room (by simp [va_cat, cat_i, cat_r, cat_l])) dX8_custom__120 ⟨Nat.zero_le _, Nat.zero_le _⟩) ?_
          intro H locs B
          refine W.cs (cells' := 0) (slots' := 0) rfl rfl (W.eq (g2 := F0 m 123 ls [.int v18]) rfl ?_)
          refine lv_if_eq (tgt := 130) hx hb dX8_custom__123 (by decide) (fun q_ => ?_) (fun q_ => ?_)
          · have hf := (r_ite hf).1 q_
            exact t_X8_custom__130 X hr hk hn ih B (lv_sub hl [0, 1] rfl) hf
          · have hf := (r_ite hf).2 q_
            refine lv_iconst (v := 1) hx hb dX8_custom__126 (by decide) ?_
            refine lv_goto (tgt := 131) hx hb dX8_custom__127 (by decide) ?_
            exact t_X8_custom__131 X hr hk hn ih B (lv_sub hl [0, 1] rfl) hf
set_option maxRecDepth 100000 in
set_option maxHeartbeats 4000000 in
theorem t_X8_custom__83 {p : Program} {l : Launch} {e : Env} {s : State} {m : MethodId} {args : Array Value} {below : List Frame} {meth : Method} {c : Code} {D : RG} {b : Nat} {vv : Int32} {hh : AH} (X : r_C p c cX8_custom_ 5 s m args RX8 D b) (hr : meth.sig.returnType = (some .int)) (hk : meth.locks = false) (hn : meth.name = "custom") {k_57 : AH → Nat → Int32 → Option (Int32 × AH)} (r_57 : ∀ (h : AH) (H : Heap) (locs : List Loc) (ls : Array Slot) (l0 : Nat) (l2 : Int32), r_B D b s h H locs → lv_has ls 5 [(0, va_rf (some l0)), (2, .int l2)] → k_57 h l0 l2 = some (vv, hh) → W p l e ({ frames := 4, cells := 0, slots := 0, locals := 85 } : Room) s m args below meth c H locs 0 0 (MQ below (r_Q D b (some (.int vv)) hh) args s 0 0 (fun q => b ≤ q)) (F0 m 57 ls [])) {h : AH} {H : Heap} {locs : List Loc} {ls : Array Slot} {l0 : Nat} {l2 : Int32} {s0 : Option Nat} {s1 : Int32} {s2 : Int32} (B : r_B D b s h H locs) (hl : lv_has ls 5 [(0, va_rf (some l0)), (2, .int l2)]) (hf : f_X8_custom__83 k_57 h l0 l2 s0 s1 s2 = some (vv, hh)) : W p l e ({ frames := 4, cells := 0, slots := 0, locals := 85 } : Room) s m args below meth c H locs 0 0 (MQ below (r_Q D b (some (.int vv)) hh) args s 0 0 (fun q => b ≤ q)) (F0 m 83 ls [.int s2, .int s1, va_rf s0]) := by
  obtain ⟨⟨hx, hb, hml, hown, hts⟩, -⟩ := id X
  unfold f_X8_custom__83 at hf
  refine r_sIi X B hf dX8_custom__83 (fun h24 H locs B hf => ?_)
  refine r_iinc (lv' := fun v25 => [(2, .int v25), (0, va_rf (some l0))]) hx hb hf dX8_custom__84 hl (k := 1) rfl (by decide) (by decide) (fun v => by first | rfl | simp [va_cat, cat_i, cat_r, cat_l]) (fun v25 ls hl hf => ?_)
  refine lv_goto (tgt := 57) hx hb dX8_custom__87 (by decide) ?_
  exact r_57 _ _ _ _ _ _ B (lv_sub hl [1, 0] rfl) hf
set_option maxRecDepth 100000 in
set_option maxHeartbeats 4000000 in
theorem t_X8_custom__57 {p : Program} {l : Launch} {e : Env} {s : State} {m : MethodId} {args : Array Value} {below : List Frame} {meth : Method} {c : Code} {D : RG} {b : Nat} {vv : Int32} {hh : AH} (X : r_C p c cX8_custom_ 5 s m args RX8 D b) (hr : meth.sig.returnType = (some .int)) (hk : meth.locks = false) (hn : meth.name = "custom") : ∀ (n : Nat) (h : AH) (H : Heap) (locs : List Loc) (ls : Array Slot) (l0 : Nat) (l2 : Int32), r_B D b s h H locs → lv_has ls 5 [(0, va_rf (some l0)), (2, .int l2)] → f_X8_custom__57 n h l0 l2 = some (vv, hh) → W p l e ({ frames := 4, cells := 0, slots := 0, locals := 85 } : Room) s m args below meth c H locs 0 0 (MQ below (r_Q D b (some (.int vv)) hh) args s 0 0 (fun q => b ≤ q)) (F0 m 57 ls []) := by
  obtain ⟨⟨hx, hb, hml, hown, hts⟩, -⟩ := id X
  intro n
  induction n with
  | zero =>
    intro h H locs ls l0 l2 B hl hf
    cases hf
  | succ n ih =>
    intro h H locs ls l0 l2 B hl hf
    unfold f_X8_custom__57 at hf
    refine lv_iload_n hx hb dX8_custom__57 rfl (lv_at hl 1 rfl) ?_
    refine lv_bipush (v := 14) hx hb dX8_custom__58 (by decide) ?_
    refine lv_icmp_ge (tgt := 90) hx hb dX8_custom__60 (by decide) (fun q_ => ?_) (fun q_ => ?_)
    · have hf := (r_ite hf).1 q_
      refine lv_iconst (v := 0) hx hb dX8_custom__90 (by decide) ?_
      refine lv_istore_n (i := 2) (lv' := [(2, .int 0), (0, va_rf (some l0))]) hx hb dX8_custom__91 rfl hl (by decide) (by first | rfl | simp [va_cat, cat_i, cat_r, cat_l]) (fun ls hl => ?_)
      refine lv_iconst (v := 1) hx hb dX8_custom__92 (by decide) ?_
      refine lv_istore_n (i := 3) (lv' := [(3, .int 1), (2, .int 0), (0, va_rf (some l0))]) hx hb dX8_custom__93 rfl hl (by decide) (by first | rfl | simp [va_cat, cat_i, cat_r, cat_l]) (fun ls hl => ?_)
      refine r_aload_n hx hb dX8_custom__94 rfl (lv_at hl 2 rfl) ?_
      refine rcv_inv hf ?_
      intro a29 e30 s31 hf
      refine cal_inv hf ?_
      intro v26 h27 e28 hf
      refine r_call B (va_runV (As := []) (rest := []) X.1 (c_X8_blanks (l := l) (D := D) (b := b) e28) (r_cwV X rfl m_420 m_421 m_422 m_5 m_423 rfl rfl hd_X8_blanks ⟨Nat.le_of_ble_eq_true rfl, Nat.le_of_ble_eq_true rfl⟩) (r_preV X B s31 rfl []) rfl rfl hl.1 (by rw [e30]; rfl) (lv_room (by simp [va_cat, cat_i, cat_r, cat_l])) dX8_custom__95 ⟨Nat.zero_le _, Nat.zero_le _⟩) ?_
      intro H locs B
      refine W.cs (cells' := 0) (slots' := 0) rfl rfl (W.eq (g2 := F0 m 98 ls []) rfl ?_)
      exact t_X8_custom__98 X hr hk hn  _ _ _ _ _ _ _ _ B (lv_sub hl [2, 1, 0] rfl) hf
    · have hf := (r_ite hf).2 q_
      refine r_aload_n hx hb dX8_custom__63 rfl (lv_at hl 0 rfl) ?_
      refine r_gR X B hf fX8_37 (fun _ _ => rfl) m_145 dX8_custom__64 (fun v32 hf => ?_)
      refine lv_bipush (v := 14) hx hb dX8_custom__67 (by decide) ?_
      refine lv_iload_n hx hb dX8_custom__69 rfl (lv_at hl 1 rfl) ?_
      refine lv_iadd hx hb dX8_custom__70 ?_
      refine lv_iload_n hx hb dX8_custom__71 rfl (lv_at hl 1 rfl) ?_
      refine lv_bipush (v := 11) hx hb dX8_custom__72 (by decide) ?_
      refine lv_icmp_ne (tgt := 82) hx hb dX8_custom__74 (by decide) (fun q_ => ?_) (fun q_ => ?_)
      · have hf := (r_ite hf).2 q_
        refine lv_iconst (v := 0) hx hb dX8_custom__82 (by decide) ?_
        exact t_X8_custom__83 X hr hk hn ih B (lv_sub hl [0, 1] rfl) hf
      · have hf := (r_ite hf).1 q_
        refine lv_bipush (v := 9) hx hb dX8_custom__77 (by decide) ?_
        refine lv_goto (tgt := 83) hx hb dX8_custom__79 (by decide) ?_
        exact t_X8_custom__83 X hr hk hn ih B (lv_sub hl [0, 1] rfl) hf
set_option maxRecDepth 100000 in
set_option maxHeartbeats 4000000 in
theorem t_X8_custom__17 {p : Program} {l : Launch} {e : Env} {s : State} {m : MethodId} {args : Array Value} {below : List Frame} {meth : Method} {c : Code} {D : RG} {b : Nat} {vv : Int32} {hh : AH} (X : r_C p c cX8_custom_ 5 s m args RX8 D b) (hr : meth.sig.returnType = (some .int)) (hk : meth.locks = false) (hn : meth.name = "custom") : ∀ (n : Nat) (h : AH) (H : Heap) (locs : List Loc) (ls : Array Slot) (l0 : Nat) (l1 : Int32) (l2 : Int32), r_B D b s h H locs → lv_has ls 5 [(0, va_rf (some l0)), (1, .int l1), (2, .int l2)] → f_X8_custom__17 n h l0 l1 l2 = some (vv, hh) → W p l e ({ frames := 4, cells := 0, slots := 0, locals := 85 } : Room) s m args below meth c H locs 0 0 (MQ below (r_Q D b (some (.int vv)) hh) args s 0 0 (fun q => b ≤ q)) (F0 m 17 ls []) := by
  obtain ⟨⟨hx, hb, hml, hown, hts⟩, -⟩ := id X
  intro n
  induction n with
  | zero =>
    intro h H locs ls l0 l1 l2 B hl hf
    cases hf
  | succ n ih =>
    intro h H locs ls l0 l1 l2 B hl hf
    unfold f_X8_custom__17 at hf
    refine lv_iload_n hx hb dX8_custom__17 rfl (lv_at hl 2 rfl) ?_
    refine lv_iload_n hx hb dX8_custom__18 rfl (lv_at hl 1 rfl) ?_
    refine lv_icmp_ge (tgt := 40) hx hb dX8_custom__19 (by decide) (fun q_ => ?_) (fun q_ => ?_)
    · have hf := (r_ite hf).1 q_
      refine r_aload_n hx hb dX8_custom__40 rfl (lv_at hl 0 rfl) ?_
      refine lv_iload_n hx hb dX8_custom__41 rfl (lv_at hl 1 rfl) ?_
      refine r_pI X B hf fX8_35 (Or.inl rfl) m_417 dX8_custom__42 (fun h33 H locs B hf => ?_)
      refine r_aload_n hx hb dX8_custom__45 rfl (lv_at hl 0 rfl) ?_
      refine lv_iconst (v := 0) hx hb dX8_custom__46 (by decide) ?_
      refine r_pI X B hf fX8_33 (Or.inl rfl) m_287 dX8_custom__47 (fun h34 H locs B hf => ?_)
      refine r_aload_n hx hb dX8_custom__50 rfl (lv_at hl 0 rfl) ?_
      refine lv_iconst (v := 0) hx hb dX8_custom__51 (by decide) ?_
      refine r_pI X B hf fX8_34 (Or.inl rfl) m_418 dX8_custom__52 (fun h35 H locs B hf => ?_)
      refine lv_iconst (v := 0) hx hb dX8_custom__55 (by decide) ?_
      refine lv_istore_n (i := 2) (lv' := [(2, .int 0), (0, va_rf (some l0)), (1, .int l1)]) hx hb dX8_custom__56 rfl hl (by decide) (by first | rfl | simp [va_cat, cat_i, cat_r, cat_l]) (fun ls hl => ?_)
      exact t_X8_custom__57 X hr hk hn  _ _ _ _ _ _ _ B (lv_sub hl [1, 0] rfl) hf
    · have hf := (r_ite hf).2 q_
      refine r_aload_n hx hb dX8_custom__22 rfl (lv_at hl 0 rfl) ?_
      refine r_gR X B hf fX8_32 (fun _ _ => rfl) m_143 dX8_custom__23 (fun v36 hf => ?_)
      refine lv_iload_n hx hb dX8_custom__26 rfl (lv_at hl 2 rfl) ?_
      refine r_aload_n hx hb dX8_custom__27 rfl (lv_at hl 0 rfl) ?_
      refine r_gR X B hf fX8_31 (fun _ _ => rfl) m_142 dX8_custom__28 (fun v37 hf => ?_)
      refine lv_iload_n hx hb dX8_custom__31 rfl (lv_at hl 2 rfl) ?_
      refine r_aIb X B hf dX8_custom__32 (fun v38 hf => ?_)
      refine r_sIb X B hf dX8_custom__33 (fun h39 H locs B hf => ?_)
      refine r_iinc (lv' := fun v40 => [(2, .int v40), (0, va_rf (some l0)), (1, .int l1)]) hx hb hf dX8_custom__34 hl (k := 2) rfl (by decide) (by decide) (fun v => by first | rfl | simp [va_cat, cat_i, cat_r, cat_l]) (fun v40 ls hl hf => ?_)
      refine lv_goto (tgt := 17) hx hb dX8_custom__37 (by decide) ?_
      exact ih _ _ _ _ _ _ _ B (lv_sub hl [1, 2, 0] rfl) hf
set_option maxRecDepth 100000 in
set_option maxHeartbeats 4000000 in
theorem c_X8_custom_ {l : Launch} {D : RG} {b : Nat} {h : AH} {l0 : Nat} {l1 : Int32} {vv : Int32} {hh : AH} (hf : f_X8_custom_ h l0 l1 = some (vv, hh)) : Met l yX8_custom_ (Cond.code yX8_custom_ cX8_custom_ 5 (some .int) :: wsL_law) ({ frames := 4, cells := 0, slots := 0, locals := 85 } : Room) (va_Pc [.ref l0, .int l1] (r_I D b h)) (r_Q D b (some (.int vv)) hh) 0 0 (fun q => b ≤ q) := by
  refine r_ofW (own := RX8) rfl (by decide +kernel) (by simp [lg_sl, va_cat, cat_i, cat_r, cat_l]) ?_
  intro p e s m args below meth c ls X B hr hk hn hl
  have hl : lv_has ls 5 [(0, .ref l0), (1, .int l1)] := by simpa [lv_args, va_cat, cat_i, cat_r, cat_l] using hl
  have hl : lv_has ls 5 [(0, va_rf (some l0)), (1, .int l1)] := hl
  obtain ⟨⟨hx, hb, hml, hown, hts⟩, -⟩ := id X
  generalize s.heap = H at B ⊢
  generalize ([] : List Loc) = locs at B ⊢
  unfold f_X8_custom_ at hf
  refine lv_iload_n hx hb dX8_custom__0 rfl (lv_at hl 1 rfl) ?_
  refine lv_iconst (v := 0) hx hb dX8_custom__1 (by decide) ?_
  refine r_aload_n hx hb dX8_custom__2 rfl (lv_at hl 0 rfl) ?_
  refine r_gI X B hf fX8_33 (fun _ _ => rfl) m_287 dX8_custom__3 (fun v41 hf => ?_)
  refine cal_inv hf ?_
  intro v42 h43 e44 hf
  refine r_call B (va_runS (As := [.int l1, .int 0, .int v41]) (rest := []) X.1 (c_X8_isIn (l := l) (D := D) (b := b) e44) (r_cwS X m_178 m_179 m_5 m_180 rfl rfl hd_X8_isIn ⟨Nat.le_of_ble_eq_true rfl, Nat.le_of_ble_eq_true rfl⟩) (r_preS X B [.int l1, .int 0, .int v41]) rfl rfl hl.1 rfl (lv_room (by simp [va_cat, cat_i, cat_r, cat_l])) dX8_custom__6 ⟨Nat.zero_le _, Nat.zero_le _⟩) ?_
  intro H locs B
  refine W.cs (cells' := 0) (slots' := 0) rfl rfl (W.eq (g2 := F0 m 9 ls [.int v42]) rfl ?_)
  refine lv_if_ne (tgt := 15) hx hb dX8_custom__9 (by decide) (fun q_ => ?_) (fun q_ => ?_)
  · have hf := (r_ite hf).2 q_
    refine lv_iconst (v := 0) hx hb dX8_custom__15 (by decide) ?_
    refine lv_istore_n (i := 2) (lv' := [(2, .int 0), (0, va_rf (some l0)), (1, .int l1)]) hx hb dX8_custom__16 rfl hl (by decide) (by first | rfl | simp [va_cat, cat_i, cat_r, cat_l]) (fun ls hl => ?_)
    exact t_X8_custom__17 X hr hk hn  _ _ _ _ _ _ _ _ B (lv_sub hl [1, 2, 0] rfl) hf
  · have hf := (r_ite hf).1 q_
    refine lv_bipush (v := (-2)) hx hb dX8_custom__12 (by decide) ?_
    exact r_iret X B hr hk hf dX8_custom__14
def f_X8_fault (h : AH) (l0 : Nat) : Option (Int32 × AH) := gI h (some l0) 8 36 (fun v1 => some (v1, h))
set_option maxRecDepth 100000 in
set_option maxHeartbeats 4000000 in
theorem c_X8_fault {l : Launch} {D : RG} {b : Nat} {h : AH} {l0 : Nat} {vv : Int32} {hh : AH} (hf : f_X8_fault h l0 = some (vv, hh)) : Met l yX8_fault (Cond.code yX8_fault cX8_fault 1 (some .int) :: wsL_law) ({ frames := 0, cells := 0, slots := 0, locals := 0 } : Room) (va_Pc [.ref l0] (r_I D b h)) (r_Q D b (some (.int vv)) hh) 0 0 (fun q => b ≤ q) := by
  refine r_ofW (own := RX8) rfl (by decide +kernel) (by simp [lg_sl, va_cat, cat_i, cat_r, cat_l]) ?_
  intro p e s m args below meth c ls X B hr hk hn hl
  have hl : lv_has ls 1 [(0, .ref l0)] := by simpa [lv_args, va_cat, cat_i, cat_r, cat_l] using hl
  have hl : lv_has ls 1 [(0, va_rf (some l0))] := hl
  obtain ⟨⟨hx, hb, hml, hown, hts⟩, -⟩ := id X
  generalize s.heap = H at B ⊢
  generalize ([] : List Loc) = locs at B ⊢
  unfold f_X8_fault at hf
  refine r_aload_n hx hb dX8_fault_0 rfl (lv_at hl 0 rfl) ?_
  refine r_gI X B hf fX8_36 (fun _ _ => rfl) m_144 dX8_fault_1 (fun v1 hf => ?_)
  exact r_iret X B hr hk hf dX8_fault_4
def f_X8_isAhead_116 (h : AH) (s0 : Int32) : Option (Int32 × AH) := rZ s0 h
def f_X8_isAhead_99 (h : AH) (s0 : Int32) : Option (Int32 × AH) := rZ s0 h
def f_X8_isAhead_82 (k_2 : AH → Nat → Int32 → Int32 → Int32 → Option (Int32 × AH)) (h : AH) (l0 : Nat) (l1 : Int32) (l2 : Int32) (l3 : Int32) (s0 : Int32) : Option (Int32 × AH) := if s0 = 0 then bd (l3 + 1) (fun v1 => k_2 h l0 l1 l2 v1) else if s0 ≤ 0 then f_X8_isAhead_99 h 0 else f_X8_isAhead_99 h 1
def f_X8_isAhead_2 : Nat → AH → Nat → Int32 → Int32 → Int32 → Option (Int32 × AH)
  | 0, _, _, _, _, _ => none
  | n + 1, h, l0, l1, l2, l3 => rcv h (some l0) 8 (fun a5 => cal (f_X8_custom h a5 0 0) (fun v2 h3 => if v2 < l3 then if l2 ≤ l1 then f_X8_isAhead_116 h3 0 else f_X8_isAhead_116 h3 1 else gR h3 (some l0) 8 37 (fun v8 => aI .int h3 v8 l3 (fun v9 => if v9 = 0 then gR h3 (some l0) 8 21 (fun v20 => aI .boolean h3 v20 l1 (fun v21 => cal (f_X8_one h3 v21) (fun v22 h23 => gR h23 (some l0) 8 21 (fun v25 => aI .boolean h23 v25 l2 (fun v26 => cal (f_X8_one h23 v26) (fun v27 h28 => f_X8_isAhead_82 (f_X8_isAhead_2 n) h28 l0 l1 l2 l3 (v22 - v27))))))) else gR h3 (some l0) 8 37 (fun v10 => aI .int h3 v10 l3 (fun v11 => if v11 = 1 then gR h3 (some l0) 8 16 (fun v16 => aI .int h3 v16 l2 (fun v17 => gR h3 (some l0) 8 16 (fun v18 => aI .int h3 v18 l1 (fun v19 => f_X8_isAhead_82 (f_X8_isAhead_2 n) h3 l0 l1 l2 l3 (v17 - v19))))) else gR h3 (some l0) 8 15 (fun v12 => aI .int h3 v12 l2 (fun v13 => gR h3 (some l0) 8 15 (fun v14 => aI .int h3 v14 l1 (fun v15 => f_X8_isAhead_82 (f_X8_isAhead_2 n) h3 l0 l1 l2 l3 (v13 - v15)))))))))))
def f_X8_isAhead (h : AH) (l0 : Nat) (l1 : Int32) (l2 : Int32) : Option (Int32 × AH) := f_X8_isAhead_2 FU h l0 l1 l2 1
set_option maxRecDepth 100000 in
set_option maxHeartbeats 4000000 in
theorem t_X8_isAhead_116 {p : Program} {l : Launch} {e : Env} {s : State} {m : MethodId} {args : Array Value} {below : List Frame} {meth : Method} {c : Code} {D : RG} {b : Nat} {vv : Int32} {hh : AH} (X : r_C p c cX8_isAhead 5 s m args RX8 D b) (hr : meth.sig.returnType = (some .boolean)) (hk : meth.locks = false) (hn : meth.name = "isAhead") {h : AH} {H : Heap} {locs : List Loc} {ls : Array Slot} {s0 : Int32} (B : r_B D b s h H locs) (hl : lv_has ls 5 []) (hf : f_X8_isAhead_116 h s0 = some (vv, hh)) : W p l e ({ frames := 1, cells := 0, slots := 0, locals := 22 } : Room) s m args below meth c H locs 0 0 (MQ below (r_Q D b (some (.int vv)) hh) args s 0 0 (fun q => b ≤ q)) (F0 m 116 ls [.int s0]) := by
  obtain ⟨⟨hx, hb, hml, hown, hts⟩, -⟩ := id X
  unfold f_X8_isAhead_116 at hf
  exact r_zret X B hr hk hf dX8_isAhead_116
set_option maxRecDepth 100000 in
set_option maxHeartbeats 4000000 in
theorem t_X8_isAhead_99 {p : Program} {l : Launch} {e : Env} {s : State} {m : MethodId} {args : Array Value} {below : List Frame} {meth : Method} {c : Code} {D : RG} {b : Nat} {vv : Int32} {hh : AH} (X : r_C p c cX8_isAhead 5 s m args RX8 D b) (hr : meth.sig.returnType = (some .boolean)) (hk : meth.locks = false) (hn : meth.name = "isAhead") {h : AH} {H : Heap} {locs : List Loc} {ls : Array Slot} {s0 : Int32} (B : r_B D b s h H locs) (hl : lv_has ls 5 []) (hf : f_X8_isAhead_99 h s0 = some (vv, hh)) : W p l e ({ frames := 1, cells := 0, slots := 0, locals := 22 } : Room) s m args below meth c H locs 0 0 (MQ below (r_Q D b (some (.int vv)) hh) args s 0 0 (fun q => b ≤ q)) (F0 m 99 ls [.int s0]) := by
  obtain ⟨⟨hx, hb, hml, hown, hts⟩, -⟩ := id X
  unfold f_X8_isAhead_99 at hf
  exact r_zret X B hr hk hf dX8_isAhead_99
set_option maxRecDepth 100000 in
set_option maxHeartbeats 4000000 in
theorem t_X8_isAhead_82 {p : Program} {l : Launch} {e : Env} {s : State} {m : MethodId} {args : Array Value} {below : List Frame} {meth : Method} {c : Code} {D : RG} {b : Nat} {vv : Int32} {hh : AH} (X : r_C p c cX8_isAhead 5 s m args RX8 D b) (hr : meth.sig.returnType = (some .boolean)) (hk : meth.locks = false) (hn : meth.name = "isAhead") {k_2 : AH → Nat → Int32 → Int32 → Int32 → Option (Int32 × AH)} (r_2 : ∀ (h : AH) (H : Heap) (locs : List Loc) (ls : Array Slot) (l0 : Nat) (l1 : Int32) (l2 : Int32) (l3 : Int32), r_B D b s h H locs → lv_has ls 5 [(0, va_rf (some l0)), (1, .int l1), (2, .int l2), (3, .int l3)] → k_2 h l0 l1 l2 l3 = some (vv, hh) → W p l e ({ frames := 1, cells := 0, slots := 0, locals := 22 } : Room) s m args below meth c H locs 0 0 (MQ below (r_Q D b (some (.int vv)) hh) args s 0 0 (fun q => b ≤ q)) (F0 m 2 ls [])) {h : AH} {H : Heap} {locs : List Loc} {ls : Array Slot} {l0 : Nat} {l1 : Int32} {l2 : Int32} {l3 : Int32} {s0 : Int32} (B : r_B D b s h H locs) (hl : lv_has ls 5 [(0, va_rf (some l0)), (1, .int l1), (2, .int l2), (3, .int l3)]) (hf : f_X8_isAhead_82 k_2 h l0 l1 l2 l3 s0 = some (vv, hh)) : W p l e ({ frames := 1, cells := 0, slots := 0, locals := 22 } : Room) s m args below meth c H locs 0 0 (MQ below (r_Q D b (some (.int vv)) hh) args s 0 0 (fun q => b ≤ q)) (F0 m 82 ls [.int s0]) := by
  obtain ⟨⟨hx, hb, hml, hown, hts⟩, -⟩ := id X
  unfold f_X8_isAhead_82 at hf
  refine lv_istore (i := 4) (lv' := [(4, .int s0), (0, va_rf (some l0)), (1, .int l1), (2, .int l2), (3, .int l3)]) hx hb dX8_isAhead_82 hl (by decide) (by first | rfl | simp [va_cat, cat_i, cat_r, cat_l]) (fun ls hl => ?_)
  refine lv_iload hx hb dX8_isAhead_84 (lv_at hl 0 rfl) ?_
  refine lv_if_eq (tgt := 100) hx hb dX8_isAhead_86 (by decide) (fun q_ => ?_) (fun q_ => ?_)
  · have hf := (r_ite hf).1 q_
    refine r_iinc (lv' := fun v1 => [(3, .int v1), (4, .int s0), (0, va_rf (some l0)), (1, .int l1), (2, .int l2)]) hx hb hf dX8_isAhead_100 hl (k := 4) rfl (by decide) (by decide) (fun v => by first | rfl | simp [va_cat, cat_i, cat_r, cat_l]) (fun v1 ls hl hf => ?_)
    refine lv_goto (tgt := 2) hx hb dX8_isAhead_103 (by decide) ?_
    exact r_2 _ _ _ _ _ _ _ _ B (lv_sub hl [2, 3, 4, 0] rfl) hf
  · have hf := (r_ite hf).2 q_
    refine lv_iload hx hb dX8_isAhead_89 (lv_at hl 0 rfl) ?_
    refine lv_if_le (tgt := 98) hx hb dX8_isAhead_91 (by decide) (fun q_ => ?_) (fun q_ => ?_)
    · have hf := (r_ite hf).1 q_
      refine lv_iconst (v := 0) hx hb dX8_isAhead_98 (by decide) ?_
      exact t_X8_isAhead_99 X hr hk hn  B (lv_sub hl [] rfl) hf
    · have hf := (r_ite hf).2 q_
      refine lv_iconst (v := 1) hx hb dX8_isAhead_94 (by decide) ?_
      refine lv_goto (tgt := 99) hx hb dX8_isAhead_95 (by decide) ?_
      exact t_X8_isAhead_99 X hr hk hn  B (lv_sub hl [] rfl) hf
set_option maxRecDepth 100000 in
set_option maxHeartbeats 4000000 in
theorem t_X8_isAhead_2 {p : Program} {l : Launch} {e : Env} {s : State} {m : MethodId} {args : Array Value} {below : List Frame} {meth : Method} {c : Code} {D : RG} {b : Nat} {vv : Int32} {hh : AH} (X : r_C p c cX8_isAhead 5 s m args RX8 D b) (hr : meth.sig.returnType = (some .boolean)) (hk : meth.locks = false) (hn : meth.name = "isAhead") : ∀ (n : Nat) (h : AH) (H : Heap) (locs : List Loc) (ls : Array Slot) (l0 : Nat) (l1 : Int32) (l2 : Int32) (l3 : Int32), r_B D b s h H locs → lv_has ls 5 [(0, va_rf (some l0)), (1, .int l1), (2, .int l2), (3, .int l3)] → f_X8_isAhead_2 n h l0 l1 l2 l3 = some (vv, hh) → W p l e ({ frames := 1, cells := 0, slots := 0, locals := 22 } : Room) s m args below meth c H locs 0 0 (MQ below (r_Q D b (some (.int vv)) hh) args s 0 0 (fun q => b ≤ q)) (F0 m 2 ls []) := by
  obtain ⟨⟨hx, hb, hml, hown, hts⟩, -⟩ := id X
  intro n
  induction n with
  | zero =>
    intro h H locs ls l0 l1 l2 l3 B hl hf
    cases hf
  | succ n ih =>
    intro h H locs ls l0 l1 l2 l3 B hl hf
    unfold f_X8_isAhead_2 at hf
    refine lv_iload_n hx hb dX8_isAhead_2 rfl (lv_at hl 3 rfl) ?_
    refine r_aload_n hx hb dX8_isAhead_3 rfl (lv_at hl 0 rfl) ?_
    refine lv_iconst (v := 0) hx hb dX8_isAhead_4 (by decide) ?_
    refine lv_iconst (v := 0) hx hb dX8_isAhead_5 (by decide) ?_
    refine rcv_inv hf ?_
    intro a5 e6 s7 hf
    refine cal_inv hf ?_
    intro v2 h3 e4 hf
    refine r_call B (va_runV (As := [.int 0, .int 0]) (rest := [.int l3]) X.1 (c_X8_custom (l := l) (D := D) (b := b) e4) (r_cwV X rfl m_574 m_575 m_576 m_5 m_577 rfl rfl hd_X8_custom ⟨Nat.le_of_ble_eq_true rfl, Nat.le_of_ble_eq_true rfl⟩) (r_preV X B s7 rfl [.int 0, .int 0]) rfl rfl hl.1 (by rw [e6]; rfl) (lv_room (by simp [va_cat, cat_i, cat_r, cat_l])) dX8_isAhead_6 ⟨Nat.zero_le _, Nat.zero_le _⟩) ?_
    intro H locs B
    refine W.cs (cells' := 0) (slots' := 0) rfl rfl (W.eq (g2 := F0 m 9 ls [.int v2, .int l3]) rfl ?_)
    refine lv_icmp_gt (tgt := 106) hx hb dX8_isAhead_9 (by decide) (fun q_ => ?_) (fun q_ => ?_)
    · have hf := (r_ite hf).1 q_
      refine lv_iload_n hx hb dX8_isAhead_106 rfl (lv_at hl 1 rfl) ?_
      refine lv_iload_n hx hb dX8_isAhead_107 rfl (lv_at hl 2 rfl) ?_
      refine lv_icmp_ge (tgt := 115) hx hb dX8_isAhead_108 (by decide) (fun q_ => ?_) (fun q_ => ?_)
      · have hf := (r_ite hf).1 q_
        refine lv_iconst (v := 0) hx hb dX8_isAhead_115 (by decide) ?_
        exact t_X8_isAhead_116 X hr hk hn  B (lv_sub hl [] rfl) hf
      · have hf := (r_ite hf).2 q_
        refine lv_iconst (v := 1) hx hb dX8_isAhead_111 (by decide) ?_
        refine lv_goto (tgt := 116) hx hb dX8_isAhead_112 (by decide) ?_
        exact t_X8_isAhead_116 X hr hk hn  B (lv_sub hl [] rfl) hf
    · have hf := (r_ite hf).2 q_
      refine r_aload_n hx hb dX8_isAhead_12 rfl (lv_at hl 0 rfl) ?_
      refine r_gR X B hf fX8_37 (fun _ _ => rfl) m_145 dX8_isAhead_13 (fun v8 hf => ?_)
      refine lv_iload_n hx hb dX8_isAhead_16 rfl (lv_at hl 3 rfl) ?_
      refine r_aIi X B hf dX8_isAhead_17 (fun v9 hf => ?_)
      refine lv_if_ne (tgt := 43) hx hb dX8_isAhead_18 (by decide) (fun q_ => ?_) (fun q_ => ?_)
      · have hf := (r_ite hf).2 q_
        refine r_aload_n hx hb dX8_isAhead_43 rfl (lv_at hl 0 rfl) ?_
        refine r_gR X B hf fX8_37 (fun _ _ => rfl) m_145 dX8_isAhead_44 (fun v10 hf => ?_)
        refine lv_iload_n hx hb dX8_isAhead_47 rfl (lv_at hl 3 rfl) ?_
        refine r_aIi X B hf dX8_isAhead_48 (fun v11 hf => ?_)
        refine lv_iconst (v := 1) hx hb dX8_isAhead_49 (by decide) ?_
        refine lv_icmp_ne (tgt := 69) hx hb dX8_isAhead_50 (by decide) (fun q_ => ?_) (fun q_ => ?_)
        · have hf := (r_ite hf).2 q_
          refine r_aload_n hx hb dX8_isAhead_69 rfl (lv_at hl 0 rfl) ?_
          refine r_gR X B hf fX8_15 (fun _ _ => rfl) m_131 dX8_isAhead_70 (fun v12 hf => ?_)
          refine lv_iload_n hx hb dX8_isAhead_73 rfl (lv_at hl 2 rfl) ?_
          refine r_aIi X B hf dX8_isAhead_74 (fun v13 hf => ?_)
          refine r_aload_n hx hb dX8_isAhead_75 rfl (lv_at hl 0 rfl) ?_
          refine r_gR X B hf fX8_15 (fun _ _ => rfl) m_131 dX8_isAhead_76 (fun v14 hf => ?_)
          refine lv_iload_n hx hb dX8_isAhead_79 rfl (lv_at hl 1 rfl) ?_
          refine r_aIi X B hf dX8_isAhead_80 (fun v15 hf => ?_)
          refine lv_isub hx hb dX8_isAhead_81 ?_
          exact t_X8_isAhead_82 X hr hk hn ih B (lv_sub hl [0, 1, 2, 3] rfl) hf
        · have hf := (r_ite hf).1 q_
          refine r_aload_n hx hb dX8_isAhead_53 rfl (lv_at hl 0 rfl) ?_
          refine r_gR X B hf fX8_16 (fun _ _ => rfl) m_132 dX8_isAhead_54 (fun v16 hf => ?_)
          refine lv_iload_n hx hb dX8_isAhead_57 rfl (lv_at hl 2 rfl) ?_
          refine r_aIi X B hf dX8_isAhead_58 (fun v17 hf => ?_)
          refine r_aload_n hx hb dX8_isAhead_59 rfl (lv_at hl 0 rfl) ?_
          refine r_gR X B hf fX8_16 (fun _ _ => rfl) m_132 dX8_isAhead_60 (fun v18 hf => ?_)
          refine lv_iload_n hx hb dX8_isAhead_63 rfl (lv_at hl 1 rfl) ?_
          refine r_aIi X B hf dX8_isAhead_64 (fun v19 hf => ?_)
          refine lv_isub hx hb dX8_isAhead_65 ?_
          refine lv_goto (tgt := 82) hx hb dX8_isAhead_66 (by decide) ?_
          exact t_X8_isAhead_82 X hr hk hn ih B (lv_sub hl [0, 1, 2, 3] rfl) hf
      · have hf := (r_ite hf).1 q_
        refine r_aload_n hx hb dX8_isAhead_21 rfl (lv_at hl 0 rfl) ?_
        refine r_gR X B hf fX8_21 (fun _ _ => rfl) m_137 dX8_isAhead_22 (fun v20 hf => ?_)
        refine lv_iload_n hx hb dX8_isAhead_25 rfl (lv_at hl 1 rfl) ?_
        refine r_aIz X B hf dX8_isAhead_26 (fun v21 hf => ?_)
        refine cal_inv hf ?_
        intro v22 h23 e24 hf
        refine r_call B (va_runS (As := [.int v21]) (rest := []) X.1 (c_X8_one (l := l) (D := D) (b := b) e24) (r_cwS X m_586 m_587 m_5 m_588 rfl rfl hd_X8_one ⟨Nat.le_of_ble_eq_true rfl, Nat.le_of_ble_eq_true rfl⟩) (r_preS X B [.int v21]) rfl rfl hl.1 rfl (lv_room (by simp [va_cat, cat_i, cat_r, cat_l])) dX8_isAhead_27 ⟨Nat.zero_le _, Nat.zero_le _⟩) ?_
        intro H locs B
        refine W.cs (cells' := 0) (slots' := 0) rfl rfl (W.eq (g2 := F0 m 30 ls [.int v22]) rfl ?_)
        refine r_aload_n hx hb dX8_isAhead_30 rfl (lv_at hl 0 rfl) ?_
        refine r_gR X B hf fX8_21 (fun _ _ => rfl) m_137 dX8_isAhead_31 (fun v25 hf => ?_)
        refine lv_iload_n hx hb dX8_isAhead_34 rfl (lv_at hl 2 rfl) ?_
        refine r_aIz X B hf dX8_isAhead_35 (fun v26 hf => ?_)
        refine cal_inv hf ?_
        intro v27 h28 e29 hf
        refine r_call B (va_runS (As := [.int v26]) (rest := [.int v22]) X.1 (c_X8_one (l := l) (D := D) (b := b) e29) (r_cwS X m_586 m_587 m_5 m_588 rfl rfl hd_X8_one ⟨Nat.le_of_ble_eq_true rfl, Nat.le_of_ble_eq_true rfl⟩) (r_preS X B [.int v26]) rfl rfl hl.1 rfl (lv_room (by simp [va_cat, cat_i, cat_r, cat_l])) dX8_isAhead_36 ⟨Nat.zero_le _, Nat.zero_le _⟩) ?_
        intro H locs B
        refine W.cs (cells' := 0) (slots' := 0) rfl rfl (W.eq (g2 := F0 m 39 ls [.int v27, .int v22]) rfl ?_)
        refine lv_isub hx hb dX8_isAhead_39 ?_
        refine lv_goto (tgt := 82) hx hb dX8_isAhead_40 (by decide) ?_
        exact t_X8_isAhead_82 X hr hk hn ih B (lv_sub hl [0, 1, 2, 3] rfl) hf
set_option maxRecDepth 100000 in
set_option maxHeartbeats 4000000 in
theorem c_X8_isAhead {l : Launch} {D : RG} {b : Nat} {h : AH} {l0 : Nat} {l1 : Int32} {l2 : Int32} {vv : Int32} {hh : AH} (hf : f_X8_isAhead h l0 l1 l2 = some (vv, hh)) : Met l yX8_isAhead (Cond.code yX8_isAhead cX8_isAhead 5 (some .boolean) :: wsL_law) ({ frames := 1, cells := 0, slots := 0, locals := 22 } : Room) (va_Pc [.ref l0, .int l1, .int l2] (r_I D b h)) (r_Q D b (some (.int vv)) hh) 0 0 (fun q => b ≤ q) := by
  refine r_ofW (own := RX8) rfl (by decide +kernel) (by simp [lg_sl, va_cat, cat_i, cat_r, cat_l]) ?_
  intro p e s m args below meth c ls X B hr hk hn hl
  have hl : lv_has ls 5 [(0, .ref l0), (1, .int l1), (2, .int l2)] := by simpa [lv_args, va_cat, cat_i, cat_r, cat_l] using hl
  have hl : lv_has ls 5 [(0, va_rf (some l0)), (1, .int l1), (2, .int l2)] := hl
  obtain ⟨⟨hx, hb, hml, hown, hts⟩, -⟩ := id X
  generalize s.heap = H at B ⊢
  generalize ([] : List Loc) = locs at B ⊢
  unfold f_X8_isAhead at hf
  refine lv_iconst (v := 1) hx hb dX8_isAhead_0 (by decide) ?_
  refine lv_istore_n (i := 3) (lv' := [(3, .int 1), (0, va_rf (some l0)), (1, .int l1), (2, .int l2)]) hx hb dX8_isAhead_1 rfl hl (by decide) (by first | rfl | simp [va_cat, cat_i, cat_r, cat_l]) (fun ls hl => ?_)
  exact t_X8_isAhead_2 X hr hk hn  _ _ _ _ _ _ _ _ _ B (lv_sub hl [1, 2, 3, 0] rfl) hf
def f_X8_ordered_83 (k_4 : AH → Nat → Int32 → Int32 → Int32 → Option (Int32 × AH)) (h : AH) (l0 : Nat) (l1 : Int32) (l2 : Int32) (l3 : Int32) : Option (Int32 × AH) := bd (l3 + 1) (fun v1 => k_4 h l0 l1 l2 v1)
def f_X8_ordered_72 (k_4 : AH → Nat → Int32 → Int32 → Int32 → Option (Int32 × AH)) (h : AH) (l0 : Nat) (l1 : Int32) (l2 : Int32) (l3 : Int32) (l4 : Int32) : Option (Int32 × AH) := gR h (some l0) 8 41 (fun v2 => sI .int h v2 l4 l3 (fun h3 => bd (l2 + 1) (fun v4 => f_X8_ordered_83 k_4 h3 l0 l1 v4 l3)))
def f_X8_ordered_28 (k_4 : AH → Nat → Int32 → Int32 → Int32 → Option (Int32 × AH)) : Nat → AH → Nat → Int32 → Int32 → Int32 → Int32 → Option (Int32 × AH)
  | 0, _, _, _, _, _, _ => none
  | n + 1, h, l0, l1, l2, l3, l4 => if l4 ≤ 0 then f_X8_ordered_72 k_4 h l0 l1 l2 l3 l4 else gR h (some l0) 8 41 (fun v5 => aI .int h v5 (l4 - 1) (fun v6 => rcv h (some l0) 8 (fun a10 => cal (f_X8_isAhead h a10 l3 v6) (fun v7 h8 => if v7 = 0 then f_X8_ordered_72 k_4 h8 l0 l1 l2 l3 l4 else gR h8 (some l0) 8 41 (fun v13 => gR h8 (some l0) 8 41 (fun v14 => aI .int h8 v14 (l4 - 1) (fun v15 => sI .int h8 v13 l4 v15 (fun h16 => bd (l4 + (-1)) (fun v17 => f_X8_ordered_28 k_4 n h16 l0 l1 l2 l3 v17)))))))))
def f_X8_ordered_4 : Nat → AH → Nat → Int32 → Int32 → Int32 → Option (Int32 × AH)
  | 0, _, _, _, _, _ => none
  | n + 1, h, l0, l1, l2, l3 => gI h (some l0) 8 3 (fun v18 => if v18 ≤ l3 then some (l2, h) else gR h (some l0) 8 14 (fun v19 => aI .int h v19 l3 (fun v20 => if v20 = l1 then f_X8_ordered_28 (f_X8_ordered_4 n) FU h l0 l1 l2 l3 l2 else f_X8_ordered_83 (f_X8_ordered_4 n) h l0 l1 l2 l3)))
def f_X8_ordered (h : AH) (l0 : Nat) (l1 : Int32) : Option (Int32 × AH) := f_X8_ordered_4 FU h l0 l1 0 0
set_option maxRecDepth 100000 in
set_option maxHeartbeats 4000000 in
theorem t_X8_ordered_83 {p : Program} {l : Launch} {e : Env} {s : State} {m : MethodId} {args : Array Value} {below : List Frame} {meth : Method} {c : Code} {D : RG} {b : Nat} {vv : Int32} {hh : AH} (X : r_C p c cX8_ordered 5 s m args RX8 D b) (hr : meth.sig.returnType = (some .int)) (hk : meth.locks = false) (hn : meth.name = "ordered") {k_4 : AH → Nat → Int32 → Int32 → Int32 → Option (Int32 × AH)} (r_4 : ∀ (h : AH) (H : Heap) (locs : List Loc) (ls : Array Slot) (l0 : Nat) (l1 : Int32) (l2 : Int32) (l3 : Int32), r_B D b s h H locs → lv_has ls 5 [(0, va_rf (some l0)), (1, .int l1), (2, .int l2), (3, .int l3)] → k_4 h l0 l1 l2 l3 = some (vv, hh) → W p l e ({ frames := 2, cells := 0, slots := 0, locals := 46 } : Room) s m args below meth c H locs 0 0 (MQ below (r_Q D b (some (.int vv)) hh) args s 0 0 (fun q => b ≤ q)) (F0 m 4 ls [])) {h : AH} {H : Heap} {locs : List Loc} {ls : Array Slot} {l0 : Nat} {l1 : Int32} {l2 : Int32} {l3 : Int32} (B : r_B D b s h H locs) (hl : lv_has ls 5 [(0, va_rf (some l0)), (1, .int l1), (2, .int l2), (3, .int l3)]) (hf : f_X8_ordered_83 k_4 h l0 l1 l2 l3 = some (vv, hh)) : W p l e ({ frames := 2, cells := 0, slots := 0, locals := 46 } : Room) s m args below meth c H locs 0 0 (MQ below (r_Q D b (some (.int vv)) hh) args s 0 0 (fun q => b ≤ q)) (F0 m 83 ls []) := by
  obtain ⟨⟨hx, hb, hml, hown, hts⟩, -⟩ := id X
  unfold f_X8_ordered_83 at hf
  refine r_iinc (lv' := fun v1 => [(3, .int v1), (0, va_rf (some l0)), (1, .int l1), (2, .int l2)]) hx hb hf dX8_ordered_83 hl (k := 3) rfl (by decide) (by decide) (fun v => by first | rfl | simp [va_cat, cat_i, cat_r, cat_l]) (fun v1 ls hl hf => ?_)
  refine lv_goto (tgt := 4) hx hb dX8_ordered_86 (by decide) ?_
  exact r_4 _ _ _ _ _ _ _ _ B (lv_sub hl [1, 2, 3, 0] rfl) hf
set_option maxRecDepth 100000 in
set_option maxHeartbeats 4000000 in
theorem t_X8_ordered_72 {p : Program} {l : Launch} {e : Env} {s : State} {m : MethodId} {args : Array Value} {below : List Frame} {meth : Method} {c : Code} {D : RG} {b : Nat} {vv : Int32} {hh : AH} (X : r_C p c cX8_ordered 5 s m args RX8 D b) (hr : meth.sig.returnType = (some .int)) (hk : meth.locks = false) (hn : meth.name = "ordered") {k_4 : AH → Nat → Int32 → Int32 → Int32 → Option (Int32 × AH)} (r_4 : ∀ (h : AH) (H : Heap) (locs : List Loc) (ls : Array Slot) (l0 : Nat) (l1 : Int32) (l2 : Int32) (l3 : Int32), r_B D b s h H locs → lv_has ls 5 [(0, va_rf (some l0)), (1, .int l1), (2, .int l2), (3, .int l3)] → k_4 h l0 l1 l2 l3 = some (vv, hh) → W p l e ({ frames := 2, cells := 0, slots := 0, locals := 46 } : Room) s m args below meth c H locs 0 0 (MQ below (r_Q D b (some (.int vv)) hh) args s 0 0 (fun q => b ≤ q)) (F0 m 4 ls [])) {h : AH} {H : Heap} {locs : List Loc} {ls : Array Slot} {l0 : Nat} {l1 : Int32} {l2 : Int32} {l3 : Int32} {l4 : Int32} (B : r_B D b s h H locs) (hl : lv_has ls 5 [(0, va_rf (some l0)), (1, .int l1), (2, .int l2), (3, .int l3), (4, .int l4)]) (hf : f_X8_ordered_72 k_4 h l0 l1 l2 l3 l4 = some (vv, hh)) : W p l e ({ frames := 2, cells := 0, slots := 0, locals := 46 } : Room) s m args below meth c H locs 0 0 (MQ below (r_Q D b (some (.int vv)) hh) args s 0 0 (fun q => b ≤ q)) (F0 m 72 ls []) := by
  obtain ⟨⟨hx, hb, hml, hown, hts⟩, -⟩ := id X
  unfold f_X8_ordered_72 at hf
  refine r_aload_n hx hb dX8_ordered_72 rfl (lv_at hl 0 rfl) ?_
  refine r_gR X B hf fX8_41 (fun _ _ => rfl) m_146 dX8_ordered_73 (fun v2 hf => ?_)
  refine lv_iload hx hb dX8_ordered_76 (lv_at hl 4 rfl) ?_
  refine lv_iload_n hx hb dX8_ordered_78 rfl (lv_at hl 3 rfl) ?_
  refine r_sIi X B hf dX8_ordered_79 (fun h3 H locs B hf => ?_)
  refine r_iinc (lv' := fun v4 => [(2, .int v4), (0, va_rf (some l0)), (1, .int l1), (3, .int l3), (4, .int l4)]) hx hb hf dX8_ordered_80 hl (k := 2) rfl (by decide) (by decide) (fun v => by first | rfl | simp [va_cat, cat_i, cat_r, cat_l]) (fun v4 ls hl hf => ?_)
  exact t_X8_ordered_83 X hr hk hn r_4 B (lv_sub hl [1, 2, 0, 3] rfl) hf
set_option maxRecDepth 100000 in
set_option maxHeartbeats 4000000 in
theorem t_X8_ordered_28 {p : Program} {l : Launch} {e : Env} {s : State} {m : MethodId} {args : Array Value} {below : List Frame} {meth : Method} {c : Code} {D : RG} {b : Nat} {vv : Int32} {hh : AH} (X : r_C p c cX8_ordered 5 s m args RX8 D b) (hr : meth.sig.returnType = (some .int)) (hk : meth.locks = false) (hn : meth.name = "ordered") {k_4 : AH → Nat → Int32 → Int32 → Int32 → Option (Int32 × AH)} (r_4 : ∀ (h : AH) (H : Heap) (locs : List Loc) (ls : Array Slot) (l0 : Nat) (l1 : Int32) (l2 : Int32) (l3 : Int32), r_B D b s h H locs → lv_has ls 5 [(0, va_rf (some l0)), (1, .int l1), (2, .int l2), (3, .int l3)] → k_4 h l0 l1 l2 l3 = some (vv, hh) → W p l e ({ frames := 2, cells := 0, slots := 0, locals := 46 } : Room) s m args below meth c H locs 0 0 (MQ below (r_Q D b (some (.int vv)) hh) args s 0 0 (fun q => b ≤ q)) (F0 m 4 ls [])) : ∀ (n : Nat) (h : AH) (H : Heap) (locs : List Loc) (ls : Array Slot) (l0 : Nat) (l1 : Int32) (l2 : Int32) (l3 : Int32) (l4 : Int32), r_B D b s h H locs → lv_has ls 5 [(0, va_rf (some l0)), (1, .int l1), (2, .int l2), (3, .int l3), (4, .int l4)] → f_X8_ordered_28 k_4 n h l0 l1 l2 l3 l4 = some (vv, hh) → W p l e ({ frames := 2, cells := 0, slots := 0, locals := 46 } : Room) s m args below meth c H locs 0 0 (MQ below (r_Q D b (some (.int vv)) hh) args s 0 0 (fun q => b ≤ q)) (F0 m 28 ls []) := by
  obtain ⟨⟨hx, hb, hml, hown, hts⟩, -⟩ := id X
  intro n
  induction n with
  | zero =>
    intro h H locs ls l0 l1 l2 l3 l4 B hl hf
    cases hf
  | succ n ih =>
    intro h H locs ls l0 l1 l2 l3 l4 B hl hf
    unfold f_X8_ordered_28 at hf
    refine lv_iload hx hb dX8_ordered_28 (lv_at hl 4 rfl) ?_
    refine lv_if_le (tgt := 72) hx hb dX8_ordered_30 (by decide) (fun q_ => ?_) (fun q_ => ?_)
    · have hf := (r_ite hf).1 q_
      exact t_X8_ordered_72 X hr hk hn r_4 B (lv_sub hl [0, 1, 2, 3, 4] rfl) hf
    · have hf := (r_ite hf).2 q_
      refine r_aload_n hx hb dX8_ordered_33 rfl (lv_at hl 0 rfl) ?_
      refine lv_iload_n hx hb dX8_ordered_34 rfl (lv_at hl 3 rfl) ?_
      refine r_aload_n hx hb dX8_ordered_35 rfl (lv_at hl 0 rfl) ?_
      refine r_gR X B hf fX8_41 (fun _ _ => rfl) m_146 dX8_ordered_36 (fun v5 hf => ?_)
      refine lv_iload hx hb dX8_ordered_39 (lv_at hl 4 rfl) ?_
      refine lv_iconst (v := 1) hx hb dX8_ordered_41 (by decide) ?_
      refine lv_isub hx hb dX8_ordered_42 ?_
      refine r_aIi X B hf dX8_ordered_43 (fun v6 hf => ?_)
      refine rcv_inv hf ?_
      intro a10 e11 s12 hf
      refine cal_inv hf ?_
      intro v7 h8 e9 hf
      refine r_call B (va_runV (As := [.int l3, .int v6]) (rest := []) X.1 (c_X8_isAhead (l := l) (D := D) (b := b) e9) (r_cwV X rfl m_582 m_583 m_584 m_5 m_585 rfl rfl hd_X8_isAhead ⟨Nat.le_of_ble_eq_true rfl, Nat.le_of_ble_eq_true rfl⟩) (r_preV X B s12 rfl [.int l3, .int v6]) rfl rfl hl.1 (by rw [e11]; rfl) (lv_room (by simp [va_cat, cat_i, cat_r, cat_l])) dX8_ordered_44 ⟨Nat.zero_le _, Nat.zero_le _⟩) ?_
      intro H locs B
      refine W.cs (cells' := 0) (slots' := 0) rfl rfl (W.eq (g2 := F0 m 47 ls [.int v7]) rfl ?_)
      refine lv_if_eq (tgt := 72) hx hb dX8_ordered_47 (by decide) (fun q_ => ?_) (fun q_ => ?_)
      · have hf := (r_ite hf).1 q_
        exact t_X8_ordered_72 X hr hk hn r_4 B (lv_sub hl [0, 1, 2, 3, 4] rfl) hf
      · have hf := (r_ite hf).2 q_
        refine r_aload_n hx hb dX8_ordered_50 rfl (lv_at hl 0 rfl) ?_
        refine r_gR X B hf fX8_41 (fun _ _ => rfl) m_146 dX8_ordered_51 (fun v13 hf => ?_)
        refine lv_iload hx hb dX8_ordered_54 (lv_at hl 4 rfl) ?_
        refine r_aload_n hx hb dX8_ordered_56 rfl (lv_at hl 0 rfl) ?_
        refine r_gR X B hf fX8_41 (fun _ _ => rfl) m_146 dX8_ordered_57 (fun v14 hf => ?_)
        refine lv_iload hx hb dX8_ordered_60 (lv_at hl 4 rfl) ?_
        refine lv_iconst (v := 1) hx hb dX8_ordered_62 (by decide) ?_
        refine lv_isub hx hb dX8_ordered_63 ?_
        refine r_aIi X B hf dX8_ordered_64 (fun v15 hf => ?_)
        refine r_sIi X B hf dX8_ordered_65 (fun h16 H locs B hf => ?_)
        refine r_iinc (lv' := fun v17 => [(4, .int v17), (0, va_rf (some l0)), (1, .int l1), (2, .int l2), (3, .int l3)]) hx hb hf dX8_ordered_66 hl (k := 4) rfl (by decide) (by decide) (fun v => by first | rfl | simp [va_cat, cat_i, cat_r, cat_l]) (fun v17 ls hl hf => ?_)
        refine lv_goto (tgt := 28) hx hb dX8_ordered_69 (by decide) ?_
        exact ih _ _ _ _ _ _ _ _ _ B (lv_sub hl [1, 2, 3, 4, 0] rfl) hf
set_option maxRecDepth 100000 in
set_option maxHeartbeats 4000000 in
theorem t_X8_ordered_4 {p : Program} {l : Launch} {e : Env} {s : State} {m : MethodId} {args : Array Value} {below : List Frame} {meth : Method} {c : Code} {D : RG} {b : Nat} {vv : Int32} {hh : AH} (X : r_C p c cX8_ordered 5 s m args RX8 D b) (hr : meth.sig.returnType = (some .int)) (hk : meth.locks = false) (hn : meth.name = "ordered") : ∀ (n : Nat) (h : AH) (H : Heap) (locs : List Loc) (ls : Array Slot) (l0 : Nat) (l1 : Int32) (l2 : Int32) (l3 : Int32), r_B D b s h H locs → lv_has ls 5 [(0, va_rf (some l0)), (1, .int l1), (2, .int l2), (3, .int l3)] → f_X8_ordered_4 n h l0 l1 l2 l3 = some (vv, hh) → W p l e ({ frames := 2, cells := 0, slots := 0, locals := 46 } : Room) s m args below meth c H locs 0 0 (MQ below (r_Q D b (some (.int vv)) hh) args s 0 0 (fun q => b ≤ q)) (F0 m 4 ls []) := by
  obtain ⟨⟨hx, hb, hml, hown, hts⟩, -⟩ := id X
  intro n
  induction n with
  | zero =>
    intro h H locs ls l0 l1 l2 l3 B hl hf
    cases hf
  | succ n ih =>
    intro h H locs ls l0 l1 l2 l3 B hl hf
    unfold f_X8_ordered_4 at hf
    refine lv_iload_n hx hb dX8_ordered_4 rfl (lv_at hl 3 rfl) ?_
    refine r_aload_n hx hb dX8_ordered_5 rfl (lv_at hl 0 rfl) ?_
    refine r_gI X B hf fX8_3 (fun _ _ => rfl) m_243 dX8_ordered_6 (fun v18 hf => ?_)
    refine lv_icmp_ge (tgt := 89) hx hb dX8_ordered_9 (by decide) (fun q_ => ?_) (fun q_ => ?_)
    · have hf := (r_ite hf).1 q_
      refine lv_iload_n hx hb dX8_ordered_89 rfl (lv_at hl 2 rfl) ?_
      exact r_iret X B hr hk hf dX8_ordered_90
    · have hf := (r_ite hf).2 q_
      refine r_aload_n hx hb dX8_ordered_12 rfl (lv_at hl 0 rfl) ?_
      refine r_gR X B hf fX8_14 (fun _ _ => rfl) m_130 dX8_ordered_13 (fun v19 hf => ?_)
      refine lv_iload_n hx hb dX8_ordered_16 rfl (lv_at hl 3 rfl) ?_
      refine r_aIi X B hf dX8_ordered_17 (fun v20 hf => ?_)
      refine lv_iload_n hx hb dX8_ordered_18 rfl (lv_at hl 1 rfl) ?_
      refine lv_icmp_eq (tgt := 25) hx hb dX8_ordered_19 (by decide) (fun q_ => ?_) (fun q_ => ?_)
      · have hf := (r_ite hf).1 q_
        refine lv_iload_n hx hb dX8_ordered_25 rfl (lv_at hl 2 rfl) ?_
        refine lv_istore (i := 4) (lv' := [(4, .int l2), (0, va_rf (some l0)), (1, .int l1), (2, .int l2), (3, .int l3)]) hx hb dX8_ordered_26 hl (by decide) (by first | rfl | simp [va_cat, cat_i, cat_r, cat_l]) (fun ls hl => ?_)
        exact t_X8_ordered_28 X hr hk hn ih _ _ _ _ _ _ _ _ _ _ B (lv_sub hl [1, 2, 3, 4, 0] rfl) hf
      · have hf := (r_ite hf).2 q_
        refine lv_goto (tgt := 83) hx hb dX8_ordered_22 (by decide) ?_
        exact t_X8_ordered_83 X hr hk hn ih B (lv_sub hl [0, 1, 2, 3] rfl) hf
set_option maxRecDepth 100000 in
set_option maxHeartbeats 4000000 in
theorem c_X8_ordered {l : Launch} {D : RG} {b : Nat} {h : AH} {l0 : Nat} {l1 : Int32} {vv : Int32} {hh : AH} (hf : f_X8_ordered h l0 l1 = some (vv, hh)) : Met l yX8_ordered (Cond.code yX8_ordered cX8_ordered 5 (some .int) :: wsL_law) ({ frames := 2, cells := 0, slots := 0, locals := 46 } : Room) (va_Pc [.ref l0, .int l1] (r_I D b h)) (r_Q D b (some (.int vv)) hh) 0 0 (fun q => b ≤ q) := by
  refine r_ofW (own := RX8) rfl (by decide +kernel) (by simp [lg_sl, va_cat, cat_i, cat_r, cat_l]) ?_
  intro p e s m args below meth c ls X B hr hk hn hl
  have hl : lv_has ls 5 [(0, .ref l0), (1, .int l1)] := by simpa [lv_args, va_cat, cat_i, cat_r, cat_l] using hl
  have hl : lv_has ls 5 [(0, va_rf (some l0)), (1, .int l1)] := hl
  obtain ⟨⟨hx, hb, hml, hown, hts⟩, -⟩ := id X
  generalize s.heap = H at B ⊢
  generalize ([] : List Loc) = locs at B ⊢
  unfold f_X8_ordered at hf
  refine lv_iconst (v := 0) hx hb dX8_ordered_0 (by decide) ?_
  refine lv_istore_n (i := 2) (lv' := [(2, .int 0), (0, va_rf (some l0)), (1, .int l1)]) hx hb dX8_ordered_1 rfl hl (by decide) (by first | rfl | simp [va_cat, cat_i, cat_r, cat_l]) (fun ls hl => ?_)
  refine lv_iconst (v := 0) hx hb dX8_ordered_2 (by decide) ?_
  refine lv_istore_n (i := 3) (lv' := [(3, .int 0), (2, .int 0), (0, va_rf (some l0)), (1, .int l1)]) hx hb dX8_ordered_3 rfl hl (by decide) (by first | rfl | simp [va_cat, cat_i, cat_r, cat_l]) (fun ls hl => ?_)
  exact t_X8_ordered_4 X hr hk hn  _ _ _ _ _ _ _ _ _ B (lv_sub hl [2, 3, 1, 0] rfl) hf
