def f_X2_shareInOrder_42 (k_8 : AH → Int32 → Int32 → Option Nat → Option (Unit × AH)) (h : AH) (l1 : Int32) (l3 : Int32) (l4 : Option Nat) (s0 : Option Nat) (s1 : Int32) : Option (Unit × AH) := pI h s0 1 7 s1 (fun h1 => gI h1 l4 1 7 (fun v2 => bd (l3 - v2) (fun v3 => gR h1 l4 1 6 (fun v4 => k_8 h1 l1 v3 v4))))
def f_X2_shareInOrder_41 (k_8 : AH → Int32 → Int32 → Option Nat → Option (Unit × AH)) (h : AH) (l1 : Int32) (l3 : Int32) (l4 : Option Nat) (s0 : Option Nat) : Option (Unit × AH) := f_X2_shareInOrder_42 k_8 h l1 l3 l4 s0 0
def f_X2_shareInOrder_8 : Nat → AH → Int32 → Int32 → Option Nat → Option (Unit × AH)
  | 0, _, _, _, _ => none
  | n + 1, h, l1, l3, l4 => nul l4 (some ((), h)) (gI h l4 1 2 (fun v5 => if l1 < v5 then f_X2_shareInOrder_41 (f_X2_shareInOrder_8 n) h l1 l3 l4 l4 else gI h l4 1 3 (fun v6 => if l3 < v6 then f_X2_shareInOrder_41 (f_X2_shareInOrder_8 n) h l1 l3 l4 l4 else gI h l4 1 3 (fun v7 => f_X2_shareInOrder_42 (f_X2_shareInOrder_8 n) h l1 l3 l4 l4 v7))))
def f_X2_shareInOrder (h : AH) (l0 : Option Nat) (l1 : Int32) (l2 : Int32) : Option (Unit × AH) := gR h l0 5 9 (fun v8 => f_X2_shareInOrder_8 FU h l1 l2 v8)
set_option maxRecDepth 100000 in
set_option maxHeartbeats 4000000 in
theorem t_X2_shareInOrder_42 {p : Program} {l : Launch} {e : Env} {s : State} {m : MethodId} {args : Array Value} {below : List Frame} {meth : Method} {c : Code} {D : RG} {b : Nat} {vv : Unit} {hh : AH} (X : r_C p c cX2_shareInOrder 5 s m args RX2 D b) (hr : meth.sig.returnType = none) (hk : meth.locks = false) (hn : meth.name = "shareInOrder") {k_8 : AH → Int32 → Int32 → Option Nat → Option (Unit × AH)} (r_8 : ∀ (h : AH) (H : Heap) (locs : List Loc) (ls : Array Slot) (l1 : Int32) (l3 : Int32) (l4 : Option Nat), r_B D b s h H locs → lv_has ls 5 [(1, .int l1), (3, .int l3), (4, va_rf l4)] → k_8 h l1 l3 l4 = some (vv, hh) → W p l e ({ frames := 0, cells := 0, slots := 0, locals := 0 } : Room) s m args below meth c H locs 0 0 (MQ below (r_Q D b none hh) args s 0 0 (fun q => b ≤ q)) (F0 m 8 ls [])) {h : AH} {H : Heap} {locs : List Loc} {ls : Array Slot} {l1 : Int32} {l3 : Int32} {l4 : Option Nat} {s0 : Option Nat} {s1 : Int32} (B : r_B D b s h H locs) (hl : lv_has ls 5 [(1, .int l1), (3, .int l3), (4, va_rf l4)]) (hf : f_X2_shareInOrder_42 k_8 h l1 l3 l4 s0 s1 = some (vv, hh)) : W p l e ({ frames := 0, cells := 0, slots := 0, locals := 0 } : Room) s m args below meth c H locs 0 0 (MQ below (r_Q D b none hh) args s 0 0 (fun q => b ≤ q)) (F0 m 42 ls [.int s1, va_rf s0]) := by
  obtain ⟨⟨hx, hb, hml, hown, hts⟩, -⟩ := id X
  unfold f_X2_shareInOrder_42 at hf
  refine r_pI X B hf fX1_7 (Or.inl rfl) m_510 dX2_shareInOrder_42 (fun h1 H locs B hf => ?_)
  refine lv_iload_n hx hb dX2_shareInOrder_45 rfl (lv_at hl 1 rfl) ?_
  refine r_aload hx hb dX2_shareInOrder_46 (lv_at hl 2 rfl) ?_
  refine r_gI X B hf fX1_7 (fun _ _ => rfl) m_510 dX2_shareInOrder_48 (fun v2 hf => ?_)
  refine lv_isub hx hb dX2_shareInOrder_51 ?_
  refine r_bd hf (fun v3 hf => ?_)
  refine lv_istore_n (i := 3) (lv' := [(3, .int v3), (1, .int l1), (4, va_rf l4)]) hx hb dX2_shareInOrder_52 rfl hl (by decide) (by first | rfl | simp [va_cat, cat_i, cat_r, cat_l]) (fun ls hl => ?_)
  refine r_aload hx hb dX2_shareInOrder_53 (lv_at hl 2 rfl) ?_
  refine r_gR X B hf fX1_6 (fun _ _ => rfl) m_512 dX2_shareInOrder_55 (fun v4 hf => ?_)
  refine r_astore (i := 4) (lv' := [(4, va_rf v4), (3, .int v3), (1, .int l1)]) hx hb dX2_shareInOrder_58 hl (by decide) (by first | rfl | simp [va_cat, cat_i, cat_r, cat_l]) (fun ls hl => ?_)
  refine lv_goto (tgt := 8) hx hb dX2_shareInOrder_60 (by decide) ?_
  exact r_8 _ _ _ _ _ _ _ B (lv_sub hl [2, 1, 0] rfl) hf
set_option maxRecDepth 100000 in
set_option maxHeartbeats 4000000 in
theorem t_X2_shareInOrder_41 {p : Program} {l : Launch} {e : Env} {s : State} {m : MethodId} {args : Array Value} {below : List Frame} {meth : Method} {c : Code} {D : RG} {b : Nat} {vv : Unit} {hh : AH} (X : r_C p c cX2_shareInOrder 5 s m args RX2 D b) (hr : meth.sig.returnType = none) (hk : meth.locks = false) (hn : meth.name = "shareInOrder") {k_8 : AH → Int32 → Int32 → Option Nat → Option (Unit × AH)} (r_8 : ∀ (h : AH) (H : Heap) (locs : List Loc) (ls : Array Slot) (l1 : Int32) (l3 : Int32) (l4 : Option Nat), r_B D b s h H locs → lv_has ls 5 [(1, .int l1), (3, .int l3), (4, va_rf l4)] → k_8 h l1 l3 l4 = some (vv, hh) → W p l e ({ frames := 0, cells := 0, slots := 0, locals := 0 } : Room) s m args below meth c H locs 0 0 (MQ below (r_Q D b none hh) args s 0 0 (fun q => b ≤ q)) (F0 m 8 ls [])) {h : AH} {H : Heap} {locs : List Loc} {ls : Array Slot} {l1 : Int32} {l3 : Int32} {l4 : Option Nat} {s0 : Option Nat} (B : r_B D b s h H locs) (hl : lv_has ls 5 [(1, .int l1), (3, .int l3), (4, va_rf l4)]) (hf : f_X2_shareInOrder_41 k_8 h l1 l3 l4 s0 = some (vv, hh)) : W p l e ({ frames := 0, cells := 0, slots := 0, locals := 0 } : Room) s m args below meth c H locs 0 0 (MQ below (r_Q D b none hh) args s 0 0 (fun q => b ≤ q)) (F0 m 41 ls [va_rf s0]) := by
  obtain ⟨⟨hx, hb, hml, hown, hts⟩, -⟩ := id X
  unfold f_X2_shareInOrder_41 at hf
  refine lv_iconst (v := 0) hx hb dX2_shareInOrder_41 (by decide) ?_
  exact t_X2_shareInOrder_42 X hr hk hn r_8 B (lv_sub hl [0, 1, 2] rfl) hf
set_option maxRecDepth 100000 in
set_option maxHeartbeats 4000000 in
theorem t_X2_shareInOrder_8 {p : Program} {l : Launch} {e : Env} {s : State} {m : MethodId} {args : Array Value} {below : List Frame} {meth : Method} {c : Code} {D : RG} {b : Nat} {vv : Unit} {hh : AH} (X : r_C p c cX2_shareInOrder 5 s m args RX2 D b) (hr : meth.sig.returnType = none) (hk : meth.locks = false) (hn : meth.name = "shareInOrder") : ∀ (n : Nat) (h : AH) (H : Heap) (locs : List Loc) (ls : Array Slot) (l1 : Int32) (l3 : Int32) (l4 : Option Nat), r_B D b s h H locs → lv_has ls 5 [(1, .int l1), (3, .int l3), (4, va_rf l4)] → f_X2_shareInOrder_8 n h l1 l3 l4 = some (vv, hh) → W p l e ({ frames := 0, cells := 0, slots := 0, locals := 0 } : Room) s m args below meth c H locs 0 0 (MQ below (r_Q D b none hh) args s 0 0 (fun q => b ≤ q)) (F0 m 8 ls []) := by
  obtain ⟨⟨hx, hb, hml, hown, hts⟩, -⟩ := id X
  intro n
  induction n with
  | zero =>
    intro h H locs ls l1 l3 l4 B hl hf
    cases hf
  | succ n ih =>
    intro h H locs ls l1 l3 l4 B hl hf
    unfold f_X2_shareInOrder_8 at hf
    refine r_aload hx hb dX2_shareInOrder_8 (lv_at hl 2 rfl) ?_
    refine r_ifnull (tgt := 63) hx hb hf dX2_shareInOrder_10 (by decide) (fun hf e_ => ?_) (fun hf e_ => ?_)
    · exact r_vret X B hr hk hf dX2_shareInOrder_63
    · refine r_aload hx hb dX2_shareInOrder_13 (lv_at hl 2 rfl) ?_
      refine r_aload hx hb dX2_shareInOrder_15 (lv_at hl 2 rfl) ?_
      refine r_gI X B hf fX1_2 (fun _ _ => rfl) m_520 dX2_shareInOrder_17 (fun v5 hf => ?_)
      refine lv_iload_n hx hb dX2_shareInOrder_20 rfl (lv_at hl 0 rfl) ?_
      refine lv_icmp_gt (tgt := 41) hx hb dX2_shareInOrder_21 (by decide) (fun q_ => ?_) (fun q_ => ?_)
      · have hf := (r_ite hf).1 q_
        exact t_X2_shareInOrder_41 X hr hk hn ih B (lv_sub hl [0, 1, 2] rfl) hf
      · have hf := (r_ite hf).2 q_
        refine r_aload hx hb dX2_shareInOrder_24 (lv_at hl 2 rfl) ?_
        refine r_gI X B hf fX1_3 (fun _ _ => rfl) m_511 dX2_shareInOrder_26 (fun v6 hf => ?_)
        refine lv_iload_n hx hb dX2_shareInOrder_29 rfl (lv_at hl 1 rfl) ?_
        refine lv_icmp_gt (tgt := 41) hx hb dX2_shareInOrder_30 (by decide) (fun q_ => ?_) (fun q_ => ?_)
        · have hf := (r_ite hf).1 q_
          exact t_X2_shareInOrder_41 X hr hk hn ih B (lv_sub hl [0, 1, 2] rfl) hf
        · have hf := (r_ite hf).2 q_
          refine r_aload hx hb dX2_shareInOrder_33 (lv_at hl 2 rfl) ?_
          refine r_gI X B hf fX1_3 (fun _ _ => rfl) m_511 dX2_shareInOrder_35 (fun v7 hf => ?_)
          refine lv_goto (tgt := 42) hx hb dX2_shareInOrder_38 (by decide) ?_
          exact t_X2_shareInOrder_42 X hr hk hn ih B (lv_sub hl [0, 1, 2] rfl) hf
set_option maxRecDepth 100000 in
set_option maxHeartbeats 4000000 in
theorem c_X2_shareInOrder {l : Launch} {D : RG} {b : Nat} {h : AH} {l0 : Option Nat} {l1 : Int32} {l2 : Int32} {vv : Unit} {hh : AH} (hf : f_X2_shareInOrder h l0 l1 l2 = some (vv, hh)) : Met l yX2_shareInOrder (Cond.code yX2_shareInOrder cX2_shareInOrder 5 none :: wsL_law) ({ frames := 0, cells := 0, slots := 0, locals := 0 } : Room) (va_Pc [va_rf l0, .int l1, .int l2] (r_I D b h)) (r_Q D b none hh) 0 0 (fun q => b ≤ q) := by
  refine r_ofW (own := RX2) rfl (by decide +kernel) (by simp [lg_sl, va_cat, cat_i, cat_r, cat_l]) ?_
  intro p e s m args below meth c ls X B hr hk hn hl
  have hl : lv_has ls 5 [(0, va_rf l0), (1, .int l1), (2, .int l2)] := by simpa [lv_args, va_cat, cat_i, cat_r, cat_l] using hl
  have hl : lv_has ls 5 [(0, va_rf l0), (1, .int l1), (2, .int l2)] := hl
  obtain ⟨⟨hx, hb, hml, hown, hts⟩, -⟩ := id X
  generalize s.heap = H at B ⊢
  generalize ([] : List Loc) = locs at B ⊢
  unfold f_X2_shareInOrder at hf
  refine lv_iload_n hx hb dX2_shareInOrder_0 rfl (lv_at hl 2 rfl) ?_
  refine lv_istore_n (i := 3) (lv' := [(3, .int l2), (0, va_rf l0), (1, .int l1), (2, .int l2)]) hx hb dX2_shareInOrder_1 rfl hl (by decide) (by first | rfl | simp [va_cat, cat_i, cat_r, cat_l]) (fun ls hl => ?_)
  refine r_aload_n hx hb dX2_shareInOrder_2 rfl (lv_at hl 1 rfl) ?_
  refine r_gR X B hf fX5_9 (fun _ _ => rfl) m_509 dX2_shareInOrder_3 (fun v8 hf => ?_)
  refine r_astore (i := 4) (lv' := [(4, va_rf v8), (3, .int l2), (0, va_rf l0), (1, .int l1), (2, .int l2)]) hx hb dX2_shareInOrder_6 hl (by decide) (by first | rfl | simp [va_cat, cat_i, cat_r, cat_l]) (fun ls hl => ?_)
  exact t_X2_shareInOrder_8 X hr hk hn  _ _ _ _ _ _ _ _ B (lv_sub hl [3, 1, 0] rfl) hf
def f_X2_takenByFields_149 (k_112 : AH → Nat → Int32 → Option Nat → Option (Int32 × AH)) (h : AH) (l0 : Nat) (l7 : Int32) (l8 : Option Nat) (s0 : Nat) (s1 : Int32) (s2 : Int32) : Option (Int32 × AH) := pI h (some s0) 2 3 (s1 + s2) (fun h1 => gR h1 l8 1 6 (fun v2 => k_112 h1 l0 l7 v2))
def f_X2_takenByFields_112 : Nat → AH → Nat → Int32 → Option Nat → Option (Int32 × AH)
  | 0, _, _, _, _ => none
  | n + 1, h, l0, l7, l8 => nul l8 (some (l7, h)) (gI h l8 1 7 (fun v3 => bd (l7 + v3) (fun v4 => gI h (some l0) 2 3 (fun v5 => rcv h l8 1 (fun a9 => cal (f_X1_isFed h a9) (fun v6 h7 => if v6 = 0 then f_X2_takenByFields_149 (f_X2_takenByFields_112 n) h7 l0 v4 l8 l0 v5 0 else gI h7 l8 1 3 (fun v12 => f_X2_takenByFields_149 (f_X2_takenByFields_112 n) h7 l0 v4 l8 l0 v5 v12)))))))
def f_X2_takenByFields_103 (h : AH) (l0 : Nat) (l1 : Option Nat) : Option (Int32 × AH) := gR h l1 5 9 (fun v13 => f_X2_takenByFields_112 FU h l0 0 v13)
def f_X2_takenByFields_95 (h : AH) (l0 : Nat) (l1 : Option Nat) (l4 : Int32) (l5 : Int32) : Option (Int32 × AH) := cal (f_X2_shareInOrder h l1 l5 l4) (fun v14 h15 => f_X2_takenByFields_103 h15 l0 l1)
def f_X2_takenByFields_55 (h : AH) (l0 : Nat) (l1 : Option Nat) (l4 : Int32) (s0 : Int32) : Option (Int32 × AH) := cal (f_X2_areasWithin h l1 s0) (fun v17 h18 => gR h18 (some l0) 2 1 (fun v20 => gI h18 v20 0 4 (fun v21 => if v21 = 0 then f_X2_takenByFields_95 h18 l0 l1 l4 s0 else if v17 ≤ l4 then f_X2_takenByFields_95 h18 l0 l1 l4 s0 else cal (f_X2_shareFairly h18 l1 s0 l4 v17) (fun v22 h23 => f_X2_takenByFields_103 h23 l0 l1))))
def f_X2_takenByFields (h : AH) (l0 : Nat) (l1 : Option Nat) (l2 : Int32) : Option (Int32 × AH) := gI h l1 5 5 (fun v25 => gR h (some l0) 2 1 (fun v26 => gI h v26 0 3 (fun v27 => dv (v25 * v27) 100 (fun v28 => gR h l1 5 3 (fun v29 => gI h v29 3 1 (fun v30 => bd (mx 0 (l2 - v28)) (fun v31 => bd (mn v30 v31) (fun v32 => rcv h l1 5 (fun a36 => cal (f_X5_isBadYearWith h a36 l2) (fun v33 h34 => if v33 = 0 then f_X2_takenByFields_55 h34 l0 l1 v32 9 else gR h34 (some l0) 2 1 (fun v39 => gI h34 v39 0 2 (fun v40 => f_X2_takenByFields_55 h34 l0 l1 v32 v40))))))))))))
set_option maxRecDepth 100000 in
set_option maxHeartbeats 4000000 in
theorem t_X2_takenByFields_149 {p : Program} {l : Launch} {e : Env} {s : State} {m : MethodId} {args : Array Value} {below : List Frame} {meth : Method} {c : Code} {D : RG} {b : Nat} {vv : Int32} {hh : AH} (X : r_C p c cX2_takenByFields 9 s m args RX2 D b) (hr : meth.sig.returnType = (some .int)) (hk : meth.locks = false) (hn : meth.name = "takenByFields") {k_112 : AH → Nat → Int32 → Option Nat → Option (Int32 × AH)} (r_112 : ∀ (h : AH) (H : Heap) (locs : List Loc) (ls : Array Slot) (l0 : Nat) (l7 : Int32) (l8 : Option Nat), r_B D b s h H locs → lv_has ls 9 [(0, va_rf (some l0)), (7, .int l7), (8, va_rf l8)] → k_112 h l0 l7 l8 = some (vv, hh) → W p l e ({ frames := 2, cells := 0, slots := 0, locals := 49 } : Room) s m args below meth c H locs 0 0 (MQ below (r_Q D b (some (.int vv)) hh) args s 0 0 (fun q => b ≤ q)) (F0 m 112 ls [])) {h : AH} {H : Heap} {locs : List Loc} {ls : Array Slot} {l0 : Nat} {l7 : Int32} {l8 : Option Nat} {s0 : Nat} {s1 : Int32} {s2 : Int32} (B : r_B D b s h H locs) (hl : lv_has ls 9 [(0, va_rf (some l0)), (7, .int l7), (8, va_rf l8)]) (hf : f_X2_takenByFields_149 k_112 h l0 l7 l8 s0 s1 s2 = some (vv, hh)) : W p l e ({ frames := 2, cells := 0, slots := 0, locals := 49 } : Room) s m args below meth c H locs 0 0 (MQ below (r_Q D b (some (.int vv)) hh) args s 0 0 (fun q => b ≤ q)) (F0 m 149 ls [.int s2, .int s1, va_rf (some s0)]) := by
  obtain ⟨⟨hx, hb, hml, hown, hts⟩, -⟩ := id X
  unfold f_X2_takenByFields_149 at hf
  refine lv_iadd hx hb dX2_takenByFields_149 ?_
  refine r_pI X B hf fX2_3 (Or.inl rfl) m_112 dX2_takenByFields_150 (fun h1 H locs B hf => ?_)
  refine r_aload hx hb dX2_takenByFields_153 (lv_at hl 2 rfl) ?_
  refine r_gR X B hf fX1_6 (fun _ _ => rfl) m_512 dX2_takenByFields_155 (fun v2 hf => ?_)
  refine r_astore (i := 8) (lv' := [(8, va_rf v2), (0, va_rf (some l0)), (7, .int l7)]) hx hb dX2_takenByFields_158 hl (by decide) (by first | rfl | simp [va_cat, cat_i, cat_r, cat_l]) (fun ls hl => ?_)
  refine lv_goto (tgt := 112) hx hb dX2_takenByFields_160 (by decide) ?_
  exact r_112 _ _ _ _ _ _ _ B (lv_sub hl [1, 2, 0] rfl) hf
set_option maxRecDepth 100000 in
set_option maxHeartbeats 4000000 in
theorem t_X2_takenByFields_112 {p : Program} {l : Launch} {e : Env} {s : State} {m : MethodId} {args : Array Value} {below : List Frame} {meth : Method} {c : Code} {D : RG} {b : Nat} {vv : Int32} {hh : AH} (X : r_C p c cX2_takenByFields 9 s m args RX2 D b) (hr : meth.sig.returnType = (some .int)) (hk : meth.locks = false) (hn : meth.name = "takenByFields") : ∀ (n : Nat) (h : AH) (H : Heap) (locs : List Loc) (ls : Array Slot) (l0 : Nat) (l7 : Int32) (l8 : Option Nat), r_B D b s h H locs → lv_has ls 9 [(0, va_rf (some l0)), (7, .int l7), (8, va_rf l8)] → f_X2_takenByFields_112 n h l0 l7 l8 = some (vv, hh) → W p l e ({ frames := 2, cells := 0, slots := 0, locals := 49 } : Room) s m args below meth c H locs 0 0 (MQ below (r_Q D b (some (.int vv)) hh) args s 0 0 (fun q => b ≤ q)) (F0 m 112 ls []) := by
  obtain ⟨⟨hx, hb, hml, hown, hts⟩, -⟩ := id X
  intro n
  induction n with
  | zero =>
    intro h H locs ls l0 l7 l8 B hl hf
    cases hf
  | succ n ih =>
    intro h H locs ls l0 l7 l8 B hl hf
    unfold f_X2_takenByFields_112 at hf
    refine r_aload hx hb dX2_takenByFields_112 (lv_at hl 2 rfl) ?_
    refine r_ifnull (tgt := 163) hx hb hf dX2_takenByFields_114 (by decide) (fun hf e_ => ?_) (fun hf e_ => ?_)
    · refine lv_iload hx hb dX2_takenByFields_163 (lv_at hl 1 rfl) ?_
      exact r_iret X B hr hk hf dX2_takenByFields_165
    · refine lv_iload hx hb dX2_takenByFields_117 (lv_at hl 1 rfl) ?_
      refine r_aload hx hb dX2_takenByFields_119 (lv_at hl 2 rfl) ?_
      refine r_gI X B hf fX1_7 (fun _ _ => rfl) m_510 dX2_takenByFields_121 (fun v3 hf => ?_)
      refine lv_iadd hx hb dX2_takenByFields_124 ?_
      refine r_bd hf (fun v4 hf => ?_)
      refine lv_istore (i := 7) (lv' := [(7, .int v4), (0, va_rf (some l0)), (8, va_rf l8)]) hx hb dX2_takenByFields_125 hl (by decide) (by first | rfl | simp [va_cat, cat_i, cat_r, cat_l]) (fun ls hl => ?_)
      refine r_aload_n hx hb dX2_takenByFields_127 rfl (lv_at hl 1 rfl) ?_
      refine lv_dup hx hb dX2_takenByFields_128 (va_cat _) ?_
      refine r_gI X B hf fX2_3 (fun _ _ => rfl) m_112 dX2_takenByFields_129 (fun v5 hf => ?_)
      refine r_aload hx hb dX2_takenByFields_132 (lv_at hl 2 rfl) ?_
      refine rcv_inv hf ?_
      intro a9 e10 s11 hf
      refine cal_inv hf ?_
      intro v6 h7 e8 hf
      refine r_call B (va_runV (As := []) (rest := [.int v5, va_rf (some l0)]) X.1 (c_X1_isFed (l := l) (D := D) (b := b) e8) (r_cwV X rfl m_531 m_532 m_533 m_206 m_534 rfl rfl hd_X1_isFed ⟨Nat.le_of_ble_eq_true rfl, Nat.le_of_ble_eq_true rfl⟩) (r_preV X B s11 rfl []) rfl rfl hl.1 (by rw [e10]; rfl) (lv_room (by simp [va_cat, cat_i, cat_r, cat_l])) dX2_takenByFields_134 ⟨Nat.zero_le _, Nat.zero_le _⟩) ?_
      intro H locs B
      refine W.cs (cells' := 0) (slots' := 0) rfl rfl (W.eq (g2 := F0 m 137 ls [.int v6, .int v5, va_rf (some l0)]) rfl ?_)
      refine lv_if_eq (tgt := 148) hx hb dX2_takenByFields_137 (by decide) (fun q_ => ?_) (fun q_ => ?_)
      · have hf := (r_ite hf).1 q_
        refine lv_iconst (v := 0) hx hb dX2_takenByFields_148 (by decide) ?_
        exact t_X2_takenByFields_149 X hr hk hn ih B (lv_sub hl [1, 0, 2] rfl) hf
      · have hf := (r_ite hf).2 q_
        refine r_aload hx hb dX2_takenByFields_140 (lv_at hl 2 rfl) ?_
        refine r_gI X B hf fX1_3 (fun _ _ => rfl) m_511 dX2_takenByFields_142 (fun v12 hf => ?_)
        refine lv_goto (tgt := 149) hx hb dX2_takenByFields_145 (by decide) ?_
        exact t_X2_takenByFields_149 X hr hk hn ih B (lv_sub hl [1, 0, 2] rfl) hf
set_option maxRecDepth 100000 in
set_option maxHeartbeats 4000000 in
theorem t_X2_takenByFields_103 {p : Program} {l : Launch} {e : Env} {s : State} {m : MethodId} {args : Array Value} {below : List Frame} {meth : Method} {c : Code} {D : RG} {b : Nat} {vv : Int32} {hh : AH} (X : r_C p c cX2_takenByFields 9 s m args RX2 D b) (hr : meth.sig.returnType = (some .int)) (hk : meth.locks = false) (hn : meth.name = "takenByFields") {h : AH} {H : Heap} {locs : List Loc} {ls : Array Slot} {l0 : Nat} {l1 : Option Nat} (B : r_B D b s h H locs) (hl : lv_has ls 9 [(0, va_rf (some l0)), (1, va_rf l1)]) (hf : f_X2_takenByFields_103 h l0 l1 = some (vv, hh)) : W p l e ({ frames := 2, cells := 0, slots := 0, locals := 49 } : Room) s m args below meth c H locs 0 0 (MQ below (r_Q D b (some (.int vv)) hh) args s 0 0 (fun q => b ≤ q)) (F0 m 103 ls []) := by
  obtain ⟨⟨hx, hb, hml, hown, hts⟩, -⟩ := id X
  unfold f_X2_takenByFields_103 at hf
  refine lv_iconst (v := 0) hx hb dX2_takenByFields_103 (by decide) ?_
  refine lv_istore (i := 7) (lv' := [(7, .int 0), (0, va_rf (some l0)), (1, va_rf l1)]) hx hb dX2_takenByFields_104 hl (by decide) (by first | rfl | simp [va_cat, cat_i, cat_r, cat_l]) (fun ls hl => ?_)
  refine r_aload_n hx hb dX2_takenByFields_106 rfl (lv_at hl 2 rfl) ?_
  refine r_gR X B hf fX5_9 (fun _ _ => rfl) m_509 dX2_takenByFields_107 (fun v13 hf => ?_)
  refine r_astore (i := 8) (lv' := [(8, va_rf v13), (7, .int 0), (0, va_rf (some l0)), (1, va_rf l1)]) hx hb dX2_takenByFields_110 hl (by decide) (by first | rfl | simp [va_cat, cat_i, cat_r, cat_l]) (fun ls hl => ?_)
  exact t_X2_takenByFields_112 X hr hk hn  _ _ _ _ _ _ _ _ B (lv_sub hl [2, 1, 0] rfl) hf
set_option maxRecDepth 100000 in
set_option maxHeartbeats 4000000 in
theorem t_X2_takenByFields_95 {p : Program} {l : Launch} {e : Env} {s : State} {m : MethodId} {args : Array Value} {below : List Frame} {meth : Method} {c : Code} {D : RG} {b : Nat} {vv : Int32} {hh : AH} (X : r_C p c cX2_takenByFields 9 s m args RX2 D b) (hr : meth.sig.returnType = (some .int)) (hk : meth.locks = false) (hn : meth.name = "takenByFields") {h : AH} {H : Heap} {locs : List Loc} {ls : Array Slot} {l0 : Nat} {l1 : Option Nat} {l4 : Int32} {l5 : Int32} (B : r_B D b s h H locs) (hl : lv_has ls 9 [(0, va_rf (some l0)), (1, va_rf l1), (4, .int l4), (5, .int l5)]) (hf : f_X2_takenByFields_95 h l0 l1 l4 l5 = some (vv, hh)) : W p l e ({ frames := 2, cells := 0, slots := 0, locals := 49 } : Room) s m args below meth c H locs 0 0 (MQ below (r_Q D b (some (.int vv)) hh) args s 0 0 (fun q => b ≤ q)) (F0 m 95 ls []) := by
  obtain ⟨⟨hx, hb, hml, hown, hts⟩, -⟩ := id X
  unfold f_X2_takenByFields_95 at hf
  refine r_aload_n hx hb dX2_takenByFields_95 rfl (lv_at hl 1 rfl) ?_
  refine lv_iload hx hb dX2_takenByFields_96 (lv_at hl 3 rfl) ?_
  refine lv_iload hx hb dX2_takenByFields_98 (lv_at hl 2 rfl) ?_
  refine cal_inv hf ?_
  intro v14 h15 e16 hf
  refine r_call B (va_runS (As := [va_rf l1, .int l5, .int l4]) (rest := []) X.1 (c_X2_shareInOrder (l := l) (D := D) (b := b) e16) (r_cwS X m_528 m_529 m_52 m_530 rfl rfl hd_X2_shareInOrder ⟨Nat.le_of_ble_eq_true rfl, Nat.le_of_ble_eq_true rfl⟩) (r_preS X B [va_rf l1, .int l5, .int l4]) rfl rfl hl.1 rfl (lv_room (by simp [va_cat, cat_i, cat_r, cat_l])) dX2_takenByFields_100 ⟨Nat.zero_le _, Nat.zero_le _⟩) ?_
  intro H locs B
  refine W.cs (cells' := 0) (slots' := 0) rfl rfl (W.eq (g2 := F0 m 103 ls []) rfl ?_)
  exact t_X2_takenByFields_103 X hr hk hn  B (lv_sub hl [0, 1] rfl) hf
set_option maxRecDepth 100000 in
set_option maxHeartbeats 4000000 in
theorem t_X2_takenByFields_55 {p : Program} {l : Launch} {e : Env} {s : State} {m : MethodId} {args : Array Value} {below : List Frame} {meth : Method} {c : Code} {D : RG} {b : Nat} {vv : Int32} {hh : AH} (X : r_C p c cX2_takenByFields 9 s m args RX2 D b) (hr : meth.sig.returnType = (some .int)) (hk : meth.locks = false) (hn : meth.name = "takenByFields") {h : AH} {H : Heap} {locs : List Loc} {ls : Array Slot} {l0 : Nat} {l1 : Option Nat} {l4 : Int32} {s0 : Int32} (B : r_B D b s h H locs) (hl : lv_has ls 9 [(0, va_rf (some l0)), (1, va_rf l1), (4, .int l4)]) (hf : f_X2_takenByFields_55 h l0 l1 l4 s0 = some (vv, hh)) : W p l e ({ frames := 2, cells := 0, slots := 0, locals := 49 } : Room) s m args below meth c H locs 0 0 (MQ below (r_Q D b (some (.int vv)) hh) args s 0 0 (fun q => b ≤ q)) (F0 m 55 ls [.int s0]) := by
  obtain ⟨⟨hx, hb, hml, hown, hts⟩, -⟩ := id X
  unfold f_X2_takenByFields_55 at hf
  refine lv_istore (i := 5) (lv' := [(5, .int s0), (0, va_rf (some l0)), (1, va_rf l1), (4, .int l4)]) hx hb dX2_takenByFields_55 hl (by decide) (by first | rfl | simp [va_cat, cat_i, cat_r, cat_l]) (fun ls hl => ?_)
  refine r_aload_n hx hb dX2_takenByFields_57 rfl (lv_at hl 2 rfl) ?_
  refine lv_iload hx hb dX2_takenByFields_58 (lv_at hl 0 rfl) ?_
  refine cal_inv hf ?_
  intro v17 h18 e19 hf
  refine r_call B (va_runS (As := [va_rf l1, .int s0]) (rest := []) X.1 (c_X2_areasWithin (l := l) (D := D) (b := b) e19) (r_cwS X m_517 m_518 m_52 m_519 rfl rfl hd_X2_areasWithin ⟨Nat.le_of_ble_eq_true rfl, Nat.le_of_ble_eq_true rfl⟩) (r_preS X B [va_rf l1, .int s0]) rfl rfl hl.1 rfl (lv_room (by simp [va_cat, cat_i, cat_r, cat_l])) dX2_takenByFields_60 ⟨Nat.zero_le _, Nat.zero_le _⟩) ?_
  intro H locs B
  refine W.cs (cells' := 0) (slots' := 0) rfl rfl (W.eq (g2 := F0 m 63 ls [.int v17]) rfl ?_)
  refine lv_istore (i := 6) (lv' := [(6, .int v17), (5, .int s0), (0, va_rf (some l0)), (1, va_rf l1), (4, .int l4)]) hx hb dX2_takenByFields_63 hl (by decide) (by first | rfl | simp [va_cat, cat_i, cat_r, cat_l]) (fun ls hl => ?_)
  refine r_aload_n hx hb dX2_takenByFields_65 rfl (lv_at hl 2 rfl) ?_
  refine r_gR X B hf fX2_1 (fun _ _ => rfl) m_114 dX2_takenByFields_66 (fun v20 hf => ?_)
  refine r_gI X B hf fX0_4 (fun _ _ => rfl) m_508 dX2_takenByFields_69 (fun v21 hf => ?_)
  refine lv_if_eq (tgt := 95) hx hb dX2_takenByFields_72 (by decide) (fun q_ => ?_) (fun q_ => ?_)
  · have hf := (r_ite hf).1 q_
    exact t_X2_takenByFields_95 X hr hk hn  B (lv_sub hl [2, 3, 4, 1] rfl) hf
  · have hf := (r_ite hf).2 q_
    refine lv_iload hx hb dX2_takenByFields_75 (lv_at hl 4 rfl) ?_
    refine lv_iload hx hb dX2_takenByFields_77 (lv_at hl 0 rfl) ?_
    refine lv_icmp_ge (tgt := 95) hx hb dX2_takenByFields_79 (by decide) (fun q_ => ?_) (fun q_ => ?_)
    · have hf := (r_ite hf).1 q_
      exact t_X2_takenByFields_95 X hr hk hn  B (lv_sub hl [2, 3, 4, 1] rfl) hf
    · have hf := (r_ite hf).2 q_
      refine r_aload_n hx hb dX2_takenByFields_82 rfl (lv_at hl 3 rfl) ?_
      refine lv_iload hx hb dX2_takenByFields_83 (lv_at hl 1 rfl) ?_
      refine lv_iload hx hb dX2_takenByFields_85 (lv_at hl 4 rfl) ?_
      refine lv_iload hx hb dX2_takenByFields_87 (lv_at hl 0 rfl) ?_
      refine cal_inv hf ?_
      intro v22 h23 e24 hf
      refine r_call B (va_runS (As := [va_rf l1, .int s0, .int l4, .int v17]) (rest := []) X.1 (c_X2_shareFairly (l := l) (D := D) (b := b) e24) (r_cwS X m_521 m_522 m_52 m_523 rfl rfl hd_X2_shareFairly ⟨Nat.le_of_ble_eq_true rfl, Nat.le_of_ble_eq_true rfl⟩) (r_preS X B [va_rf l1, .int s0, .int l4, .int v17]) rfl rfl hl.1 rfl (lv_room (by simp [va_cat, cat_i, cat_r, cat_l])) dX2_takenByFields_89 ⟨Nat.zero_le _, Nat.zero_le _⟩) ?_
      intro H locs B
      refine W.cs (cells' := 0) (slots' := 0) rfl rfl (W.eq (g2 := F0 m 92 ls []) rfl ?_)
      refine lv_goto (tgt := 103) hx hb dX2_takenByFields_92 (by decide) ?_
      exact t_X2_takenByFields_103 X hr hk hn  B (lv_sub hl [2, 3] rfl) hf
set_option maxRecDepth 100000 in
set_option maxHeartbeats 4000000 in
theorem c_X2_takenByFields {l : Launch} {D : RG} {b : Nat} {h : AH} {l0 : Nat} {l1 : Option Nat} {l2 : Int32} {vv : Int32} {hh : AH} (hf : f_X2_takenByFields h l0 l1 l2 = some (vv, hh)) : Met l yX2_takenByFields (Cond.code yX2_takenByFields cX2_takenByFields 9 (some .int) :: wsL_law) ({ frames := 2, cells := 0, slots := 0, locals := 49 } : Room) (va_Pc [.ref l0, va_rf l1, .int l2] (r_I D b h)) (r_Q D b (some (.int vv)) hh) 0 0 (fun q => b ≤ q) := by
  refine r_ofW (own := RX2) rfl (by decide +kernel) (by simp [lg_sl, va_cat, cat_i, cat_r, cat_l]) ?_
  intro p e s m args below meth c ls X B hr hk hn hl
  have hl : lv_has ls 9 [(0, .ref l0), (1, va_rf l1), (2, .int l2)] := by simpa [lv_args, va_cat, cat_i, cat_r, cat_l] using hl
  have hl : lv_has ls 9 [(0, va_rf (some l0)), (1, va_rf l1), (2, .int l2)] := hl
  obtain ⟨⟨hx, hb, hml, hown, hts⟩, -⟩ := id X
  generalize s.heap = H at B ⊢
  generalize ([] : List Loc) = locs at B ⊢
  unfold f_X2_takenByFields at hf
  refine r_aload_n hx hb dX2_takenByFields_0 rfl (lv_at hl 1 rfl) ?_
  refine r_gI X B hf fX5_5 (fun _ _ => rfl) m_503 dX2_takenByFields_1 (fun v25 hf => ?_)
  refine r_aload_n hx hb dX2_takenByFields_4 rfl (lv_at hl 0 rfl) ?_
  refine r_gR X B hf fX2_1 (fun _ _ => rfl) m_114 dX2_takenByFields_5 (fun v26 hf => ?_)
  refine r_gI X B hf fX0_3 (fun _ _ => rfl) m_504 dX2_takenByFields_8 (fun v27 hf => ?_)
  refine lv_imul hx hb dX2_takenByFields_11 ?_
  refine lv_bipush (v := 100) hx hb dX2_takenByFields_12 (by decide) ?_
  refine r_div hx hb hf dX2_takenByFields_14 (fun v28 hf => ?_)
  refine lv_istore_n (i := 3) (lv' := [(3, .int v28), (0, va_rf (some l0)), (1, va_rf l1), (2, .int l2)]) hx hb dX2_takenByFields_15 rfl hl (by decide) (by first | rfl | simp [va_cat, cat_i, cat_r, cat_l]) (fun ls hl => ?_)
  refine r_aload_n hx hb dX2_takenByFields_16 rfl (lv_at hl 2 rfl) ?_
  refine r_gR X B hf fX5_3 (fun _ _ => rfl) m_469 dX2_takenByFields_17 (fun v29 hf => ?_)
  refine r_gI X B hf fX3_1 (fun _ _ => rfl) m_505 dX2_takenByFields_20 (fun v30 hf => ?_)
  refine lv_iconst (v := 0) hx hb dX2_takenByFields_23 (by decide) ?_
  refine lv_iload_n hx hb dX2_takenByFields_24 rfl (lv_at hl 3 rfl) ?_
  refine lv_iload_n hx hb dX2_takenByFields_25 rfl (lv_at hl 0 rfl) ?_
  refine lv_isub hx hb dX2_takenByFields_26 ?_
  refine va_mmax hx hb (by rw [hml]; exact hl.1.symm) hown (hts _ m_492) (hts _ m_44) (hts _ m_41) (hts _ m_45) (Nat.le_of_ble_eq_true rfl) (by simp [va_cat, cat_i, cat_r, cat_l]) (Nat.zero_le _) (Nat.zero_le _) dX2_takenByFields_27 ?_
  refine r_bd hf (fun v31 hf => ?_)
  refine va_mmin hx hb (by rw [hml]; exact hl.1.symm) hown (hts _ m_506) (hts _ m_40) (hts _ m_41) (hts _ m_42) (Nat.le_of_ble_eq_true rfl) (by simp [va_cat, cat_i, cat_r, cat_l]) (Nat.zero_le _) (Nat.zero_le _) dX2_takenByFields_30 ?_
  refine r_bd hf (fun v32 hf => ?_)
  refine lv_istore (i := 4) (lv' := [(4, .int v32), (3, .int v28), (0, va_rf (some l0)), (1, va_rf l1), (2, .int l2)]) hx hb dX2_takenByFields_33 hl (by decide) (by first | rfl | simp [va_cat, cat_i, cat_r, cat_l]) (fun ls hl => ?_)
  refine r_aload_n hx hb dX2_takenByFields_35 rfl (lv_at hl 3 rfl) ?_
  refine lv_iload_n hx hb dX2_takenByFields_36 rfl (lv_at hl 4 rfl) ?_
  refine rcv_inv hf ?_
  intro a36 e37 s38 hf
  refine cal_inv hf ?_
  intro v33 h34 e35 hf
  refine r_call B (va_runV (As := [.int l2]) (rest := []) X.1 (c_X5_isBadYearWith (l := l) (D := D) (b := b) e35) (r_cwV X rfl m_513 m_514 m_515 m_49 m_516 rfl rfl hd_X5_isBadYearWith ⟨Nat.le_of_ble_eq_true rfl, Nat.le_of_ble_eq_true rfl⟩) (r_preV X B s38 rfl [.int l2]) rfl rfl hl.1 (by rw [e37]; rfl) (lv_room (by simp [va_cat, cat_i, cat_r, cat_l])) dX2_takenByFields_37 ⟨Nat.zero_le _, Nat.zero_le _⟩) ?_
  intro H locs B
  refine W.cs (cells' := 0) (slots' := 0) rfl rfl (W.eq (g2 := F0 m 40 ls [.int v33]) rfl ?_)
  refine lv_if_eq (tgt := 53) hx hb dX2_takenByFields_40 (by decide) (fun q_ => ?_) (fun q_ => ?_)
  · have hf := (r_ite hf).1 q_
    refine lv_bipush (v := 9) hx hb dX2_takenByFields_53 (by decide) ?_
    exact t_X2_takenByFields_55 X hr hk hn  B (lv_sub hl [2, 3, 0] rfl) hf
  · have hf := (r_ite hf).2 q_
    refine r_aload_n hx hb dX2_takenByFields_43 rfl (lv_at hl 2 rfl) ?_
    refine r_gR X B hf fX2_1 (fun _ _ => rfl) m_114 dX2_takenByFields_44 (fun v39 hf => ?_)
    refine r_gI X B hf fX0_2 (fun _ _ => rfl) m_507 dX2_takenByFields_47 (fun v40 hf => ?_)
    refine lv_goto (tgt := 55) hx hb dX2_takenByFields_50 (by decide) ?_
    exact t_X2_takenByFields_55 X hr hk hn  B (lv_sub hl [2, 3, 0] rfl) hf
def f_X5_roomIf_17 (h : AH) (s0 : Int32) : Option (Int32 × AH) := some (s0, h)
def f_X5_roomIf (h : AH) (l0 : Nat) (l1 : Int32) : Option (Int32 × AH) := if l1 = 0 then gI h (some l0) 5 5 (fun v1 => gI h (some l0) 5 7 (fun v2 => f_X5_roomIf_17 h (v1 - v2))) else f_X5_roomIf_17 h 0
set_option maxRecDepth 100000 in
set_option maxHeartbeats 4000000 in
theorem t_X5_roomIf_17 {p : Program} {l : Launch} {e : Env} {s : State} {m : MethodId} {args : Array Value} {below : List Frame} {meth : Method} {c : Code} {D : RG} {b : Nat} {vv : Int32} {hh : AH} (X : r_C p c cX5_roomIf 2 s m args RX5 D b) (hr : meth.sig.returnType = (some .int)) (hk : meth.locks = false) (hn : meth.name = "roomIf") {h : AH} {H : Heap} {locs : List Loc} {ls : Array Slot} {s0 : Int32} (B : r_B D b s h H locs) (hl : lv_has ls 2 []) (hf : f_X5_roomIf_17 h s0 = some (vv, hh)) : W p l e ({ frames := 0, cells := 0, slots := 0, locals := 0 } : Room) s m args below meth c H locs 0 0 (MQ below (r_Q D b (some (.int vv)) hh) args s 0 0 (fun q => b ≤ q)) (F0 m 17 ls [.int s0]) := by
  obtain ⟨⟨hx, hb, hml, hown, hts⟩, -⟩ := id X
  unfold f_X5_roomIf_17 at hf
  exact r_iret X B hr hk hf dX5_roomIf_17
set_option maxRecDepth 100000 in
set_option maxHeartbeats 4000000 in
theorem c_X5_roomIf {l : Launch} {D : RG} {b : Nat} {h : AH} {l0 : Nat} {l1 : Int32} {vv : Int32} {hh : AH} (hf : f_X5_roomIf h l0 l1 = some (vv, hh)) : Met l yX5_roomIf (Cond.code yX5_roomIf cX5_roomIf 2 (some .int) :: wsL_law) ({ frames := 0, cells := 0, slots := 0, locals := 0 } : Room) (va_Pc [.ref l0, .int l1] (r_I D b h)) (r_Q D b (some (.int vv)) hh) 0 0 (fun q => b ≤ q) := by
  refine r_ofW (own := RX5) rfl (by decide +kernel) (by simp [lg_sl, va_cat, cat_i, cat_r, cat_l]) ?_
  intro p e s m args below meth c ls X B hr hk hn hl
  have hl : lv_has ls 2 [(0, .ref l0), (1, .int l1)] := by simpa [lv_args, va_cat, cat_i, cat_r, cat_l] using hl
  have hl : lv_has ls 2 [(0, va_rf (some l0)), (1, .int l1)] := hl
  obtain ⟨⟨hx, hb, hml, hown, hts⟩, -⟩ := id X
  generalize s.heap = H at B ⊢
  generalize ([] : List Loc) = locs at B ⊢
  unfold f_X5_roomIf at hf
  refine lv_iload_n hx hb dX5_roomIf_0 rfl (lv_at hl 1 rfl) ?_
  refine lv_if_eq (tgt := 8) hx hb dX5_roomIf_1 (by decide) (fun q_ => ?_) (fun q_ => ?_)
  · have hf := (r_ite hf).1 q_
    refine r_aload_n hx hb dX5_roomIf_8 rfl (lv_at hl 0 rfl) ?_
    refine r_gI X B hf fX5_5 (fun _ _ => rfl) m_91 dX5_roomIf_9 (fun v1 hf => ?_)
    refine r_aload_n hx hb dX5_roomIf_12 rfl (lv_at hl 0 rfl) ?_
    refine r_gI X B hf fX5_7 (fun _ _ => rfl) m_93 dX5_roomIf_13 (fun v2 hf => ?_)
    refine lv_isub hx hb dX5_roomIf_16 ?_
    exact t_X5_roomIf_17 X hr hk hn  B (lv_sub hl [] rfl) hf
  · have hf := (r_ite hf).2 q_
    refine lv_iconst (v := 0) hx hb dX5_roomIf_4 (by decide) ?_
    refine lv_goto (tgt := 17) hx hb dX5_roomIf_5 (by decide) ?_
    exact t_X5_roomIf_17 X hr hk hn  B (lv_sub hl [] rfl) hf
def f_X2_sentDown_98 (h : AH) (l0 : Nat) (l2 : Int32) (l4 : Option Nat) (l5 : Int32) (l6 : Int32) (l7 : Int32) (l8 : Int32) (l9 : Int32) : Option (Int32 × AH) := pI h l4 3 0 (l5 - l9) (fun h1 => pI h1 l4 3 3 l7 (fun h2 => pI h2 l4 3 4 l9 (fun h3 => gR h3 (some l0) 2 2 (fun v4 => gI h3 v4 4 0 (fun v5 => pI h3 v4 4 0 (v5 + l2) (fun h6 => gR h6 (some l0) 2 2 (fun v7 => gI h6 v7 4 1 (fun v8 => pI h6 v7 4 1 (v8 + l6) (fun h9 => gR h9 (some l0) 2 2 (fun v10 => gI h9 v10 4 2 (fun v11 => pI h9 v10 4 2 (v11 + (l7 - l8)) (fun h12 => some ((l8 + l9), h12)))))))))))))
def f_X2_sentDown (h : AH) (l0 : Nat) (l1 : Option Nat) (l2 : Int32) (l3 : Int32) : Option (Int32 × AH) := gR h l1 5 3 (fun v13 => gI h v13 3 0 (fun v14 => bd ((v14 + l2) + l3) (fun v15 => dv v15 50 (fun v16 => bd (v15 - v16) (fun v17 => rcv h (some l0) 2 (fun a21 => cal (f_X2_takenByFields h a21 l1 v17) (fun v18 h19 => bd (v17 - v18) (fun v24 => dv v18 2 (fun v25 => gI h19 v13 3 2 (fun v26 => rcv h19 l1 5 (fun a30 => cal (f_X5_roomIf h19 a30 v26) (fun v27 h28 => bd (mx 0 (v24 - v27)) (fun v33 => gI h28 v13 3 2 (fun v34 => if v34 = 0 then gI h28 l1 5 6 (fun v35 => if v33 ≤ v35 then f_X2_sentDown_98 h28 l0 l2 v13 v24 v16 v18 v25 v33 else pZ h28 v13 3 2 1 (fun h36 => f_X2_sentDown_98 h36 l0 l2 v13 v24 v16 v18 v25 v24)) else f_X2_sentDown_98 h28 l0 l2 v13 v24 v16 v18 v25 v33))))))))))))))
set_option maxRecDepth 100000 in
set_option maxHeartbeats 4000000 in
theorem t_X2_sentDown_98 {p : Program} {l : Launch} {e : Env} {s : State} {m : MethodId} {args : Array Value} {below : List Frame} {meth : Method} {c : Code} {D : RG} {b : Nat} {vv : Int32} {hh : AH} (X : r_C p c cX2_sentDown 10 s m args RX2 D b) (hr : meth.sig.returnType = (some .int)) (hk : meth.locks = false) (hn : meth.name = "sentDown") {h : AH} {H : Heap} {locs : List Loc} {ls : Array Slot} {l0 : Nat} {l2 : Int32} {l4 : Option Nat} {l5 : Int32} {l6 : Int32} {l7 : Int32} {l8 : Int32} {l9 : Int32} (B : r_B D b s h H locs) (hl : lv_has ls 10 [(0, va_rf (some l0)), (2, .int l2), (4, va_rf l4), (5, .int l5), (6, .int l6), (7, .int l7), (8, .int l8), (9, .int l9)]) (hf : f_X2_sentDown_98 h l0 l2 l4 l5 l6 l7 l8 l9 = some (vv, hh)) : W p l e ({ frames := 3, cells := 0, slots := 0, locals := 77 } : Room) s m args below meth c H locs 0 0 (MQ below (r_Q D b (some (.int vv)) hh) args s 0 0 (fun q => b ≤ q)) (F0 m 98 ls []) := by
  obtain ⟨⟨hx, hb, hml, hown, hts⟩, -⟩ := id X
  unfold f_X2_sentDown_98 at hf
  refine r_aload hx hb dX2_sentDown_98 (lv_at hl 2 rfl) ?_
  refine lv_iload hx hb dX2_sentDown_100 (lv_at hl 3 rfl) ?_
  refine lv_iload hx hb dX2_sentDown_102 (lv_at hl 7 rfl) ?_
  refine lv_isub hx hb dX2_sentDown_104 ?_
  refine r_pI X B hf fX3_0 (Or.inl rfl) m_490 dX2_sentDown_105 (fun h1 H locs B hf => ?_)
  refine r_aload hx hb dX2_sentDown_108 (lv_at hl 2 rfl) ?_
  refine lv_iload hx hb dX2_sentDown_110 (lv_at hl 5 rfl) ?_
  refine r_pI X B hf fX3_3 (Or.inl rfl) m_494 dX2_sentDown_112 (fun h2 H locs B hf => ?_)
  refine r_aload hx hb dX2_sentDown_115 (lv_at hl 2 rfl) ?_
  refine lv_iload hx hb dX2_sentDown_117 (lv_at hl 7 rfl) ?_
  refine r_pI X B hf fX3_4 (Or.inl rfl) m_495 dX2_sentDown_119 (fun h3 H locs B hf => ?_)
  refine r_aload_n hx hb dX2_sentDown_122 rfl (lv_at hl 0 rfl) ?_
  refine r_gR X B hf fX2_2 (fun _ _ => rfl) m_111 dX2_sentDown_123 (fun v4 hf => ?_)
  refine lv_dup hx hb dX2_sentDown_126 (va_cat _) ?_
  refine r_gI X B hf fX4_0 (fun _ _ => rfl) m_496 dX2_sentDown_127 (fun v5 hf => ?_)
  refine lv_iload_n hx hb dX2_sentDown_130 rfl (lv_at hl 1 rfl) ?_
  refine lv_iadd hx hb dX2_sentDown_131 ?_
  refine r_pI X B hf fX4_0 (Or.inl rfl) m_496 dX2_sentDown_132 (fun h6 H locs B hf => ?_)
  refine r_aload_n hx hb dX2_sentDown_135 rfl (lv_at hl 0 rfl) ?_
  refine r_gR X B hf fX2_2 (fun _ _ => rfl) m_111 dX2_sentDown_136 (fun v7 hf => ?_)
  refine lv_dup hx hb dX2_sentDown_139 (va_cat _) ?_
  refine r_gI X B hf fX4_1 (fun _ _ => rfl) m_497 dX2_sentDown_140 (fun v8 hf => ?_)
  refine lv_iload hx hb dX2_sentDown_143 (lv_at hl 4 rfl) ?_
  refine lv_iadd hx hb dX2_sentDown_145 ?_
  refine r_pI X B hf fX4_1 (Or.inl rfl) m_497 dX2_sentDown_146 (fun h9 H locs B hf => ?_)
  refine r_aload_n hx hb dX2_sentDown_149 rfl (lv_at hl 0 rfl) ?_
  refine r_gR X B hf fX2_2 (fun _ _ => rfl) m_111 dX2_sentDown_150 (fun v10 hf => ?_)
  refine lv_dup hx hb dX2_sentDown_153 (va_cat _) ?_
  refine r_gI X B hf fX4_2 (fun _ _ => rfl) m_498 dX2_sentDown_154 (fun v11 hf => ?_)
  refine lv_iload hx hb dX2_sentDown_157 (lv_at hl 5 rfl) ?_
  refine lv_iload hx hb dX2_sentDown_159 (lv_at hl 6 rfl) ?_
  refine lv_isub hx hb dX2_sentDown_161 ?_
  refine lv_iadd hx hb dX2_sentDown_162 ?_
  refine r_pI X B hf fX4_2 (Or.inl rfl) m_498 dX2_sentDown_163 (fun h12 H locs B hf => ?_)
  refine lv_iload hx hb dX2_sentDown_166 (lv_at hl 6 rfl) ?_
  refine lv_iload hx hb dX2_sentDown_168 (lv_at hl 7 rfl) ?_
  refine lv_iadd hx hb dX2_sentDown_170 ?_
  exact r_iret X B hr hk hf dX2_sentDown_171
set_option maxRecDepth 100000 in
set_option maxHeartbeats 4000000 in
theorem c_X2_sentDown {l : Launch} {D : RG} {b : Nat} {h : AH} {l0 : Nat} {l1 : Option Nat} {l2 : Int32} {l3 : Int32} {vv : Int32} {hh : AH} (hf : f_X2_sentDown h l0 l1 l2 l3 = some (vv, hh)) : Met l yX2_sentDown (Cond.code yX2_sentDown cX2_sentDown 10 (some .int) :: wsL_law) ({ frames := 3, cells := 0, slots := 0, locals := 77 } : Room) (va_Pc [.ref l0, va_rf l1, .int l2, .int l3] (r_I D b h)) (r_Q D b (some (.int vv)) hh) 0 0 (fun q => b ≤ q) := by
  refine r_ofW (own := RX2) rfl (by decide +kernel) (by simp [lg_sl, va_cat, cat_i, cat_r, cat_l]) ?_
  intro p e s m args below meth c ls X B hr hk hn hl
  have hl : lv_has ls 10 [(0, .ref l0), (1, va_rf l1), (2, .int l2), (3, .int l3)] := by simpa [lv_args, va_cat, cat_i, cat_r, cat_l] using hl
  have hl : lv_has ls 10 [(0, va_rf (some l0)), (1, va_rf l1), (2, .int l2), (3, .int l3)] := hl
  obtain ⟨⟨hx, hb, hml, hown, hts⟩, -⟩ := id X
  generalize s.heap = H at B ⊢
  generalize ([] : List Loc) = locs at B ⊢
  unfold f_X2_sentDown at hf
  refine r_aload_n hx hb dX2_sentDown_0 rfl (lv_at hl 1 rfl) ?_
  refine r_gR X B hf fX5_3 (fun _ _ => rfl) m_469 dX2_sentDown_1 (fun v13 hf => ?_)
  refine r_astore (i := 4) (lv' := [(4, va_rf v13), (0, va_rf (some l0)), (1, va_rf l1), (2, .int l2), (3, .int l3)]) hx hb dX2_sentDown_4 hl (by decide) (by first | rfl | simp [va_cat, cat_i, cat_r, cat_l]) (fun ls hl => ?_)
  refine r_aload hx hb dX2_sentDown_6 (lv_at hl 0 rfl) ?_
  refine r_gI X B hf fX3_0 (fun _ _ => rfl) m_490 dX2_sentDown_8 (fun v14 hf => ?_)
  refine lv_iload_n hx hb dX2_sentDown_11 rfl (lv_at hl 3 rfl) ?_
  refine lv_iadd hx hb dX2_sentDown_12 ?_
  refine lv_iload_n hx hb dX2_sentDown_13 rfl (lv_at hl 4 rfl) ?_
  refine lv_iadd hx hb dX2_sentDown_14 ?_
  refine r_bd hf (fun v15 hf => ?_)
  refine lv_istore (i := 5) (lv' := [(5, .int v15), (4, va_rf v13), (0, va_rf (some l0)), (1, va_rf l1), (2, .int l2), (3, .int l3)]) hx hb dX2_sentDown_15 hl (by decide) (by first | rfl | simp [va_cat, cat_i, cat_r, cat_l]) (fun ls hl => ?_)
  refine lv_iload hx hb dX2_sentDown_17 (lv_at hl 0 rfl) ?_
  refine lv_bipush (v := 50) hx hb dX2_sentDown_19 (by decide) ?_
  refine r_div hx hb hf dX2_sentDown_21 (fun v16 hf => ?_)
  refine lv_istore (i := 6) (lv' := [(6, .int v16), (5, .int v15), (4, va_rf v13), (0, va_rf (some l0)), (1, va_rf l1), (2, .int l2), (3, .int l3)]) hx hb dX2_sentDown_22 hl (by decide) (by first | rfl | simp [va_cat, cat_i, cat_r, cat_l]) (fun ls hl => ?_)
  refine lv_iload hx hb dX2_sentDown_24 (lv_at hl 1 rfl) ?_
  refine lv_iload hx hb dX2_sentDown_26 (lv_at hl 0 rfl) ?_
  refine lv_isub hx hb dX2_sentDown_28 ?_
  refine r_bd hf (fun v17 hf => ?_)
  refine lv_istore (i := 5) (lv' := [(5, .int v17), (6, .int v16), (4, va_rf v13), (0, va_rf (some l0)), (1, va_rf l1), (2, .int l2), (3, .int l3)]) hx hb dX2_sentDown_29 hl (by decide) (by first | rfl | simp [va_cat, cat_i, cat_r, cat_l]) (fun ls hl => ?_)
  refine r_aload_n hx hb dX2_sentDown_31 rfl (lv_at hl 3 rfl) ?_
  refine r_aload_n hx hb dX2_sentDown_32 rfl (lv_at hl 4 rfl) ?_
  refine lv_iload hx hb dX2_sentDown_33 (lv_at hl 0 rfl) ?_
  refine rcv_inv hf ?_
  intro a21 e22 s23 hf
  refine cal_inv hf ?_
  intro v18 h19 e20 hf
  refine r_call B (va_runV (As := [va_rf l1, .int v17]) (rest := []) X.1 (c_X2_takenByFields (l := l) (D := D) (b := b) e20) (r_cwV X rfl m_499 m_500 m_501 m_52 m_502 rfl rfl hd_X2_takenByFields ⟨Nat.le_of_ble_eq_true rfl, Nat.le_of_ble_eq_true rfl⟩) (r_preV X B s23 rfl [va_rf l1, .int v17]) rfl rfl hl.1 (by rw [e22]; rfl) (lv_room (by simp [va_cat, cat_i, cat_r, cat_l])) dX2_sentDown_35 ⟨Nat.zero_le _, Nat.zero_le _⟩) ?_
  intro H locs B
  refine W.cs (cells' := 0) (slots' := 0) rfl rfl (W.eq (g2 := F0 m 38 ls [.int v18]) rfl ?_)
  refine lv_istore (i := 7) (lv' := [(7, .int v18), (5, .int v17), (6, .int v16), (4, va_rf v13), (0, va_rf (some l0)), (1, va_rf l1), (2, .int l2), (3, .int l3)]) hx hb dX2_sentDown_38 hl (by decide) (by first | rfl | simp [va_cat, cat_i, cat_r, cat_l]) (fun ls hl => ?_)
  refine lv_iload hx hb dX2_sentDown_40 (lv_at hl 1 rfl) ?_
  refine lv_iload hx hb dX2_sentDown_42 (lv_at hl 0 rfl) ?_
  refine lv_isub hx hb dX2_sentDown_44 ?_
  refine r_bd hf (fun v24 hf => ?_)
  refine lv_istore (i := 5) (lv' := [(5, .int v24), (7, .int v18), (6, .int v16), (4, va_rf v13), (0, va_rf (some l0)), (1, va_rf l1), (2, .int l2), (3, .int l3)]) hx hb dX2_sentDown_45 hl (by decide) (by first | rfl | simp [va_cat, cat_i, cat_r, cat_l]) (fun ls hl => ?_)
  refine lv_iload hx hb dX2_sentDown_47 (lv_at hl 1 rfl) ?_
  refine lv_iconst (v := 2) hx hb dX2_sentDown_49 (by decide) ?_
  refine r_div hx hb hf dX2_sentDown_50 (fun v25 hf => ?_)
  refine lv_istore (i := 8) (lv' := [(8, .int v25), (5, .int v24), (7, .int v18), (6, .int v16), (4, va_rf v13), (0, va_rf (some l0)), (1, va_rf l1), (2, .int l2), (3, .int l3)]) hx hb dX2_sentDown_51 hl (by decide) (by first | rfl | simp [va_cat, cat_i, cat_r, cat_l]) (fun ls hl => ?_)
  refine lv_iconst (v := 0) hx hb dX2_sentDown_53 (by decide) ?_
  refine lv_iload hx hb dX2_sentDown_54 (lv_at hl 1 rfl) ?_
  refine r_aload_n hx hb dX2_sentDown_56 rfl (lv_at hl 6 rfl) ?_
  refine r_aload hx hb dX2_sentDown_57 (lv_at hl 4 rfl) ?_
  refine r_gI X B hf fX3_2 (fun _ _ => rfl) m_491 dX2_sentDown_59 (fun v26 hf => ?_)
  refine rcv_inv hf ?_
  intro a30 e31 s32 hf
  refine cal_inv hf ?_
  intro v27 h28 e29 hf
  refine r_call B (va_runV (As := [.int v26]) (rest := [.int v24, .int 0]) X.1 (c_X5_roomIf (l := l) (D := D) (b := b) e29) (r_cwV X rfl m_535 m_189 m_190 m_49 m_191 rfl rfl hd_X5_roomIf ⟨Nat.le_of_ble_eq_true rfl, Nat.le_of_ble_eq_true rfl⟩) (r_preV X B s32 rfl [.int v26]) rfl rfl hl.1 (by rw [e31]; rfl) (lv_room (by simp [va_cat, cat_i, cat_r, cat_l])) dX2_sentDown_62 ⟨Nat.zero_le _, Nat.zero_le _⟩) ?_
  intro H locs B
  refine W.cs (cells' := 0) (slots' := 0) rfl rfl (W.eq (g2 := F0 m 65 ls [.int v27, .int v24, .int 0]) rfl ?_)
  refine lv_isub hx hb dX2_sentDown_65 ?_
  refine va_mmax hx hb (by rw [hml]; exact hl.1.symm) hown (hts _ m_492) (hts _ m_44) (hts _ m_41) (hts _ m_45) (Nat.le_of_ble_eq_true rfl) (by simp [va_cat, cat_i, cat_r, cat_l]) (Nat.zero_le _) (Nat.zero_le _) dX2_sentDown_66 ?_
  refine r_bd hf (fun v33 hf => ?_)
  refine lv_istore (i := 9) (lv' := [(9, .int v33), (8, .int v25), (5, .int v24), (7, .int v18), (6, .int v16), (4, va_rf v13), (0, va_rf (some l0)), (1, va_rf l1), (2, .int l2), (3, .int l3)]) hx hb dX2_sentDown_69 hl (by decide) (by first | rfl | simp [va_cat, cat_i, cat_r, cat_l]) (fun ls hl => ?_)
  refine r_aload hx hb dX2_sentDown_71 (lv_at hl 5 rfl) ?_
  refine r_gI X B hf fX3_2 (fun _ _ => rfl) m_491 dX2_sentDown_73 (fun v34 hf => ?_)
  refine lv_if_ne (tgt := 98) hx hb dX2_sentDown_76 (by decide) (fun q_ => ?_) (fun q_ => ?_)
  · have hf := (r_ite hf).2 q_
    exact t_X2_sentDown_98 X hr hk hn  B (lv_sub hl [6, 8, 5, 2, 4, 3, 1, 0] rfl) hf
  · have hf := (r_ite hf).1 q_
    refine lv_iload hx hb dX2_sentDown_79 (lv_at hl 0 rfl) ?_
    refine r_aload_n hx hb dX2_sentDown_81 rfl (lv_at hl 7 rfl) ?_
    refine r_gI X B hf fX5_6 (fun _ _ => rfl) m_493 dX2_sentDown_82 (fun v35 hf => ?_)
    refine lv_icmp_le (tgt := 98) hx hb dX2_sentDown_85 (by decide) (fun q_ => ?_) (fun q_ => ?_)
    · have hf := (r_ite hf).1 q_
      exact t_X2_sentDown_98 X hr hk hn  B (lv_sub hl [6, 8, 5, 2, 4, 3, 1, 0] rfl) hf
    · have hf := (r_ite hf).2 q_
      refine r_aload hx hb dX2_sentDown_88 (lv_at hl 5 rfl) ?_
      refine lv_iconst (v := 1) hx hb dX2_sentDown_90 (by decide) ?_
      refine r_pZ X B hf fX3_2 (Or.inl rfl) m_491 dX2_sentDown_91 (fun h36 H locs B hf => ?_)
      refine lv_iload hx hb dX2_sentDown_94 (lv_at hl 2 rfl) ?_
      refine lv_istore (i := 9) (lv' := [(9, .int v24), (8, .int v25), (5, .int v24), (7, .int v18), (6, .int v16), (4, va_rf v13), (0, va_rf (some l0)), (1, va_rf l1), (2, .int l2), (3, .int l3)]) hx hb dX2_sentDown_96 hl (by decide) (by first | rfl | simp [va_cat, cat_i, cat_r, cat_l]) (fun ls hl => ?_)
      exact t_X2_sentDown_98 X hr hk hn  B (lv_sub hl [6, 8, 5, 2, 4, 3, 1, 0] rfl) hf
def f_X2_passDay_19 : Nat → AH → Nat → Int32 → Int32 → Option Nat → Option (Unit × AH)
  | 0, _, _, _, _, _ => none
  | n + 1, h, l0, l1, l2, l3 => nul l3 (gR h (some l0) 2 2 (fun v1 => gI h v1 4 3 (fun v2 => pI h v1 4 3 (v2 + l2) (fun h3 => some ((), h3))))) (gI h l3 5 4 (fun v4 => rcv h (some l0) 2 (fun a8 => cal (f_X2_sentDown h a8 l3 (l1 * v4) l2) (fun v5 h6 => gR h6 l3 5 1 (fun v11 => f_X2_passDay_19 n h6 l0 l1 v5 v11)))))
def f_X2_passDay (h : AH) (l0 : Nat) (l1 : Int32) : Option (Unit × AH) := gR h (some l0) 2 2 (fun v12 => rcv h v12 4 (fun a16 => cal (f_X4_clear h a16) (fun v13 h14 => pI h14 (some l0) 2 3 0 (fun h19 => gR h19 (some l0) 2 0 (fun v20 => f_X2_passDay_19 FU h19 l0 l1 0 v20)))))
set_option maxRecDepth 100000 in
set_option maxHeartbeats 4000000 in
theorem t_X2_passDay_19 {p : Program} {l : Launch} {e : Env} {s : State} {m : MethodId} {args : Array Value} {below : List Frame} {meth : Method} {c : Code} {D : RG} {b : Nat} {vv : Unit} {hh : AH} (X : r_C p c cX2_passDay 4 s m args RX2 D b) (hr : meth.sig.returnType = none) (hk : meth.locks = false) (hn : meth.name = "passDay") : ∀ (n : Nat) (h : AH) (H : Heap) (locs : List Loc) (ls : Array Slot) (l0 : Nat) (l1 : Int32) (l2 : Int32) (l3 : Option Nat), r_B D b s h H locs → lv_has ls 4 [(0, va_rf (some l0)), (1, .int l1), (2, .int l2), (3, va_rf l3)] → f_X2_passDay_19 n h l0 l1 l2 l3 = some (vv, hh) → W p l e ({ frames := 4, cells := 0, slots := 0, locals := 106 } : Room) s m args below meth c H locs 0 0 (MQ below (r_Q D b none hh) args s 0 0 (fun q => b ≤ q)) (F0 m 19 ls []) := by
  obtain ⟨⟨hx, hb, hml, hown, hts⟩, -⟩ := id X
  intro n
  induction n with
  | zero =>
    intro h H locs ls l0 l1 l2 l3 B hl hf
    cases hf
  | succ n ih =>
    intro h H locs ls l0 l1 l2 l3 B hl hf
    unfold f_X2_passDay_19 at hf
    refine r_aload_n hx hb dX2_passDay_19 rfl (lv_at hl 3 rfl) ?_
    refine r_ifnull (tgt := 44) hx hb hf dX2_passDay_20 (by decide) (fun hf e_ => ?_) (fun hf e_ => ?_)
    · refine r_aload_n hx hb dX2_passDay_44 rfl (lv_at hl 0 rfl) ?_
      refine r_gR X B hf fX2_2 (fun _ _ => rfl) m_111 dX2_passDay_45 (fun v1 hf => ?_)
      refine lv_dup hx hb dX2_passDay_48 (va_cat _) ?_
      refine r_gI X B hf fX4_3 (fun _ _ => rfl) m_481 dX2_passDay_49 (fun v2 hf => ?_)
      refine lv_iload_n hx hb dX2_passDay_52 rfl (lv_at hl 2 rfl) ?_
      refine lv_iadd hx hb dX2_passDay_53 ?_
      refine r_pI X B hf fX4_3 (Or.inl rfl) m_481 dX2_passDay_54 (fun h3 H locs B hf => ?_)
      exact r_vret X B hr hk hf dX2_passDay_57
    · refine r_aload_n hx hb dX2_passDay_23 rfl (lv_at hl 0 rfl) ?_
      refine r_aload_n hx hb dX2_passDay_24 rfl (lv_at hl 3 rfl) ?_
      refine lv_iload_n hx hb dX2_passDay_25 rfl (lv_at hl 1 rfl) ?_
      refine r_aload_n hx hb dX2_passDay_26 rfl (lv_at hl 3 rfl) ?_
      refine r_gI X B hf fX5_4 (fun _ _ => rfl) m_480 dX2_passDay_27 (fun v4 hf => ?_)
      refine lv_imul hx hb dX2_passDay_30 ?_
      refine lv_iload_n hx hb dX2_passDay_31 rfl (lv_at hl 2 rfl) ?_
      refine rcv_inv hf ?_
      intro a8 e9 s10 hf
      refine cal_inv hf ?_
      intro v5 h6 e7 hf
      refine r_call B (va_runV (As := [va_rf l3, .int (l1 * v4), .int l2]) (rest := []) X.1 (c_X2_sentDown (l := l) (D := D) (b := b) e7) (r_cwV X rfl m_486 m_487 m_488 m_52 m_489 rfl rfl hd_X2_sentDown ⟨Nat.le_of_ble_eq_true rfl, Nat.le_of_ble_eq_true rfl⟩) (r_preV X B s10 rfl [va_rf l3, .int (l1 * v4), .int l2]) rfl rfl hl.1 (by rw [e9]; rfl) (lv_room (by simp [va_cat, cat_i, cat_r, cat_l])) dX2_passDay_32 ⟨Nat.zero_le _, Nat.zero_le _⟩) ?_
      intro H locs B
      refine W.cs (cells' := 0) (slots' := 0) rfl rfl (W.eq (g2 := F0 m 35 ls [.int v5]) rfl ?_)
      refine lv_istore_n (i := 2) (lv' := [(2, .int v5), (0, va_rf (some l0)), (1, .int l1), (3, va_rf l3)]) hx hb dX2_passDay_35 rfl hl (by decide) (by first | rfl | simp [va_cat, cat_i, cat_r, cat_l]) (fun ls hl => ?_)
      refine r_aload_n hx hb dX2_passDay_36 rfl (lv_at hl 3 rfl) ?_
      refine r_gR X B hf fX5_1 (fun _ _ => rfl) m_471 dX2_passDay_37 (fun v11 hf => ?_)
      refine r_astore_n (i := 3) (lv' := [(3, va_rf v11), (2, .int v5), (0, va_rf (some l0)), (1, .int l1)]) hx hb dX2_passDay_40 rfl hl (by decide) (by first | rfl | simp [va_cat, cat_i, cat_r, cat_l]) (fun ls hl => ?_)
      refine lv_goto (tgt := 19) hx hb dX2_passDay_41 (by decide) ?_
      exact ih _ _ _ _ _ _ _ _ B (lv_sub hl [2, 3, 1, 0] rfl) hf
set_option maxRecDepth 100000 in
set_option maxHeartbeats 4000000 in
theorem c_X2_passDay {l : Launch} {D : RG} {b : Nat} {h : AH} {l0 : Nat} {l1 : Int32} {vv : Unit} {hh : AH} (hf : f_X2_passDay h l0 l1 = some (vv, hh)) : Met l yX2_passDay (Cond.code yX2_passDay cX2_passDay 4 none :: wsL_law) ({ frames := 4, cells := 0, slots := 0, locals := 106 } : Room) (va_Pc [.ref l0, .int l1] (r_I D b h)) (r_Q D b none hh) 0 0 (fun q => b ≤ q) := by
  refine r_ofW (own := RX2) rfl (by decide +kernel) (by simp [lg_sl, va_cat, cat_i, cat_r, cat_l]) ?_
  intro p e s m args below meth c ls X B hr hk hn hl
  have hl : lv_has ls 4 [(0, .ref l0), (1, .int l1)] := by simpa [lv_args, va_cat, cat_i, cat_r, cat_l] using hl
  have hl : lv_has ls 4 [(0, va_rf (some l0)), (1, .int l1)] := hl
  obtain ⟨⟨hx, hb, hml, hown, hts⟩, -⟩ := id X
  generalize s.heap = H at B ⊢
  generalize ([] : List Loc) = locs at B ⊢
  unfold f_X2_passDay at hf
  refine r_aload_n hx hb dX2_passDay_0 rfl (lv_at hl 0 rfl) ?_
  refine r_gR X B hf fX2_2 (fun _ _ => rfl) m_111 dX2_passDay_1 (fun v12 hf => ?_)
  refine rcv_inv hf ?_
  intro a16 e17 s18 hf
  refine cal_inv hf ?_
  intro v13 h14 e15 hf
  refine r_call B (va_runV (As := []) (rest := []) X.1 (c_X4_clear (l := l) (D := D) (b := b) e15) (r_cwV X rfl m_482 m_483 m_484 m_29 m_485 rfl rfl hd_X4_clear ⟨Nat.le_of_ble_eq_true rfl, Nat.le_of_ble_eq_true rfl⟩) (r_preV X B s18 rfl []) rfl rfl hl.1 (by rw [e17]; rfl) (lv_room (by simp [va_cat, cat_i, cat_r, cat_l])) dX2_passDay_4 ⟨Nat.zero_le _, Nat.zero_le _⟩) ?_
  intro H locs B
  refine W.cs (cells' := 0) (slots' := 0) rfl rfl (W.eq (g2 := F0 m 7 ls []) rfl ?_)
  refine r_aload_n hx hb dX2_passDay_7 rfl (lv_at hl 0 rfl) ?_
  refine lv_iconst (v := 0) hx hb dX2_passDay_8 (by decide) ?_
  refine r_pI X B hf fX2_3 (Or.inl rfl) m_112 dX2_passDay_9 (fun h19 H locs B hf => ?_)
  refine lv_iconst (v := 0) hx hb dX2_passDay_12 (by decide) ?_
  refine lv_istore_n (i := 2) (lv' := [(2, .int 0), (0, va_rf (some l0)), (1, .int l1)]) hx hb dX2_passDay_13 rfl hl (by decide) (by first | rfl | simp [va_cat, cat_i, cat_r, cat_l]) (fun ls hl => ?_)
  refine r_aload_n hx hb dX2_passDay_14 rfl (lv_at hl 1 rfl) ?_
  refine r_gR X B hf fX2_0 (fun _ _ => rfl) m_113 dX2_passDay_15 (fun v20 hf => ?_)
  refine r_astore_n (i := 3) (lv' := [(3, va_rf v20), (2, .int 0), (0, va_rf (some l0)), (1, .int l1)]) hx hb dX2_passDay_18 rfl hl (by decide) (by first | rfl | simp [va_cat, cat_i, cat_r, cat_l]) (fun ls hl => ?_)
  exact t_X2_passDay_19 X hr hk hn  _ _ _ _ _ _ _ _ _ B (lv_sub hl [2, 3, 1, 0] rfl) hf
def f_X3_init (h : AH) (l0 : Nat) : Option (Unit × AH) := pI h (some l0) 3 0 0 (fun h1 => pI h1 (some l0) 3 1 0 (fun h2 => pZ h2 (some l0) 3 2 0 (fun h3 => pI h3 (some l0) 3 3 0 (fun h4 => pI h4 (some l0) 3 4 0 (fun h5 => some ((), h5))))))
set_option maxRecDepth 100000 in
set_option maxHeartbeats 4000000 in
theorem c_X3_init {l : Launch} {D : RG} {b : Nat} {h : AH} {l0 : Nat} {vv : Unit} {hh : AH} (hf : f_X3_init h l0 = some (vv, hh)) : Met l yX3_init (Cond.code yX3_init cX3_init 1 none :: wsL_law) ({ frames := 1, cells := 0, slots := 0, locals := 12 } : Room) (va_Pc [.ref l0] (r_I D b h)) (r_Q D b none hh) 0 0 (fun q => b ≤ q) := by
  refine r_ofW (own := RX3) rfl (by decide +kernel) (by simp [lg_sl, va_cat, cat_i, cat_r, cat_l]) ?_
  intro p e s m args below meth c ls X B hr hk hn hl
  have hl : lv_has ls 1 [(0, .ref l0)] := by simpa [lv_args, va_cat, cat_i, cat_r, cat_l] using hl
  have hl : lv_has ls 1 [(0, va_rf (some l0))] := hl
  obtain ⟨⟨hx, hb, hml, hown, hts⟩, -⟩ := id X
  generalize s.heap = H at B ⊢
  generalize ([] : List Loc) = locs at B ⊢
  unfold f_X3_init at hf
  refine r_aload_n hx hb dX3_init_0 rfl (lv_at hl 0 rfl) ?_
  refine W.objInit hx hb hown (hts _ m_100) (hts _ m_14) (hts _ m_15) rfl (by rw [hml]; exact hl.1) rfl dX3_init_1 (Nat.le_of_ble_eq_true rfl) (Nat.le_of_ble_eq_true rfl) ?_
  refine W.eq (g2 := F0 m 4 ls []) rfl ?_
  refine r_aload_n hx hb dX3_init_4 rfl (lv_at hl 0 rfl) ?_
  refine lv_iconst (v := 0) hx hb dX3_init_5 (by decide) ?_
  refine r_pI X B hf fX3_0 (Or.inl rfl) m_101 dX3_init_6 (fun h1 H locs B hf => ?_)
  refine r_aload_n hx hb dX3_init_9 rfl (lv_at hl 0 rfl) ?_
  refine lv_iconst (v := 0) hx hb dX3_init_10 (by decide) ?_
  refine r_pI X B hf fX3_1 (Or.inl rfl) m_102 dX3_init_11 (fun h2 H locs B hf => ?_)
  refine r_aload_n hx hb dX3_init_14 rfl (lv_at hl 0 rfl) ?_
  refine lv_iconst (v := 0) hx hb dX3_init_15 (by decide) ?_
  refine r_pZ X B hf fX3_2 (Or.inl rfl) m_103 dX3_init_16 (fun h3 H locs B hf => ?_)
  refine r_aload_n hx hb dX3_init_19 rfl (lv_at hl 0 rfl) ?_
  refine lv_iconst (v := 0) hx hb dX3_init_20 (by decide) ?_
  refine r_pI X B hf fX3_3 (Or.inl rfl) m_104 dX3_init_21 (fun h4 H locs B hf => ?_)
  refine r_aload_n hx hb dX3_init_24 rfl (lv_at hl 0 rfl) ?_
  refine lv_iconst (v := 0) hx hb dX3_init_25 (by decide) ?_
  refine r_pI X B hf fX3_4 (Or.inl rfl) m_105 dX3_init_26 (fun h5 H locs B hf => ?_)
  exact r_vret X B hr hk hf dX3_init_29
def f_X4_addAll (h : AH) (l0 : Nat) (l1 : Option Nat) : Option (Unit × AH) := gI h (some l0) 4 0 (fun v1 => gI h l1 4 0 (fun v2 => pI h (some l0) 4 0 (v1 + v2) (fun h3 => gI h3 (some l0) 4 1 (fun v4 => gI h3 l1 4 1 (fun v5 => pI h3 (some l0) 4 1 (v4 + v5) (fun h6 => gI h6 (some l0) 4 2 (fun v7 => gI h6 l1 4 2 (fun v8 => pI h6 (some l0) 4 2 (v7 + v8) (fun h9 => gI h9 (some l0) 4 3 (fun v10 => gI h9 l1 4 3 (fun v11 => pI h9 (some l0) 4 3 (v10 + v11) (fun h12 => some ((), h12)))))))))))))
set_option maxRecDepth 100000 in
set_option maxHeartbeats 4000000 in
theorem c_X4_addAll {l : Launch} {D : RG} {b : Nat} {h : AH} {l0 : Nat} {l1 : Option Nat} {vv : Unit} {hh : AH} (hf : f_X4_addAll h l0 l1 = some (vv, hh)) : Met l yX4_addAll (Cond.code yX4_addAll cX4_addAll 2 none :: wsL_law) ({ frames := 0, cells := 0, slots := 0, locals := 0 } : Room) (va_Pc [.ref l0, va_rf l1] (r_I D b h)) (r_Q D b none hh) 0 0 (fun q => b ≤ q) := by
  refine r_ofW (own := RX4) rfl (by decide +kernel) (by simp [lg_sl, va_cat, cat_i, cat_r, cat_l]) ?_
  intro p e s m args below meth c ls X B hr hk hn hl
  have hl : lv_has ls 2 [(0, .ref l0), (1, va_rf l1)] := by simpa [lv_args, va_cat, cat_i, cat_r, cat_l] using hl
  have hl : lv_has ls 2 [(0, va_rf (some l0)), (1, va_rf l1)] := hl
  obtain ⟨⟨hx, hb, hml, hown, hts⟩, -⟩ := id X
  generalize s.heap = H at B ⊢
  generalize ([] : List Loc) = locs at B ⊢
  unfold f_X4_addAll at hf
  refine r_aload_n hx hb dX4_addAll_0 rfl (lv_at hl 0 rfl) ?_
  refine lv_dup hx hb dX4_addAll_1 (va_cat _) ?_
  refine r_gI X B hf fX4_0 (fun _ _ => rfl) m_77 dX4_addAll_2 (fun v1 hf => ?_)
  refine r_aload_n hx hb dX4_addAll_5 rfl (lv_at hl 1 rfl) ?_
  refine r_gI X B hf fX4_0 (fun _ _ => rfl) m_77 dX4_addAll_6 (fun v2 hf => ?_)
  refine lv_iadd hx hb dX4_addAll_9 ?_
  refine r_pI X B hf fX4_0 (Or.inl rfl) m_77 dX4_addAll_10 (fun h3 H locs B hf => ?_)
  refine r_aload_n hx hb dX4_addAll_13 rfl (lv_at hl 0 rfl) ?_
  refine lv_dup hx hb dX4_addAll_14 (va_cat _) ?_
  refine r_gI X B hf fX4_1 (fun _ _ => rfl) m_78 dX4_addAll_15 (fun v4 hf => ?_)
  refine r_aload_n hx hb dX4_addAll_18 rfl (lv_at hl 1 rfl) ?_
  refine r_gI X B hf fX4_1 (fun _ _ => rfl) m_78 dX4_addAll_19 (fun v5 hf => ?_)
  refine lv_iadd hx hb dX4_addAll_22 ?_
  refine r_pI X B hf fX4_1 (Or.inl rfl) m_78 dX4_addAll_23 (fun h6 H locs B hf => ?_)
  refine r_aload_n hx hb dX4_addAll_26 rfl (lv_at hl 0 rfl) ?_
  refine lv_dup hx hb dX4_addAll_27 (va_cat _) ?_
  refine r_gI X B hf fX4_2 (fun _ _ => rfl) m_79 dX4_addAll_28 (fun v7 hf => ?_)
  refine r_aload_n hx hb dX4_addAll_31 rfl (lv_at hl 1 rfl) ?_
  refine r_gI X B hf fX4_2 (fun _ _ => rfl) m_79 dX4_addAll_32 (fun v8 hf => ?_)
  refine lv_iadd hx hb dX4_addAll_35 ?_
  refine r_pI X B hf fX4_2 (Or.inl rfl) m_79 dX4_addAll_36 (fun h9 H locs B hf => ?_)
  refine r_aload_n hx hb dX4_addAll_39 rfl (lv_at hl 0 rfl) ?_
  refine lv_dup hx hb dX4_addAll_40 (va_cat _) ?_
  refine r_gI X B hf fX4_3 (fun _ _ => rfl) m_80 dX4_addAll_41 (fun v10 hf => ?_)
  refine r_aload_n hx hb dX4_addAll_44 rfl (lv_at hl 1 rfl) ?_
  refine r_gI X B hf fX4_3 (fun _ _ => rfl) m_80 dX4_addAll_45 (fun v11 hf => ?_)
  refine lv_iadd hx hb dX4_addAll_48 ?_
  refine r_pI X B hf fX4_3 (Or.inl rfl) m_80 dX4_addAll_49 (fun h12 H locs B hf => ?_)
  exact r_vret X B hr hk hf dX4_addAll_52
def f_X5_init (h : AH) (l0 : Nat) (l1 : Int32) (l2 : Option Nat) : Option (Unit × AH) := nO h 3 (fun a1 h2 => rcv h2 (some a1) 3 (fun a6 => cal (f_X3_init h2 a6) (fun v3 h4 => pR h4 (some l0) 5 2 (some a1) (fun h9 => nO h9 3 (fun a10 h11 => rcv h11 (some a10) 3 (fun a15 => cal (f_X3_init h11 a15) (fun v12 h13 => pR h13 (some l0) 5 3 (some a10) (fun h18 => pI h18 (some l0) 5 4 0 (fun h19 => pI h19 (some l0) 5 5 100 (fun h20 => pI h20 (some l0) 5 6 50 (fun h21 => pI h21 (some l0) 5 7 0 (fun h22 => pI h22 (some l0) 5 8 (-1) (fun h23 => pR h23 (some l0) 5 9 none (fun h24 => pI h24 (some l0) 5 0 l1 (fun h25 => pR h25 (some l0) 5 1 l2 (fun h26 => some ((), h26)))))))))))))))))
set_option maxRecDepth 100000 in
set_option maxHeartbeats 4000000 in
theorem c_X5_init {l : Launch} {D : RG} {b : Nat} {h : AH} {l0 : Nat} {l1 : Int32} {l2 : Option Nat} {vv : Unit} {hh : AH} (hf : f_X5_init h l0 l1 l2 = some (vv, hh)) : Met l yX5_init (Cond.code yX5_init cX5_init 3 none :: wsL_law) ({ frames := 2, cells := 2, slots := 10, locals := 32 } : Room) (va_Pc [.ref l0, .int l1, va_rf l2] (r_I D b h)) (r_Q D b none hh) 2 10 (fun q => b ≤ q) := by
  refine r_ofW (own := RX5) rfl (by decide +kernel) (by simp [lg_sl, va_cat, cat_i, cat_r, cat_l]) ?_
  intro p e s m args below meth c ls X B hr hk hn hl
  have hl : lv_has ls 3 [(0, .ref l0), (1, .int l1), (2, va_rf l2)] := by simpa [lv_args, va_cat, cat_i, cat_r, cat_l] using hl
  have hl : lv_has ls 3 [(0, va_rf (some l0)), (1, .int l1), (2, va_rf l2)] := hl
  obtain ⟨⟨hx, hb, hml, hown, hts⟩, -⟩ := id X
  generalize s.heap = H at B ⊢
  generalize ([] : List Loc) = locs at B ⊢
  unfold f_X5_init at hf
  refine r_aload_n hx hb dX5_init_0 rfl (lv_at hl 0 rfl) ?_
  refine W.objInit hx hb hown (hts _ m_84) (hts _ m_14) (hts _ m_15) rfl (by rw [hml]; exact hl.1) rfl dX5_init_1 (Nat.le_of_ble_eq_true rfl) (Nat.le_of_ble_eq_true rfl) ?_
  refine W.eq (g2 := F0 m 4 ls []) rfl ?_
  refine r_aload_n hx hb dX5_init_4 rfl (lv_at hl 0 rfl) ?_
  refine r_new X B hf rfl inlX3 tyX3_ok m_85 m_86 m_87 (by decide) (by decide) dX5_init_5 (by decide) (fun a1 h2 H B hf => ?_)
  refine W.cs (cells' := 1) (slots' := 5) rfl rfl ?_
  refine lv_dup hx hb dX5_init_8 (va_cat _) ?_
  refine rcv_inv hf ?_
  intro a6 e7 s8 hf
  refine cal_inv hf ?_
  intro v3 h4 e5 hf
  refine r_call B (va_runIN (b := a6) (As := []) (rest := [va_rf (some a1), va_rf (some l0)]) X.1 (c_X3_init (l := l) (D := D) (b := b) e5) (r_cwN (host := RX7) X rfl (by simp [r_nw]) m_98 m_87 m_99 rfl rfl hd_X3_init ⟨Nat.le_of_ble_eq_true rfl, Nat.le_of_ble_eq_true rfl⟩) (r_preS X B (.ref a6 :: [])) rfl rfl hl.1 (by rw [e7]; rfl) (lv_room (by simp [va_cat, cat_i, cat_r, cat_l])) dX5_init_9 ⟨(by decide), (by decide)⟩) ?_
  intro H locs B
  refine W.cs (cells' := 1) (slots' := 5) rfl rfl (W.eq (g2 := F0 m 12 ls [va_rf (some a1), va_rf (some l0)]) rfl ?_)
  refine r_pR X B hf fX5_2 rfl (Or.inr ⟨rfl, hn, rfl⟩) m_88 dX5_init_12 (fun h9 H locs B hf => ?_)
  refine r_aload_n hx hb dX5_init_15 rfl (lv_at hl 0 rfl) ?_
  refine r_new X B hf rfl inlX3 tyX3_ok m_85 m_86 m_87 (by decide) (by decide) dX5_init_16 (by decide) (fun a10 h11 H B hf => ?_)
  refine W.cs (cells' := 2) (slots' := 10) rfl rfl ?_
  refine lv_dup hx hb dX5_init_19 (va_cat _) ?_
  refine rcv_inv hf ?_
  intro a15 e16 s17 hf
  refine cal_inv hf ?_
  intro v12 h13 e14 hf
  refine r_call B (va_runIN (b := a15) (As := []) (rest := [va_rf (some a10), va_rf (some l0)]) X.1 (c_X3_init (l := l) (D := D) (b := b) e14) (r_cwN (host := RX7) X rfl (by simp [r_nw]) m_98 m_87 m_99 rfl rfl hd_X3_init ⟨Nat.le_of_ble_eq_true rfl, Nat.le_of_ble_eq_true rfl⟩) (r_preS X B (.ref a15 :: [])) rfl rfl hl.1 (by rw [e16]; rfl) (lv_room (by simp [va_cat, cat_i, cat_r, cat_l])) dX5_init_20 ⟨(by decide), (by decide)⟩) ?_
  intro H locs B
  refine W.cs (cells' := 2) (slots' := 10) rfl rfl (W.eq (g2 := F0 m 23 ls [va_rf (some a10), va_rf (some l0)]) rfl ?_)
  refine r_pR X B hf fX5_3 rfl (Or.inr ⟨rfl, hn, rfl⟩) m_89 dX5_init_23 (fun h18 H locs B hf => ?_)
  refine r_aload_n hx hb dX5_init_26 rfl (lv_at hl 0 rfl) ?_
  refine lv_iconst (v := 0) hx hb dX5_init_27 (by decide) ?_
  refine r_pI X B hf fX5_4 (Or.inl rfl) m_90 dX5_init_28 (fun h19 H locs B hf => ?_)
  refine r_aload_n hx hb dX5_init_31 rfl (lv_at hl 0 rfl) ?_
  refine lv_bipush (v := 100) hx hb dX5_init_32 (by decide) ?_
  refine r_pI X B hf fX5_5 (Or.inl rfl) m_91 dX5_init_34 (fun h20 H locs B hf => ?_)
  refine r_aload_n hx hb dX5_init_37 rfl (lv_at hl 0 rfl) ?_
  refine lv_bipush (v := 50) hx hb dX5_init_38 (by decide) ?_
  refine r_pI X B hf fX5_6 (Or.inl rfl) m_92 dX5_init_40 (fun h21 H locs B hf => ?_)
  refine r_aload_n hx hb dX5_init_43 rfl (lv_at hl 0 rfl) ?_
  refine lv_iconst (v := 0) hx hb dX5_init_44 (by decide) ?_
  refine r_pI X B hf fX5_7 (Or.inl rfl) m_93 dX5_init_45 (fun h22 H locs B hf => ?_)
  refine r_aload_n hx hb dX5_init_48 rfl (lv_at hl 0 rfl) ?_
  refine lv_iconst (v := (-1)) hx hb dX5_init_49 (by decide) ?_
  refine r_pI X B hf fX5_8 (Or.inl rfl) m_94 dX5_init_50 (fun h23 H locs B hf => ?_)
  refine r_aload_n hx hb dX5_init_53 rfl (lv_at hl 0 rfl) ?_
  refine r_null hx hb dX5_init_54 ?_
  refine r_pR X B hf fX5_9 rfl (Or.inl rfl) m_95 dX5_init_55 (fun h24 H locs B hf => ?_)
  refine r_aload_n hx hb dX5_init_58 rfl (lv_at hl 0 rfl) ?_
  refine lv_iload_n hx hb dX5_init_59 rfl (lv_at hl 1 rfl) ?_
  refine r_pI X B hf fX5_0 (Or.inr ⟨rfl, hn, rfl⟩) m_96 dX5_init_60 (fun h25 H locs B hf => ?_)
  refine r_aload_n hx hb dX5_init_63 rfl (lv_at hl 0 rfl) ?_
  refine r_aload_n hx hb dX5_init_64 rfl (lv_at hl 2 rfl) ?_
  refine r_pR X B hf fX5_1 rfl (Or.inr ⟨rfl, hn, rfl⟩) m_97 dX5_init_65 (fun h26 H locs B hf => ?_)
  exact r_vret X B hr hk hf dX5_init_68
def f_X5_putInOrder_59 (h : AH)  : Option (Unit × AH) := some ((), h)
def f_X5_putInOrder_36 (h : AH) (l0 : Nat) (l1 : Option Nat) (l3 : Option Nat) (l4 : Option Nat) : Option (Unit × AH) := pR h l1 1 6 l4 (fun h1 => nul l3 (pR h1 (some l0) 5 9 l1 (fun h2 => f_X5_putInOrder_59 h2)) (pR h1 l3 1 6 l1 (fun h3 => f_X5_putInOrder_59 h3)))
def f_X5_putInOrder_8 : Nat → AH → Nat → Option Nat → Option Nat → Option Nat → Option Nat → Option (Unit × AH)
  | 0, _, _, _, _, _, _ => none
  | n + 1, h, l0, l1, l2, l3, l4 => nul l4 (f_X5_putInOrder_36 h l0 l1 l3 l4) (rcv h l2 0 (fun a7 => cal (f_X0_isAhead h a7 l1 l4) (fun v4 h5 => if v4 = 0 then gR h5 l4 1 6 (fun v10 => f_X5_putInOrder_8 n h5 l0 l1 l2 l4 v10) else f_X5_putInOrder_36 h5 l0 l1 l3 l4)))
def f_X5_putInOrder (h : AH) (l0 : Nat) (l1 : Option Nat) (l2 : Option Nat) : Option (Unit × AH) := gR h (some l0) 5 9 (fun v11 => f_X5_putInOrder_8 FU h l0 l1 l2 none v11)
set_option maxRecDepth 100000 in
set_option maxHeartbeats 4000000 in
theorem t_X5_putInOrder_59 {p : Program} {l : Launch} {e : Env} {s : State} {m : MethodId} {args : Array Value} {below : List Frame} {meth : Method} {c : Code} {D : RG} {b : Nat} {vv : Unit} {hh : AH} (X : r_C p c cX5_putInOrder 5 s m args RX5 D b) (hr : meth.sig.returnType = none) (hk : meth.locks = false) (hn : meth.name = "putInOrder") {h : AH} {H : Heap} {locs : List Loc} {ls : Array Slot}  (B : r_B D b s h H locs) (hl : lv_has ls 5 []) (hf : f_X5_putInOrder_59 h  = some (vv, hh)) : W p l e ({ frames := 2, cells := 0, slots := 0, locals := 45 } : Room) s m args below meth c H locs 0 0 (MQ below (r_Q D b none hh) args s 0 0 (fun q => b ≤ q)) (F0 m 59 ls []) := by
  obtain ⟨⟨hx, hb, hml, hown, hts⟩, -⟩ := id X
  unfold f_X5_putInOrder_59 at hf
  exact r_vret X B hr hk hf dX5_putInOrder_59
set_option maxRecDepth 100000 in
set_option maxHeartbeats 4000000 in
theorem t_X5_putInOrder_36 {p : Program} {l : Launch} {e : Env} {s : State} {m : MethodId} {args : Array Value} {below : List Frame} {meth : Method} {c : Code} {D : RG} {b : Nat} {vv : Unit} {hh : AH} (X : r_C p c cX5_putInOrder 5 s m args RX5 D b) (hr : meth.sig.returnType = none) (hk : meth.locks = false) (hn : meth.name = "putInOrder") {h : AH} {H : Heap} {locs : List Loc} {ls : Array Slot} {l0 : Nat} {l1 : Option Nat} {l3 : Option Nat} {l4 : Option Nat} (B : r_B D b s h H locs) (hl : lv_has ls 5 [(0, va_rf (some l0)), (1, va_rf l1), (3, va_rf l3), (4, va_rf l4)]) (hf : f_X5_putInOrder_36 h l0 l1 l3 l4 = some (vv, hh)) : W p l e ({ frames := 2, cells := 0, slots := 0, locals := 45 } : Room) s m args below meth c H locs 0 0 (MQ below (r_Q D b none hh) args s 0 0 (fun q => b ≤ q)) (F0 m 36 ls []) := by
  obtain ⟨⟨hx, hb, hml, hown, hts⟩, -⟩ := id X
  unfold f_X5_putInOrder_36 at hf
  refine r_aload_n hx hb dX5_putInOrder_36 rfl (lv_at hl 1 rfl) ?_
  refine r_aload hx hb dX5_putInOrder_37 (lv_at hl 3 rfl) ?_
  refine r_pR X B hf fX1_6 rfl (Or.inl rfl) m_227 dX5_putInOrder_39 (fun h1 H locs B hf => ?_)
  refine r_aload_n hx hb dX5_putInOrder_42 rfl (lv_at hl 2 rfl) ?_
  refine r_ifnonnull (tgt := 54) hx hb hf dX5_putInOrder_43 (by decide) (fun hf e_ => ?_) (fun hf e_ => ?_)
  · refine r_aload_n hx hb dX5_putInOrder_46 rfl (lv_at hl 0 rfl) ?_
    refine r_aload_n hx hb dX5_putInOrder_47 rfl (lv_at hl 1 rfl) ?_
    refine r_pR X B hf fX5_9 rfl (Or.inl rfl) m_95 dX5_putInOrder_48 (fun h2 H locs B hf => ?_)
    refine lv_goto (tgt := 59) hx hb dX5_putInOrder_51 (by decide) ?_
    exact t_X5_putInOrder_59 X hr hk hn  B (lv_sub hl [] rfl) hf
  · refine r_aload_n hx hb dX5_putInOrder_54 rfl (lv_at hl 2 rfl) ?_
    refine r_aload_n hx hb dX5_putInOrder_55 rfl (lv_at hl 1 rfl) ?_
    refine r_pR X B hf fX1_6 rfl (Or.inl rfl) m_227 dX5_putInOrder_56 (fun h3 H locs B hf => ?_)
    exact t_X5_putInOrder_59 X hr hk hn  B (lv_sub hl [] rfl) hf
set_option maxRecDepth 100000 in
set_option maxHeartbeats 4000000 in
theorem t_X5_putInOrder_8 {p : Program} {l : Launch} {e : Env} {s : State} {m : MethodId} {args : Array Value} {below : List Frame} {meth : Method} {c : Code} {D : RG} {b : Nat} {vv : Unit} {hh : AH} (X : r_C p c cX5_putInOrder 5 s m args RX5 D b) (hr : meth.sig.returnType = none) (hk : meth.locks = false) (hn : meth.name = "putInOrder") : ∀ (n : Nat) (h : AH) (H : Heap) (locs : List Loc) (ls : Array Slot) (l0 : Nat) (l1 : Option Nat) (l2 : Option Nat) (l3 : Option Nat) (l4 : Option Nat), r_B D b s h H locs → lv_has ls 5 [(0, va_rf (some l0)), (1, va_rf l1), (2, va_rf l2), (3, va_rf l3), (4, va_rf l4)] → f_X5_putInOrder_8 n h l0 l1 l2 l3 l4 = some (vv, hh) → W p l e ({ frames := 2, cells := 0, slots := 0, locals := 45 } : Room) s m args below meth c H locs 0 0 (MQ below (r_Q D b none hh) args s 0 0 (fun q => b ≤ q)) (F0 m 8 ls []) := by
  obtain ⟨⟨hx, hb, hml, hown, hts⟩, -⟩ := id X
  intro n
  induction n with
  | zero =>
    intro h H locs ls l0 l1 l2 l3 l4 B hl hf
    cases hf
  | succ n ih =>
    intro h H locs ls l0 l1 l2 l3 l4 B hl hf
    unfold f_X5_putInOrder_8 at hf
    refine r_aload hx hb dX5_putInOrder_8 (lv_at hl 4 rfl) ?_
    refine r_ifnull (tgt := 36) hx hb hf dX5_putInOrder_10 (by decide) (fun hf e_ => ?_) (fun hf e_ => ?_)
    · exact t_X5_putInOrder_36 X hr hk hn  B (lv_sub hl [0, 1, 3, 4] rfl) hf
    · refine r_aload_n hx hb dX5_putInOrder_13 rfl (lv_at hl 2 rfl) ?_
      refine r_aload_n hx hb dX5_putInOrder_14 rfl (lv_at hl 1 rfl) ?_
      refine r_aload hx hb dX5_putInOrder_15 (lv_at hl 4 rfl) ?_
      refine rcv_inv hf ?_
      intro a7 e8 s9 hf
      refine cal_inv hf ?_
      intro v4 h5 e6 hf
      refine r_call B (va_runV (As := [va_rf l1, va_rf l4]) (rest := []) X.1 (c_X0_isAhead (l := l) (D := D) (b := b) e6) (r_cwV X rfl m_228 m_229 m_230 m_24 m_231 rfl rfl hd_X0_isAhead ⟨Nat.le_of_ble_eq_true rfl, Nat.le_of_ble_eq_true rfl⟩) (r_preV X B s9 rfl [va_rf l1, va_rf l4]) rfl rfl hl.1 (by rw [e8]; rfl) (lv_room (by simp [va_cat, cat_i, cat_r, cat_l])) dX5_putInOrder_17 ⟨Nat.zero_le _, Nat.zero_le _⟩) ?_
      intro H locs B
      refine W.cs (cells' := 0) (slots' := 0) rfl rfl (W.eq (g2 := F0 m 20 ls [.int v4]) rfl ?_)
      refine lv_if_ne (tgt := 36) hx hb dX5_putInOrder_20 (by decide) (fun q_ => ?_) (fun q_ => ?_)
      · have hf := (r_ite hf).2 q_
        exact t_X5_putInOrder_36 X hr hk hn  B (lv_sub hl [0, 1, 3, 4] rfl) hf
      · have hf := (r_ite hf).1 q_
        refine r_aload hx hb dX5_putInOrder_23 (lv_at hl 4 rfl) ?_
        refine r_astore_n (i := 3) (lv' := [(3, va_rf l4), (0, va_rf (some l0)), (1, va_rf l1), (2, va_rf l2), (4, va_rf l4)]) hx hb dX5_putInOrder_25 rfl hl (by decide) (by first | rfl | simp [va_cat, cat_i, cat_r, cat_l]) (fun ls hl => ?_)
        refine r_aload hx hb dX5_putInOrder_26 (lv_at hl 4 rfl) ?_
        refine r_gR X B hf fX1_6 (fun _ _ => rfl) m_227 dX5_putInOrder_28 (fun v10 hf => ?_)
        refine r_astore (i := 4) (lv' := [(4, va_rf v10), (3, va_rf l4), (0, va_rf (some l0)), (1, va_rf l1), (2, va_rf l2)]) hx hb dX5_putInOrder_31 hl (by decide) (by first | rfl | simp [va_cat, cat_i, cat_r, cat_l]) (fun ls hl => ?_)
        refine lv_goto (tgt := 8) hx hb dX5_putInOrder_33 (by decide) ?_
        exact ih _ _ _ _ _ _ _ _ _ B (lv_sub hl [2, 3, 4, 1, 0] rfl) hf
set_option maxRecDepth 100000 in
set_option maxHeartbeats 4000000 in
theorem c_X5_putInOrder {l : Launch} {D : RG} {b : Nat} {h : AH} {l0 : Nat} {l1 : Option Nat} {l2 : Option Nat} {vv : Unit} {hh : AH} (hf : f_X5_putInOrder h l0 l1 l2 = some (vv, hh)) : Met l yX5_putInOrder (Cond.code yX5_putInOrder cX5_putInOrder 5 none :: wsL_law) ({ frames := 2, cells := 0, slots := 0, locals := 45 } : Room) (va_Pc [.ref l0, va_rf l1, va_rf l2] (r_I D b h)) (r_Q D b none hh) 0 0 (fun q => b ≤ q) := by
  refine r_ofW (own := RX5) rfl (by decide +kernel) (by simp [lg_sl, va_cat, cat_i, cat_r, cat_l]) ?_
  intro p e s m args below meth c ls X B hr hk hn hl
  have hl : lv_has ls 5 [(0, .ref l0), (1, va_rf l1), (2, va_rf l2)] := by simpa [lv_args, va_cat, cat_i, cat_r, cat_l] using hl
  have hl : lv_has ls 5 [(0, va_rf (some l0)), (1, va_rf l1), (2, va_rf l2)] := hl
  obtain ⟨⟨hx, hb, hml, hown, hts⟩, -⟩ := id X
  generalize s.heap = H at B ⊢
  generalize ([] : List Loc) = locs at B ⊢
  unfold f_X5_putInOrder at hf
  refine r_null hx hb dX5_putInOrder_0 ?_
  refine r_astore_n (i := 3) (lv' := [(3, va_rf none), (0, va_rf (some l0)), (1, va_rf l1), (2, va_rf l2)]) hx hb dX5_putInOrder_1 rfl hl (by decide) (by first | rfl | simp [va_cat, cat_i, cat_r, cat_l]) (fun ls hl => ?_)
  refine r_aload_n hx hb dX5_putInOrder_2 rfl (lv_at hl 1 rfl) ?_
  refine r_gR X B hf fX5_9 (fun _ _ => rfl) m_95 dX5_putInOrder_3 (fun v11 hf => ?_)
  refine r_astore (i := 4) (lv' := [(4, va_rf v11), (3, va_rf none), (0, va_rf (some l0)), (1, va_rf l1), (2, va_rf l2)]) hx hb dX5_putInOrder_6 hl (by decide) (by first | rfl | simp [va_cat, cat_i, cat_r, cat_l]) (fun ls hl => ?_)
  exact t_X5_putInOrder_8 X hr hk hn  _ _ _ _ _ _ _ _ _ _ B (lv_sub hl [2, 3, 4, 1, 0] rfl) hf
def f_X6_init (h : AH) (l0 : Nat) : Option (Unit × AH) := nA h .byte 300 300 (fun a1 h2 => pR h2 (some l0) 6 0 (some a1) (fun h3 => pI h3 (some l0) 6 1 0 (fun h4 => pI h4 (some l0) 6 2 0 (fun h5 => pI h5 (some l0) 6 3 0 (fun h6 => pI h6 (some l0) 6 4 0 (fun h7 => pI h7 (some l0) 6 5 0 (fun h8 => some ((), h8))))))))
set_option maxRecDepth 100000 in
set_option maxHeartbeats 4000000 in
theorem c_X6_init {l : Launch} {D : RG} {b : Nat} {h : AH} {l0 : Nat} {vv : Unit} {hh : AH} (hf : f_X6_init h l0 = some (vv, hh)) : Met l yX6_init (Cond.code yX6_init cX6_init 1 none :: wsL_law) ({ frames := 1, cells := 1, slots := 300, locals := 12 } : Room) (va_Pc [.ref l0] (r_I D b h)) (r_Q D b none hh) 1 300 (fun q => b ≤ q) := by
  refine r_ofW (own := RX6) rfl (by decide +kernel) (by simp [lg_sl, va_cat, cat_i, cat_r, cat_l]) ?_
  intro p e s m args below meth c ls X B hr hk hn hl
  have hl : lv_has ls 1 [(0, .ref l0)] := by simpa [lv_args, va_cat, cat_i, cat_r, cat_l] using hl
  have hl : lv_has ls 1 [(0, va_rf (some l0))] := hl
  obtain ⟨⟨hx, hb, hml, hown, hts⟩, -⟩ := id X
  generalize s.heap = H at B ⊢
  generalize ([] : List Loc) = locs at B ⊢
  unfold f_X6_init at hf
  refine r_aload_n hx hb dX6_init_0 rfl (lv_at hl 0 rfl) ?_
  refine W.objInit hx hb hown (hts _ m_56) (hts _ m_14) (hts _ m_15) rfl (by rw [hml]; exact hl.1) rfl dX6_init_1 (Nat.le_of_ble_eq_true rfl) (Nat.le_of_ble_eq_true rfl) ?_
  refine W.eq (g2 := F0 m 4 ls []) rfl ?_
  refine r_aload_n hx hb dX6_init_4 rfl (lv_at hl 0 rfl) ?_
  refine lv_sipush (v := 300) hx hb dX6_init_5 (by decide) ?_
  refine r_newA X B hf rfl (by decide) m_57 (Nat.le_of_ble_eq_true rfl) (by decide) (by decide) rfl (fun _ _ z => z) dX6_init_8 (fun a1 h2 H B hf => ?_)
  refine W.cs (cells' := 1) (slots' := 300) rfl rfl ?_
  refine r_pR X B hf fX6_0 rfl (Or.inr ⟨rfl, hn, rfl⟩) m_58 dX6_init_10 (fun h3 H locs B hf => ?_)
  refine r_aload_n hx hb dX6_init_13 rfl (lv_at hl 0 rfl) ?_
  refine lv_iconst (v := 0) hx hb dX6_init_14 (by decide) ?_
  refine r_pI X B hf fX6_1 (Or.inl rfl) m_59 dX6_init_15 (fun h4 H locs B hf => ?_)
  refine r_aload_n hx hb dX6_init_18 rfl (lv_at hl 0 rfl) ?_
  refine lv_iconst (v := 0) hx hb dX6_init_19 (by decide) ?_
  refine r_pI X B hf fX6_2 (Or.inl rfl) m_60 dX6_init_20 (fun h5 H locs B hf => ?_)
  refine r_aload_n hx hb dX6_init_23 rfl (lv_at hl 0 rfl) ?_
  refine lv_iconst (v := 0) hx hb dX6_init_24 (by decide) ?_
  refine r_pI X B hf fX6_3 (Or.inl rfl) m_61 dX6_init_25 (fun h6 H locs B hf => ?_)
  refine r_aload_n hx hb dX6_init_28 rfl (lv_at hl 0 rfl) ?_
  refine lv_iconst (v := 0) hx hb dX6_init_29 (by decide) ?_
  refine r_pI X B hf fX6_4 (Or.inl rfl) m_62 dX6_init_30 (fun h7 H locs B hf => ?_)
  refine r_aload_n hx hb dX6_init_33 rfl (lv_at hl 0 rfl) ?_
  refine lv_iconst (v := 0) hx hb dX6_init_34 (by decide) ?_
  refine r_pI X B hf fX6_5 (Or.inl rfl) m_63 dX6_init_35 (fun h8 H locs B hf => ?_)
  exact r_vret X B hr hk hf dX6_init_38
def f_X6_putByte_40 (h : AH)  : Option (Unit × AH) := some ((), h)
def f_X6_putByte (h : AH) (l0 : Nat) (l1 : Int32) : Option (Unit × AH) := gI h (some l0) 6 1 (fun v1 => if v1 < 0 then f_X6_putByte_40 h else gI h (some l0) 6 1 (fun v2 => gR h (some l0) 6 0 (fun v3 => aL (.byte) h v3 (fun v4 => if v4 ≤ v2 then f_X6_putByte_40 h else gR h (some l0) 6 0 (fun v5 => gI h (some l0) 6 1 (fun v6 => sI .byte h v5 v6 (Int8.toInt32 (Int32.toInt8 l1)) (fun h7 => gI h7 (some l0) 6 1 (fun v8 => pI h7 (some l0) 6 1 (v8 + 1) (fun h9 => f_X6_putByte_40 h9)))))))))
set_option maxRecDepth 100000 in
set_option maxHeartbeats 4000000 in
theorem t_X6_putByte_40 {p : Program} {l : Launch} {e : Env} {s : State} {m : MethodId} {args : Array Value} {below : List Frame} {meth : Method} {c : Code} {D : RG} {b : Nat} {vv : Unit} {hh : AH} (X : r_C p c cX6_putByte 2 s m args RX6 D b) (hr : meth.sig.returnType = none) (hk : meth.locks = false) (hn : meth.name = "putByte") {h : AH} {H : Heap} {locs : List Loc} {ls : Array Slot}  (B : r_B D b s h H locs) (hl : lv_has ls 2 []) (hf : f_X6_putByte_40 h  = some (vv, hh)) : W p l e ({ frames := 0, cells := 0, slots := 0, locals := 0 } : Room) s m args below meth c H locs 0 0 (MQ below (r_Q D b none hh) args s 0 0 (fun q => b ≤ q)) (F0 m 40 ls []) := by
  obtain ⟨⟨hx, hb, hml, hown, hts⟩, -⟩ := id X
  unfold f_X6_putByte_40 at hf
  exact r_vret X B hr hk hf dX6_putByte_40
set_option maxRecDepth 100000 in
set_option maxHeartbeats 4000000 in
theorem c_X6_putByte {l : Launch} {D : RG} {b : Nat} {h : AH} {l0 : Nat} {l1 : Int32} {vv : Unit} {hh : AH} (hf : f_X6_putByte h l0 l1 = some (vv, hh)) : Met l yX6_putByte (Cond.code yX6_putByte cX6_putByte 2 none :: wsL_law) ({ frames := 0, cells := 0, slots := 0, locals := 0 } : Room) (va_Pc [.ref l0, .int l1] (r_I D b h)) (r_Q D b none hh) 0 0 (fun q => b ≤ q) := by
  refine r_ofW (own := RX6) rfl (by decide +kernel) (by simp [lg_sl, va_cat, cat_i, cat_r, cat_l]) ?_
  intro p e s m args below meth c ls X B hr hk hn hl
  have hl : lv_has ls 2 [(0, .ref l0), (1, .int l1)] := by simpa [lv_args, va_cat, cat_i, cat_r, cat_l] using hl
  have hl : lv_has ls 2 [(0, va_rf (some l0)), (1, .int l1)] := hl
  obtain ⟨⟨hx, hb, hml, hown, hts⟩, -⟩ := id X
  generalize s.heap = H at B ⊢
  generalize ([] : List Loc) = locs at B ⊢
  unfold f_X6_putByte at hf
  refine r_aload_n hx hb dX6_putByte_0 rfl (lv_at hl 0 rfl) ?_
  refine r_gI X B hf fX6_1 (fun _ _ => rfl) m_59 dX6_putByte_1 (fun v1 hf => ?_)
  refine lv_if_lt (tgt := 40) hx hb dX6_putByte_4 (by decide) (fun q_ => ?_) (fun q_ => ?_)
  · have hf := (r_ite hf).1 q_
    exact t_X6_putByte_40 X hr hk hn  B (lv_sub hl [] rfl) hf
  · have hf := (r_ite hf).2 q_
    refine r_aload_n hx hb dX6_putByte_7 rfl (lv_at hl 0 rfl) ?_
    refine r_gI X B hf fX6_1 (fun _ _ => rfl) m_59 dX6_putByte_8 (fun v2 hf => ?_)
    refine r_aload_n hx hb dX6_putByte_11 rfl (lv_at hl 0 rfl) ?_
    refine r_gR X B hf fX6_0 (fun _ _ => rfl) m_58 dX6_putByte_12 (fun v3 hf => ?_)
    refine r_aL X B hf (by decide) dX6_putByte_15 (fun v4 hf => ?_)
    refine lv_icmp_ge (tgt := 40) hx hb dX6_putByte_16 (by decide) (fun q_ => ?_) (fun q_ => ?_)
    · have hf := (r_ite hf).1 q_
      exact t_X6_putByte_40 X hr hk hn  B (lv_sub hl [] rfl) hf
    · have hf := (r_ite hf).2 q_
      refine r_aload_n hx hb dX6_putByte_19 rfl (lv_at hl 0 rfl) ?_
      refine r_gR X B hf fX6_0 (fun _ _ => rfl) m_58 dX6_putByte_20 (fun v5 hf => ?_)
      refine r_aload_n hx hb dX6_putByte_23 rfl (lv_at hl 0 rfl) ?_
      refine r_gI X B hf fX6_1 (fun _ _ => rfl) m_59 dX6_putByte_24 (fun v6 hf => ?_)
      refine lv_iload_n hx hb dX6_putByte_27 rfl (lv_at hl 1 rfl) ?_
      refine lv_i2b hx hb dX6_putByte_28 rfl ?_
      refine r_sIb X B hf dX6_putByte_29 (fun h7 H locs B hf => ?_)
      refine r_aload_n hx hb dX6_putByte_30 rfl (lv_at hl 0 rfl) ?_
      refine lv_dup hx hb dX6_putByte_31 (va_cat _) ?_
      refine r_gI X B hf fX6_1 (fun _ _ => rfl) m_59 dX6_putByte_32 (fun v8 hf => ?_)
      refine lv_iconst (v := 1) hx hb dX6_putByte_35 (by decide) ?_
      refine lv_iadd hx hb dX6_putByte_36 ?_
      refine r_pI X B hf fX6_1 (Or.inl rfl) m_59 dX6_putByte_37 (fun h9 H locs B hf => ?_)
      exact t_X6_putByte_40 X hr hk hn  B (lv_sub hl [] rfl) hf
def f_X6_putFour (h : AH) (l0 : Nat) (l1 : Int32) : Option (Unit × AH) := rcv h (some l0) 6 (fun a4 => cal (f_X6_putByte h a4 (l1 >>> (24 &&& 31))) (fun v1 h2 => rcv h2 (some l0) 6 (fun a10 => cal (f_X6_putByte h2 a10 (l1 >>> (16 &&& 31))) (fun v7 h8 => rcv h8 (some l0) 6 (fun a16 => cal (f_X6_putByte h8 a16 (l1 >>> (8 &&& 31))) (fun v13 h14 => rcv h14 (some l0) 6 (fun a22 => cal (f_X6_putByte h14 a22 l1) (fun v19 h20 => some ((), h20)))))))))
set_option maxRecDepth 100000 in
set_option maxHeartbeats 4000000 in
theorem c_X6_putFour {l : Launch} {D : RG} {b : Nat} {h : AH} {l0 : Nat} {l1 : Int32} {vv : Unit} {hh : AH} (hf : f_X6_putFour h l0 l1 = some (vv, hh)) : Met l yX6_putFour (Cond.code yX6_putFour cX6_putFour 2 none :: wsL_law) ({ frames := 1, cells := 0, slots := 0, locals := 21 } : Room) (va_Pc [.ref l0, .int l1] (r_I D b h)) (r_Q D b none hh) 0 0 (fun q => b ≤ q) := by
  refine r_ofW (own := RX6) rfl (by decide +kernel) (by simp [lg_sl, va_cat, cat_i, cat_r, cat_l]) ?_
  intro p e s m args below meth c ls X B hr hk hn hl
  have hl : lv_has ls 2 [(0, .ref l0), (1, .int l1)] := by simpa [lv_args, va_cat, cat_i, cat_r, cat_l] using hl
  have hl : lv_has ls 2 [(0, va_rf (some l0)), (1, .int l1)] := hl
  obtain ⟨⟨hx, hb, hml, hown, hts⟩, -⟩ := id X
  generalize s.heap = H at B ⊢
  generalize ([] : List Loc) = locs at B ⊢
  unfold f_X6_putFour at hf
  refine r_aload_n hx hb dX6_putFour_0 rfl (lv_at hl 0 rfl) ?_
  refine lv_iload_n hx hb dX6_putFour_1 rfl (lv_at hl 1 rfl) ?_
  refine lv_bipush (v := 24) hx hb dX6_putFour_2 (by decide) ?_
  refine lv_ishr hx hb dX6_putFour_4 ?_
  refine rcv_inv hf ?_
  intro a4 e5 s6 hf
  refine cal_inv hf ?_
  intro v1 h2 e3 hf
  refine r_call B (va_runV (As := [.int (l1 >>> (24 &&& 31))]) (rest := []) X.1 (c_X6_putByte (l := l) (D := D) (b := b) e3) (r_cwV X rfl m_279 m_280 m_281 m_20 m_282 rfl rfl hd_X6_putByte ⟨Nat.le_of_ble_eq_true rfl, Nat.le_of_ble_eq_true rfl⟩) (r_preV X B s6 rfl [.int (l1 >>> (24 &&& 31))]) rfl rfl hl.1 (by rw [e5]; rfl) (lv_room (by simp [va_cat, cat_i, cat_r, cat_l])) dX6_putFour_5 ⟨Nat.zero_le _, Nat.zero_le _⟩) ?_
  intro H locs B
  refine W.cs (cells' := 0) (slots' := 0) rfl rfl (W.eq (g2 := F0 m 8 ls []) rfl ?_)
  refine r_aload_n hx hb dX6_putFour_8 rfl (lv_at hl 0 rfl) ?_
  refine lv_iload_n hx hb dX6_putFour_9 rfl (lv_at hl 1 rfl) ?_
  refine lv_bipush (v := 16) hx hb dX6_putFour_10 (by decide) ?_
  refine lv_ishr hx hb dX6_putFour_12 ?_
  refine rcv_inv hf ?_
  intro a10 e11 s12 hf
  refine cal_inv hf ?_
  intro v7 h8 e9 hf
  refine r_call B (va_runV (As := [.int (l1 >>> (16 &&& 31))]) (rest := []) X.1 (c_X6_putByte (l := l) (D := D) (b := b) e9) (r_cwV X rfl m_279 m_280 m_281 m_20 m_282 rfl rfl hd_X6_putByte ⟨Nat.le_of_ble_eq_true rfl, Nat.le_of_ble_eq_true rfl⟩) (r_preV X B s12 rfl [.int (l1 >>> (16 &&& 31))]) rfl rfl hl.1 (by rw [e11]; rfl) (lv_room (by simp [va_cat, cat_i, cat_r, cat_l])) dX6_putFour_13 ⟨Nat.zero_le _, Nat.zero_le _⟩) ?_
  intro H locs B
  refine W.cs (cells' := 0) (slots' := 0) rfl rfl (W.eq (g2 := F0 m 16 ls []) rfl ?_)
  refine r_aload_n hx hb dX6_putFour_16 rfl (lv_at hl 0 rfl) ?_
  refine lv_iload_n hx hb dX6_putFour_17 rfl (lv_at hl 1 rfl) ?_
  refine lv_bipush (v := 8) hx hb dX6_putFour_18 (by decide) ?_
  refine lv_ishr hx hb dX6_putFour_20 ?_
  refine rcv_inv hf ?_
  intro a16 e17 s18 hf
  refine cal_inv hf ?_
  intro v13 h14 e15 hf
  refine r_call B (va_runV (As := [.int (l1 >>> (8 &&& 31))]) (rest := []) X.1 (c_X6_putByte (l := l) (D := D) (b := b) e15) (r_cwV X rfl m_279 m_280 m_281 m_20 m_282 rfl rfl hd_X6_putByte ⟨Nat.le_of_ble_eq_true rfl, Nat.le_of_ble_eq_true rfl⟩) (r_preV X B s18 rfl [.int (l1 >>> (8 &&& 31))]) rfl rfl hl.1 (by rw [e17]; rfl) (lv_room (by simp [va_cat, cat_i, cat_r, cat_l])) dX6_putFour_21 ⟨Nat.zero_le _, Nat.zero_le _⟩) ?_
  intro H locs B
  refine W.cs (cells' := 0) (slots' := 0) rfl rfl (W.eq (g2 := F0 m 24 ls []) rfl ?_)
  refine r_aload_n hx hb dX6_putFour_24 rfl (lv_at hl 0 rfl) ?_
  refine lv_iload_n hx hb dX6_putFour_25 rfl (lv_at hl 1 rfl) ?_
  refine rcv_inv hf ?_
  intro a22 e23 s24 hf
  refine cal_inv hf ?_
  intro v19 h20 e21 hf
  refine r_call B (va_runV (As := [.int l1]) (rest := []) X.1 (c_X6_putByte (l := l) (D := D) (b := b) e21) (r_cwV X rfl m_279 m_280 m_281 m_20 m_282 rfl rfl hd_X6_putByte ⟨Nat.le_of_ble_eq_true rfl, Nat.le_of_ble_eq_true rfl⟩) (r_preV X B s24 rfl [.int l1]) rfl rfl hl.1 (by rw [e23]; rfl) (lv_room (by simp [va_cat, cat_i, cat_r, cat_l])) dX6_putFour_26 ⟨Nat.zero_le _, Nat.zero_le _⟩) ?_
  intro H locs B
  refine W.cs (cells' := 0) (slots' := 0) rfl rfl (W.eq (g2 := F0 m 29 ls []) rfl ?_)
  exact r_vret X B hr hk hf dX6_putFour_29
def f_X6_byteAt_23 (h : AH) (s0 : Int32) : Option (Int32 × AH) := some (s0, h)
def f_X6_byteAt_22 (h : AH)  : Option (Int32 × AH) := f_X6_byteAt_23 h 0
def f_X6_byteAt (h : AH) (l0 : Nat) (l1 : Int32) : Option (Int32 × AH) := if l1 < 0 then f_X6_byteAt_22 h else gR h (some l0) 6 0 (fun v1 => aL (.byte) h v1 (fun v2 => if v2 ≤ l1 then f_X6_byteAt_22 h else gR h (some l0) 6 0 (fun v3 => aI .byte h v3 l1 (fun v4 => f_X6_byteAt_23 h v4))))
set_option maxRecDepth 100000 in
set_option maxHeartbeats 4000000 in
theorem t_X6_byteAt_23 {p : Program} {l : Launch} {e : Env} {s : State} {m : MethodId} {args : Array Value} {below : List Frame} {meth : Method} {c : Code} {D : RG} {b : Nat} {vv : Int32} {hh : AH} (X : r_C p c cX6_byteAt 2 s m args RX6 D b) (hr : meth.sig.returnType = (some .int)) (hk : meth.locks = false) (hn : meth.name = "byteAt") {h : AH} {H : Heap} {locs : List Loc} {ls : Array Slot} {s0 : Int32} (B : r_B D b s h H locs) (hl : lv_has ls 2 []) (hf : f_X6_byteAt_23 h s0 = some (vv, hh)) : W p l e ({ frames := 0, cells := 0, slots := 0, locals := 0 } : Room) s m args below meth c H locs 0 0 (MQ below (r_Q D b (some (.int vv)) hh) args s 0 0 (fun q => b ≤ q)) (F0 m 23 ls [.int s0]) := by
  obtain ⟨⟨hx, hb, hml, hown, hts⟩, -⟩ := id X
  unfold f_X6_byteAt_23 at hf
  exact r_iret X B hr hk hf dX6_byteAt_23
set_option maxRecDepth 100000 in
set_option maxHeartbeats 4000000 in
theorem t_X6_byteAt_22 {p : Program} {l : Launch} {e : Env} {s : State} {m : MethodId} {args : Array Value} {below : List Frame} {meth : Method} {c : Code} {D : RG} {b : Nat} {vv : Int32} {hh : AH} (X : r_C p c cX6_byteAt 2 s m args RX6 D b) (hr : meth.sig.returnType = (some .int)) (hk : meth.locks = false) (hn : meth.name = "byteAt") {h : AH} {H : Heap} {locs : List Loc} {ls : Array Slot}  (B : r_B D b s h H locs) (hl : lv_has ls 2 []) (hf : f_X6_byteAt_22 h  = some (vv, hh)) : W p l e ({ frames := 0, cells := 0, slots := 0, locals := 0 } : Room) s m args below meth c H locs 0 0 (MQ below (r_Q D b (some (.int vv)) hh) args s 0 0 (fun q => b ≤ q)) (F0 m 22 ls []) := by
  obtain ⟨⟨hx, hb, hml, hown, hts⟩, -⟩ := id X
  unfold f_X6_byteAt_22 at hf
  refine lv_iconst (v := 0) hx hb dX6_byteAt_22 (by decide) ?_
  exact t_X6_byteAt_23 X hr hk hn  B (lv_sub hl [] rfl) hf
set_option maxRecDepth 100000 in
set_option maxHeartbeats 4000000 in
theorem c_X6_byteAt {l : Launch} {D : RG} {b : Nat} {h : AH} {l0 : Nat} {l1 : Int32} {vv : Int32} {hh : AH} (hf : f_X6_byteAt h l0 l1 = some (vv, hh)) : Met l yX6_byteAt (Cond.code yX6_byteAt cX6_byteAt 2 (some .int) :: wsL_law) ({ frames := 0, cells := 0, slots := 0, locals := 0 } : Room) (va_Pc [.ref l0, .int l1] (r_I D b h)) (r_Q D b (some (.int vv)) hh) 0 0 (fun q => b ≤ q) := by
  refine r_ofW (own := RX6) rfl (by decide +kernel) (by simp [lg_sl, va_cat, cat_i, cat_r, cat_l]) ?_
  intro p e s m args below meth c ls X B hr hk hn hl
  have hl : lv_has ls 2 [(0, .ref l0), (1, .int l1)] := by simpa [lv_args, va_cat, cat_i, cat_r, cat_l] using hl
  have hl : lv_has ls 2 [(0, va_rf (some l0)), (1, .int l1)] := hl
  obtain ⟨⟨hx, hb, hml, hown, hts⟩, -⟩ := id X
  generalize s.heap = H at B ⊢
  generalize ([] : List Loc) = locs at B ⊢
  unfold f_X6_byteAt at hf
  refine lv_iload_n hx hb dX6_byteAt_0 rfl (lv_at hl 1 rfl) ?_
  refine lv_if_lt (tgt := 22) hx hb dX6_byteAt_1 (by decide) (fun q_ => ?_) (fun q_ => ?_)
  · have hf := (r_ite hf).1 q_
    exact t_X6_byteAt_22 X hr hk hn  B (lv_sub hl [] rfl) hf
  · have hf := (r_ite hf).2 q_
    refine lv_iload_n hx hb dX6_byteAt_4 rfl (lv_at hl 1 rfl) ?_
    refine r_aload_n hx hb dX6_byteAt_5 rfl (lv_at hl 0 rfl) ?_
    refine r_gR X B hf fX6_0 (fun _ _ => rfl) m_58 dX6_byteAt_6 (fun v1 hf => ?_)
    refine r_aL X B hf (by decide) dX6_byteAt_9 (fun v2 hf => ?_)
    refine lv_icmp_ge (tgt := 22) hx hb dX6_byteAt_10 (by decide) (fun q_ => ?_) (fun q_ => ?_)
    · have hf := (r_ite hf).1 q_
      exact t_X6_byteAt_22 X hr hk hn  B (lv_sub hl [] rfl) hf
    · have hf := (r_ite hf).2 q_
      refine r_aload_n hx hb dX6_byteAt_13 rfl (lv_at hl 0 rfl) ?_
      refine r_gR X B hf fX6_0 (fun _ _ => rfl) m_58 dX6_byteAt_14 (fun v3 hf => ?_)
      refine lv_iload_n hx hb dX6_byteAt_17 rfl (lv_at hl 1 rfl) ?_
      refine r_aIb X B hf dX6_byteAt_18 (fun v4 hf => ?_)
      refine lv_goto (tgt := 23) hx hb dX6_byteAt_19 (by decide) ?_
      exact t_X6_byteAt_23 X hr hk hn  B (lv_sub hl [] rfl) hf
def f_X6_isBlank_17 (h : AH) (s0 : Int32) : Option (Int32 × AH) := rZ s0 h
def f_X6_isBlank_12 (h : AH)  : Option (Int32 × AH) := f_X6_isBlank_17 h 1
def f_X6_isBlank (h : AH) (l0 : Int32) : Option (Int32 × AH) := if l0 = 32 then f_X6_isBlank_12 h else if l0 = 10 then f_X6_isBlank_12 h else f_X6_isBlank_17 h 0
set_option maxRecDepth 100000 in
set_option maxHeartbeats 4000000 in
theorem t_X6_isBlank_17 {p : Program} {l : Launch} {e : Env} {s : State} {m : MethodId} {args : Array Value} {below : List Frame} {meth : Method} {c : Code} {D : RG} {b : Nat} {vv : Int32} {hh : AH} (X : r_C p c cX6_isBlank 1 s m args RX6 D b) (hr : meth.sig.returnType = (some .boolean)) (hk : meth.locks = false) (hn : meth.name = "isBlank") {h : AH} {H : Heap} {locs : List Loc} {ls : Array Slot} {s0 : Int32} (B : r_B D b s h H locs) (hl : lv_has ls 1 []) (hf : f_X6_isBlank_17 h s0 = some (vv, hh)) : W p l e ({ frames := 0, cells := 0, slots := 0, locals := 0 } : Room) s m args below meth c H locs 0 0 (MQ below (r_Q D b (some (.int vv)) hh) args s 0 0 (fun q => b ≤ q)) (F0 m 17 ls [.int s0]) := by
  obtain ⟨⟨hx, hb, hml, hown, hts⟩, -⟩ := id X
  unfold f_X6_isBlank_17 at hf
  exact r_zret X B hr hk hf dX6_isBlank_17
set_option maxRecDepth 100000 in
set_option maxHeartbeats 4000000 in
theorem t_X6_isBlank_12 {p : Program} {l : Launch} {e : Env} {s : State} {m : MethodId} {args : Array Value} {below : List Frame} {meth : Method} {c : Code} {D : RG} {b : Nat} {vv : Int32} {hh : AH} (X : r_C p c cX6_isBlank 1 s m args RX6 D b) (hr : meth.sig.returnType = (some .boolean)) (hk : meth.locks = false) (hn : meth.name = "isBlank") {h : AH} {H : Heap} {locs : List Loc} {ls : Array Slot}  (B : r_B D b s h H locs) (hl : lv_has ls 1 []) (hf : f_X6_isBlank_12 h  = some (vv, hh)) : W p l e ({ frames := 0, cells := 0, slots := 0, locals := 0 } : Room) s m args below meth c H locs 0 0 (MQ below (r_Q D b (some (.int vv)) hh) args s 0 0 (fun q => b ≤ q)) (F0 m 12 ls []) := by
  obtain ⟨⟨hx, hb, hml, hown, hts⟩, -⟩ := id X
  unfold f_X6_isBlank_12 at hf
  refine lv_iconst (v := 1) hx hb dX6_isBlank_12 (by decide) ?_
  refine lv_goto (tgt := 17) hx hb dX6_isBlank_13 (by decide) ?_
  exact t_X6_isBlank_17 X hr hk hn  B (lv_sub hl [] rfl) hf
set_option maxRecDepth 100000 in
set_option maxHeartbeats 4000000 in
theorem c_X6_isBlank {l : Launch} {D : RG} {b : Nat} {h : AH} {l0 : Int32} {vv : Int32} {hh : AH} (hf : f_X6_isBlank h l0 = some (vv, hh)) : Met l yX6_isBlank (Cond.code yX6_isBlank cX6_isBlank 1 (some .boolean) :: wsL_law) ({ frames := 0, cells := 0, slots := 0, locals := 0 } : Room) (va_Pc [.int l0] (r_I D b h)) (r_Q D b (some (.int vv)) hh) 0 0 (fun q => b ≤ q) := by
  refine r_ofW (own := RX6) rfl (by decide +kernel) (by simp [lg_sl, va_cat, cat_i, cat_r, cat_l]) ?_
  intro p e s m args below meth c ls X B hr hk hn hl
  have hl : lv_has ls 1 [(0, .int l0)] := by simpa [lv_args, va_cat, cat_i, cat_r, cat_l] using hl
  have hl : lv_has ls 1 [(0, .int l0)] := hl
  obtain ⟨⟨hx, hb, hml, hown, hts⟩, -⟩ := id X
  generalize s.heap = H at B ⊢
  generalize ([] : List Loc) = locs at B ⊢
  unfold f_X6_isBlank at hf
  refine lv_iload_n hx hb dX6_isBlank_0 rfl (lv_at hl 0 rfl) ?_
  refine lv_bipush (v := 32) hx hb dX6_isBlank_1 (by decide) ?_
  refine lv_icmp_eq (tgt := 12) hx hb dX6_isBlank_3 (by decide) (fun q_ => ?_) (fun q_ => ?_)
  · have hf := (r_ite hf).1 q_
    exact t_X6_isBlank_12 X hr hk hn  B (lv_sub hl [] rfl) hf
  · have hf := (r_ite hf).2 q_
    refine lv_iload_n hx hb dX6_isBlank_6 rfl (lv_at hl 0 rfl) ?_
    refine lv_bipush (v := 10) hx hb dX6_isBlank_7 (by decide) ?_
    refine lv_icmp_ne (tgt := 16) hx hb dX6_isBlank_9 (by decide) (fun q_ => ?_) (fun q_ => ?_)
    · have hf := (r_ite hf).2 q_
      refine lv_iconst (v := 0) hx hb dX6_isBlank_16 (by decide) ?_
      exact t_X6_isBlank_17 X hr hk hn  B (lv_sub hl [] rfl) hf
    · have hf := (r_ite hf).1 q_
      exact t_X6_isBlank_12 X hr hk hn  B (lv_sub hl [] rfl) hf
