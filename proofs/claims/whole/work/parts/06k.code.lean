def f_X8_breach_36 (h : AH) (s0 : Int32) : Option (Int32 × AH) := some (s0, h)
def f_X8_breach (h : AH) (l0 : Nat) (l1 : Int32) : Option (Int32 × AH) := if l1 = 0 then gI h (some l0) 8 28 (fun v3 => f_X8_breach_36 h v3) else if l1 = 1 then gI h (some l0) 8 29 (fun v2 => f_X8_breach_36 h v2) else if l1 = 2 then gI h (some l0) 8 30 (fun v1 => f_X8_breach_36 h v1) else f_X8_breach_36 h (-1)
set_option maxRecDepth 100000 in
set_option maxHeartbeats 4000000 in
theorem t_X8_breach_36 {p : Program} {l : Launch} {e : Env} {s : State} {m : MethodId} {args : Array Value} {below : List Frame} {meth : Method} {c : Code} {D : RG} {b : Nat} {vv : Int32} {hh : AH} (X : r_C p c cX8_breach 2 s m args RX8 D b) (hr : meth.sig.returnType = (some .int)) (hk : meth.locks = false) (hn : meth.name = "breach") {h : AH} {H : Heap} {locs : List Loc} {ls : Array Slot} {s0 : Int32} (B : r_B D b s h H locs) (hl : lv_has ls 2 []) (hf : f_X8_breach_36 h s0 = some (vv, hh)) : W p l e ({ frames := 0, cells := 0, slots := 0, locals := 0 } : Room) s m args below meth c H locs 0 0 (MQ below (r_Q D b (some (.int vv)) hh) args s 0 0 (fun q => b ≤ q)) (F0 m 36 ls [.int s0]) := by
  obtain ⟨⟨hx, hb, hml, hown, hts⟩, -⟩ := id X
  unfold f_X8_breach_36 at hf
  exact r_iret X B hr hk hf dX8_breach_36
set_option maxRecDepth 100000 in
set_option maxHeartbeats 4000000 in
theorem c_X8_breach {l : Launch} {D : RG} {b : Nat} {h : AH} {l0 : Nat} {l1 : Int32} {vv : Int32} {hh : AH} (hf : f_X8_breach h l0 l1 = some (vv, hh)) : Met l yX8_breach (Cond.code yX8_breach cX8_breach 2 (some .int) :: wsL_law) ({ frames := 0, cells := 0, slots := 0, locals := 0 } : Room) (va_Pc [.ref l0, .int l1] (r_I D b h)) (r_Q D b (some (.int vv)) hh) 0 0 (fun q => b ≤ q) := by
  refine r_ofW (own := RX8) rfl (by decide +kernel) (by simp [lg_sl, va_cat, cat_i, cat_r, cat_l]) ?_
  intro p e s m args below meth c ls X B hr hk hn hl
  have hl : lv_has ls 2 [(0, .ref l0), (1, .int l1)] := by simpa [lv_args, va_cat, cat_i, cat_r, cat_l] using hl
  have hl : lv_has ls 2 [(0, va_rf (some l0)), (1, .int l1)] := hl
  obtain ⟨⟨hx, hb, hml, hown, hts⟩, -⟩ := id X
  generalize s.heap = H at B ⊢
  generalize ([] : List Loc) = locs at B ⊢
  unfold f_X8_breach at hf
  refine lv_iload_n hx hb dX8_breach_0 rfl (lv_at hl 1 rfl) ?_
  refine lv_if_ne (tgt := 11) hx hb dX8_breach_1 (by decide) (fun q_ => ?_) (fun q_ => ?_)
  · have hf := (r_ite hf).2 q_
    refine lv_iload_n hx hb dX8_breach_11 rfl (lv_at hl 1 rfl) ?_
    refine lv_iconst (v := 1) hx hb dX8_breach_12 (by decide) ?_
    refine lv_icmp_ne (tgt := 23) hx hb dX8_breach_13 (by decide) (fun q_ => ?_) (fun q_ => ?_)
    · have hf := (r_ite hf).2 q_
      refine lv_iload_n hx hb dX8_breach_23 rfl (lv_at hl 1 rfl) ?_
      refine lv_iconst (v := 2) hx hb dX8_breach_24 (by decide) ?_
      refine lv_icmp_ne (tgt := 35) hx hb dX8_breach_25 (by decide) (fun q_ => ?_) (fun q_ => ?_)
      · have hf := (r_ite hf).2 q_
        refine lv_iconst (v := (-1)) hx hb dX8_breach_35 (by decide) ?_
        exact t_X8_breach_36 X hr hk hn  B (lv_sub hl [] rfl) hf
      · have hf := (r_ite hf).1 q_
        refine r_aload_n hx hb dX8_breach_28 rfl (lv_at hl 0 rfl) ?_
        refine r_gI X B hf fX8_30 (fun _ _ => rfl) m_141 dX8_breach_29 (fun v1 hf => ?_)
        refine lv_goto (tgt := 36) hx hb dX8_breach_32 (by decide) ?_
        exact t_X8_breach_36 X hr hk hn  B (lv_sub hl [] rfl) hf
    · have hf := (r_ite hf).1 q_
      refine r_aload_n hx hb dX8_breach_16 rfl (lv_at hl 0 rfl) ?_
      refine r_gI X B hf fX8_29 (fun _ _ => rfl) m_140 dX8_breach_17 (fun v2 hf => ?_)
      refine lv_goto (tgt := 36) hx hb dX8_breach_20 (by decide) ?_
      exact t_X8_breach_36 X hr hk hn  B (lv_sub hl [] rfl) hf
  · have hf := (r_ite hf).1 q_
    refine r_aload_n hx hb dX8_breach_4 rfl (lv_at hl 0 rfl) ?_
    refine r_gI X B hf fX8_28 (fun _ _ => rfl) m_139 dX8_breach_5 (fun v3 hf => ?_)
    refine lv_goto (tgt := 36) hx hb dX8_breach_8 (by decide) ?_
    exact t_X8_breach_36 X hr hk hn  B (lv_sub hl [] rfl) hf
def f_X8_count_75 : Nat → AH → Nat → Int32 → Int32 → Option (Int32 × AH)
  | 0, _, _, _, _ => none
  | n + 1, h, l0, l2, l3 => gI h (some l0) 8 0 (fun v1 => if v1 ≤ l3 then some (l2, h) else gR h (some l0) 8 7 (fun v2 => aI .int h v2 l3 (fun v3 => bd (l2 + v3) (fun v4 => bd (l3 + 1) (fun v5 => f_X8_count_75 n h l0 v4 v5)))))
def f_X8_count (h : AH) (l0 : Nat) (l1 : Int32) : Option (Int32 × AH) := if l1 = 0 then gI h (some l0) 8 1 (fun v6 => some (v6, h)) else if l1 = 1 then gI h (some l0) 8 0 (fun v7 => some (v7, h)) else if l1 = 2 then gI h (some l0) 8 3 (fun v8 => some (v8, h)) else if l1 = 3 then f_X8_count_75 FU h l0 0 0 else if l1 = 4 then gI h (some l0) 8 23 (fun v9 => some (v9, h)) else if l1 = 5 then gI h (some l0) 8 24 (fun v10 => some (v10, h)) else if l1 = 6 then gI h (some l0) 8 25 (fun v11 => some (v11, h)) else if l1 = 7 then gI h (some l0) 8 26 (fun v12 => some (v12, h)) else if l1 = 8 then gI h (some l0) 8 33 (fun v13 => some (v13, h)) else if l1 = 9 then gI h (some l0) 8 27 (fun v14 => some (v14, h)) else some ((-1), h)
set_option maxRecDepth 100000 in
set_option maxHeartbeats 4000000 in
theorem t_X8_count_75 {p : Program} {l : Launch} {e : Env} {s : State} {m : MethodId} {args : Array Value} {below : List Frame} {meth : Method} {c : Code} {D : RG} {b : Nat} {vv : Int32} {hh : AH} (X : r_C p c cX8_count 4 s m args RX8 D b) (hr : meth.sig.returnType = (some .int)) (hk : meth.locks = false) (hn : meth.name = "count") : ∀ (n : Nat) (h : AH) (H : Heap) (locs : List Loc) (ls : Array Slot) (l0 : Nat) (l2 : Int32) (l3 : Int32), r_B D b s h H locs → lv_has ls 4 [(0, va_rf (some l0)), (2, .int l2), (3, .int l3)] → f_X8_count_75 n h l0 l2 l3 = some (vv, hh) → W p l e ({ frames := 0, cells := 0, slots := 0, locals := 0 } : Room) s m args below meth c H locs 0 0 (MQ below (r_Q D b (some (.int vv)) hh) args s 0 0 (fun q => b ≤ q)) (F0 m 75 ls []) := by
  obtain ⟨⟨hx, hb, hml, hown, hts⟩, -⟩ := id X
  intro n
  induction n with
  | zero =>
    intro h H locs ls l0 l2 l3 B hl hf
    cases hf
  | succ n ih =>
    intro h H locs ls l0 l2 l3 B hl hf
    unfold f_X8_count_75 at hf
    refine lv_iload_n hx hb dX8_count_75 rfl (lv_at hl 2 rfl) ?_
    refine r_aload_n hx hb dX8_count_76 rfl (lv_at hl 0 rfl) ?_
    refine r_gI X B hf fX8_0 (fun _ _ => rfl) m_154 dX8_count_77 (fun v1 hf => ?_)
    refine lv_icmp_ge (tgt := 98) hx hb dX8_count_80 (by decide) (fun q_ => ?_) (fun q_ => ?_)
    · have hf := (r_ite hf).1 q_
      refine lv_iload_n hx hb dX8_count_98 rfl (lv_at hl 1 rfl) ?_
      exact r_iret X B hr hk hf dX8_count_99
    · have hf := (r_ite hf).2 q_
      refine lv_iload_n hx hb dX8_count_83 rfl (lv_at hl 1 rfl) ?_
      refine r_aload_n hx hb dX8_count_84 rfl (lv_at hl 0 rfl) ?_
      refine r_gR X B hf fX8_7 (fun _ _ => rfl) m_122 dX8_count_85 (fun v2 hf => ?_)
      refine lv_iload_n hx hb dX8_count_88 rfl (lv_at hl 2 rfl) ?_
      refine r_aIi X B hf dX8_count_89 (fun v3 hf => ?_)
      refine lv_iadd hx hb dX8_count_90 ?_
      refine r_bd hf (fun v4 hf => ?_)
      refine lv_istore_n (i := 2) (lv' := [(2, .int v4), (0, va_rf (some l0)), (3, .int l3)]) hx hb dX8_count_91 rfl hl (by decide) (by first | rfl | simp [va_cat, cat_i, cat_r, cat_l]) (fun ls hl => ?_)
      refine r_iinc (lv' := fun v5 => [(3, .int v5), (2, .int v4), (0, va_rf (some l0))]) hx hb hf dX8_count_92 hl (k := 2) rfl (by decide) (by decide) (fun v => by first | rfl | simp [va_cat, cat_i, cat_r, cat_l]) (fun v5 ls hl hf => ?_)
      refine lv_goto (tgt := 75) hx hb dX8_count_95 (by decide) ?_
      exact ih _ _ _ _ _ _ _ B (lv_sub hl [2, 1, 0] rfl) hf
set_option maxRecDepth 100000 in
set_option maxHeartbeats 4000000 in
theorem c_X8_count {l : Launch} {D : RG} {b : Nat} {h : AH} {l0 : Nat} {l1 : Int32} {vv : Int32} {hh : AH} (hf : f_X8_count h l0 l1 = some (vv, hh)) : Met l yX8_count (Cond.code yX8_count cX8_count 4 (some .int) :: wsL_law) ({ frames := 0, cells := 0, slots := 0, locals := 0 } : Room) (va_Pc [.ref l0, .int l1] (r_I D b h)) (r_Q D b (some (.int vv)) hh) 0 0 (fun q => b ≤ q) := by
  refine r_ofW (own := RX8) rfl (by decide +kernel) (by simp [lg_sl, va_cat, cat_i, cat_r, cat_l]) ?_
  intro p e s m args below meth c ls X B hr hk hn hl
  have hl : lv_has ls 4 [(0, .ref l0), (1, .int l1)] := by simpa [lv_args, va_cat, cat_i, cat_r, cat_l] using hl
  have hl : lv_has ls 4 [(0, va_rf (some l0)), (1, .int l1)] := hl
  obtain ⟨⟨hx, hb, hml, hown, hts⟩, -⟩ := id X
  generalize s.heap = H at B ⊢
  generalize ([] : List Loc) = locs at B ⊢
  unfold f_X8_count at hf
  refine lv_iload_n hx hb dX8_count_0 rfl (lv_at hl 1 rfl) ?_
  by_cases q_0 : l1 = 0
  · have hf := (r_ite hf).1 q_0
    refine lv_tableIn (off := 55) (tgt := 56) hx hb dX8_count_1 (by rw [q_0]; decide) (by rw [q_0]; decide) (by rw [q_0]; rfl) (by decide) ?_
    refine r_aload_n hx hb dX8_count_56 rfl (lv_at hl 0 rfl) ?_
    refine r_gI X B hf fX8_1 (fun _ _ => rfl) m_173 dX8_count_57 (fun v6 hf => ?_)
    exact r_iret X B hr hk hf dX8_count_60
  · have hf := (r_ite hf).2 q_0
    by_cases q_1 : l1 = 1
    · have hf := (r_ite hf).1 q_1
      refine lv_tableIn (off := 60) (tgt := 61) hx hb dX8_count_1 (by rw [q_1]; decide) (by rw [q_1]; decide) (by rw [q_1]; rfl) (by decide) ?_
      refine r_aload_n hx hb dX8_count_61 rfl (lv_at hl 0 rfl) ?_
      refine r_gI X B hf fX8_0 (fun _ _ => rfl) m_154 dX8_count_62 (fun v7 hf => ?_)
      exact r_iret X B hr hk hf dX8_count_65
    · have hf := (r_ite hf).2 q_1
      by_cases q_2 : l1 = 2
      · have hf := (r_ite hf).1 q_2
        refine lv_tableIn (off := 65) (tgt := 66) hx hb dX8_count_1 (by rw [q_2]; decide) (by rw [q_2]; decide) (by rw [q_2]; rfl) (by decide) ?_
        refine r_aload_n hx hb dX8_count_66 rfl (lv_at hl 0 rfl) ?_
        refine r_gI X B hf fX8_3 (fun _ _ => rfl) m_243 dX8_count_67 (fun v8 hf => ?_)
        exact r_iret X B hr hk hf dX8_count_70
      · have hf := (r_ite hf).2 q_2
        by_cases q_3 : l1 = 3
        · have hf := (r_ite hf).1 q_3
          refine lv_tableIn (off := 70) (tgt := 71) hx hb dX8_count_1 (by rw [q_3]; decide) (by rw [q_3]; decide) (by rw [q_3]; rfl) (by decide) ?_
          refine lv_iconst (v := 0) hx hb dX8_count_71 (by decide) ?_
          refine lv_istore_n (i := 2) (lv' := [(2, .int 0), (0, va_rf (some l0)), (1, .int l1)]) hx hb dX8_count_72 rfl hl (by decide) (by first | rfl | simp [va_cat, cat_i, cat_r, cat_l]) (fun ls hl => ?_)
          refine lv_iconst (v := 0) hx hb dX8_count_73 (by decide) ?_
          refine lv_istore_n (i := 3) (lv' := [(3, .int 0), (2, .int 0), (0, va_rf (some l0)), (1, .int l1)]) hx hb dX8_count_74 rfl hl (by decide) (by first | rfl | simp [va_cat, cat_i, cat_r, cat_l]) (fun ls hl => ?_)
          exact t_X8_count_75 X hr hk hn  _ _ _ _ _ _ _ _ B (lv_sub hl [2, 1, 0] rfl) hf
        · have hf := (r_ite hf).2 q_3
          by_cases q_4 : l1 = 4
          · have hf := (r_ite hf).1 q_4
            refine lv_tableIn (off := 99) (tgt := 100) hx hb dX8_count_1 (by rw [q_4]; decide) (by rw [q_4]; decide) (by rw [q_4]; rfl) (by decide) ?_
            refine r_aload_n hx hb dX8_count_100 rfl (lv_at hl 0 rfl) ?_
            refine r_gI X B hf fX8_23 (fun _ _ => rfl) m_569 dX8_count_101 (fun v9 hf => ?_)
            exact r_iret X B hr hk hf dX8_count_104
          · have hf := (r_ite hf).2 q_4
            by_cases q_5 : l1 = 5
            · have hf := (r_ite hf).1 q_5
              refine lv_tableIn (off := 104) (tgt := 105) hx hb dX8_count_1 (by rw [q_5]; decide) (by rw [q_5]; decide) (by rw [q_5]; rfl) (by decide) ?_
              refine r_aload_n hx hb dX8_count_105 rfl (lv_at hl 0 rfl) ?_
              refine r_gI X B hf fX8_24 (fun _ _ => rfl) m_566 dX8_count_106 (fun v10 hf => ?_)
              exact r_iret X B hr hk hf dX8_count_109
            · have hf := (r_ite hf).2 q_5
              by_cases q_6 : l1 = 6
              · have hf := (r_ite hf).1 q_6
                refine lv_tableIn (off := 109) (tgt := 110) hx hb dX8_count_1 (by rw [q_6]; decide) (by rw [q_6]; decide) (by rw [q_6]; rfl) (by decide) ?_
                refine r_aload_n hx hb dX8_count_110 rfl (lv_at hl 0 rfl) ?_
                refine r_gI X B hf fX8_25 (fun _ _ => rfl) m_567 dX8_count_111 (fun v11 hf => ?_)
                exact r_iret X B hr hk hf dX8_count_114
              · have hf := (r_ite hf).2 q_6
                by_cases q_7 : l1 = 7
                · have hf := (r_ite hf).1 q_7
                  refine lv_tableIn (off := 114) (tgt := 115) hx hb dX8_count_1 (by rw [q_7]; decide) (by rw [q_7]; decide) (by rw [q_7]; rfl) (by decide) ?_
                  refine r_aload_n hx hb dX8_count_115 rfl (lv_at hl 0 rfl) ?_
                  refine r_gI X B hf fX8_26 (fun _ _ => rfl) m_568 dX8_count_116 (fun v12 hf => ?_)
                  exact r_iret X B hr hk hf dX8_count_119
                · have hf := (r_ite hf).2 q_7
                  by_cases q_8 : l1 = 8
                  · have hf := (r_ite hf).1 q_8
                    refine lv_tableIn (off := 119) (tgt := 120) hx hb dX8_count_1 (by rw [q_8]; decide) (by rw [q_8]; decide) (by rw [q_8]; rfl) (by decide) ?_
                    refine r_aload_n hx hb dX8_count_120 rfl (lv_at hl 0 rfl) ?_
                    refine r_gI X B hf fX8_33 (fun _ _ => rfl) m_287 dX8_count_121 (fun v13 hf => ?_)
                    exact r_iret X B hr hk hf dX8_count_124
                  · have hf := (r_ite hf).2 q_8
                    by_cases q_9 : l1 = 9
                    · have hf := (r_ite hf).1 q_9
                      refine lv_tableIn (off := 124) (tgt := 125) hx hb dX8_count_1 (by rw [q_9]; decide) (by rw [q_9]; decide) (by rw [q_9]; rfl) (by decide) ?_
                      refine r_aload_n hx hb dX8_count_125 rfl (lv_at hl 0 rfl) ?_
                      refine r_gI X B hf fX8_27 (fun _ _ => rfl) m_196 dX8_count_126 (fun v14 hf => ?_)
                      exact r_iret X B hr hk hf dX8_count_129
                    · have hf := (r_ite hf).2 q_9
                      have w_0 := lv_neT (a := 0) q_0 (by decide)
                      have w_1 := lv_neT (a := 1) q_1 (by decide)
                      have w_2 := lv_neT (a := 2) q_2 (by decide)
                      have w_3 := lv_neT (a := 3) q_3 (by decide)
                      have w_4 := lv_neT (a := 4) q_4 (by decide)
                      have w_5 := lv_neT (a := 5) q_5 (by decide)
                      have w_6 := lv_neT (a := 6) q_6 (by decide)
                      have w_7 := lv_neT (a := 7) q_7 (by decide)
                      have w_8 := lv_neT (a := 8) q_8 (by decide)
                      have w_9 := lv_neT (a := 9) q_9 (by decide)
                      refine lv_tableOut (tgt := 130) hx hb dX8_count_1 (by omega) (by decide) ?_
                      refine lv_iconst (v := (-1)) hx hb dX8_count_130 (by decide) ?_
                      exact r_iret X B hr hk hf dX8_count_131
