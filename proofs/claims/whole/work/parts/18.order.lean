/-! ===== cells that no call reads before it writes them ===== -/
def sc (z n a k : Nat) : Prop := (z + 10 ≤ a ∧ a < z + 10 + 3 * n ∧ (a - (z + 10)) % 3 = 2) ∨ a = z + 11 + 3 * n ∨ (a = z + 10 + 3 * n ∧ k = 3) ∨ a = z + 33 + 3 * n ∨ (a = z + 34 + 3 * n ∧ 14 ≤ k) ∨ (z + 35 + 3 * n ≤ a ∧ a ≤ z + 40 + 3 * n) ∨ (a = z + 12 + 3 * n ∧ (k = 34 ∨ k = 35 ∨ k = 39 ∨ k = 40)) ∨ (z + 41 + 3 * n ≤ a ∧ (k = 7 ∨ k = 8)) ∨ a = z + 6 ∨ a = z + 7 ∨ (a = z + 2 ∧ k ≠ 1)
def Scr (z n : Nat) (h h' : AH) : Prop := h'.1 = h.1 ∧ h'.2.1 = h.2.1 ∧ h'.2.2.2 = h.2.2.2 ∧ ∀ a k, ¬ sc z n a k → h'.2.2.1 a k = h.2.2.1 a k
theorem Scr.rf {z n : Nat} {h : AH} : Scr z n h h := ⟨rfl, rfl, rfl, fun _ _ _ => rfl⟩
theorem Scr.tr {z n : Nat} {h h1 h2 : AH} (p : Scr z n h h1) (q : Scr z n h1 h2) : Scr z n h h2 := ⟨q.1.trans p.1, q.2.1.trans p.2.1, q.2.2.1.trans p.2.2.1, fun a k s => (q.2.2.2 a k s).trans (p.2.2.2 a k s)⟩
theorem Scr.set {z n a k : Nat} {x : Int32} {h h1 : AH} (p : Scr z n h h1) (hs : sc z n a k) : Scr z n h (setI h1 a k x) := ⟨p.1, p.2.1, p.2.2.1, fun a' k' s => by
  rw [sI_u, u2n]
  · exact p.2.2.2 a' k' s
  · by_cases e : a' = a
    · right; rintro rfl; subst e; exact s hs
    · exact Or.inl e⟩
theorem Scr.only {z n a : Nat} {h h1 : AH} (o : Only a h h1) (hs : ∀ k, sc z n a k) : Scr z n h h1 := ⟨o.1, o.2.1, o.2.2.1, fun a' k' s => by
  rw [o.2.2.2 a' (fun e => s (by rw [e]; exact hs k'))]⟩
section SCR
variable {z n nf dN hN : Nat} {h h' : AH}
theorem Scr.row (p : Scr z n h h') {a : Nat} (hs : ∀ k, ¬ sc z n a k) : h'.2.2.1 a = h.2.2.1 a := funext (fun k => p.2.2.2 a k (hs k))
theorem Scr.T (p : Scr z n h h') {i : Nat} (hi : i < n) : h'.2.2.1 (aT z n i) = h.2.2.1 (aT z n i) := p.row (fun k => by unfold sc aT; omega)
theorem Scr.N (p : Scr z n h h') {i : Nat} (hi : i < n) : h'.2.2.1 (aN z n i) = h.2.2.1 (aN z n i) := p.row (fun k => by unfold sc aN; omega)
theorem Scr.J (p : Scr z n h h') (j : Nat) (hj : j < 20) : h'.2.2.1 (aJ z n j) = h.2.2.1 (aJ z n j) := p.row (fun k => by unfold sc aJ; omega)
theorem Scr.J21 (p : Scr z n h h') {k : Nat} (hk : k < 14) : h'.2.2.1 (aJ z n 21) k = h.2.2.1 (aJ z n 21) k := p.2.2.2 _ _ (by unfold sc aJ; omega)
theorem Scr.F (p : Scr z n h h') {f k : Nat} (hk : k ≠ 7) (hk2 : k ≠ 8) : h'.2.2.1 (aF z n f) k = h.2.2.1 (aF z n f) k := p.2.2.2 _ _ (by unfold sc aF; omega)
theorem Scr.M (p : Scr z n h h') {k : Nat} (hk : k ≠ 34 ∧ k ≠ 35 ∧ k ≠ 39 ∧ k ≠ 40) : h'.2.2.1 (aM z n) k = h.2.2.1 (aM z n) k := p.2.2.2 _ _ (by unfold sc aM; omega)
theorem Scr.Zr (p : Scr z n h h') {d : Nat} (hd : d = 0 ∨ d = 3 ∨ d = 4 ∨ d = 5 ∨ d = 8) : h'.2.2.1 (z + d) = h.2.2.1 (z + d) := p.row (fun k => by unfold sc; omega)
theorem Scr.tp (p : Scr z n h h') : h'.2.2.1 (z + 2) 1 = h.2.2.1 (z + 2) 1 := p.2.2.2 _ _ (by unfold sc; omega)
theorem WS_scr (W : WS z n nf h) (p : Scr z n h h') : WS z n nf h' := by
  unfold WS
  rw [p.1, p.2.1]
  exact W
theorem WR_scr (V : WR z n nf h) (p : Scr z n h h') : WR z n nf h' := by
  unfold WR
  rw [p.2.2.1]
  exact V
theorem Cpl_scr (C : Cpl z n nf dN hN h) (p : Scr z n h h') : Cpl z n nf dN hN h' := by
  obtain ⟨b, W, V, ct, cf, cx, cp, cc, co, ch⟩ := C
  refine ⟨b, WS_scr W p, WR_scr V p, ?_, ?_, ?_, ?_, ?_, ?_, ?_⟩
  · intro i hi
    rw [p.T hi, p.N hi, p.J 0 (by omega), p.J 1 (by omega), p.J 2 (by omega), p.J 3 (by omega), p.J 4 (by omega), p.J 5 (by omega), p.J 6 (by omega), p.J 7 (by omega), p.J 8 (by omega), p.J 9 (by omega)]
    exact ct i hi
  · intro f hf
    simp only [p.F (f := f) (show 0 ≠ 7 by omega) (show 0 ≠ 8 by omega), p.F (f := f) (show 1 ≠ 7 by omega) (show 1 ≠ 8 by omega), p.F (f := f) (show 2 ≠ 7 by omega) (show 2 ≠ 8 by omega), p.F (f := f) (show 3 ≠ 7 by omega) (show 3 ≠ 8 by omega), p.F (f := f) (show 4 ≠ 7 by omega) (show 4 ≠ 8 by omega), p.F (f := f) (show 5 ≠ 7 by omega) (show 5 ≠ 8 by omega), p.F (f := f) (show 9 ≠ 7 by omega) (show 9 ≠ 8 by omega), p.F (f := f) (show 10 ≠ 7 by omega) (show 10 ≠ 8 by omega), p.F (f := f) (show 11 ≠ 7 by omega) (show 11 ≠ 8 by omega), p.J 10 (by omega), p.J 11 (by omega), p.J 12 (by omega), p.J 13 (by omega), p.J 14 (by omega), p.J 15 (by omega), p.J 16 (by omega), p.J 17 (by omega)]
    exact cf f hf
  · unfold CX
    rw [show h'.2.2.1 z = h.2.2.1 z from p.Zr (d := 0) (by omega), p.Zr (d := 8) (by omega), p.tp, p.M (k := 0) (by omega), p.M (k := 1) (by omega), p.M (k := 2) (by omega), p.M (k := 3) (by omega), p.M (k := 23) (by omega), p.M (k := 24) (by omega), p.M (k := 25) (by omega), p.M (k := 26) (by omega), p.M (k := 27) (by omega), p.M (k := 28) (by omega), p.M (k := 29) (by omega), p.M (k := 30) (by omega), p.M (k := 33) (by omega), p.M (k := 36) (by omega)]
    exact cx
  · unfold CP
    rw [p.Zr (d := 3) (by omega), p.J 19 (by omega)]
    exact cp
  · obtain ⟨k, hk, e1, e4, q⟩ := cc
    refine ⟨k, hk, ?_⟩
    rw [p.Zr (d := 4) (by omega), p.Zr (d := 5) (by omega), p.M (k := 38) (by omega), p.J21 (k := 0) (by omega), p.J21 (k := 11) (by omega), p.J21 (k := 12) (by omega), p.J21 (k := 13) (by omega)]
    refine ⟨e1, e4, ?_⟩
    rcases q with q | ⟨q1, q2, q3, q4, q5, q6⟩
    · exact Or.inl q
    · refine Or.inr ⟨q1, q2, q3, q4, q5, fun j hj => ?_⟩
      rw [p.J21 (k := j + 1) (by omega)]
      exact q6 j hj
  · unfold CO
    rw [p.J 18 (by omega), p.J 13 (by omega), p.J 12 (by omega), p.J 14 (by omega), p.J 15 (by omega), p.J 16 (by omega)]
    exact co
  · intro i hi
    rw [ordl_congr (p.J 10 (by omega)) (p.J 11 (by omega)) (p.J 12 (by omega)) (p.J 17 (by omega)) (by rw [p.Zr (d := 4) (by omega)]) (p.Zr (d := 5) (by omega)), p.2.2.1]
    exact ch i hi
theorem AF_of (C : Cpl z n nf dN hN h) : AF z n nf h := by
  obtain ⟨b, W, V, ct, cf, cx, cp, cc, co, ch⟩ := C
  obtain ⟨k, hk, e1, e0, -, -, -, -, ej⟩ := CC_use cc
  exact ⟨W, V, b.2.2.1, cx.2.2.2.2.2.2.2.2.2.2.1, ⟨k, hk, e1, e0, ej⟩, fun f hf => MD_of cf hf⟩
theorem ordl_mem {i x : Nat} {I : Nat → Nat → Int32} : x ∈ ordl z n nf I i ↔ x < nf ∧ I (aJ z n 10) x = nI i := ordp_mem nf x
/-! ===== order ===== -/
theorem l_order7 (W : WS z n nf h) (k : Nat) (hk : k < 2 ^ 31) (cf : ∀ f, f < nf → h.2.2.1 (aF z n f) 0 = nI f) : ∀ (l : List Nat) (r : Option Nat) (j m : Nat), Chn z n h.2.2.2 r l → (∀ x ∈ l, x < nf) → l.length < m → j ≤ k → f_X7_order_25 m h (nI k) (nI j) r = some ((l[k - j]?.map nI).getD (-1), h) := by
  intro l
  induction l with
  | nil =>
    intro r j m hc _ hm _
    obtain ⟨m, rfl⟩ : ∃ m', m = m' + 1 := ⟨m - 1, by simp at hm; omega⟩
    unfold f_X7_order_25
    rw [show r = none from hc]
    rfl
  | cons f l ih =>
    intro r j m hc hl hm hj
    obtain ⟨m, rfl⟩ : ∃ m', m = m' + 1 := ⟨m - 1, by simp at hm; omega⟩
    unfold f_X7_order_25
    have hf := hl f List.mem_cons_self
    have sF := W_F W hf
    rw [hc.1, ev_nulS]
    by_cases e : j = k
    · subst e
      rw [if_pos rfl, ev_gI sF, cf f hf]
      simp
    · rw [if_neg (fun q => e (nI_inj (by omega) hk q)), ev_bd, nI_1, ev_gR sF, ih _ (j + 1) m hc.2 (fun x hx => hl x (List.mem_cons_of_mem _ hx)) (by simp at hm; omega) (by omega)]
      rw [show k - j = (k - (j + 1)) + 1 by omega, List.getElem?_cons_succ]
theorem o_order (C : Cpl z n nf dN hN h) (t u : Int32) : ∃ r h1 h2, f_X7_order h z t u = some (r, h1) ∧ f_X8_order h1 (aM z n) t u = some (r, h2) ∧ Cpl z n nf dN hN h2 := by
  obtain ⟨b, W, V, ct, K, KX', cx⟩ := o_start C
  obtain ⟨b1, b2, b3, b4, b5⟩ := id b
  have hm := hM0 cx
  have s0 := W_z W
  have sM := W_M W
  unfold f_X7_order f_X7_order_14 f_X8_order f_X8_order_37
  by_cases ht : isT n t
  · obtain ⟨i, hi, rfl⟩ := isT_nI ht (by omega)
    have sT := W_T W hi
    obtain ⟨h2, e8, o, r8⟩ := v_ordered (AF_of C) i
    have hlen : (ordl z n nf h.2.2.1 i).length ≤ 40 := by
      have := ordp_len (z := z) (n := n) (i := i) (I := h.2.2.1) nf
      rw [ordp_nf] at this
      omega
    have p : Scr z n h h2 := Scr.only o (fun k => by unfold sc aJ; omega)
    have W2 := WS_scr W p
    have V2 := WR_scr V p
    have s2 := W_M W2
    have s22 := W_J22 W2
    by_cases hu : u < 0
    · refine ⟨-1, h, h2, ?_, ?_, Cpl_scr C p⟩
      · rw [ev_rcv s0, k_tankIn W V b2 hi, ev_nulS, if_neg (fun q => by rw [Int32.le_iff_toInt_le] at q; rw [Int32.lt_iff_toInt_lt] at hu; omega)]
      · rw [ev_rcv sM, k_isTankIn W hm b2 b1 hi, if_neg one_ne, ev_rcv sM, cal_eq e8, k_isIn, wi, if_pos hu, if_pos rfl]
    · obtain ⟨k, hk, rfl⟩ := nI_of hu
      refine ⟨((ordl z n nf h.2.2.1 i)[k]?.map nI).getD (-1), h, h2, ?_, ?_, Cpl_scr C p⟩
      · rw [ev_rcv s0, k_tankIn W V b2 hi, ev_nulS, if_pos (show (0 : Int32) ≤ nI k from (nI_le_iff (a := 0) (by omega) hk).mpr (by omega)), ev_gR sT]
        exact l_order7 W k hk (fun f hf => (K.1 f hf).1) _ _ 0 FU (C.2.2.2.2.2.2.2.2.2 i hi) (fun x hx => (ordl_mem.mp hx).1) (by rw [fu_big]; omega) (by omega)
      · rw [ev_rcv sM, k_isTankIn W hm b2 b1 hi, if_neg one_ne, ev_rcv sM, cal_eq e8, k_isIn]
        by_cases q : k < (ordl z n nf h.2.2.1 i).length
        · obtain ⟨m, e⟩ : ∃ m, (ordl z n nf h.2.2.1 i).length = m + 1 := ⟨(ordl z n nf h.2.2.1 i).length - 1, by omega⟩
          rw [wi_1 (nI_pos hk) (by rw [e, nI_prd, nI_lt_iff (by omega) hk]; omega), if_neg one_ne, ev_gR s2, V_J22 V2, ev_aI s22 (by omega) (by omega), r8 k q, List.getElem?_eq_getElem q]
          rfl
        · have e0 : wi (nI k) 0 (nI (ordl z n nf h.2.2.1 i).length - 1) = 0 := by
            unfold wi
            rw [if_neg (nI_pos hk), if_pos]
            rcases Nat.eq_zero_or_pos (ordl z n nf h.2.2.1 i).length with e | e
            · rw [e]
              rw [Int32.lt_iff_toInt_lt, nI_toInt hk]
              have : (nI 0 - 1).toInt = -1 := by decide
              omega
            · obtain ⟨m, e'⟩ : ∃ m, (ordl z n nf h.2.2.1 i).length = m + 1 := ⟨(ordl z n nf h.2.2.1 i).length - 1, by omega⟩
              rw [e', nI_prd, nI_lt_iff (by omega) hk]
              omega
          rw [e0, if_pos rfl, List.getElem?_eq_none (by omega)]
          rfl
  · refine ⟨-1, h, h, ?_, ?_, C⟩
    · rw [ev_rcv s0, k_tankOut W V b2 ht, ev_nulN]
    · rw [ev_rcv sM, k_isTankOut W hm b2 b1 ht, if_pos rfl]
end SCR
