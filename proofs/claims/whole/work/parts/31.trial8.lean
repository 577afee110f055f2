/-! ===== the reference: what is fed; the days of a trial ===== -/
section TR8
variable {z n nf : Nat} {h : AH}
def g166e (k_12 : AH → Nat → Option Nat → Option Nat → Option Nat → Int32 → Int32 → Int32 → Int32 → Int32 → Int32 → Option (Int32 × AH)) (h : AH) (l0 : Nat) (l1 l2 l3 : Option Nat) (l4 l5 l6 l7 l8 l9 l11 l12 l13 l14 : Int32) : Option (Int32 × AH) := if l5 = 0 then f_X8_flows_483 k_12 h l0 l1 l2 l3 l4 l5 l6 l7 l8 l9 else gR h (some l0) 8 10 (fun v46 => sI .int h v46 l9 l12 (fun h47 => gR h47 (some l0) 8 11 (fun v48 => sI .int h47 v48 l9 l13 (fun h49 => gI h49 (some l0) 8 24 (fun v50 => pI h49 (some l0) 8 24 (v50 + l11) (fun h51 => gI h51 (some l0) 8 25 (fun v52 => dv l12 2 (fun v53 => pI h51 (some l0) 8 25 (v52 + (l12 - v53)) (fun h54 => gI h54 (some l0) 8 26 (fun v55 => gR h54 (some l0) 8 4 (fun v56 => aI .int h54 v56 l9 (fun v57 => pI h54 (some l0) 8 26 (v55 + (l4 * v57)) (fun h58 => f_X8_flows_297 k_12 FU h58 l0 l1 l2 l3 l4 l5 l6 l7 l8 l9 l14 0)))))))))))))
/-- fed areas of tank i's fields among all -/
def fedI (z n : Nat) (I : Nat → Nat → Int32) (i : Nat) (S : Nat → Int32) (f : Nat) : Int32 := if I (aJ z n 10) f = nI i then fedF (I (aJ z n 12)) S f else 0
theorem l_fed8 (K : AH → Nat → Option Nat → Option Nat → Option Nat → Int32 → Int32 → Int32 → Int32 → Int32 → Int32 → Option (Int32 × AH)) (W : WS z n nf h) (V : WR z n nf h) (hnf : nf ≤ 40) (e3 : h.2.2.1 (aM z n) 3 = nI nf) (i : Nat) (l1 l2 l3 : Option Nat) (l4 l5 l6 l8 l11 l12 l13 l14 F0 : Int32) : ∀ (m f : Nat), nf - f < m → f ≤ nf → f_X8_flows_166 K m h (aM z n) l1 l2 l3 l4 l5 l6 (F0 + sumF f (fedI z n h.2.2.1 i (h.2.2.1 (aJ z n 23)))) l8 (nI i) l11 l12 l13 l14 (nI f) = g166e K h (aM z n) l1 l2 l3 l4 l5 l6 (F0 + sumF nf (fedI z n h.2.2.1 i (h.2.2.1 (aJ z n 23)))) l8 (nI i) l11 l12 l13 l14 := by
  have sM := W_M W
  have s10 := W_J10 W
  have s12 := W_J12 W
  have s23 := W_J23 W
  intro m
  induction m with
  | zero => intro f h1; omega
  | succ m ih =>
    intro f h1 h2
    unfold f_X8_flows_166 f_X8_flows_216
    rw [ev_gI sM, e3]
    by_cases hf : f < nf
    · have nx := ih (f + 1) (by omega) (by omega)
      rw [sumF] at nx
      rw [if_neg (nI_ge hf (by omega)), ev_gR sM, V_J10 V, ev_aI s10 (by omega) (by omega)]
      unfold fedI at nx
      by_cases e : h.2.2.1 (aJ z n 10) f = nI i
      · rw [if_pos e] at nx
        rw [if_pos e, ev_gR sM, V_J23 V, ev_aI s23 (by omega) (by omega), ev_gR sM, V_J12 V, ev_aI s12 (by omega) (by omega)]
        unfold fedF at nx
        by_cases e2 : h.2.2.1 (aJ z n 23) f = h.2.2.1 (aJ z n 12) f
        · rw [if_pos e2] at nx
          rw [if_pos e2, ev_gR sM, V_J12 V, ev_aI s12 (by omega) (by omega), ev_bd, ev_bd, nI_1, Int32.add_assoc]
          exact nx
        · rw [if_neg e2, Int32.add_zero] at nx
          rw [if_neg e2, ev_bd, nI_1]
          exact nx
      · rw [if_neg e, Int32.add_zero] at nx
        rw [if_neg e, ev_bd, nI_1]
        exact nx
    · have e : f = nf := by omega
      subst e
      rw [if_pos (nI_le (Nat.le_refl f) (by omega))]
      rfl
/-- the same sum over the chain -/
theorem fed_ord {I : Nat → Nat → Int32} {i : Nat} {S S' : Nat → Int32} (a : Int32) (hS : ∀ f ∈ ordl z n nf I i, S f = S' f) : a + sumF nf (fedI z n I i S) = sumI (fedF (I (aJ z n 12)) S') (ordl z n nf I i) a := by
  rw [← ordp_nf, sumI_ord]
  congr 1
  refine sumF_congr (fun f hf => ?_)
  unfold fedI
  by_cases e : I (aJ z n 10) f = nI i
  · rw [if_pos e, if_pos e]
    unfold fedF
    rw [hS f (ordl_mem.mpr ⟨hf, e⟩)]
  · rw [if_neg e, if_neg e]
theorem dyn_sc {a k : Nat} (q : dyn z n 25 27 a k) : sc z n a k := by
  unfold dyn aJ at q
  unfold sc
  omega
theorem l_trial8 {dN hN : Nat} {h0 : AH} (C : Cpl z n nf dN hN h0) (rain : Int32) {w b o : Nat → Int32} (ho : ∀ i, i < n → ∃ q, q ≤ 20 ∧ o i = nI q) : ∀ (m i : Nat) (h : AH), n - i < m → i ≤ n → Scr z n h0 h → (∀ j, j < n → h.2.2.1 (aJ z n 26) j = o j) → (∀ j, i ≤ j → j < n → h.2.2.1 (aJ z n 25) j = w j ∧ h.2.2.1 (aJ z n 27) j = b j) → (∀ j, j < i → h.2.2.1 (aJ z n 25) j = pW z n nf h0.2.2.1 j rain (w j) (b j) (o j) (dD z n nf h0.2.2.1 rain w b o j) ∧ h.2.2.1 (aJ z n 27) j = pB z n nf h0.2.2.1 j rain (w j) (b j) (o j) (dD z n nf h0.2.2.1 rain w b o j)) → ∃ h', f_X8_flows_12 m h (aM z n) (some (aJ z n 25)) (some (aJ z n 27)) (some (aJ z n 26)) rain 0 (dD z n nf h0.2.2.1 rain w b o i) (fdD z n nf h0.2.2.1 rain w b o i) 0 (nI i) = some (fdD z n nf h0.2.2.1 rain w b o n, h') ∧ Scr z n h0 h' ∧ (∀ j, j < n → h'.2.2.1 (aJ z n 26) j = o j) ∧ ∀ j, j < n → h'.2.2.1 (aJ z n 25) j = pW z n nf h0.2.2.1 j rain (w j) (b j) (o j) (dD z n nf h0.2.2.1 rain w b o j) ∧ h'.2.2.1 (aJ z n 27) j = pB z n nf h0.2.2.1 j rain (w j) (b j) (o j) (dD z n nf h0.2.2.1 rain w b o j) := by
  intro m
  induction m with
  | zero => intro i h h1; omega
  | succ m ih =>
    intro i h h1 h2 p hop hrest hdone
    have C' := Cpl_scr C p
    have W := C'.2.1
    have V := C'.2.2.1
    have hm := hM0 C'.2.2.2.2.2.1
    have hn := C.1.2.1
    have sM := W_M W
    have st := p.sta
    have A' := AF_of C'
    by_cases hi : i < n
    · obtain ⟨q, hq, eo⟩ := ho i hi
      obtain ⟨r0, r2⟩ := hrest i (Nat.le_refl i) hi
      obtain ⟨h1', e1, g1, a0, a2, gk, gS⟩ := l_flow1 (Or.inr ⟨rfl, rfl, rfl⟩) A' hm hn hi hq ((hop i hi).trans eo) m rain 0 (dD z n nf h0.2.2.1 rain w b o i) (fdD z n nf h0.2.2.1 rain w b o i) 0
      rw [r0, r2, ← eo] at e1 a0 a2
      rw [r0, ← eo] at gS
      rw [pD_sta st, pX_sta st, pT_sta st, pSpl_sta st, pBrk_sta st] at e1
      rw [pW_sta st] at a0
      rw [pB_sta st] at a2
      rw [st.ordl, pS_sta st] at gS
      have p1 : Scr z n h h1' := ⟨g1.1, g1.2.1, g1.2.2.1, fun a k s => g1.2.2.2 a k (fun x => s (dyn_sc x))⟩
      have p2 := p.tr p1
      have C1 := Cpl_scr C p2
      have st1 := p2.sta
      have e3 : h1'.2.2.1 (aM z n) 3 = nI nf := C1.2.2.2.2.2.1.2.2.2.2.2.2.2.2.2.2.1
      have lf := l_fed8 (f_X8_flows_12 m) C1.2.1 C1.2.2.1 C.1.2.2.1 e3 i (some (aJ z n 25)) (some (aJ z n 27)) (some (aJ z n 26)) rain 0 (pD z n nf h0.2.2.1 i rain (w i) (b i) (o i) (dD z n nf h0.2.2.1 rain w b o i)) 0 (pX z n h0.2.2.1 i rain (w i) (dD z n nf h0.2.2.1 rain w b o i) / 50) (pT z n nf h0.2.2.1 i rain (w i) (o i) (dD z n nf h0.2.2.1 rain w b o i)) (pSpl z n nf h0.2.2.1 i rain (w i) (b i) (o i) (dD z n nf h0.2.2.1 rain w b o i)) (b2i (pBrk z n nf h0.2.2.1 i rain (w i) (b i) (o i) (dD z n nf h0.2.2.1 rain w b o i))) (fdD z n nf h0.2.2.1 rain w b o i) FU 0 (by have := C.1.2.2.1; rw [fu_big]; omega) (by omega)
      rw [sumF, Int32.add_zero] at lf
      have fe := fed_ord (z := z) (n := n) (nf := nf) (I := h1'.2.2.1) (i := i) (S := h1'.2.2.1 (aJ z n 23)) (S' := pS z n nf h0.2.2.1 i rain (w i) (o i) (dD z n nf h0.2.2.1 rain w b o i)) (fdD z n nf h0.2.2.1 rain w b o i) (fun f hf => gS f (by rw [st1.ordl] at hf; exact hf))
      rw [st1.1 12 (by omega), st1.ordl] at fe
      rw [fe] at lf
      have n26 : ¬ (dyn z n 25 27 (aJ z n 26) : Nat → Prop) 0 := by unfold dyn aJ; omega
      have row26 : h1'.2.2.1 (aJ z n 26) = h.2.2.1 (aJ z n 26) := funext (fun k => g1.2.2.2 _ _ (by unfold dyn aJ; omega))
      have nx := ih (i + 1) h1' (by omega) (by omega) p2 (fun j hj => by rw [row26]; exact hop j hj) (fun j hj hjn => by
        rw [(gk j (by omega)).1, (gk j (by omega)).2]
        exact hrest j (by omega) hjn) (fun j hj => by
        by_cases e : j = i
        · subst e
          exact ⟨a0, a2⟩
        · rw [(gk j e).1, (gk j e).2]
          exact hdone j (by omega))
      rw [e1]
      rw [show nI 0 = (0 : Int32) from rfl] at lf
      rw [lf]
      unfold g166e f_X8_flows_483
      rw [if_pos rfl, ev_bd, nI_1]
      rw [dD, fdD] at nx
      exact nx
    · have e : i = n := by omega
      subst e
      unfold f_X8_flows_12 f_X8_flows_505
      rw [ev_gI sM, hm, if_pos (nI_le (Nat.le_refl i) (by omega)), if_pos rfl]
      exact ⟨h, rfl, p, hop, hdone⟩
end TR8
