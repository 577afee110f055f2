/-! ===== the law's loop ===== -/
section LL
variable {z n : Nat} {xs : Nat → Int32} {L : Nat}
theorem ev_scr {α : Type} {p : Nat} {K : Int32 → Option α} (hp : p < L) (hL : L ≤ 3073) : scr xs L (nI p) K = K (xs p) := by
  unfold scr
  rw [nI_clamp (by omega), if_neg (fun q => by
    rcases q with q | q
    · exact nI_pos (by omega) q
    · omega)]
theorem sh_rcv {α : Type} {h : AH} {a ci : Nat} {K : Nat → Option α} {Z : α} (e : rcv h (some a) ci K = some Z) : h.2.1 a = some (.inl ci) := rcv_inv e (fun b eb sb _ => by cases eb; exact sb)
theorem sh_gI {α : Type} {h : AH} {a ci k : Nat} {K : Int32 → Option α} {Z : α} (e : gI h (some a) ci k K = some Z) : h.2.1 a = some (.inl ci) := by
  obtain ⟨b, eb, sb, -⟩ := gI_inv e
  cases eb
  exact sb
theorem l_law (hL : L ≤ 3073) : ∀ (m p : Nat) (h : AH) (nf dN hN : Nat), L + 1 - p < 6 * m → 1 ≤ p → p ≤ L + 1 → Cpl z n nf dN hN h → ∃ hh, f_L_law_28 xs L m h (some z) (some (aM z n)) (nI p) = some ((), hh) := by
  intro m
  induction m with
  | zero => intro p h nf dN hN h1; omega
  | succ m ih =>
    intro p h nf dN hN h1 h2 h3 C
    unfold f_L_law_28
    by_cases c : (Int32.ofNat L) - 6 < nI p
    · rw [if_pos c]
      exact ⟨h, rfl⟩
    rw [if_neg c]
    have hp : p + 6 ≤ L := by
      rw [show (6 : Int32) = nI 6 from rfl, show Int32.ofNat L = nI L from rfl, Int32.lt_iff_toInt_lt, nI_subI (by omega) (by omega), nI_toInt (by omega)] at c
      omega
    have s0 : ∀ {α : Type} {K : Int32 → Option α}, scr xs L (nI p) K = K (xs p) := ev_scr (by omega) hL
    have s1 : ∀ {α : Type} {K : Int32 → Option α}, scr xs L (nI p + 1) K = K (xs (p + 1)) := by intro α K; rw [show nI p + 1 = nI (p + 1) from nI_ad p 1]; exact ev_scr (by omega) hL
    have s2 : ∀ {α : Type} {K : Int32 → Option α}, scr xs L (nI p + 2) K = K (xs (p + 2)) := by intro α K; rw [show nI p + 2 = nI (p + 2) from nI_ad p 2]; exact ev_scr (by omega) hL
    have s3 : ∀ {α : Type} {K : Int32 → Option α}, scr xs L (nI p + 3) K = K (xs (p + 3)) := by intro α K; rw [show nI p + 3 = nI (p + 3) from nI_ad p 3]; exact ev_scr (by omega) hL
    have s4 : ∀ {α : Type} {K : Int32 → Option α}, scr xs L (nI p + 4) K = K (xs (p + 4)) := by intro α K; rw [show nI p + 4 = nI (p + 4) from nI_ad p 4]; exact ev_scr (by omega) hL
    have s5 : ∀ {α : Type} {K : Int32 → Option α}, scr xs L (nI p + 5) K = K (xs (p + 5)) := by intro α K; rw [show nI p + 5 = nI (p + 5) from nI_ad p 5]; exact ev_scr (by omega) hL
    have go : ∀ (g : AH) (nf' dN' hN' : Nat), Cpl z n nf' dN' hN' g → ∃ hh, f_L_law_845 xs L (f_L_law_28 xs L m) g (some z) (some (aM z n)) (nI p) = some ((), hh) := by
      intro g nf' dN' hN' Cg
      unfold f_L_law_845
      rw [ev_bd, show nI p + 6 = nI (p + 6) from nI_ad p 6]
      exact ih (p + 6) g nf' dN' hN' (by omega) (by omega) (by omega) Cg
    have sz := W_z C.2.1
    rw [s0, ev_bd]
    by_cases c0 : xs p &&& 31 = 0
    · rw [if_pos c0]
      obtain ⟨r, g1, g2, e1, e2, C2⟩ := o_tank C (xs (p + 1)) (xs (p + 2)) (xs (p + 3)) (xs (p + 4))
      have sM : g1.2.1 (aM z n) = some (.inl 8) := by
        have q := e2
        unfold f_X8_tank at q
        exact sh_rcv q
      simp only [s1, s2, s3, s4]
      rw [ev_rcv sz, cal_eq e1, ev_rcv sM, cal_eq e2, if_pos rfl]
      exact go g2 _ _ _ C2
    rw [if_neg c0]
    by_cases c1 : xs p &&& 31 = 1
    · rw [if_pos c1]
      obtain ⟨r, g1, g2, e1, e2, C2⟩ := o_water C (xs (p + 1)) (xs (p + 2))
      have sM : g1.2.1 (aM z n) = some (.inl 8) := by
        have q := e2
        unfold f_X8_water at q
        exact sh_rcv q
      simp only [s1, s2]
      rw [ev_rcv sz, cal_eq e1, ev_rcv sM, cal_eq e2, if_pos rfl]
      exact go g2 _ _ _ C2
    rw [if_neg c1]
    by_cases c2 : xs p &&& 31 = 2
    · rw [if_pos c2]
      have key : ∀ (x : Int32), x = 0 ∨ x = 1 → ∃ hh, f_L_law_252 xs L (f_L_law_28 xs L m) h (some z) (some (aM z n)) (nI p) (some z) (xs (p + 1)) (xs (p + 2)) (xs (p + 3)) (xs (p + 4)) x = some ((), hh) ∨ ¬ x = (if xs (p + 5) = 0 then 0 else 1) := by
        intro x hx
        by_cases ex : x = (if xs (p + 5) = 0 then 0 else 1)
        · obtain ⟨nf', r, g1, g2, e1, e2, C2⟩ := o_field C (xs (p + 1)) (xs (p + 2)) (xs (p + 3)) (xs (p + 4)) hx
          have sM : g1.2.1 (aM z n) = some (.inl 8) := by
            have q := e2
            unfold f_X8_field at q
            exact sh_rcv q
          obtain ⟨hh, eh⟩ := go g2 _ _ _ C2
          refine ⟨hh, Or.inl ?_⟩
          unfold f_L_law_252
          simp only [s1, s2, s3, s4, s5]
          rw [ev_rcv sz, cal_eq e1]
          unfold f_L_law_289
          by_cases t : xs (p + 5) = 0
          · rw [if_pos t] at ex
            subst ex
            rw [if_pos t, ev_rcv sM, cal_eq e2, if_pos rfl]
            exact eh
          · rw [if_neg t] at ex
            subst ex
            rw [if_neg t, ev_rcv sM, cal_eq e2, if_pos rfl]
            exact eh
        · exact ⟨h, Or.inr ex⟩
      simp only [s1, s2, s3, s4, s5]
      by_cases t : xs (p + 5) = 0
      · rw [if_pos t]
        obtain ⟨hh, e | e⟩ := key 0 (Or.inl rfl)
        · exact ⟨hh, e⟩
        · exact absurd (by rw [if_pos t]) e
      · rw [if_neg t]
        obtain ⟨hh, e | e⟩ := key 1 (Or.inr rfl)
        · exact ⟨hh, e⟩
        · exact absurd (by rw [if_neg t]) e
    rw [if_neg c2]
    by_cases c3 : xs p &&& 31 = 3
    · rw [if_pos c3]
      obtain ⟨r, g1, g2, e1, e2, C2⟩ := o_open C (xs (p + 1)) (xs (p + 2))
      have sM : g1.2.1 (aM z n) = some (.inl 8) := by
        have q := e2
        unfold f_X8_open at q
        exact sh_rcv q
      simp only [s1, s2]
      rw [ev_rcv sz, cal_eq e1, ev_rcv sM, cal_eq e2, if_pos rfl]
      exact go g2 _ _ _ C2
    rw [if_neg c3]
    by_cases c4 : xs p &&& 31 = 4
    · rw [if_pos c4]
      obtain ⟨r, g1, g2, e1, e2, C2⟩ := o_mend C (xs (p + 1)) (xs (p + 2))
      have sM : g1.2.1 (aM z n) = some (.inl 8) := by
        have q := e2
        unfold f_X8_mend at q
        exact sh_rcv q
      simp only [s1, s2]
      rw [ev_rcv sz, cal_eq e1, ev_rcv sM, cal_eq e2, if_pos rfl]
      exact go g2 _ _ _ C2
    rw [if_neg c4]
    by_cases c5 : xs p &&& 31 = 5
    · rw [if_pos c5]
      obtain ⟨r, g1, g2, e1, e2, C2⟩ := o_dredge C (xs (p + 1)) (xs (p + 2))
      have sM : g1.2.1 (aM z n) = some (.inl 8) := by
        have q := e2
        unfold f_X8_dredge at q
        exact sh_rcv q
      simp only [s1, s2]
      rw [ev_rcv sz, cal_eq e1, ev_rcv sM, cal_eq e2, if_pos rfl]
      exact go g2 _ _ _ C2
    rw [if_neg c5]
    by_cases c6 : xs p &&& 31 = 6
    · rw [if_pos c6]
      obtain ⟨r, g1, g2, w, e1, e2, C2⟩ := o_feed C (xs (p + 1)) (xs (p + 2)) (xs (p + 3)) (xs (p + 4)) (xs (p + 5))
      have sM : g1.2.1 (aM z n) = some (.inl 8) := by
        have q := e2
        unfold f_X8_feed at q
        exact sh_gI q
      simp only [s1, s2, s3, s4, s5]
      rw [ev_rcv sz, cal_eq e1, ev_rcv sM, cal_eq e2, if_pos rfl]
      exact go g2 _ _ _ C2
    rw [if_neg c6]
    by_cases c7 : xs p &&& 31 = 7
    · rw [if_pos c7]
      obtain ⟨r, g1, g2, w, e1, e2, C2⟩ := o_custom C (xs (p + 1))
      have sM : g1.2.1 (aM z n) = some (.inl 8) := by
        have q := e2
        unfold f_X8_custom_ at q
        exact sh_gI q
      simp only [s1]
      rw [ev_rcv sz, cal_eq e1, ev_rcv sM, cal_eq e2, if_pos rfl]
      exact go g2 _ _ _ C2
    rw [if_neg c7]
    by_cases c8 : xs p &&& 31 = 8
    · rw [if_pos c8]
      obtain ⟨r, g1, g2, e1, e2, C2⟩ := o_fault C 
      have sM : g1.2.1 (aM z n) = some (.inl 8) := by
        have q := e2
        unfold f_X8_fault at q
        exact sh_gI q
      rw [ev_rcv sz, cal_eq e1, ev_rcv sM, cal_eq e2, if_pos rfl]
      exact go g2 _ _ _ C2
    rw [if_neg c8]
    by_cases c9 : xs p &&& 31 = 9
    · rw [if_pos c9]
      obtain ⟨r, g1, g2, w, e1, e2, C2, sM⟩ := o_day C (xs (p + 1))
      simp only [s1]
      rw [ev_rcv sz, cal_eq e1, ev_rcv sM, cal_eq e2, if_pos rfl]
      exact go g2 _ _ _ C2
    rw [if_neg c9]
    by_cases c10 : xs p &&& 31 = 10
    · rw [if_pos c10]
      obtain ⟨r, g1, g2, e1, e2, C2⟩ := o_told C (xs (p + 1)) (xs (p + 2))
      have sM : g1.2.1 (aM z n) = some (.inl 8) := by
        have q := e2
        unfold f_X8_told at q
        exact sh_rcv q
      simp only [s1, s2]
      rw [ev_rcv sz, cal_eq e1, ev_rcv sM, cal_eq e2, if_pos rfl]
      exact go g2 _ _ _ C2
    rw [if_neg c10]
    by_cases c11 : xs p &&& 31 = 11
    · rw [if_pos c11]
      obtain ⟨r, g1, g2, e1, e2, C2⟩ := o_fieldOf C (xs (p + 1)) (xs (p + 2))
      have sM : g1.2.1 (aM z n) = some (.inl 8) := by
        have q := e2
        unfold f_X8_fieldOf at q
        exact sh_gI q
      simp only [s1, s2]
      rw [ev_rcv sz, cal_eq e1, ev_rcv sM, cal_eq e2, if_pos rfl]
      exact go g2 _ _ _ C2
    rw [if_neg c11]
    by_cases c12 : xs p &&& 31 = 12
    · rw [if_pos c12]
      obtain ⟨r, g1, g2, e1, e2, C2⟩ := o_order C (xs (p + 1)) (xs (p + 2))
      have sM : g1.2.1 (aM z n) = some (.inl 8) := by
        have q := e2
        unfold f_X8_order at q
        exact sh_rcv q
      simp only [s1, s2]
      rw [ev_rcv sz, cal_eq e1, ev_rcv sM, cal_eq e2, if_pos rfl]
      exact go g2 _ _ _ C2
    rw [if_neg c12]
    by_cases c13 : xs p &&& 31 = 13
    · rw [if_pos c13]
      obtain ⟨r, g1, g2, e1, e2, C2, sM⟩ := o_owner C (xs (p + 1))
      simp only [s1]
      rw [ev_rcv sz, cal_eq e1, ev_rcv sM, cal_eq e2, if_pos rfl]
      exact go g2 _ _ _ C2
    rw [if_neg c13]
    by_cases c14 : xs p &&& 31 = 14
    · rw [if_pos c14]
      obtain ⟨r, g1, g2, e1, e2, C2⟩ := o_tried C (xs (p + 1)) (xs (p + 2)) (xs (p + 3))
      have sM : g1.2.1 (aM z n) = some (.inl 8) := by
        have q := e2
        unfold f_X8_tried at q
        exact sh_rcv q
      simp only [s1, s2, s3]
      rw [ev_rcv sz, cal_eq e1, ev_rcv sM, cal_eq e2, if_pos rfl]
      exact go g2 _ _ _ C2
    rw [if_neg c14]
    by_cases c15 : xs p &&& 31 = 15
    · rw [if_pos c15]
      obtain ⟨r, g1, g2, e1, e2, C2⟩ := o_lost C (xs (p + 1)) (xs (p + 2)) (xs (p + 3)) (xs (p + 4))
      have sM : g1.2.1 (aM z n) = some (.inl 8) := by
        have q := e2
        unfold f_X8_lost at q
        exact sh_rcv q
      simp only [s1, s2, s3, s4]
      rw [ev_rcv sz, cal_eq e1, ev_rcv sM, cal_eq e2, if_pos rfl]
      exact go g2 _ _ _ C2
    rw [if_neg c15]
    by_cases c16 : xs p &&& 31 = 16
    · rw [if_pos c16]
      obtain ⟨r, g1, g2, e1, e2, C2, sM⟩ := o_most C (xs (p + 1)) (xs (p + 2)) (xs (p + 3)) (xs (p + 4)) (xs (p + 5))
      simp only [s1, s2, s3, s4, s5]
      rw [ev_rcv sz, cal_eq e1, ev_rcv sM, cal_eq e2, if_pos rfl]
      exact go g2 _ _ _ C2
    rw [if_neg c16]
    by_cases c17 : xs p &&& 31 = 17
    · rw [if_pos c17]
      obtain ⟨r, g1, g2, e1, e2, C2, sM⟩ := o_breach C (xs (p + 1))
      simp only [s1]
      rw [ev_rcv sz, cal_eq e1, ev_rcv sM, cal_eq e2, if_pos rfl]
      exact go g2 _ _ _ C2
    rw [if_neg c17]
    by_cases c18 : xs p &&& 31 = 18
    · rw [if_pos c18]
      obtain ⟨r, g1, g2, e1, e2, C2, sM⟩ := o_count C (xs (p + 1))
      simp only [s1]
      rw [ev_rcv sz, cal_eq e1, ev_rcv sM, cal_eq e2, if_pos rfl]
      exact go g2 _ _ _ C2
    rw [if_neg c18]
    exact go h _ _ _ C
end LL
/-- the law's function answers for every script -/
theorem fun_ok (xs : Nat → Int32) (L : Nat) (hL : L ≤ 3073) (z : Nat) : ∃ hh, f_L_law xs L (z, fun _ => none, fun _ _ => 0, fun _ _ => none) = some ((), hh) := by
  obtain ⟨n, g, h, e1, e2, s0, e3, C⟩ := v_new (z := z) (cellF xs L)
  obtain ⟨hh, e4⟩ := l_law (xs := xs) hL 520 1 h 0 0 0 (by omega) (by omega) (by omega) C
  refine ⟨hh, ?_⟩
  unfold f_L_law
  rw [ev_nO]
  dsimp only
  have sz : (newS (z, fun _ => none, fun _ _ => 0, fun _ _ => none) (.inl 7)).2.1 z = some (.inl 7) := nw_se (h := (z, fun _ => none, fun _ _ => 0, fun _ _ => none))
  rw [ev_bd, ev_rcv sz, cal_eq e1, ev_nO, ev_bd, e2]
  have sg : (newS g (.inl 8)).2.1 (aM z n) = some (.inl 8) := by rw [← e2]; exact nw_se
  rw [ev_rcv sg, cal_eq e3]
  exact e4
