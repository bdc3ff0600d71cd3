/-! ===== a law: a line, all lines ===== -/
theorem l_rule {N0 M N : zM} {tp : Nat → Nat} {n NN : Nat} {P E : Nat → Nat} {j q l : Nat} (h : TS M N tp n NN P E j q) (hj : j < NN) (hl : l ≤ 16) (hd : DLx N0 l M N) :
    (∃ (j' q' : Nat) (M' N' : zM), j < j' ∧ l < 16 ∧ b_X3_read_10 55 M = some (.inl M') ∧ (f_X11_readRule (J l) (mset N 257 9 (J (P j)))).bind (f_X11_sign (J 59)) = some N' ∧ TS M' N' tp n NN P E j' q' ∧ DLx N0 (l + 1) M' N' ∧ FrC M M' ∧ FrN N N') ∨
    (∃ M' N' : zM, b_X3_read_10 55 M = some (.inr (.inr (J (-1), M'))) ∧ (f_X11_readRule (J l) (mset N 257 9 (J (P j)))).bind (f_X11_sign (J 59)) = some N' ∧ FL M' N' ∧ FrC M M' ∧ FrN N N') := by
  obtain ⟨h12, c, jj, cn, hq, h5, h17, h7, hjj, hcj, hcn⟩ := hd
  have hn := TS_n h
  have h0 := hq.1
  have ej : jj = j := by
    have := h.2.2.2.1
    rw [h7, J_eq (by omega) (by omega) (by omega) (by omega)] at this
    omega
  subst ej
  have hLw : LwS M N tp n NN P E jj q (c l) cn 0 := ⟨h, h5, h17, by omega, hcn⟩
  have hkd := i_kind h
  obtain ⟨kk, k1, k2, k3, k4⟩ := i_kd h
  have hk0 : kk ≠ 0 := fun e => by have := k3.1 e; omega
  have hat := TS_at h
  obtain ⟨u, w1, w2⟩ := i_word hat
  rw [mset_2] at w1
  have hk80 : ∀ i : Nat, i < 29 → (u = J (pkK i) ↔ kk = 128 + i) := by
    intro i hi
    rw [w2 i hi, k1, J_eq (by omega) (by omega) (by omega) (by omega)]
    omega
  have hk_0 := hk80 0 (by omega)
  have hk_1 := hk80 1 (by omega)
  have hk_2 := hk80 2 (by omega)
  have ne10 : ¬ J 1 = J 0 := by decide
  -- the beginning of both
  obtain ⟨u1, u2, kd, bu1, bu2, hkdv, cbeg, rbeg⟩ : ∃ u1 u2 kd : Int32, Bo u1 (128 ≤ kk ∧ kk ≤ 130) ∧ Bo u2 (l = 16) ∧ ((128 ≤ kk ∧ kk ≤ 130) → kd = J (kk - 128 : Nat)) ∧ b_X3_read_10 55 M = j_X3_read_51_10 55 (J kk) u1 M ∧ f_X11_readRule (J l) (mset N 257 9 (J (P jj))) = j_X11_readRule_93 (J l) kd u1 u2 (mset N 257 9 (J (P jj))) := by
    obtain ⟨u2, bu2, e82⟩ : ∃ u2 : Int32, Bo u2 (l = 16) ∧ ∀ (kd u1 : Int32) (X : zM), j_X11_readRule_82 (J l) kd u1 X = j_X11_readRule_93 (J l) kd u1 u2 X := by
      unfold j_X11_readRule_82
      by_cases c2 : l = 16
      · exact ⟨J 1, Or.inl ⟨rfl, c2⟩, fun kd u1 X => by rw [if_pos (by rw [c2]; rfl)]; rfl⟩
      · exact ⟨J 0, Or.inr ⟨rfl, c2⟩, fun kd u1 X => by rw [if_neg (show ¬ J (l : Int) = (16 : Int32) from show ¬ J (l : Int) = J 16 by rw [J_eq (by omega) (by omega) (by omega) (by omega)]; omega)]; rfl⟩
    have cb : ∀ v, (if J (kk : Int) < (128 : Int32) then (j_X3_read_50_10 55 (J kk) M) else (if (130 : Int32) < J (kk : Int) then (j_X3_read_50_10 55 (J kk) M) else (j_X3_read_51_10 55 (J kk) (1 : Int32) M))) = v → b_X3_read_10 55 M = v := by
      intro v hv
      unfold b_X3_read_10
      rw [h0, if_neg (show ¬ (16 : Int32) < J (l : Int) by rw [show (16 : Int32) = J 16 from rfl, J_lt (by omega) (by omega) (by omega) (by omega)]; omega), hkd, k1]
      simp only [bind_s]
      rw [if_neg (show ¬ J (kk : Int) = (0 : Int32) from show ¬ J (kk : Int) = J 0 by rw [J_eq (by omega) (by omega) (by omega) (by omega)]; omega)]
      exact hv
    by_cases cf : 128 ≤ kk ∧ kk ≤ 130
    · refine ⟨J 1, u2, J (kk - 128 : Nat), Or.inl ⟨rfl, cf⟩, bu2, fun _ => rfl, cb _ ?_, ?_⟩
      · rw [if_neg (show ¬ J (kk : Int) < (128 : Int32) from show ¬ J (kk : Int) < J 128 by rw [J_lt (by omega) (by omega) (by omega) (by omega)]; omega), if_neg (show ¬ (130 : Int32) < J (kk : Int) from show ¬ J 130 < J (kk : Int) by rw [J_lt (by omega) (by omega) (by omega) (by omega)]; omega)]
        rfl
      · rw [← e82]
        unfold f_X11_readRule j_X11_readRule_70
        rw [w1]
        simp only [bnd2_s, J_lit, J_neg, Int.cast_ofNat_Int, sp_slips, sp_sees, sp_pays]
        by_cases c0 : kk = 128
        · rw [if_pos (hk_0.2 c0), if_neg (by decide), c0]
          rfl
        · rw [if_neg (fun e => c0 (hk_0.1 e))]
          by_cases c1 : kk = 129
          · rw [if_pos (hk_1.2 c1), if_neg (by decide), c1]
            rfl
          · rw [if_neg (fun e => c1 (hk_1.1 e))]
            have c2 : kk = 130 := by omega
            rw [if_pos (hk_2.2 c2), if_neg (by decide), c2]
            rfl
    · refine ⟨J 0, u2, J (-1), Or.inr ⟨rfl, cf⟩, bu2, fun e => absurd e cf, cb _ ?_, ?_⟩
      · by_cases c1 : kk < 128
        · rw [if_pos (show J (kk : Int) < (128 : Int32) from show J (kk : Int) < J 128 by rw [J_lt (by omega) (by omega) (by omega) (by omega)]; omega)]
          rfl
        · rw [if_neg (show ¬ J (kk : Int) < (128 : Int32) from show ¬ J (kk : Int) < J 128 by rw [J_lt (by omega) (by omega) (by omega) (by omega)]; omega), if_pos (show (130 : Int32) < J (kk : Int) from show J 130 < J (kk : Int) by rw [J_lt (by omega) (by omega) (by omega) (by omega)]; omega)]
          rfl
      · rw [← e82]
        unfold f_X11_readRule j_X11_readRule_70
        rw [w1]
        simp only [bnd2_s, J_lit, J_neg, Int.cast_ofNat_Int, sp_slips, sp_sees, sp_pays]
        rw [if_neg (fun e => cf (by have := hk_0.1 e; omega)), if_neg (fun e => cf (by have := hk_1.1 e; omega)), if_neg (fun e => cf (by have := hk_2.1 e; omega)), if_pos (by trivial)]
  rw [cbeg, rbeg]
  unfold j_X3_read_51_10 j_X11_readRule_93
  rw [h0]
  have f1 : (128 ≤ kk ∧ kk ≤ 130) → ∃ i, i < 29 ∧ M 80 jj = J (128 + i : Nat) := fun e => ⟨kk - 128, by omega, by rw [k1, show 128 + (kk - 128) = kk by omega]⟩
  rcases i_begin hat (128 ≤ kk ∧ kk ≤ 130) (l = 16) f1 bu1 bu2 (x := l) (y := 16) (by omega) (by omega) (by omega) with ⟨b1, b2, b3, b4, b5⟩ | ⟨k, hk, b4, b5⟩
  rotate_left
  · right
    have nf : rF (mset N 257 9 (J (P jj))) k (P jj) 257 10 = J (P jj) := rF_10 _ _ _
    have hpl : P jj < 2147483648 := by omega
    have ff := fine_f hpl nf
    have b4' : f_X5_opens u1 (J l) (16 : Int32) M = some (J 0, cF M k (P jj)) := b4
    refine ⟨cF M k (P jj), rF (mset N 257 9 (J (P jj))) k (P jj), ?_, ?_, FL_of (by omega), FrC_c _ _ _, FrN_t (FrN_9 _ _) (FrN_r2 _ _ _)⟩
    · rw [b4']
      simp only [bnd2_s]
      rw [if_pos (by rfl)]
      rfl
    · rw [b5]
      simp only [bind_s, nm_s]
      rw [readSum_bad hpl nf]
      simp only [bind_s, nm_s]
      rw [if_pos (show f_X11_fine (rF (mset N 257 9 (J (P jj))) k (P jj)) = (0 : Int32) from ff), r_156b hpl nf]
      simp only [bind_s]
      exact n_sign hpl nf _
  · rw [mset_2] at b5
    have b4' : f_X5_opens u1 (J l) (16 : Int32) M = some (J 1, M) := b4
    have nx1 := i_next h b3
    have hx := LwS_next hLw b3
    have e17 : mset N 257 9 (J (E jj)) 257 17 = J cn := by simp (disch := omega) only [mset_ne, mset_eq, mrow_ne, mrow_eq, upd_eq, upd_ne]; exact h17
    have hl16 : l < 16 := by omega
    rw [b4', b5]
    simp only [bnd2_s, bind_s, nm_s]
    rw [if_neg (show ¬ J 1 = (0 : Int32) from ne10), nx1, e17]
    simp only [bind_s]
    rcases p_sum (LwS_w hx (Nat.zero_le _)) with ⟨M1, N1, s1, s2, j1, q1, L1, l1, l2, l3, l4, l5, l6, l7, l8⟩ | ⟨M1, N1, s1, s2, s3⟩
    rotate_left
    · right
      obtain ⟨pp, hp, hp2⟩ := Fc_bad s3
      have ff := fine_f hp hp2
      refine ⟨M1, N1, ?_, ?_, s3.1, FrC_t (FrC_7 _ _) s3.2.2.1, FrN_t (FrN_9 _ _) s3.2.2.2⟩
      · rw [s1]
        simp only [bnd2_s]
        rw [if_pos (by rfl)]
        rfl
      · rw [s2]
        simp only [bind_s, nm_s]
        rw [if_pos (show f_X11_fine N1 = (0 : Int32) from ff), r_156b hp hp2]
        simp only [bind_s]
        exact n_sign hp hp2 _
    · have hE : Em M N M1 N1 (c l) cn L1 := Em_79 l3
      have m50 : M1 55 0 = J l := by rw [hE.2.2.2.2.1]; exact h0
      have N12 : N1 257 12 = J 0 := by rw [l6.1]; simp (disch := omega) only [mset_ne, mset_eq, mrow_ne, mrow_eq, upd_eq, upd_ne]; exact h12
      have f0 : ¬ f_X11_fine N1 = (0 : Int32) := by rw [fine_t l2.1.2.2.2.2.2.2.2]; decide
      have ekd : kd = J (kk - 128 : Nat) := hkdv b1
      have ekk : J (kk : Int) = J (128 + (kk - 128) : Nat) := by exact congrArg J (by omega)
      have main := l_when (kind := kk - 128) hq hl16 (by omega) hE l2 N12 (l5 [] (by simp)) l4
      have hcl : ∀ o, CR (mset (mset M1 56 l (J (128 + (kk - 128) : Nat))) 57 l (J (c l + (encL L1).length : Nat))) = o → (bnd2 (f_X3_readSum 55 (mset M 78 7 (J (jj + 1 : Nat)))) fun u71_10 M71_10 =>
          if u71_10 = 0 then (some (.inr (.inr ((-1 : Int32), M71_10))) : Option ((zM) ⊕ ((zM) ⊕ (Int32 × zM))))
          else (grd (inb (M71_10 55 0) 16) (
          nm (mset M71_10 (55 + 1) (ix (M71_10 55 0)) (J kk)) fun M88_10 =>
          grd (inb (M88_10 55 0) 16) (
          nm (mset M88_10 (55 + 2) (ix (M88_10 55 0)) (M88_10 55 5)) fun M101_10 =>
          (f_X5_kind M101_10).bind fun u103_10 =>
          if u103_10 = (131 : Int32) then ((f_X5_next M101_10).bind fun M113_10 =>
          bnd2 (f_X3_readCondition 55 (0 : Int32) M113_10) fun u119_10 M119_10 =>
          if u119_10 = 0 then (some (.inr (.inr ((-1 : Int32), M119_10))))
          else (j_X3_read_127_10 55 M119_10))
          else (j_X3_read_127_10 55 M101_10))))) = o := by
        intro o ho
        rw [s1]
        simp only [bnd2_s]
        rw [if_neg (show ¬ J 1 = (0 : Int32) from ne10)]
        rw [← ho]
        rw [ekk]
        simp (disch := omega) only [↓nm_s, ↓grd_s, m50, J_lt_t, J_lt_f, J_le_t, J_le_f, J_eq_t, J_eq_f, within_t, within_f, isIn_t, isIn_f, inRow_t, inRow_f, isCell_t, isCell_f, inb_t, ix_Jn, ix_J, Int.reduceToNat, Int.toNat_natCast, Nat.reduceAdd, mset_ne, mset_eq, mrow_ne, mrow_eq, upd_eq, upd_ne, l2.2.1]
        rfl
      have hrl : ∀ o, RR (J l) (J (kk - 128 : Nat)) (J cn) (J (cn + L1.length : Nat)) N1 = o → ((f_X11_readSum (mset N 257 9 (J (E jj)))).bind fun M103 =>
          nm (M103 257 17) fun v5_110 =>
          if (f_X11_fine M103) = 0 then (j_X11_readRule_156 (J l) kd (J cn) v5_110 (-1 : Int32) M103)
          else (bnd2 (f_X11_word M103) fun u123 M123 =>
          if u123 = (f_X11_spelt (119 : Int32) (104 : Int32) (101 : Int32) (110 : Int32) (0 : Int32) (0 : Int32)) then ((f_X11_pass M123).bind fun M143 =>
          (f_X11_readEither M143).bind fun M147 =>
          nm (M147 257 17) fun v6_154 =>
          j_X11_readRule_156 (J l) kd (J cn) v5_110 v6_154 M147)
          else (j_X11_readRule_156 (J l) kd (J cn) v5_110 (-1 : Int32) M123))).bind (f_X11_sign (J 59)) = o := by
        intro o ho
        rw [s2]
        simp only [bind_s, nm_s]
        rw [if_neg f0, l2.2.2.1, ekd, ← ho, show f_X11_spelt (119 : Int32) (104 : Int32) (101 : Int32) (110 : Int32) (0 : Int32) (0 : Int32) = J (pkK 3) from sp_when]
        rfl
      rcases main with ⟨j', q', M', N', g1, g2, g3, g4, g5, g6, g7⟩ | ⟨M', N', g2, g3, g4, g6, g7⟩
      · left
        exact ⟨j', q', M', N', by omega, hl16, hcl _ g2, hrl _ g3, g4, g5, FrC_t (FrC_7 _ _) (FrC_t l7 g6), FrN_t (FrN_9 _ _) (FrN_t l8 g7)⟩
      · right
        exact ⟨M', N', hcl _ g2, hrl _ g3, g4, FrC_t (FrC_7 _ _) (FrC_t l7 g6), FrN_t (FrN_9 _ _) (FrN_t l8 g7)⟩
theorem DLx_9 (N0 : zM) (l : Nat) (M N : zM) (v : Int32) (hd : DLx N0 l M N) : DLx N0 l M (mset N 257 9 v) := by
  obtain ⟨h12, c, jj, cn, ⟨q1, q2, q3, q4⟩, h5, h17, h7⟩ := hd
  refine ⟨by simp (disch := omega) only [mset_ne, mset_eq, mrow_ne, mrow_eq, upd_eq, upd_ne]; exact h12, c, jj, cn, ⟨q1, q2, fun k hk => ?_, fun i hi => by simp (disch := omega) only [mset_ne, mset_eq, mrow_ne, mrow_eq, upd_eq, upd_ne]; exact q4 i hi⟩, h5, by simp (disch := omega) only [mset_ne, mset_eq, mrow_ne, mrow_eq, upd_eq, upd_ne]; exact h17, h7⟩
  intro r1 r2 r3 r4 ρ a1 a2 a3 a4 a5
  exact q3 k hk r1 r2 r3 r4 ρ a1 a2 a3 a4 (fun i hi => by rw [a5 i hi]; simp (disch := omega) only [mset_ne, mset_eq, mrow_ne, mrow_eq, upd_eq, upd_ne])
theorem DLx_w {N0 M N : zM} {l : Nat} (hd : DLx N0 l M N) : DLw N0 l M N := by
  obtain ⟨h12, c, jj, cn, ⟨q1, q2, q3, q4⟩, h5, h17, h7⟩ := hd
  exact ⟨q1, ⟨c, q2, fun k hk => q3 k hk _ _ _ _ _ rfl rfl rfl (fun _ _ => rfl) (fun _ _ => rfl)⟩, q4⟩
theorem p_law {tp : Nat → Nat} {n NN : Nat} {P E : Nat → Nat} {M N : zM} (h : TS M N tp n NN P E 0 0) (h17 : N 257 17 = J 0) (h12 : N 257 12 = J 0) :
    (∃ (l' : Nat) (M' N' : zM), l' ≤ 16 ∧ f_X3_read 55 M = some (J l', M') ∧ loopW (fun s => b_X11_text_131 (J 0) s.1 s.2) (J 0, N) = some (J l', N') ∧ DLw N l' M' N' ∧ (N' 257 10 = J (-1) ∧ M' 78 1 = J 0 ∧ M' 78 2 = J (-1)) ∧ FrC M M' ∧ FrN N N') ∨
    (∃ (v : Int32) (M' N' : zM), f_X3_read 55 M = some (J (-1), M') ∧ loopW (fun s => b_X11_text_131 (J 0) s.1 s.2) (J 0, N) = some (v, N') ∧ FL M' N' ∧ FrC M M' ∧ FrN N N') := by
  have h' : TS (mset (mset M 55 5 (J 0)) 55 0 (J 0)) N tp n NN P E 0 0 := TS_fr h (by simp (disch := omega) only [mset_ne, mset_eq, mrow_ne, mrow_eq, upd_eq, upd_ne]) (by simp (disch := omega) only [mset_ne, mset_eq, mrow_ne, mrow_eq, upd_eq, upd_ne]) (by simp (disch := omega) only [mset_ne, mset_eq, mrow_ne, mrow_eq, upd_eq, upd_ne]) (by simp (disch := omega) only [mset_ne, mset_eq, mrow_ne, mrow_eq, upd_eq, upd_ne]) rfl rfl rfl rfl
  have fr0 : FrC M (mset (mset M 55 5 (J 0)) 55 0 (J 0)) := FrC_t (FrC_d _ (by omega) (by omega) _ _) (FrC_d _ (by omega) (by omega) _ _)
  have hd0 : DLx N 0 (mset (mset M 55 5 (J 0)) 55 0 (J 0)) N := ⟨h12, fun _ => 0, 0, 0, ⟨by simp (disch := omega) only [mset_ne, mset_eq, mrow_ne, mrow_eq, upd_eq, upd_ne]; rfl, rfl, fun k hk => absurd hk (by omega), fun _ _ => rfl⟩, by simp (disch := omega) only [mset_ne, mset_eq, mrow_ne, mrow_eq, upd_eq, upd_ne]; rfl, h17, h'.2.2.2.1, by omega, Nat.le_refl _, Nat.le_refl _⟩
  have key := p_lines (tp := tp) (n := n) (NN := NN) (P := P) (E := E) (k := 0) (by omega) BL (fun l M' N' => DLx N l M' N' ∧ M' 55 0 = J l)
    (fun l M' N' v hd => ⟨DLx_9 N l M' N' v hd.1, hd.2⟩)
    (fun l M' hl ⟨j, h1, h2, h3⟩ => by
      have : b_X3_read_10 55 M' = some (.inr (.inl M')) := by
        unfold b_X3_read_10 f_X5_kind
        by_cases c16 : (16 : Int32) < M' 55 0
        · rw [if_pos c16]
        · rw [if_neg c16]
          simp (disch := omega) only [↓grd_s, ↓reduceIte, J_lit, Int.cast_ofNat_Int, J_lt_t, J_lt_f, J_le_t, J_le_f, J_eq_t, J_eq_f, within_t, within_f, isIn_t, isIn_f, inRow_t, inRow_f, isCell_t, isCell_f, inb_t, ix_Jn, ix_J, Int.reduceToNat, Int.toNat_natCast, h1, h3, bind_s]
      unfold BL
      rw [this])
    (fun l j q M' N' ht hj hl hd => by
      rcases l_rule ht hj hl hd.1 with ⟨j', q', M2, N2, g1, g2, g3, g4, g5, g6, g7, g8⟩ | ⟨M2, N2, g3, g4, g5, g7, g8⟩
      · left
        refine ⟨j', q', M2, N2, g1, g2, ?_, g4, g5, ⟨g6, ?_⟩, g7, g8⟩
        · unfold BL
          rw [g3]
          simp only
          rw [J_s]
        · obtain ⟨_, c, jj, cn, ⟨q1, _⟩, _⟩ := g6
          exact q1
      · right
        refine ⟨M2, N2, ?_, g4, g5, g7, g8⟩
        unfold BL
        rw [g3])
    NN 0 0 0 (mset (mset M 55 5 (J 0)) 55 0 (J 0)) N (by omega) h' (by omega) ⟨hd0, by simp (disch := omega) only [mset_ne, mset_eq, mrow_ne, mrow_eq, upd_eq, upd_ne]; rfl⟩
  have er : f_X3_read 55 M = (loopW (fun s => b_X3_read_10 55 s) (mset (mset M 55 5 (J 0)) 55 0 (J 0))).bind (fun q => Sum.elim (fun r => j_X3_read_164 55 r) some q) := by
    unfold f_X3_read
    simp only [nm_s]
    rfl
  rw [er]
  rcases key with ⟨l', M', N', f1, f2, f3, f4, f5, f6, f7⟩ | ⟨v, M', N', f2, f3, f4, f6, f7⟩
  · left
    refine ⟨l', M', N', f1, ?_, f3, DLx_w f4.1, f5, FrC_t fr0 f6, f7⟩
    rw [bl_W f2]
    simp only [bind_s, blR, Sum.elim]
    unfold j_X3_read_164
    rw [f4.2]
  · right
    refine ⟨v, M', N', ?_, f3, f4, FrC_t fr0 f6, f7⟩
    rw [bl_W f2]
    rfl
