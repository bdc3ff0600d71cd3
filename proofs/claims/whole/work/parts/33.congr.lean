/-! ===== the relations see their own cells alone ===== -/
theorem amt_ro {ρ ρ' : Nat → Int32} {w i : Nat} (h : ∀ j, 1925 ≤ j → j < 2325 → ρ' j = ρ j) (hw : w < 16) (hi : i < 12) : amt ρ' w i = amt ρ w i := by
  unfold amt
  rw [h _ (by omega) (by omega)]
theorem smA_ro {ρ ρ' : Nat → Int32} {w n : Nat} (h : ∀ j, 1925 ≤ j → j < 2325 → ρ' j = ρ j) (hw : w < 16) (hn : n ≤ 12) : smA ρ' w n = smA ρ w n := by
  induction n with
  | zero => rfl
  | succ n ih => rw [smA, smA, ih (by omega), amt_ro h hw (by omega)]
theorem StR_ro {r ρ ρ' : Nat → Int32} {w m : Nat} (h : ∀ j, 1925 ≤ j → j < 2325 → ρ' j = ρ j) (hs : ρ' (152 + 12 * w) = ρ (152 + 12 * w)) (hw : w < 16) : StR r ρ w m → StR r ρ' w m := by
  rintro ⟨st, dn, S, L, h8, h9, hS, hm, hL, hL2, hc⟩
  refine ⟨st, dn, S, L, h8, h9, by rw [hs]; exact hS, hm, by rw [h _ (by omega) (by omega)]; exact hL, hL2, ?_⟩
  rcases hc with ⟨a1, a2, a3⟩ | ⟨a1, a2⟩
  · left
    exact ⟨a1, by rw [amt_ro h hw (by omega)]; exact a2, by rw [smA_ro h hw (by omega)]; exact a3⟩
  · right
    exact ⟨a1, by rw [smA_ro h hw (by omega)]; exact a2⟩
theorem StR_mo {r ρ : Nat → Int32} {w m m' : Nat} (hm : m ≤ m') : StR r ρ w m → StR r ρ w m' := by
  rintro ⟨st, dn, S, L, h8, h9, hS, hm', hL, hL2, hc⟩
  exact ⟨st, dn, S, L, h8, h9, hS, by omega, hL, hL2, hc⟩
theorem WkR_ro {r ρ ρ' : Nat → Int32} {w m : Nat} (h : ∀ j, 1925 ≤ j → j < 2325 → ρ' j = ρ j) (hf : ∀ j, 144 + 12 * w ≤ j → j < 156 + 12 * w → ρ' j = ρ j) (hw : w < 16) : WkR r ρ w m → WkR r ρ' w m := by
  rintro ⟨h0, h1, hb, h10, h11, h12, hin⟩
  refine ⟨by rw [hf _ (by omega) (by omega)]; exact h0, by rw [hf _ (by omega) (by omega)]; exact h1, hb, by rw [hf _ (by omega) (by omega)]; exact h10, by rw [hf _ (by omega) (by omega)]; exact h11, by rw [hf _ (by omega) (by omega)]; exact h12, fun e => ?_⟩
  obtain ⟨h2, h3, h4, h5, h6, h7, l2, l3, l4, l7, hs⟩ := hin e
  exact ⟨by rw [hf _ (by omega) (by omega)]; exact h2, by rw [hf _ (by omega) (by omega)]; exact h3, by rw [hf _ (by omega) (by omega)]; exact h4, by rw [hf _ (by omega) (by omega)]; exact h5, by rw [hf _ (by omega) (by omega)]; exact h6, by rw [hf _ (by omega) (by omega)]; exact h7, l2, l3, l4, l7, StR_ro h (hf _ (by omega) (by omega)) hw hs⟩
theorem WkR_mo {r ρ : Nat → Int32} {w m m' : Nat} (hm : m ≤ m') : WkR r ρ w m → WkR r ρ w m' := by
  rintro ⟨h0, h1, hb, h10, h11, h12, hin⟩
  refine ⟨h0, h1, hb, h10, h11, h12, fun e => ?_⟩
  obtain ⟨h2, h3, h4, h5, h6, h7, l2, l3, l4, l7, hs⟩ := hin e
  exact ⟨h2, h3, h4, h5, h6, h7, l2, l3, l4, l7, StR_mo hm hs⟩
theorem WkR_r {r r' ρ : Nat → Int32} {w m : Nat} (h : ∀ j, j < 13 → r' j = r j) : WkR r ρ w m → WkR r' ρ w m := by
  rintro ⟨h0, h1, hb, h10, h11, h12, hin⟩
  rw [← h 0 (by omega)] at h0
  rw [← h 1 (by omega)] at h1 hb
  rw [← h 10 (by omega)] at h10
  rw [← h 11 (by omega)] at h11
  rw [← h 12 (by omega)] at h12
  refine ⟨h0, h1, hb, h10, h11, h12, fun e => ?_⟩
  rw [h 1 (by omega)] at e
  obtain ⟨h2, h3, h4, h5, h6, h7, l2, l3, l4, l7, ⟨st, dn, S, L, h8, h9, hS⟩⟩ := hin e
  rw [← h 2 (by omega)] at h2 l2
  rw [← h 3 (by omega)] at h3 l3
  rw [← h 4 (by omega)] at h4 l4
  rw [← h 5 (by omega)] at h5
  rw [← h 6 (by omega)] at h6
  rw [← h 7 (by omega)] at h7 l7
  rw [← h 8 (by omega)] at h8
  rw [← h 9 (by omega)] at h9
  exact ⟨h2, h3, h4, h5, h6, h7, l2, l3, l4, l7, ⟨st, dn, S, L, h8, h9, hS⟩⟩
theorem Sq_fr {M M' : zM} {a : Nat} {ρ : Nat → Int32} {n m b k : Nat} (h : ∀ j, a ≤ j → j < a + 19 → M' j = M j) : SqB M a ρ n m b k → SqB M' a ρ n m b k := by
  rintro ⟨hb, he, hr, hc, hw, hz, hd⟩
  refine ⟨hb, by rw [h a (by omega) (by omega)]; exact he, hr, ?_, ?_, hz, fun v w hv hw' hne => by rw [h (a + 3 + v) (by omega) (by have := hb.1; omega), h (a + 3 + w) (by omega) (by have := hb.1; omega)]; exact hd v w hv hw' hne⟩
  · intro i hi
    rw [h (a + 2) (by omega) (by omega)]
    exact hc i hi
  · intro w hw'
    rw [h (a + 3 + w) (by omega) (by have := hb.1; omega)]
    exact hw w hw'
theorem Sq_ro {M : zM} {a : Nat} {ρ ρ' : Nat → Int32} {n m b k : Nat} (h : ∀ j, j < 2325 → (j < 336 ∨ 936 ≤ j) → ρ' j = ρ j) : SqB M a ρ n m b k → SqB M a ρ' n m b k := by
  rintro ⟨hb, he, hr, hc, hw, hz, hd⟩
  refine ⟨hb, ?_, ?_, ?_, ?_, ?_, hd⟩
  · rw [h 937 (by omega) (by omega), h 938 (by omega) (by omega)]
    exact he
  · rw [h 940 (by omega) (by omega), h 936 (by omega) (by omega), h 939 (by omega) (by omega)]
    exact hr
  · intro i hi
    rw [h i (by omega) (by omega)]
    exact hc i hi
  · intro w hw'
    exact WkR_ro (fun j h1 h2 => h j (by omega) (by omega)) (fun j h1 h2 => h j (by have := hb.1; omega) (by have := hb.1; omega)) (by have := hb.1; omega) (hw w hw')
  · intro w h1 h2 i hi
    rw [h _ (by omega) (by omega)]
    exact hz w h1 h2 i hi
theorem Bk_ro {r ρ ρ' : Nat → Int32} {k : Nat} (hk : k ≤ 150) (h : ∀ j, 336 ≤ j → j < 936 → ρ' j = ρ j) : Bk r ρ k → Bk r ρ' k := by
  intro hb i hi
  rw [h _ (by omega) (by omega)]
  exact hb i hi
theorem RdR_ro {ρ ρ' : Nat → Int32} {fr : Nat} {l : List (Nat × Int32)} (h : ∀ j, 1025 ≤ j → j < 1925 → ρ' j = ρ j) (hl : fr + l.length ≤ 450) : RdR ρ fr l → RdR ρ' fr l := by
  intro hr i q hq
  have hi : i < l.length := by
    rcases List.getElem?_eq_some_iff.mp hq with ⟨hi, _⟩
    exact hi
  rw [h _ (by omega) (by omega), h _ (by omega) (by omega)]
  exact hr i q hq
theorem LnR_ro {r1 r2 r3 r4 ρ ρ' : Nat → Int32} {k c0 c1 : Nat} (hk : k < 16) (h : ∀ j, 941 ≤ j → j < 2357 → ρ' j = ρ j) : LnR r1 r2 r3 r4 ρ k c0 c1 → LnR r1 r2 r3 r4 ρ' k c0 c1 := by
  rintro ⟨kind, fr, L1, h1, h2, h3, h4, h5, h6, h7, h8, h9, h10, h11, h12, h13, h14⟩
  have hl : fr + L1.length ≤ 450 := by
    rcases h14 with ⟨_, _, a⟩ | ⟨L2, _, _, _, _, _, _, a⟩ <;> omega
  refine ⟨kind, fr, L1, h1, h2, by rw [h _ (by omega) (by omega)]; exact h3, by rw [h _ (by omega) (by omega)]; exact h4, by rw [h _ (by omega) (by omega)]; exact h5, by rw [h _ (by omega) (by omega)]; exact h6, RdR_ro (fun j a b => h j (by omega) (by omega)) hl h7, h8, h9, h10, h11, h12, h13, ?_⟩
  rcases h14 with ⟨a1, a2, a3⟩ | ⟨L2, a1, a2, a3, a4, a5, a6, a7⟩
  · left
    exact ⟨by rw [h _ (by omega) (by omega)]; exact a1, a2, a3⟩
  · right
    exact ⟨L2, by rw [h _ (by omega) (by omega)]; exact a1, RdR_ro (fun j a b => h j (by omega) (by omega)) a7 a2, a3, a4, a5, a6, a7⟩
theorem LwR_ro {r0 r1 r2 r3 r4 ρ ρ' : Nat → Int32} (h : ∀ j, 941 ≤ j → j < 2357 → ρ' j = ρ j) : LwR r0 r1 r2 r3 r4 ρ → LwR r0 r1 r2 r3 r4 ρ' := by
  rintro ⟨nl, c, h1, h2, h3, h4, h5⟩
  exact ⟨nl, c, h1, h2, by rw [h _ (by omega) (by omega)]; exact h3, h4, fun k hk => LnR_ro (by omega) h (h5 k hk)⟩
theorem WyR_ro {r9 r10 r11 ρ ρ' : Nat → Int32} (h : ∀ j, 941 ≤ j → j < 2357 → ρ' j = ρ j) : WyR r9 r10 r11 ρ → WyR r9 r10 r11 ρ' := by
  intro hy w hw
  obtain ⟨L, h1, h2, h3, h4⟩ := hy w hw
  refine ⟨L, h1, h2, by rw [h _ (by omega) (by omega)]; exact h3, fun i hi => ?_⟩
  rw [h _ (by omega) (by omega), h _ (by omega) (by omega)]
  exact h4 i hi
theorem HrR_ro {r7 r12 r13 ρ ρ' : Nat → Int32} (h : ∀ j, 941 ≤ j → j < 2357 → ρ' j = ρ j) : HrR r7 r12 r13 ρ → HrR r7 r12 r13 ρ' := by
  rintro ⟨nh, h1, h2, h3⟩
  refine ⟨nh, h1, h2, fun i hi => ?_⟩
  rw [h _ (by omega) (by omega), h _ (by omega) (by omega)]
  exact h3 i hi
theorem Tx_ro {M : zM} {t : Nat} {ρ ρ' : Nat → Int32} (h : ∀ j, 941 ≤ j → j < 2357 → ρ' j = ρ j) : Tx M t ρ → Tx M t ρ' := by
  rintro ⟨hc, hl, hw, hh⟩
  refine ⟨fun k hk => ?_, LwR_ro h hl, WyR_ro h hw, HrR_ro h hh⟩
  rw [h _ (by omega) (by omega)]
  exact hc k hk
theorem Tx_fr {M M' : zM} {t : Nat} {ρ : Nat → Int32} (h : ∀ j, t + 1 ≤ j → j < t + 14 → j ≠ t + 6 → M' j = M j) : Tx M t ρ → Tx M' t ρ := by
  unfold Tx
  rw [h (t + 1) (by omega) (by omega) (by omega), h (t + 2) (by omega) (by omega) (by omega), h (t + 3) (by omega) (by omega) (by omega), h (t + 4) (by omega) (by omega) (by omega), h (t + 5) (by omega) (by omega) (by omega), h (t + 7) (by omega) (by omega) (by omega), h (t + 9) (by omega) (by omega) (by omega), h (t + 10) (by omega) (by omega) (by omega), h (t + 11) (by omega) (by omega) (by omega), h (t + 12) (by omega) (by omega) (by omega), h (t + 13) (by omega) (by omega) (by omega)]
  exact id
theorem Rw_fr {M M' : zM} {a : Nat} {ρ : Nat → Int32} (h1 : ∀ j, a + 1 ≤ j → j < a + 6 → M' j = M j) (h2 : M' a 3 = M a 3) (h3 : M' a 6 = M a 6) : Rw M a ρ → Rw M' a ρ := by
  unfold Rw
  rw [h1 (a + 1) (by omega) (by omega), h1 (a + 2) (by omega) (by omega), h1 (a + 3) (by omega) (by omega), h1 (a + 4) (by omega) (by omega), h1 (a + 5) (by omega) (by omega), h2, h3]
  exact id
theorem Rw_ro {M : zM} {a : Nat} {ρ ρ' : Nat → Int32} (h : ∀ j, 2357 ≤ j → j < 2425 → ρ' j = ρ j) : Rw M a ρ → Rw M a ρ' := by
  rintro ⟨hk, ⟨n1, a1, a2, a3, a4⟩, ⟨n2, b1, b2, b3, b4⟩⟩
  refine ⟨fun r hr => ?_, ⟨n1, a1, a2, by rw [h _ (by omega) (by omega)]; exact a3, fun i hi => by rw [h _ (by omega) (by omega)]; exact a4 i hi⟩, ⟨n2, b1, b2, by rw [h _ (by omega) (by omega)]; exact b3, fun i hi => by rw [h _ (by omega) (by omega), h _ (by omega) (by omega)]; exact b4 i hi⟩⟩
  obtain ⟨n, c1, c2, c3, c4⟩ := hk r hr
  exact ⟨n, c1, c2, by rw [h _ (by omega) (by omega)]; exact c3, fun i hi => by rw [h _ (by omega) (by omega)]; exact c4 i hi⟩
theorem Tp_fr {M M' N N' : zM} (h1 : ∀ i, i < 3 → M' 78 i = M 78 i) (h2 : ∀ i, i < 400 → M' 79 i = M 79 i) (h3 : N' 257 7 = N 257 7) (h4 : ∀ i, i < 400 → N' 262 i = N 262 i) (h5 : N' 257 13 = N 257 13) (h6 : N' 257 14 = N 257 14) : Tp M N → Tp M' N' := by
  rintro ⟨n, hn, a1, a2, a3, a4, a5⟩
  refine ⟨n, hn, by rw [h1 0 (by omega)]; exact a1, by rw [h3]; exact a2, fun i hi => by rw [h2 i (by omega), h4 i (by omega)]; exact a3 i hi, by rw [h1 1 (by omega), h5]; exact a4, by rw [h1 2 (by omega), h6]; exact a5⟩
theorem mix_ro {N N' : zM} {p : Nat} (h1 : ∀ i, 940 ≤ i → i < 2357 → N' 258 i = N 258 i) (h2 : ∀ i, i < 940 → N' 261 (940 * p + i) = N 261 (940 * p + i)) : ∀ j, j < 2357 → mix N' p j = mix N p j := by
  intro j hj
  unfold mix
  by_cases h : j < 940
  · rw [if_pos h, if_pos h, h2 j h]
  · rw [if_neg h, if_neg h, h1 j (by omega) hj]
/-- what can be undone stays, where its cells stay -/
theorem Un_fr {M M' N N' : zM} {n k k' u o : Nat} {ks : Nat → Nat} (h0 : M' 0 3 = M 0 3) (h1 : M' 0 4 = M 0 4) (h2 : N' 257 4 = N 257 4) (h3 : ∀ j, 143 ≤ j → j < 257 → M' j = M j) (h4 : ∀ i, i < 4 * k → M' 69 i = M 69 i) (h5 : ∀ i, 940 ≤ i → i < 2357 → N' 258 i = N 258 i) (h6 : N' 261 = N 261) (hk : k ≤ k') (hk2 : k ≤ 150) : Un M N n k u o ks → Un M' N' n k' u o ks := by
  rintro ⟨a1, a2, a3, a4, a5, a6, a7⟩
  refine ⟨a1, a2, by rw [h0]; exact a3, by rw [h1]; exact a4, by rw [h2]; exact a5, fun p hp => ?_, a7⟩
  obtain ⟨b1, ⟨mp, b2, b3⟩, b4⟩ := a6 p hp
  have hm := mix_ro (N := N) (N' := N') (p := p) h5 (fun i _ => by rw [h6])
  have hq : (o + p) % 6 < 6 := Nat.mod_lt _ (by decide)
  refine ⟨by omega, ⟨mp, b2, Sq_ro (fun j hj _ => hm j (by omega)) (Sq_fr (fun j c1 c2 => h3 j (by omega) (by omega)) b3)⟩, fun i hi => ?_⟩
  rw [h4 i (by omega), hm _ (by omega)]
  exact b4 i hi
theorem Im_fr {M M' N N' : zM} (h0 : M' 0 13 = M 0 13) (h1 : ∀ j, 100 ≤ j → j < 143 → M' j = M j) (h2 : N' 257 5 = N 257 5) (h3 : ∀ i, i < 2425 → N' 260 i = N 260 i) : Im M N → Im M' N' := by
  rintro ⟨a1, a2⟩
  refine ⟨by rw [h0, h2]; exact a1, ?_⟩
  rw [h0]
  rcases a2 with a2 | ⟨a2, n, m, k, b1, b2, b3, b4, b5⟩
  · exact Or.inl a2
  · refine Or.inr ⟨a2, n, m, k, b1, Sq_ro (fun j hj _ => h3 j (by omega)) (Sq_fr (fun j c1 c2 => h1 j (by omega) (by omega)) b2), Tx_ro (fun j c1 c2 => h3 j (by omega)) (Tx_fr (fun j c1 c2 _ => h1 j (by omega) (by omega)) b3), ?_, Rw_ro (fun j c1 c2 => h3 j (by omega)) (Rw_fr (fun j c1 c2 => h1 j (by omega) (by omega)) (by rw [h1 135 (by omega) (by omega)]) (by rw [h1 135 (by omega) (by omega)]) b5)⟩
    rw [h1 134 (by omega) (by omega)]
    exact Bk_ro b2.1.2.2 (fun j c1 c2 => h3 j (by omega)) b4
theorem Vl_fr {M M' : zM} (h0 : M' 95 4 = M 95 4) (h1 : M' 99 = M 99) : Vl M → Vl M' := by
  unfold Vl
  rw [h0, h1]
  exact id
/-- the relation sees the class's cells of the first, the reference's of the second -/
theorem IC_fr {M M' N N' : zM} (h1 : ∀ j, j < 257 → M' j = M j) (h2 : ∀ j, 257 ≤ j → j < 282 → N' j = N j) : IC M N → IC M' N' := by
  rintro ⟨n, m, k, u, o, ks, a1, a2, a3, a4, a5, a6, a7, a8, a9, a10⟩
  have e8 := h2 258 (by omega) (by omega)
  have e7 := h2 257 (by omega) (by omega)
  refine ⟨n, m, k, u, o, ks, a1, ?_, ?_, ?_, ?_, ?_, ?_, ?_, ?_, ?_⟩
  · rw [e8]
    exact Sq_fr (fun j c1 c2 => h1 j (by omega)) a2
  · rw [e8]
    exact Tx_fr (fun j c1 c2 _ => h1 j (by omega)) a3
  · rw [e8, h1 69 (by omega)]
    exact a4
  · rw [e8]
    exact Rw_fr (fun j c1 c2 => h1 j (by omega)) (by rw [h1 70 (by omega)]) (by rw [h1 70 (by omega)]) a5
  · exact Tp_fr (fun i _ => by rw [h1 78 (by omega)]) (fun i _ => by rw [h1 79 (by omega)]) (by rw [e7]) (fun i _ => by rw [h2 262 (by omega) (by omega)]) (by rw [e7]) (by rw [e7]) a6
  · exact Un_fr (by rw [h1 0 (by omega)]) (by rw [h1 0 (by omega)]) (by rw [e7]) (fun j c1 c2 => h1 j (by omega)) (fun i _ => by rw [h1 69 (by omega)]) (fun i _ _ => by rw [e8]) (h2 261 (by omega) (by omega)) (Nat.le_refl _) a2.1.2.2 a7
  · exact Im_fr (by rw [h1 0 (by omega)]) (fun j c1 c2 => h1 j (by omega)) (by rw [e7]) (fun i _ => by rw [h2 260 (by omega) (by omega)]) a8
  · exact Vl_fr (by rw [h1 95 (by omega)]) (h1 99 (by omega)) a9
  · rw [h1 83 (by omega)]
    exact a10
