/-! order and choices -/
section
variable {N s c x K : Nat} {m cl t : Nat → Int32}
theorem bw_cdE (H : bw_St N s m cl) (hx : x < 3) {i : Nat} : nI (bw_cd (bw_gs N s m cl (fun _ => x) i) N) = nI (bw_cd (fun q => q) N) ↔ bw_cd (bw_gs N s m cl (fun _ => x) i) N = bw_cd (fun q => q) N := by
  have a := bw_cdL H.2.1 (bw_PmL (bw_gsP (tc := fun _ => x) H (fun _ => hx) i)) (p := N) (Nat.le_refl _)
  have b := bw_cdL H.2.1 (bw_PmL (bw_Pm0 N)) (p := N) (Nat.le_refl _)
  exact nI_eq (by omega) (by omega)
theorem bw_end {j : Nat} {R : Nat → Int32} (hs : 1 ≤ s) (h : ∀ q, q < s → R (0 + 1 + q) = nI (bw_cd (bw_gs N s m cl (fun _ => x) (j * s + (q + 1))) N)) : R s = nI (bw_cd (bw_gs N s m cl (fun _ => x) ((j + 1) * s)) N) := by
  have e := h (s - 1) (by omega)
  rw [show 0 + 1 + (s - 1) = s from by omega, show s - 1 + 1 = s from by omega] at e
  rw [e, Nat.add_mul, Nat.one_mul]
theorem xr_orL {post : Int32 → SX → Prop} {fl : Int32} (H : bw_St N s m cl) (hx : x < 3) (hK : K ≤ 60) (hE : bw_cd (bw_gs N s m cl (fun _ => x) (K * s)) N = bw_cd (fun q => q) N) (hN : ∀ j, 1 ≤ j → j < K → bw_cd (bw_gs N s m cl (fun _ => x) (j * s)) N ≠ bw_cd (fun q => q) N) (hp : ∀ R B, post (nI K) (nI N, nI s, fl, m, cl, t, R, B)) : ∀ k j, j + k + 1 = K → ∀ R B, bw_Ro N B (bw_gs N s m cl (fun _ => x) (j * s)) → R 0 = nI (bw_cd (fun q => q) N) → wX_order_15 post (nI x) (k + 1) (nI j) (nI N) (nI s) fl m cl t R B := by
  intro k
  have h12 := H.2.2.2.1
  have hs := H.2.2.1
  induction k with
  | zero =>
    intro j h R B hB hR
    obtain rfl : K = j + 1 := by omega
    refine xr_lead (rb := 0) (gs := fun i => bw_gs N s m cl (fun _ => x) (j * s + i)) H hx (by omega) (fun i hi => bw_gsS (tc := fun _ => x) hi) hB (fun B' R' hB' h1 h2 => ?_)
    refine nm_r (nI_1 j) ⟨vp_in_nI (by omega) (by omega), br_t ?_ (hp R' B')⟩
    rw [nI_clamp (by omega), bw_end hs h2, h1 0 (Nat.le_refl _), hR, hE]
  | succ k ih =>
    intro j h R B hB hR
    refine xr_lead (rb := 0) (gs := fun i => bw_gs N s m cl (fun _ => x) (j * s + i)) H hx (by omega) (fun i hi => bw_gsS (tc := fun _ => x) hi) hB (fun B' R' hB' h1 h2 => ?_)
    refine nm_r (nI_1 j) ⟨vp_in_nI (by omega) (by omega), br_f ?_ (br_t (nI_lt (b := 1000) (by omega) (by decide)) (ih (j + 1) (by omega) R' B' ?_ ?_))⟩
    · rw [nI_clamp (by omega), bw_end hs h2, h1 0 (Nat.le_refl _), hR, bw_cdE H hx]
      exact hN (j + 1) (by omega) (by omega)
    · rw [Nat.add_mul, Nat.one_mul]; exact hB'
    · rw [h1 0 (Nat.le_refl _), hR]
theorem yr_orL {post : Int32 → SY → Prop} {fc : Int32} (H : bw_St N s m cl) (hx : x < 3) (hE : bw_cd (bw_gs N s m cl (fun _ => x) (K * s)) N = bw_cd (fun q => q) N) (hN : ∀ j, 1 ≤ j → j < K → bw_cd (bw_gs N s m cl (fun _ => x) (j * s)) N ≠ bw_cd (fun q => q) N) (hp : ∀ l R B, post (nI K) (nI N, nI s, fc, l, m, cl, t, B, R)) : ∀ k j, j + k + 1 = K → ∀ (fl : Int32) R B, bw_Ro N B (bw_gs N s m cl (fun _ => x) (j * s)) → wY_order_24 post (nI x) (nI (bw_cd (fun q => q) N)) (k + 2) (nI j) 1 (nI N) (nI s) fc fl m cl t B R := by
  intro k
  have h12 := H.2.2.2.1
  have hs := H.2.2.1
  induction k with
  | zero =>
    intro j h fl R B hB
    obtain rfl : K = j + 1 := by omega
    refine br_f bw_10 ?_
    refine yr_lead (rb := 0) (gs := fun i => bw_gs N s m cl (fun _ => x) (j * s + i)) H hx (by omega) (fun i hi => bw_gsS (tc := fun _ => x) hi) hB (fun B' R' hB' h1 h2 => ?_)
    dsimp only
    rw [Nat.zero_add]
    refine nm_r (nI_1 j) ⟨vp_in_nI (by omega) (by omega), br_t ?_ (br_t rfl (hp _ R' B'))⟩
    rw [nI_clamp (by omega), bw_end hs h2, hE]
  | succ k ih =>
    intro j h fl R B hB
    refine br_f bw_10 ?_
    refine yr_lead (rb := 0) (gs := fun i => bw_gs N s m cl (fun _ => x) (j * s + i)) H hx (by omega) (fun i hi => bw_gsS (tc := fun _ => x) hi) hB (fun B' R' hB' h1 h2 => ?_)
    dsimp only
    rw [Nat.zero_add]
    refine nm_r (nI_1 j) ⟨vp_in_nI (by omega) (by omega), br_f ?_ (ih (j + 1) (by omega) _ R' B' ?_)⟩
    · rw [nI_clamp (by omega), bw_end hs h2, bw_cdE H hx]
      exact hN (j + 1) (by omega) (by omega)
    · rw [Nat.add_mul, Nat.one_mul]; exact hB'
/-- would one more lead with call x leave the touch true -/
def bw_ok (N s c : Nat) (m cl t : Nat → Int32) (x : Nat) : Nat := if bw_ct (bw_fr (bw_F N s m cl (bw_tx t c x))) (c * s + s) = c * s + s then 1 else 0
theorem bw_oneL {y : Nat} {R R' : Nat → Int32} (hR : ∀ q, q ≤ c * s → R q = bw_F N s m cl (bw_tx t c y) q) (h1 : ∀ q, q ≤ c * s → R' q = R q) (h2 : ∀ q, q < s → R' (c * s + 1 + q) = nI (bw_cd (bw_gs N s m cl (bw_tx t c y) (c * s + (q + 1))) N)) : bw_ct (bw_fr R') (c * s + s) = bw_ct (bw_fr (bw_F N s m cl (bw_tx t c y))) (c * s + s) := by
  refine bw_ctR (fun q _ hq => bw_ext hR h1 h2 q ?_)
  rw [Nat.add_mul, Nat.one_mul]; exact hq
theorem bw_txS {y j : Nat} (hj : j < s) : bw_gs N s m cl (bw_tx t c y) (c * s + (j + 1)) = fun q => bw_gs N s m cl (bw_tx t c y) (c * s + j) (bw_sg N (bw_st s m cl y j) q) := by
  have e := bw_gsS (N := N) (m := m) (cl := cl) (tc := bw_tx t c y) (i := c) hj
  rw [bw_txC] at e
  exact e
theorem xr_chL {post : Int32 → SX → Prop} (H : bw_St N s m cl) (hc : c ≤ 20) (ht : ∀ i, i < c → ∃ x : Nat, x < 3 ∧ t i = nI x) (hp : ∀ R B, post (nI (bw_sm (bw_ok N s c m cl t) 3)) (nI N, nI s, nI c, m, cl, t, R, B)) : ∀ k p, p + k = 3 → ∀ R B, wX_choices_9 post (nI (c * s)) (k + 1) (nI (bw_sm (bw_ok N s c m cl t) p)) (nI p) (nI N) (nI s) (nI c) m cl t R B := by
  intro k
  have he := bw_e H hc
  have h12 := H.2.2.2.1
  induction k with
  | zero =>
    intro p h R B
    obtain rfl : p = 3 := by omega
    exact br_t (nI_le (a := 3) (b := 3) (by decide) (by decide)) (hp R B)
  | succ k ih =>
    intro p h R B
    have hy : p < 3 := by omega
    refine br_f (nI_ge (b := 3) hy (by decide)) ?_
    refine xr_touch H (bw_tx3 (t := t) (c := c) hy) hc (bw_txE ht) (fun B1 R1 hB1 hR1 => ?_)
    refine xr_lead (gs := fun j => bw_gs N s m cl (bw_tx t c p) (c * s + j)) H hy (by omega) (fun j hj => bw_txS hj) hB1 (fun B2 R2 _ h1 h2 => ?_)
    have e := bw_oneL hR1 h1 h2
    dsimp only
    rw [nI_add (c * s) s]
    have hi := ih (p + 1) (by omega) R2 B2
    rw [bw_sm, bw_ok] at hi
    refine xr_rep (by omega) (fun hq => br_f bw_10 (nm_r (nI_1 p) ?_)) (fun hq => br_t rfl (nm_r (nI_1 _) (nm_r (nI_1 p) ?_)))
    · rw [if_neg (by omega)] at hi; exact hi
    · rw [if_pos (by omega)] at hi; exact hi
theorem yr_chL {post : Int32 → SY → Prop} (H : bw_St N s m cl) (hc : c ≤ 20) (ht : ∀ i, i < c → ∃ x : Nat, x < 3 ∧ t i = nI x) (hp : ∀ l R B, post (nI (bw_sm (bw_ok N s c m cl t) 3)) (nI N, nI s, nI c, l, m, cl, t, B, R)) : ∀ k p, p + k = 3 → ∀ (l : Int32) R B, wY_choices_4 post (k + 1) (nI (bw_sm (bw_ok N s c m cl t) p)) (nI p) (nI N) (nI s) (nI c) l m cl t B R := by
  intro k
  have he := bw_e H hc
  have h12 := H.2.2.2.1
  induction k with
  | zero =>
    intro p h l R B
    obtain rfl : p = 3 := by omega
    exact br_t (nI_le (a := 3) (b := 3) (by decide) (by decide)) (hp l R B)
  | succ k ih =>
    intro p h l R B
    have hy : p < 3 := by omega
    refine br_f (nI_ge (b := 3) hy (by decide)) ?_
    refine yr_write H (bw_tx3 (t := t) (c := c) hy) hc (bw_txE ht) (fun B1 R1 hB1 hR1 => ?_)
    refine yr_lead (gs := fun j => bw_gs N s m cl (bw_tx t c p) (c * s + j)) H hy (by omega) (fun j hj => bw_txS hj) hB1 (fun B2 R2 _ h1 h2 => ?_)
    have e := bw_oneL hR1 h1 h2
    have hl := bw_ctLe (bw_fr R2) (c * s + s)
    have hi := ih (p + 1) (by omega) (nI (c * s + s)) R2 B2
    rw [bw_sm, bw_ok] at hi
    refine yr_cd (by omega) (pk_eq (bw_ct (bw_fr R2) (c * s + s)) (c * s + s) (fun hq => nm_r (nI_1 _) (nm_r (nI_1 p) ?_)) (fun hq => nm_r (nI_1 p) ?_))
    · rw [if_pos (by omega)] at hi; exact hi
    · rw [if_neg (by omega)] at hi; exact hi
end
theorem i_vc_order {k : Nat} {u : SX} {v : SY} (I : i_Rel k u v) (hk : k + 3 ≤ 1537) (v1 : Int32) : wpX_order (fun r u' => wpY_order (fun r' v' => r' = r ∧ i_Rel (k + 3) u' v') v v1) u v1 := by
  obtain ⟨N, s, c, m, cl, t, RX, BX, BY, RY, l, H, hc, ht, rfl, rfl⟩ := I
  have h6 := H.2.1
  unfold wpX_order wpY_order
  dsimp only
  rcases bw_call v1 with h | ⟨y, hy, rfl⟩
  · exact xr_call0 h (br_t rfl (yr_call0 h (br_f bw_10 ⟨rfl, bw_mk H hc ht⟩)))
  · obtain ⟨K, hK1, hK, hE, hN⟩ := bw_first H hy
    refine xr_call1 hy (br_f bw_10 (xr_start h6 (fun B1 hB1 => ⟨K - 1 + 1, xr_orL H hy hK hE hN (fun R2 B2 => ?_) (K - 1) 0 (by omega) (upd RX 0 (nI (bw_cd (fun q => q) N))) B1 ?_ pk_us⟩)))
    · refine yr_call1 hy (br_t rfl (yr_round h6 (fun B3 hB3 => yr_code h6 hB3 ⟨K - 1 + 2, yr_orL H hy hE hN (fun l' R4 B4 => ⟨rfl, bw_mk H hc ht⟩) (K - 1) 0 (by omega) _ _ B3 ?_⟩)))
      rw [Nat.zero_mul]; exact hB3
    · rw [Nat.zero_mul]; exact hB1
theorem i_vc_choices {k : Nat} {u : SX} {v : SY} (I : i_Rel k u v) (hk : k + 3 ≤ 1537) : wpX_choices (fun r u' => wpY_choices (fun r' v' => r' = r ∧ i_Rel (k + 3) u' v') v) u := by
  obtain ⟨N, s, c, m, cl, t, RX, BX, BY, RY, l, H, hc, ht, rfl, rfl⟩ := I
  unfold wpX_choices wpY_choices
  dsimp only
  exact xr_last ⟨4, xr_chL H hc ht (fun R2 B2 => ⟨4, yr_chL H hc ht (fun l' R3 B3 => ⟨rfl, bw_mk H hc ht⟩) 3 0 (by omega) l RY BY⟩) 3 0 (by omega) RX BX⟩
