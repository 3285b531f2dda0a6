/-! the questions -/
def bw_tc (t : Nat → Int32) (i : Nat) : Nat := (t i).toNatClampNeg % 3
theorem bw_tc3 (t : Nat → Int32) (i : Nat) : bw_tc t i < 3 := Nat.mod_lt _ (by decide)
theorem bw_tcE {c : Nat} {t : Nat → Int32} (ht : ∀ i, i < c → ∃ x : Nat, x < 3 ∧ t i = nI x) : ∀ i, i < c → t i = nI (bw_tc t i) := by
  intro i hi
  obtain ⟨x, hx, e⟩ := ht i hi
  unfold bw_tc
  rw [e, nI_clamp (by omega), Nat.mod_eq_of_lt hx]
def bw_tx (t : Nat → Int32) (c x i : Nat) : Nat := if i = c then x else bw_tc t i
theorem bw_tx3 {t : Nat → Int32} {c x : Nat} (hx : x < 3) (i : Nat) : bw_tx t c x i < 3 := by
  unfold bw_tx
  by_cases h : i = c
  · rw [if_pos h]; exact hx
  · rw [if_neg h]; exact bw_tc3 t i
theorem bw_txE {c x : Nat} {t : Nat → Int32} (ht : ∀ i, i < c → ∃ x : Nat, x < 3 ∧ t i = nI x) : ∀ i, i < c → t i = nI (bw_tx t c x i) := by
  intro i hi
  unfold bw_tx
  rw [if_neg (by omega)]
  exact bw_tcE ht i hi
theorem bw_txC {c x : Nat} {t : Nat → Int32} : bw_tx t c x c = x := if_pos rfl
theorem bw_ctR {e : Nat} {R F : Nat → Int32} (h : ∀ q, 1 ≤ q → q ≤ e → R q = F q) : bw_ct (bw_fr R) e = bw_ct (bw_fr F) e := by
  refine bw_ctC e (fun k h1 h2 => ?_)
  unfold bw_fr
  apply decide_eq_decide.mpr
  constructor
  · intro a q h3 h4; rw [← h q h4 (by omega), ← h k h1 h2]; exact a q h3 h4
  · intro a q h3 h4; rw [h q h4 (by omega), h k h1 h2]; exact a q h3 h4
theorem bw_e {N s c : Nat} {m cl : Nat → Int32} (H : bw_St N s m cl) (hc : c ≤ 20) : c * s ≤ 240 := Nat.mul_le_mul (n₁ := c) (m₁ := s) (n₂ := 20) (m₂ := 12) hc H.2.2.2.1
section
variable {N s c : Nat} {fb fn fs fc fl : Int32} {m cl t R B : Nat → Int32}
theorem xr_last {post : Int32 → Prop} (hp : post (nI (c * s))) : wpX_last post (fb, nI s, nI c, m, cl, t, R, B) := by
  rw [← pk_mul] at hp
  exact hp
theorem bw_rn (x : Int32) {e : Nat} (he : e < 1000) : (x < 0 ∨ nI (e + 1) ≤ x) ∨ ∃ k : Nat, k ≤ e ∧ x = nI k := by
  rcases pk_ix x (n := e + 1) (by omega) with h | h | ⟨j, hj, h⟩
  · exact Or.inl (Or.inl h)
  · exact Or.inl (Or.inr h)
  · exact Or.inr ⟨j, by omega, h⟩
theorem bw_ltS {x : Int32} {e : Nat} (he : e < 1000) (h : nI (e + 1) ≤ x) : nI e < x := Int32.lt_of_lt_of_le (nI_lt (by omega) (by omega)) h
theorem xr_rn1 {post : Int32 → Prop} {k : Nat} (he : c * s < 1000) (h : k ≤ c * s) (hp : post 1) : wpX_isRowNumber post (fb, nI s, nI c, m, cl, t, R, B) (nI k) :=
  br_f (nI_pos (by omega)) (xr_last (br_f (nI_nlt h (by omega)) hp))
theorem xr_rn0 {post : Int32 → Prop} {x : Int32} (he : c * s < 1000) (h : x < 0 ∨ nI (c * s + 1) ≤ x) (hp : post 0) : wpX_isRowNumber post (fb, nI s, nI c, m, cl, t, R, B) x :=
  br_c (fun _ => hp) (fun h0 => xr_last (br_t (bw_ltS he (h.resolve_left h0)) hp))
theorem yr_find1 {post : Int32 → Prop} {k e : Nat} (he : e < 260) (h : k ≤ e) (hp : post (R k)) : wpY_find post (fn, fs, fc, nI e, m, cl, t, B, R) (nI k) := by
  refine br_f (nI_pos (by omega)) (br_t (nI_le h (by omega)) ⟨vp_in_nI (by omega) (by omega), ?_⟩)
  rw [nI_clamp (by omega)]
  exact hp
theorem yr_find0 {post : Int32 → Prop} {x : Int32} {e : Nat} (he : e < 1000) (h : x < 0 ∨ nI (e + 1) ≤ x) (hp : post (-4)) : wpY_find post (fn, fs, fc, nI e, m, cl, t, B, R) x :=
  br_c (fun _ => hp) (fun h0 => br_f (Int32.not_le.mpr (bw_ltS he (h.resolve_left h0))) hp)
theorem bw_bell (x : Int32) (hN : N ≤ 6) : (x < 1 ∨ nI N < x) ∨ ∃ y : Nat, 1 ≤ y ∧ y ≤ N ∧ x = nI y := by
  rcases pk_ix x (n := N + 1) (by omega) with h | h | ⟨j, hj, h⟩
  · exact Or.inl (Or.inl (Int32.lt_trans h (by decide)))
  · exact Or.inl (Or.inr (bw_ltS (by omega) h))
  · by_cases h0 : j = 0
    · subst h0; rw [h]; exact Or.inl (Or.inl (by decide))
    · exact Or.inr ⟨j, by omega, by omega, h⟩
theorem xr_bell1 {post : Int32 → Prop} {y : Nat} (hN : N ≤ 6) (h1 : 1 ≤ y) (h2 : y ≤ N) (hp : post 1) : wpX_isBell post (nI N, fc, fl, m, cl, t, R, B) (nI y) :=
  br_f (nI_nlt (b := 1) h1 (by omega)) (br_f (nI_nlt h2 (by omega)) hp)
theorem xr_bell0 {post : Int32 → Prop} {x : Int32} (h : x < 1 ∨ nI N < x) (hp : post 0) : wpX_isBell post (nI N, fc, fl, m, cl, t, R, B) x :=
  br_c (fun _ => hp) (fun h0 => br_t (h.resolve_left h0) hp)
theorem yr_bell1 {post : Int32 → Prop} {y : Nat} (hN : N ≤ 6) (h1 : 1 ≤ y) (h2 : y ≤ N) (hp : post 0) : wpY_noBell post (nI N, fs, fc, fl, m, cl, t, B, R) (nI y) :=
  br_f (nI_nlt (b := 1) h1 (by omega)) (br_t (nI_le h2 (by omega)) hp)
theorem yr_bell0 {post : Int32 → Prop} {x : Int32} (h : x < 1 ∨ nI N < x) (hp : post 1) : wpY_noBell post (nI N, fs, fc, fl, m, cl, t, B, R) x :=
  br_c (fun _ => hp) (fun h0 => br_f (Int32.not_le.mpr (h.resolve_left h0)) hp)
theorem bw_n4 {n : Nat} (h : n < 1000000) : ¬ nI n = -4 := by
  intro e
  have := nI_pos (n := n) (by omega)
  rw [e] at this
  exact this (by decide)
end
theorem i_vc_row {k : Nat} {u : SX} {v : SY} (I : i_Rel k u v) (hk : k + 3 ≤ 1537) (v1 : Int32) : wpX_row (fun r u' => wpY_row (fun r' v' => r' = r ∧ i_Rel (k + 3) u' v') v v1) u v1 := by
  obtain ⟨N, s, c, m, cl, t, RX, BX, BY, RY, l, H, hc, ht, rfl, rfl⟩ := I
  have he := bw_e H hc
  unfold wpX_row wpY_row
  dsimp only
  rcases bw_rn v1 (e := c * s) (by omega) with h | ⟨q, hq, rfl⟩
  · exact xr_rn0 (by omega) h (br_t rfl (yr_write H (bw_tc3 t) hc (bw_tcE ht) (fun B' R' _ _ => yr_find0 (by omega) h ⟨rfl, bw_mk H hc ht⟩)))
  · refine xr_rn1 (by omega) hq (br_f bw_10 (xr_touch H (bw_tc3 t) hc (bw_tcE ht) (fun B' R' _ hR => ⟨vp_in_nI (by omega) (by omega), ?_⟩)))
    refine yr_write H (bw_tc3 t) hc (bw_tcE ht) (fun B2 R2 _ hR2 => yr_find1 (by omega) hq ⟨?_, bw_mk H hc ht⟩)
    dsimp only
    rw [nI_clamp (by omega), hR q hq, hR2 q hq]
theorem i_vc_place {k : Nat} {u : SX} {v : SY} (I : i_Rel k u v) (hk : k + 3 ≤ 1537) (v1 : Int32) (v2 : Int32) : wpX_place (fun r u' => wpY_place (fun r' v' => r' = r ∧ i_Rel (k + 3) u' v') v v1 v2) u v1 v2 := by
  obtain ⟨N, s, c, m, cl, t, RX, BX, BY, RY, l, H, hc, ht, rfl, rfl⟩ := I
  have he := bw_e H hc
  have h6 := H.2.1
  unfold wpX_place wpY_place
  dsimp only
  rcases bw_bell v1 h6 with hb | ⟨y, hy1, hy2, rfl⟩
  · exact xr_bell0 hb (br_t rfl (yr_bell0 hb (br_f bw_10 ⟨rfl, bw_mk H hc ht⟩)))
  · refine xr_bell1 h6 hy1 hy2 (br_f bw_10 ?_)
    rcases bw_rn v2 (e := c * s) (by omega) with h | ⟨q, hq, rfl⟩
    · exact xr_rn0 (by omega) h (br_t rfl (yr_bell1 h6 hy1 hy2 (br_t rfl (yr_write H (bw_tc3 t) hc (bw_tcE ht) (fun B' R' _ _ => yr_find0 (by omega) h (br_t rfl ⟨rfl, bw_mk H hc ht⟩))))))
    · have hP := bw_gsP H (bw_tc3 t) q
      obtain ⟨w, hw, hwy⟩ := bw_PmF hP hy1 hy2
      refine xr_rn1 (by omega) hq (br_f bw_10 (xr_touch H (bw_tc3 t) hc (bw_tcE ht) (fun B' R' _ hR => ⟨vp_in_nI (by omega) (by omega), ?_⟩)))
      dsimp only
      rw [nI_clamp (by omega), hR q hq]
      refine xr_plc h6 hP hw hwy ?_
      refine yr_bell1 h6 hy1 hy2 (br_t rfl (yr_write H (bw_tc3 t) hc (bw_tcE ht) (fun B2 R2 _ hR2 => yr_find1 (by omega) hq ?_)))
      dsimp only
      rw [hR2 q hq]
      exact br_f (bw_n4 (bw_cdL h6 (bw_PmL hP) (Nat.le_refl _))) (yr_plc h6 hP hw hwy ⟨rfl, bw_mk H hc ht⟩)
theorem i_vc_isTrue {k : Nat} {u : SX} {v : SY} (I : i_Rel k u v) (hk : k + 3 ≤ 1537) : wpX_isTrue (fun r u' => wpY_isTrue (fun r' v' => r' = r ∧ i_Rel (k + 3) u' v') v) u := by
  obtain ⟨N, s, c, m, cl, t, RX, BX, BY, RY, l, H, hc, ht, rfl, rfl⟩ := I
  have he := bw_e H hc
  unfold wpX_isTrue wpY_isTrue
  dsimp only
  refine xr_touch H (bw_tc3 t) hc (bw_tcE ht) (fun B' R' _ hR => ?_)
  dsimp only
  refine xr_last (xr_rep (by omega) (fun h => br_f bw_10 ?_) (fun h => br_t rfl ?_))
  · refine yr_write H (bw_tc3 t) hc (bw_tcE ht) (fun B2 R2 _ hR2 => ?_)
    dsimp only
    refine yr_cd (by omega) (br_f ?_ ⟨rfl, bw_mk H hc ht⟩)
    rw [bw_ctR (F := R') (fun q _ h2 => by rw [hR q h2, hR2 q h2]), nI_eq (by omega) (by omega)]
    omega
  · refine yr_write H (bw_tc3 t) hc (bw_tcE ht) (fun B2 R2 _ hR2 => ?_)
    dsimp only
    refine yr_cd (by omega) (br_t ?_ ⟨rfl, bw_mk H hc ht⟩)
    rw [bw_ctR (F := R') (fun q _ h2 => by rw [hR q h2, hR2 q h2]), h]
theorem i_vc_different {k : Nat} {u : SX} {v : SY} (I : i_Rel k u v) (hk : k + 3 ≤ 1537) : wpX_different (fun r u' => wpY_different (fun r' v' => r' = r ∧ i_Rel (k + 3) u' v') v) u := by
  obtain ⟨N, s, c, m, cl, t, RX, BX, BY, RY, l, H, hc, ht, rfl, rfl⟩ := I
  have he := bw_e H hc
  unfold wpX_different wpY_different
  dsimp only
  refine xr_touch H (bw_tc3 t) hc (bw_tcE ht) (fun B' R' _ hR => ?_)
  dsimp only
  refine xr_last ⟨c * s + 1, xr_difL (by omega) ?_ (c * s) 0 (by omega)⟩
  refine yr_write H (bw_tc3 t) hc (bw_tcE ht) (fun B2 R2 _ hR2 => ?_)
  dsimp only
  refine yr_cd (by omega) ⟨?_, bw_mk H hc ht⟩
  rw [bw_ctR (F := R') (fun q _ h2 => by rw [hR q h2, hR2 q h2])]
theorem i_vc_falsePairs {k : Nat} {u : SX} {v : SY} (I : i_Rel k u v) (hk : k + 3 ≤ 1537) : wpX_falsePairs (fun r u' => wpY_falsePairs (fun r' v' => r' = r ∧ i_Rel (k + 3) u' v') v) u := by
  obtain ⟨N, s, c, m, cl, t, RX, BX, BY, RY, l, H, hc, ht, rfl, rfl⟩ := I
  have h12 := H.2.2.2.1
  unfold wpX_falsePairs wpY_falsePairs
  dsimp only
  have hY : ∀ (R' B' : Nat → Int32), wpY_write (fun v => ∃ n8 : Nat, wY_falsePairs_8 (fun r' v' => r' = nI (bw_sm (fun b => bw_sm (fun a => bw_S s (bw_F N s m cl (bw_tc t)) a b) b) c) ∧ i_Rel (k + 3) (nI N, nI s, nI c, m, cl, t, R', B') v') v.1 v.2.1 v.2.2.1 v.2.2.2.1 v.2.2.2.2.1 v.2.2.2.2.2.1 v.2.2.2.2.2.2.1 v.2.2.2.2.2.2.2.1 v.2.2.2.2.2.2.2.2 n8 0 0) (nI N, nI s, nI c, l, m, cl, t, BY, RY) := by
    intro R' B'
    refine yr_write H (bw_tc3 t) hc (bw_tcE ht) (fun B2 R2 _ hR2 => ⟨c + 1, yr_fpL h12 hc hR2 ⟨?_, bw_mk H hc ht⟩ c 0 (by omega)⟩)
    rw [bw_swap]
  refine xr_touch H (bw_tc3 t) hc (bw_tcE ht) (fun B' R' _ hR => ?_)
  by_cases hc0 : c = 0
  · subst hc0
    exact ⟨1, br_t (nI_le (a := 0) (b := 1) (by decide) (by decide)) (hY R' B')⟩
  · exact ⟨c - 1 + 1, xr_fpL h12 hc hR (hY R' B') (c - 1) 1 (by omega)⟩
theorem i_vc_falseAlone {k : Nat} {u : SX} {v : SY} (I : i_Rel k u v) (hk : k + 3 ≤ 1537) (v1 : Int32) : wpX_falseAlone (fun r u' => wpY_falseAlone (fun r' v' => r' = r ∧ i_Rel (k + 3) u' v') v v1) u v1 := by
  obtain ⟨N, s, c, m, cl, t, RX, BX, BY, RY, l, H, hc, ht, rfl, rfl⟩ := I
  have h6 := H.2.1
  have h12 := H.2.2.2.1
  unfold wpX_falseAlone wpY_falseAlone
  dsimp only
  rcases bw_call v1 with h | ⟨y, hy, rfl⟩
  · exact xr_call0 h (br_t rfl (yr_call0 h (br_f bw_10 ⟨rfl, bw_mk H hc ht⟩)))
  · have hg : ∀ j, j < s → bw_gs N s m cl (fun _ => y) (0 * s + (j + 1)) = fun q => bw_gs N s m cl (fun _ => y) (0 * s + j) (bw_sg N (bw_st s m cl y j) q) := fun j hj => bw_gsS (i := 0) hj
    refine xr_call1 hy (br_f bw_10 (xr_start h6 (fun B1 hB1 => ?_)))
    refine xr_lead (rb := 0) (gs := fun j => bw_gs N s m cl (fun _ => y) (0 * s + j)) H hy (by omega) hg (by dsimp only; rw [Nat.zero_mul]; exact hB1) (fun B2 R2 _ _ hR => ?_)
    have hY : ∀ post : SY → Prop, (∀ B' R', (∀ q, q < s → R' (0 + 1 + q) = nI (bw_cd (bw_gs N s m cl (fun _ => y) (0 * s + (q + 1))) N)) → post (nI N, nI s, nI c, nI (0 + s), m, cl, t, B', R')) → wpY_round (fun v => wpY_ring post (v.1, v.2.1, v.2.2.1, 0, v.2.2.2.2.1, v.2.2.2.2.2.1, v.2.2.2.2.2.2.1, v.2.2.2.2.2.2.2.1, v.2.2.2.2.2.2.2.2) (nI y)) (nI N, nI s, nI c, l, m, cl, t, BY, RY) := by
      intro post hp
      refine yr_round h6 (fun B3 hB3 => ?_)
      exact yr_lead (rb := 0) (gs := fun j => bw_gs N s m cl (fun _ => y) (0 * s + j)) H hy (by omega) hg (by dsimp only; rw [Nat.zero_mul]; exact hB3) (fun B' R' _ _ h => hp B' R' h)
    have hE : ∀ R' : Nat → Int32, (∀ q, q < s → R' (0 + 1 + q) = nI (bw_cd (bw_gs N s m cl (fun _ => y) (0 * s + (q + 1))) N)) → bw_ct (bw_fr R') (0 + s) = bw_ct (bw_fr R2) s := by
      intro R' h
      rw [Nat.zero_add]
      refine bw_ctR (fun q h1 h2 => ?_)
      have e1 := h (q - 1) (by omega)
      have e2 := hR (q - 1) (by omega)
      rw [show 0 + 1 + (q - 1) = q from by omega] at e1 e2
      rw [e1, e2]
    refine xr_rep (by omega) (fun h => br_f bw_10 ?_) (fun h => br_t rfl ?_)
    · refine yr_call1 hy (br_t rfl (hY _ (fun B' R' hR' => yr_cd (by omega) (br_f ?_ ⟨rfl, bw_mk H hc ht⟩))))
      rw [hE R' hR']
      exact nI_ge h (by omega)
    · refine yr_call1 hy (br_t rfl (hY _ (fun B' R' hR' => yr_cd (by omega) (br_t ?_ ⟨rfl, bw_mk H hc ht⟩))))
      rw [hE R' hR', h]
      exact nI_le (Nat.le_refl _) (by omega)
theorem i_vc_home {k : Nat} {u : SX} {v : SY} (I : i_Rel k u v) (hk : k + 3 ≤ 1537) : wpX_home (fun r u' => wpY_home (fun r' v' => r' = r ∧ i_Rel (k + 3) u' v') v) u := by
  obtain ⟨N, s, c, m, cl, t, RX, BX, BY, RY, l, H, hc, ht, rfl, rfl⟩ := I
  have he := bw_e H hc
  unfold wpX_home wpY_home
  dsimp only
  refine xr_touch H (bw_tc3 t) hc (bw_tcE ht) (fun B' R' _ hR => ?_)
  dsimp only
  refine xr_last ⟨vp_in_nI (by omega) (by omega), ?_⟩
  rw [nI_clamp (by omega), hR (c * s) (by omega), hR 0 (by omega)]
  refine br_c (fun h => ?_) (fun h => ?_)
  · refine yr_write H (bw_tc3 t) hc (bw_tcE ht) (fun B2 R2 _ hR2 => ?_)
    dsimp only
    refine ⟨vp_in_nI (by omega) (by omega), br_t ?_ ⟨rfl, bw_mk H hc ht⟩⟩
    rw [nI_clamp (by omega), hR2 (c * s) (by omega), hR2 0 (by omega)]; exact h
  · refine yr_write H (bw_tc3 t) hc (bw_tcE ht) (fun B2 R2 _ hR2 => ?_)
    dsimp only
    refine ⟨vp_in_nI (by omega) (by omega), br_f ?_ ⟨rfl, bw_mk H hc ht⟩⟩
    rw [nI_clamp (by omega), hR2 (c * s) (by omega), hR2 0 (by omega)]; exact h
theorem i_vc_leads {k : Nat} {u : SX} {v : SY} (I : i_Rel k u v) (hk : k + 3 ≤ 1537) (v1 : Int32) : wpX_leads (fun r u' => wpY_leads (fun r' v' => r' = r ∧ i_Rel (k + 3) u' v') v v1) u v1 := by
  obtain ⟨N, s, c, m, cl, t, RX, BX, BY, RY, l, H, hc, ht, rfl, rfl⟩ := I
  have he := bw_e H hc
  have h6 := H.2.1
  have h3 := H.1
  unfold wpX_leads wpY_leads
  dsimp only
  rcases bw_bell v1 h6 with hb | ⟨y, hy1, hy2, rfl⟩
  · exact xr_bell0 hb (br_t rfl (yr_bell0 hb (br_f bw_10 ⟨rfl, bw_mk H hc ht⟩)))
  · have hP := bw_gsP H (bw_tc3 t)
    refine xr_bell1 h6 hy1 hy2 (br_f bw_10 (xr_touch H (bw_tc3 t) hc (bw_tcE ht) (fun B' R' _ hR => xr_last ⟨c * s + 1, xr_lsL h6 (by omega) hy1 hy2 hP hR ?_ (c * s) 0 (by omega)⟩)))
    refine yr_bell1 h6 hy1 hy2 (br_t rfl (yr_write H (bw_tc3 t) hc (bw_tcE ht) (fun B2 R2 _ hR2 => ⟨N - 1 + 1, yr_top (by omega) h6 ⟨c * s + 1, yr_lsL (by omega) h6 (by omega) hy1 hy2 hP hR2 ⟨rfl, bw_mk H hc ht⟩ (c * s) 0 (by omega)⟩ (N - 1) 0 (by omega)⟩)))
