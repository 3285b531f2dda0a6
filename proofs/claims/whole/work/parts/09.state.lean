/-! drop, lead, back, turn, last -/
def bw_dr (m : Nat → Int32) : Nat → (Nat → Int32)
  | 0 => m
  | i + 1 => upd (bw_dr m i) i (bw_dr m i (i + 1))
theorem bw_drV (m : Nat → Int32) : ∀ i q, bw_dr m i q = if q < i then m (q + 1) else m q := by
  intro i
  induction i with
  | zero => intro q; rw [if_neg (Nat.not_lt_zero _)]; rfl
  | succ i ih =>
    intro q
    rw [bw_dr]
    by_cases e : q = i
    · subst e
      rw [pk_us, ih, if_neg (by omega), if_pos (by omega)]
    · rw [pk_un e, ih]
      by_cases h : q < i
      · rw [if_pos h, if_pos (by omega)]
      · rw [if_neg h, if_neg (by omega)]
section
variable {s : Nat} {x fb fc fl : Int32} {m cl t R B : Nat → Int32}
theorem xr_drL {post : Int32 → SX → Prop} (hs : s ≤ 12) (hp : post x (fb, nI (s - 1), fl, bw_dr m (s - 1), cl, t, R, B)) : ∀ k i, i + 1 + k = s → wX_drop_20 post x fb (nI s) fl (k + 1) (nI (i + 1)) (bw_dr m i) cl t R B := by
  intro k
  induction k with
  | zero =>
    intro i h
    obtain rfl : s = i + 1 := by omega
    exact br_t (nI_le (by omega) (by omega)) (nm_r (nI_pred i) hp)
  | succ k ih =>
    intro i h
    refine br_f (nI_ge (by omega) (by omega)) ⟨vp_in_nI (by omega) (by omega), ?_⟩
    rw [nI_pred]
    refine ⟨vp_in_nI (by omega) (by omega), nm_r (e' := bw_dr m (i + 1)) ?_ (nm_r (nI_1 _) (ih (i + 1) (by omega)))⟩
    rw [nI_clamp (by omega), nI_clamp (by omega)]
    rfl
theorem yr_drL {post : Int32 → SY → Prop} (hs : s < 12) (hp : post x (fb, nI s, fc, fl, bw_dr m s, cl, t, B, R)) : ∀ k i, i + k = s → wY_drop_30 post x fb (nI s) fc fl (k + 1) (nI i) (bw_dr m i) cl t B R := by
  intro k
  induction k with
  | zero =>
    intro i h
    obtain rfl : s = i := by omega
    exact br_t (nI_le (by omega) (by omega)) hp
  | succ k ih =>
    intro i h
    refine br_f (nI_ge (by omega) (by omega)) ?_
    rw [nI_1 i]
    refine ⟨vp_in_nI (by omega) (by omega), vp_in_nI (by omega) (by omega), nm_r (e' := bw_dr m (i + 1)) ?_ (nm_e (ih (i + 1) (by omega)))⟩
    rw [nI_clamp (by omega), nI_clamp (by omega)]
    rfl
theorem xr_tuL {post : Int32 → SX → Prop} {c : Nat} (h0 : 0 < c) (hc : c ≤ 20) (hp : post x (fb, fc, nI c, m, cl, upd (bw_dr t (c - 1)) (c - 1) x, R, B)) : ∀ k i, i + 1 + k = c → wX_turn_19 post x fb fc (nI c) (k + 1) (nI (i + 1)) m cl (bw_dr t i) R B := by
  intro k
  induction k with
  | zero =>
    intro i h
    obtain rfl : c = i + 1 := by omega
    refine br_t (nI_le (by omega) (by omega)) ?_
    rw [nI_pred]
    exact ⟨vp_in_nI (by omega) (by omega), nm_r (by rw [nI_clamp (by omega)]; rfl) hp⟩
  | succ k ih =>
    intro i h
    refine br_f (nI_ge (by omega) (by omega)) ⟨vp_in_nI (by omega) (by omega), ?_⟩
    rw [nI_pred]
    refine ⟨vp_in_nI (by omega) (by omega), nm_r (e' := bw_dr t (i + 1)) ?_ (nm_r (nI_1 _) (ih (i + 1) (by omega)))⟩
    rw [nI_clamp (by omega), nI_clamp (by omega)]
    rfl
theorem yr_tuL {post : Int32 → SY → Prop} {c : Nat} (h0 : 0 < c) (hc : c ≤ 20) (hp : post x (fb, fc, nI c, fl, m, cl, upd (bw_dr t (c - 1)) (c - 1) x, B, R)) : ∀ k i, i + 1 + k = c → wY_turn_19 post x fb fc (nI c) fl (k + 1) (nI i) m cl (bw_dr t i) B R := by
  intro k
  have e : nI c - 1 = nI (c - 1) := pk_sub (b := 1) h0
  induction k with
  | zero =>
    intro i h
    obtain rfl : c = i + 1 := by omega
    refine br_t ?_ ?_
    · rw [e]; exact nI_le (by omega) (by omega)
    · rw [e]
      exact ⟨vp_in_nI (by omega) (by omega), nm_r (by rw [nI_clamp (by omega)]; rfl) hp⟩
  | succ k ih =>
    intro i h
    refine br_f ?_ ?_
    · rw [e]; exact nI_ge (by omega) (by omega)
    · rw [nI_1 i]
      refine ⟨vp_in_nI (by omega) (by omega), vp_in_nI (by omega) (by omega), nm_r (e' := bw_dr t (i + 1)) ?_ (nm_e (ih (i + 1) (by omega)))⟩
      rw [nI_clamp (by omega), nI_clamp (by omega)]
      rfl
theorem xr_call1 {post : Int32 → Prop} {y : Nat} (h : y < 3) (hp : post 1) : wpX_isCall post (nI y) :=
  br_f (nI_pos (by omega)) (br_f (nI_ge (b := 3) h (by decide)) hp)
theorem xr_call0 {post : Int32 → Prop} {y : Int32} (h : y < 0 ∨ nI 3 ≤ y) (hp : post 0) : wpX_isCall post y :=
  br_c (fun _ => hp) (fun h0 => br_t (h.resolve_left h0) hp)
theorem yr_call1 {post : Int32 → Prop} {v : SY} {y : Nat} (h : y < 3) (hp : post 0) : wpY_noCall post v (nI y) :=
  br_f (nI_pos (by omega)) (br_t (nI_le (b := 2) (by omega) (by decide)) hp)
theorem yr_call0 {post : Int32 → Prop} {v : SY} {y : Int32} (h : y < 0 ∨ nI 3 ≤ y) (hp : post 1) : wpY_noCall post v y :=
  br_c (fun _ => hp) (fun h0 => br_f (fun z => absurd (Int32.le_trans (h.resolve_left h0) z) (by decide)) hp)
theorem bw_call (y : Int32) : (y < 0 ∨ nI 3 ≤ y) ∨ ∃ x : Nat, x < 3 ∧ y = nI x := by
  rcases pk_ix y (n := 3) (by decide) with h | h | h
  · exact Or.inl (Or.inl h)
  · exact Or.inl (Or.inr h)
  · exact Or.inr h
end
theorem i_vc_drop {k : Nat} {u : SX} {v : SY} (I : i_Rel k u v) (hk : k + 3 ≤ 1537) : wpX_drop (fun r u' => wpY_drop (fun r' v' => r' = r ∧ i_Rel (k + 3) u' v') v) u := by
  obtain ⟨N, s, c, m, cl, t, RX, BX, BY, RY, l, H, hc, ht, rfl, rfl⟩ := I
  have h12 := H.2.2.2.1
  have h1 := H.2.2.1
  by_cases hs : s = 1
  · subst hs
    exact br_f (nI_nlt (a := 1) (b := 1) (by decide) (by decide)) (br_t rfl ⟨rfl, bw_mk H hc ht⟩)
  · refine br_t (nI_lt (a := 1) (by omega) (by omega)) (nm_e ⟨s, ?_⟩)
    have hx := xr_drL (post := fun r u' => wpY_drop (fun r' v' => r' = r ∧ i_Rel (k + 3) u' v') (nI N, nI s, nI c, l, m, cl, t, BY, RY)) (x := m 0) (fb := nI N) (fl := nI c) (m := m) (cl := cl) (t := t) (R := RX) (B := BX) h12 ?_ (s - 1) 0 (by omega)
    · rw [show s - 1 + 1 = s from by omega] at hx
      exact hx
    · have e : nI s - 1 = nI (s - 1) := pk_sub (b := 1) h1
      refine br_f (fun z => hs ((nI_eq (b := 1) (by omega) (by decide)).mp z)) (nm_e (nm_r e ⟨s - 1 + 1, yr_drL (by omega) ⟨rfl, bw_mk ?_ hc ht⟩ (s - 1) 0 (by omega)⟩))
      refine ⟨H.1, H.2.1, by omega, by omega, fun i hi => ?_, H.2.2.2.2.2⟩
      rw [bw_drV, if_pos hi]
      exact H.2.2.2.2.1 (i + 1) (by omega)
theorem i_vc_lead {k : Nat} {u : SX} {v : SY} (I : i_Rel k u v) (hk : k + 3 ≤ 1537) (v1 : Int32) : wpX_lead (fun r u' => wpY_lead (fun r' v' => r' = r ∧ i_Rel (k + 3) u' v') v v1) u v1 := by
  obtain ⟨N, s, c, m, cl, t, RX, BX, BY, RY, l, H, hc, ht, rfl, rfl⟩ := I
  unfold wpX_lead wpY_lead
  dsimp only
  rcases bw_call v1 with h | ⟨y, hy, rfl⟩
  · exact xr_call0 h (br_t rfl (yr_call0 h (br_f bw_10 ⟨rfl, bw_mk H hc ht⟩)))
  · refine xr_call1 hy (br_f bw_10 (pk_lt c 20 (fun h => ⟨vp_in_nI h (by omega), nm_r (e' := upd t c (nI y)) (by rw [nI_clamp (by omega)]) (nm_r (nI_1 c) ?_)⟩) (fun h => ?_)))
    · refine yr_call1 hy (br_t rfl (br_f ?_ ⟨vp_in_nI (by omega) (by omega), nm_r (e' := upd t c (nI y)) (by rw [nI_clamp (by omega)]) (nm_r (nI_1 c) ⟨rfl, bw_mk H (by omega) ?_⟩)⟩))
      · intro z
        exact absurd ((nI_eq (b := 20) (by omega) (by decide)).mp z) (by omega)
      · intro i hi
        by_cases e : i = c
        · subst e; exact ⟨y, hy, pk_us⟩
        · rw [pk_un e]; exact ht i (by omega)
    · obtain rfl : c = 20 := by omega
      exact yr_call1 hy (br_t rfl (br_t rfl ⟨rfl, bw_mk H hc ht⟩))
theorem i_vc_back {k : Nat} {u : SX} {v : SY} (I : i_Rel k u v) (hk : k + 3 ≤ 1537) : wpX_back (fun r u' => wpY_back (fun r' v' => r' = r ∧ i_Rel (k + 3) u' v') v) u := by
  obtain ⟨N, s, c, m, cl, t, RX, BX, BY, RY, l, H, hc, ht, rfl, rfl⟩ := I
  cases c with
  | zero => exact br_t rfl (br_t rfl ⟨rfl, bw_mk H hc ht⟩)
  | succ c =>
    have h0 := nI_ne0 (n := c + 1) (by omega) (by omega)
    refine br_f h0 (nm_r (nI_pred c) ⟨vp_in_nI (by omega) (by omega), br_f h0 (nm_r (nI_pred c) ⟨vp_in_nI (by omega) (by omega), rfl, bw_mk H (by omega) (fun i hi => ht i (by omega))⟩)⟩)
theorem i_vc_turn {k : Nat} {u : SX} {v : SY} (I : i_Rel k u v) (hk : k + 3 ≤ 1537) : wpX_turn (fun r u' => wpY_turn (fun r' v' => r' = r ∧ i_Rel (k + 3) u' v') v) u := by
  obtain ⟨N, s, c, m, cl, t, RX, BX, BY, RY, l, H, hc, ht, rfl, rfl⟩ := I
  by_cases hc0 : c = 0
  · subst hc0
    exact br_t rfl (br_t rfl ⟨rfl, bw_mk H hc ht⟩)
  · have h0 := nI_ne0 (n := c) (by omega) (by omega)
    have hy := yr_tuL (post := fun r' v' => r' = t 0 ∧ i_Rel (k + 3) (nI N, nI s, nI c, m, cl, upd (bw_dr t (c - 1)) (c - 1) (t 0), RX, BX) v') (x := t 0) (fb := nI N) (fc := nI s) (fl := l) (m := m) (cl := cl) (t := t) (R := RY) (B := BY) (by omega) hc ⟨rfl, bw_mk H hc (fun i hi => ?_)⟩ (c - 1) 0 (by omega)
    · have hx := xr_tuL (post := fun r u' => wpY_turn (fun r' v' => r' = r ∧ i_Rel (k + 3) u' v') (nI N, nI s, nI c, l, m, cl, t, BY, RY)) (x := t 0) (fb := nI N) (fc := nI s) (m := m) (cl := cl) (t := t) (R := RX) (B := BX) (by omega) hc (br_f h0 (nm_e ⟨_, hy⟩)) (c - 1) 0 (by omega)
      exact br_f h0 (nm_e ⟨_, hx⟩)
    · by_cases e : i = c - 1
      · subst e; rw [pk_us]; exact ht 0 (by omega)
      · rw [pk_un e, bw_drV, if_pos (by omega)]; exact ht (i + 1) (by omega)
theorem i_vc_last {k : Nat} {u : SX} {v : SY} (I : i_Rel k u v) (hk : k + 3 ≤ 1537) : wpX_last (fun r => wpY_last (fun r' => r' = r ∧ i_Rel (k + 3) u v) v) u := by
  obtain ⟨N, s, c, m, cl, t, RX, BX, BY, RY, l, H, hc, ht, rfl, rfl⟩ := I
  exact ⟨rfl, bw_mk H hc ht⟩
