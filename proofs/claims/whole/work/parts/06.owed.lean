/-- X remembers the kept ones of the changes of Y, in their order; values and forgotten numbers are the same -/
def i_Rel (k : Nat) (u : SX) (v : SY) : Prop :=
  ∃ (n T rc : Nat) (row val bef who num kept now lock gone cr vb cb cn : Nat → Int32),
    u = (nI rc, nI T, now, gone, cr, vb, cb, cn) ∧ v = (nI n, nI T, row, val, bef, who, num, kept, now, lock, gone) ∧
    4 * n ≤ k ∧ 4 * T ≤ k ∧ un_YI n T row val bef who num kept now lock gone ∧ un_XI n rc cr vb cb cn row bef who num kept
theorem i_up {k : Nat} {u : SX} {v : SY} (h : i_Rel k u v) : i_Rel (k + 4) u v := by
  obtain ⟨n, T, rc, row, val, bef, who, num, kept, now, lock, gone, cr, vb, cb, cn, e1, e2, hn, hT, Y, X⟩ := h
  exact ⟨n, T, rc, row, val, bef, who, num, kept, now, lock, gone, cr, vb, cb, cn, e1, e2, by omega, by omega, Y, X⟩
theorem i_vc0 : wpX_init (fun u => wpY_init (fun v => i_Rel 0 u v)) := by
  unfold wpX_init
  refine un_yi ?_
  intro lock h
  exact ⟨0, 0, 0, _, _, _, _, _, _, _, lock, _, _, _, _, _, rfl, rfl, Nat.le_refl _, Nat.le_refl _, un_YI0 h, rfl, by omega, fun c hc => absurd hc (Nat.not_lt_zero c)⟩
theorem i_vc_change {k : Nat} {u : SX} {v : SY} (I : i_Rel k u v) (hk : k + 4 ≤ 2048) (v1 : Int32) (v2 : Int32) (v3 : Int32) : wpX_change (fun r u' => wpY_change (fun r' v' => r' = r ∧ i_Rel (k + 4) u' v') v v1 v2 v3) u v1 v2 v3 := by
  have up := i_up I
  obtain ⟨n, T, rc, row, val, bef, who, num, kept, now, lock, gone, cr, vb, cb, cn, rfl, rfl, hn, hT, Y, X⟩ := I
  rcases pk_ix v1 (n := 4) (by decide) with q | q | ⟨j, hj, rfl⟩
  · exact un_XC1 (Or.inl q) (un_YC1 (Or.inl q) ⟨rfl, up⟩)
  · exact un_XC1 (Or.inr q) (un_YC1 (Or.inr q) ⟨rfl, up⟩)
  rcases pk_ix v2 (n := 8) (by decide) with q | q | ⟨r, hr, rfl⟩
  · exact un_XC2 hj (Or.inl q) (un_YC2 hj (Or.inl q) ⟨rfl, up⟩)
  · exact un_XC2 hj (Or.inr q) (un_YC2 hj (Or.inr q) ⟨rfl, up⟩)
  by_cases hl : lock r = -4 ∨ lock r = nI j
  · refine un_XC4 Y X hj hr hl ?_
    by_cases h24 : rc < 24
    · refine un_x41a h24 hr (un_YC4 hj hr hl (un_y42a (by omega) (by rw [← X.1]; exact h24) (un_y152 (by omega) hr ⟨rfl, ?_⟩)))
      exact ⟨n + 1, T, rc + 1, _, _, _, _, _, _, _, _, _, _, _, _, _, rfl, rfl, by omega, by omega, un_Ychange Y v3 hr hj hl, un_Xchange X h24 _ _ _ _⟩
    · have e24 : rc = 24 := by have := X.2.1; omega
      subst e24
      have hq : 24 ≤ un_q kept n := by rw [← X.1]; exact Nat.le_refl _
      obtain ⟨c0, h0, hk0, hf, q0⟩ := un_q_first (kept := kept) (n := n) (by omega)
      obtain ⟨r0, hr0, er0⟩ := Y.1 c0 h0
      have at0 := X.2.2 c0 h0 hk0
      rw [q0] at at0
      obtain ⟨a1, a2, a3, a4⟩ := at0
      by_cases z : num c0 = 0
      · exact un_x41b (a4.trans z) (un_YC4 hj hr hl (un_y42b (by omega) hq h0 hk0 hf z ⟨rfl, up⟩))
      · have z2 : ¬ (num c0).toInt = 0 := fun a => z (un_z.mpr a)
        have pos := Y.2.2.2.2.1 c0 h0 hk0
        have hg := Y.2.2.2.2.2.2.2.2.2.1 c0 r0 h0 hk0 (by omega) er0 hr0
        have hcr : (cr 0).toNatClampNeg = r0 := by rw [a1, er0]; exact nI_clamp (by omega)
        refine un_x41c hr (by rw [a4]; exact z) (by rw [a1, er0]; exact vp_in_nI hr0 (by decide)) ?_
        intro cr' vb' cb' cn' hs
        refine un_YC4 hj hr hl (un_y42c (by omega) hq h0 hk0 hf z er0 hr0 hg (un_y152 (by omega) hr ⟨rfl, ?_⟩))
        rw [hcr, a4]
        have Y2 := un_Yforget Y h0 hk0 hf z2 er0 hr0
        have X2 := un_Xforget (q := 23) X h0 hk0 hf hs
        exact ⟨n + 1, T, 24, _, _, _, _, _, _, _, _, _, _, _, _, _, rfl, rfl, by omega, by omega, un_Ychange Y2 v3 hr hj hl, un_Xchange X2 (by omega) _ _ _ _⟩
  · exact un_XC3 Y X hj hr hl (un_YC3 hj hr hl ⟨rfl, up⟩)
theorem i_vc_commit {k : Nat} {u : SX} {v : SY} (I : i_Rel k u v) (hk : k + 4 ≤ 2048) (v1 : Int32) : wpX_commit (fun r u' => wpY_commit (fun r' v' => r' = r ∧ i_Rel (k + 4) u' v') v v1) u v1 := by
  have up := i_up I
  obtain ⟨n, T, rc, row, val, bef, who, num, kept, now, lock, gone, cr, vb, cb, cn, rfl, rfl, hn, hT, Y, X⟩ := I
  have cl := un_cl Y X v1
  unfold wpX_commit wpY_commit
  dsimp only
  refine un_xc X.2.1 ?_
  by_cases hx : v1 < 0 ∨ nI 4 ≤ v1
  · rw [cl, un_c_0 n (un_nos Y hx)]
    exact br_t nI_0 (un_yc0 hx (by omega) (br_t rfl ⟨rfl, up⟩))
  · obtain ⟨j, hj, rfl⟩ : ∃ j : Nat, j < 4 ∧ v1 = nI j := by
      rcases pk_ix v1 (n := 4) (by decide) with q | q | q
      · exact absurd (Or.inl q) hx
      · exact absurd (Or.inr q) hx
      · exact q
    have cln := un_c_n (nI j) who num n
    rw [cl]
    by_cases z : un_c (nI j) who num n = 0
    · rw [z]
      exact br_t nI_0 (un_yc hj (by omega) (by rw [z]; exact br_t nI_0 ⟨rfl, up⟩))
    · have z2 : ¬ nI (un_c (nI j) who num n) = 0 := nI_ne0 (by omega) (by omega)
      refine br_f z2 (nm_r (nI_1 T) (un_xcm X.2.1 ?_))
      intro cn' hc'
      refine un_yc hj (by omega) (br_f z2 (nm_r (nI_1 T) (un_ycm (by omega) ?_)))
      intro num' lock' h1 h2
      exact ⟨rfl, n, T + 1, rc, _, _, _, _, _, _, _, _, _, _, _, _, _, rfl, rfl, by omega, by omega, un_Ycommit Y hj (by omega) h1 h2, un_Xcommit X h1 hc'⟩
theorem i_vc_rollback {k : Nat} {u : SX} {v : SY} (I : i_Rel k u v) (hk : k + 4 ≤ 2048) (v1 : Int32) : wpX_rollback (fun r u' => wpY_rollback (fun r' v' => r' = r ∧ i_Rel (k + 4) u' v') v v1) u v1 := by
  have up := i_up I
  obtain ⟨n, T, rc, row, val, bef, who, num, kept, now, lock, gone, cr, vb, cb, cn, rfl, rfl, hn, hT, Y, X⟩ := I
  have cl := un_cl Y X v1
  unfold wpX_rollback wpY_rollback
  dsimp only
  refine un_xc X.2.1 ?_
  by_cases hx : v1 < 0 ∨ nI 4 ≤ v1
  · rw [cl, un_c_0 n (un_nos Y hx)]
    exact br_t nI_0 (un_yc0 hx (by omega) (br_t rfl ⟨rfl, up⟩))
  · obtain ⟨j, hj, rfl⟩ : ∃ j : Nat, j < 4 ∧ v1 = nI j := by
      rcases pk_ix v1 (n := 4) (by decide) with q | q | q
      · exact absurd (Or.inl q) hx
      · exact absurd (Or.inr q) hx
      · exact q
    have cln := un_c_n (nI j) who num n
    rw [cl]
    by_cases z : un_c (nI j) who num n = 0
    · rw [z]
      exact br_t nI_0 (un_yc hj (by omega) (by rw [z]; exact br_t nI_0 ⟨rfl, up⟩))
    · have z2 : ¬ nI (un_c (nI j) who num n) = 0 := nI_ne0 (by omega) (by omega)
      have hK : ∀ c, c < n → num c = 0 → ¬ kept c = 0 := fun c hc z => Y.2.2.2.1 c hc (un_z.mp z)
      refine br_f z2 (un_xr X.2.1 (un_vin (un_xrow Y X)) ?_)
      dsimp only
      refine un_xd X.2.1 ?_
      intro cr' vb' cb' cn' hs
      dsimp only
      refine un_yc hj (by omega) (br_f z2 (nm_e (un_yrb (by omega) (un_vin Y.1) ?_)))
      intro num' kept' lock' h1 h3 h2
      have e : un_rs (nI j) cr vb cb cn rc now = un_rs (nI j) row bef who num n now := by
        rw [X.1]
        exact un_rs_link hK X.2.2 n (Nat.le_refl _) now
      rw [e]
      exact ⟨rfl, n, T, _, _, _, _, _, _, _, _, _, _, _, _, _, _, rfl, rfl, by omega, by omega, un_Yrollback Y hj h1 h3 h2, un_Xrollback X hK h1 h3 hs⟩
theorem i_vc_clock {k : Nat} {u : SX} {v : SY} (I : i_Rel k u v) (hk : k + 4 ≤ 2048) : wpX_clock (fun r => wpY_clock (fun r' => r' = r ∧ i_Rel (k + 4) u v) v) u := by
  have up := i_up I
  obtain ⟨n, T, rc, row, val, bef, who, num, kept, now, lock, gone, cr, vb, cb, cn, rfl, rfl, hn, hT, Y, X⟩ := I
  unfold wpX_clock wpY_clock
  exact ⟨rfl, up⟩
theorem i_vc_read {k : Nat} {u : SX} {v : SY} (I : i_Rel k u v) (hk : k + 4 ≤ 2048) (v1 : Int32) (v2 : Int32) (v3 : Int32) : wpX_read (fun r => wpY_read (fun r' => r' = r ∧ i_Rel (k + 4) u v) v v1 v2 v3) u v1 v2 v3 := by
  have up := i_up I
  obtain ⟨n, T, rc, row, val, bef, who, num, kept, now, lock, gone, cr, vb, cb, cn, rfl, rfl, hn, hT, Y, X⟩ := I
  unfold wpX_read wpY_read
  dsimp only
  rcases pk_ix v1 (n := 4) (by decide) with q | q | ⟨j, hj, rfl⟩
  · exact un_xS0 (Or.inl q) (br_t rfl (un_yS0 (Or.inl q) (br_t rfl ⟨rfl, up⟩)))
  · exact un_xS0 (Or.inr q) (br_t rfl (un_yS0 (Or.inr q) (br_t rfl ⟨rfl, up⟩)))
  rcases pk_ix v2 (n := 8) (by decide) with q | q | ⟨r, hr, rfl⟩
  · exact un_xS1 hj (br_f (by decide) (un_xR0 (Or.inl q) (br_t rfl (un_yS1 hj (br_f (by decide) (un_yR0 (Or.inl q) (br_t rfl ⟨rfl, up⟩)))))))
  · exact un_xS1 hj (br_f (by decide) (un_xR0 (Or.inr q) (br_t rfl (un_yS1 hj (br_f (by decide) (un_yR0 (Or.inr q) (br_t rfl ⟨rfl, up⟩)))))))
  have hcr : (nI r).toNatClampNeg = r := nI_clamp (by omega)
  have b : vp_in (nI r) 8 := vp_in_nI hr (by decide)
  rw [hcr]
  refine un_xS1 hj (br_f (by decide) (un_xR1 hr (br_f (by decide) (un_xmo ?_ ?_))))
  · intro q
    refine un_yS1 hj (br_f (by decide) (un_yR1 hr (br_f (by decide) ?_)))
    by_cases q0 : v3 < 0
    · exact br_t q0 ⟨rfl, up⟩
    · refine br_f q0 (br_f ?_ ⟨rfl, up⟩)
      have q1 := q.resolve_left q0
      rw [un_lt] at q1
      rw [un_le]
      omega
  · intro q0 q1
    have q2 : v3 ≤ nI T := by
      rw [un_lt] at q1
      rw [un_le]
      omega
    refine un_hold Y X hr ?_
    by_cases z : lock r = nI j
    · exact br_t z ⟨b, un_yS1 hj (br_f (by decide) (un_yR1 hr (br_f (by decide) (br_f q0 (br_t q2 ⟨b, br_t z ⟨b, rfl, up⟩⟩)))))⟩
    · refine br_f z (un_xto hr ?_ ?_)
      · intro g
        exact un_cv Y X hr (un_le.mp g) (un_yS1 hj (br_f (by decide) (un_yR1 hr (br_f (by decide) (br_f q0 (br_t q2 ⟨b, br_f z ⟨b, br_t g (un_yv (by omega) ⟨rfl, up⟩)⟩⟩))))))
      · intro g
        exact un_yS1 hj (br_f (by decide) (un_yR1 hr (br_f (by decide) (br_f q0 (br_t q2 ⟨b, br_f z ⟨b, br_f g ⟨rfl, up⟩⟩⟩)))))
theorem i_vc_raw {k : Nat} {u : SX} {v : SY} (I : i_Rel k u v) (hk : k + 4 ≤ 2048) (v1 : Int32) : wpX_raw (fun r => wpY_raw (fun r' => r' = r ∧ i_Rel (k + 4) u v) v v1) u v1 := by
  have up := i_up I
  obtain ⟨n, T, rc, row, val, bef, who, num, kept, now, lock, gone, cr, vb, cb, cn, rfl, rfl, hn, hT, Y, X⟩ := I
  unfold wpX_raw wpY_raw
  dsimp only
  rcases pk_ix v1 (n := 8) (by decide) with q | q | ⟨r, hr, rfl⟩
  · exact un_xR0 (Or.inl q) (br_t rfl (un_yR0 (Or.inl q) (br_t rfl ⟨rfl, up⟩)))
  · exact un_xR0 (Or.inr q) (br_t rfl (un_yR0 (Or.inr q) (br_t rfl ⟨rfl, up⟩)))
  · have b : vp_in (nI r) 8 := vp_in_nI hr (by decide)
    exact un_xR1 hr (br_f (by decide) ⟨b, un_yR1 hr (br_f (by decide) ⟨b, rfl, up⟩)⟩)
theorem i_vc_holder {k : Nat} {u : SX} {v : SY} (I : i_Rel k u v) (hk : k + 4 ≤ 2048) (v1 : Int32) : wpX_holder (fun r => wpY_holder (fun r' => r' = r ∧ i_Rel (k + 4) u v) v v1) u v1 := by
  have up := i_up I
  obtain ⟨n, T, rc, row, val, bef, who, num, kept, now, lock, gone, cr, vb, cb, cn, rfl, rfl, hn, hT, Y, X⟩ := I
  unfold wpY_holder
  dsimp only
  rcases pk_ix v1 (n := 8) (by decide) with q | q | ⟨r, hr, rfl⟩
  · exact un_hold0 Y X (Or.inl q) (un_yR0 (Or.inl q) (br_t rfl ⟨rfl, up⟩))
  · exact un_hold0 Y X (Or.inr q) (un_yR0 (Or.inr q) (br_t rfl ⟨rfl, up⟩))
  · have hcr : (nI r).toNatClampNeg = r := nI_clamp (by omega)
    have b : vp_in (nI r) 8 := vp_in_nI hr (by decide)
    rw [hcr]
    exact un_hold Y X hr (un_yR1 hr (br_f (by decide) ⟨b, rfl, up⟩))
theorem i_vc_locks {k : Nat} {u : SX} {v : SY} (I : i_Rel k u v) (hk : k + 4 ≤ 2048) (v1 : Int32) : wpX_locks (fun r => wpY_locks (fun r' => r' = r ∧ i_Rel (k + 4) u v) v v1) u v1 := by
  have up := i_up I
  obtain ⟨n, T, rc, row, val, bef, who, num, kept, now, lock, gone, cr, vb, cb, cn, rfl, rfl, hn, hT, Y, X⟩ := I
  refine un_xl X.2.1 (un_xrow Y X) ?_
  intro res hX
  by_cases hx : v1 < 0 ∨ nI 4 ≤ v1
  · have e : 0 = res := by
      refine un_bext ?_
      intro b hb
      rw [b_0, hX b hb]
      constructor
      · intro t; exact absurd t (by decide)
      · intro t
        obtain ⟨i, i1, i2, i3, i4⟩ := t
        obtain ⟨c, h1, h2, h3, h4, h5, h6, h7⟩ := un_XI_at X i1
        exact absurd (h6.symm.trans i3) (un_nos Y hx c h1)
    exact un_yl0 hx ⟨e, up⟩
  · obtain ⟨j, hj, rfl⟩ : ∃ j : Nat, j < 4 ∧ v1 = nI j := by
      rcases pk_ix v1 (n := 4) (by decide) with q | q | q
      · exact absurd (Or.inl q) hx
      · exact absurd (Or.inr q) hx
      · exact q
    refine un_yl hj ?_
    intro res' hY
    refine ⟨un_bext ?_, up⟩
    intro b hb
    rw [hX b hb, hY b hb]
    constructor
    · intro t
      rcases Y.2.2.2.2.2.2.2.1 b t.1 with p | ⟨c, c1, c2, c3, c4⟩
      · exact absurd (t.2.symm.trans p) (un_m4 hj)
      · have kc := Y.2.2.2.1 c c1 c3
        obtain ⟨e1, e2, e3, e4⟩ := X.2.2 c c1 kc
        exact ⟨un_q kept c, by rw [X.1]; exact un_q_lt c1 kc, e4.trans (un_z.mpr c3), (e3.trans c4).trans t.2, e1.trans c2⟩
    · intro t
      obtain ⟨i, i1, i2, i3, i4⟩ := t
      obtain ⟨c, h1, h2, h3, h4, h5, h6, h7⟩ := un_XI_at X i1
      obtain ⟨r, hr, er⟩ := Y.1 c h1
      have eb : b = r := (nI_eq (by omega) (by omega)).mp (i4.symm.trans (h4.trans er))
      have l := Y.2.2.2.2.2.2.1 c r h1 (un_z.mp (h7.symm.trans i2)) er hr
      rw [eb]
      exact ⟨hr, l.trans (h6.symm.trans i3)⟩
theorem i_vc_remembered {k : Nat} {u : SX} {v : SY} (I : i_Rel k u v) (hk : k + 4 ≤ 2048) : wpX_remembered (fun r => wpY_remembered (fun r' => r' = r ∧ i_Rel (k + 4) u v) v) u := by
  have up := i_up I
  obtain ⟨n, T, rc, row, val, bef, who, num, kept, now, lock, gone, cr, vb, cb, cn, rfl, rfl, hn, hT, Y, X⟩ := I
  unfold wpX_remembered
  dsimp only
  exact un_yrm (by omega) ⟨by rw [← X.1], up⟩
theorem i_vc_changes {k : Nat} {u : SX} {v : SY} (I : i_Rel k u v) (hk : k + 4 ≤ 2048) (v1 : Int32) : wpX_changes (fun r => wpY_changes (fun r' => r' = r ∧ i_Rel (k + 4) u v) v v1) u v1 := by
  have up := i_up I
  obtain ⟨n, T, rc, row, val, bef, who, num, kept, now, lock, gone, cr, vb, cb, cn, rfl, rfl, hn, hT, Y, X⟩ := I
  have cl := un_cl Y X v1
  refine un_xc X.2.1 ?_
  by_cases hx : v1 < 0 ∨ nI 4 ≤ v1
  · rw [cl, un_c_0 n (un_nos Y hx)]
    exact un_yc0 hx (by omega) ⟨nI_0.symm, up⟩
  · obtain ⟨j, hj, rfl⟩ : ∃ j : Nat, j < 4 ∧ v1 = nI j := by
      rcases pk_ix v1 (n := 4) (by decide) with q | q | q
      · exact absurd (Or.inl q) hx
      · exact absurd (Or.inr q) hx
      · exact q
    exact un_yc hj (by omega) ⟨by rw [cl], up⟩
theorem i_vc_oldest {k : Nat} {u : SX} {v : SY} (I : i_Rel k u v) (hk : k + 4 ≤ 2048) (v1 : Int32) : wpX_oldest (fun r => wpY_oldest (fun r' => r' = r ∧ i_Rel (k + 4) u v) v v1) u v1 := by
  have up := i_up I
  obtain ⟨n, T, rc, row, val, bef, who, num, kept, now, lock, gone, cr, vb, cb, cn, rfl, rfl, hn, hT, Y, X⟩ := I
  unfold wpX_oldest wpY_oldest
  dsimp only
  rcases pk_ix v1 (n := 8) (by decide) with q | q | ⟨r, hr, rfl⟩
  · exact un_xR0 (Or.inl q) (br_t rfl (un_yR0 (Or.inl q) (br_t rfl ⟨rfl, up⟩)))
  · exact un_xR0 (Or.inr q) (br_t rfl (un_yR0 (Or.inr q) (br_t rfl ⟨rfl, up⟩)))
  · have b : vp_in (nI r) 8 := vp_in_nI hr (by decide)
    exact un_xR1 hr (br_f (by decide) ⟨b, un_yR1 hr (br_f (by decide) ⟨b, rfl, up⟩)⟩)
theorem i_vc_changedSince {k : Nat} {u : SX} {v : SY} (I : i_Rel k u v) (hk : k + 4 ≤ 2048) (v1 : Int32) : wpX_changedSince (fun r => wpY_changedSince (fun r' => r' = r ∧ i_Rel (k + 4) u v) v v1) u v1 := by
  have up := i_up I
  obtain ⟨n, T, rc, row, val, bef, who, num, kept, now, lock, gone, cr, vb, cb, cn, rfl, rfl, hn, hT, Y, X⟩ := I
  unfold wpX_changedSince wpY_changedSince
  dsimp only
  refine un_xmo ?_ ?_
  · intro q
    refine ⟨1, br_f (by decide) ?_⟩
    by_cases q0 : v1 < 0
    · exact br_t q0 ⟨rfl, up⟩
    · exact br_f q0 (br_t (q.resolve_left q0) ⟨rfl, up⟩)
  · intro q0 q1
    obtain ⟨res, hX, hY⟩ := un_cs Y X (by omega) (by omega) q0 q1 8 0 0 rfl
    exact ⟨9, hX _ ⟨9, hY _ ⟨rfl, up⟩⟩⟩
