theorem un_xS1 {post : Int32 → Prop} {u : SX} {j : Nat} (hj : j < 4) (h : post 1) : wpX_isSession post u (nI j) := by
  obtain ⟨a, b, c, d, e, f, g, i⟩ := u
  exact br_f (nI_pos (by omega)) (br_f (nI_ge (b := 4) hj (by decide)) h)
theorem un_xS0 {post : Int32 → Prop} {u : SX} {x : Int32} (hx : x < 0 ∨ nI 4 ≤ x) (h : post 0) : wpX_isSession post u x := by
  obtain ⟨a, b, c, d, e, f, g, i⟩ := u
  by_cases z : x < 0
  · exact br_t z h
  · exact br_f z (br_t (hx.resolve_left z) h)
theorem un_xR1 {post : Int32 → Prop} {u : SX} {j : Nat} (hj : j < 8) (h : post 1) : wpX_isRow post u (nI j) := by
  obtain ⟨a, b, c, d, e, f, g, i⟩ := u
  exact br_f (nI_pos (by omega)) (br_f (nI_ge (b := 8) hj (by decide)) h)
theorem un_xR0 {post : Int32 → Prop} {u : SX} {x : Int32} (hx : x < 0 ∨ nI 8 ≤ x) (h : post 0) : wpX_isRow post u x := by
  obtain ⟨a, b, c, d, e, f, g, i⟩ := u
  by_cases z : x < 0
  · exact br_t z h
  · exact br_f z (br_t (hx.resolve_left z) h)
section
variable {R T x : Int32} {va fo cr vb cb cn : Nat → Int32} {rc : Nat}
theorem un_xo {A B : Prop} {i : Nat} (hi : i < 24) (h1 : cn i = 0 ∧ cb i = x → B) (h0 : ¬ (cn i = 0 ∧ cb i = x) → A) : wpX_isOpenChangeOf (fun r => (r = 0 → A) ∧ (¬ r = 0 → B)) (R, T, va, fo, cr, vb, cb, cn) (nI i) x := by
  have hc : (nI i).toNatClampNeg = i := nI_clamp (by omega)
  have hv : vp_in (nI i) 24 := vp_in_nI hi (by decide)
  unfold wpX_isOpenChangeOf
  dsimp only
  rw [hc]
  refine ⟨hv, ?_⟩
  by_cases z : cn i = 0
  · refine br_t z ⟨hv, ?_⟩
    by_cases w : cb i = x
    · exact br_t w (br_f (by decide) (h1 ⟨z, w⟩))
    · exact br_f w (br_t rfl (h0 (fun y => w y.2)))
  · exact br_f z (br_t rfl (h0 (fun y => z y.1)))
theorem un_xh {post : Int32 → Prop} (hrc : rc ≤ 24)
  (h0 : (∀ i, i < rc → ¬ (cr i = x ∧ cn i = 0)) → post (-4))
  (h1 : ∀ i, i < rc → cr i = x → cn i = 0 → post (cb i)) :
  wpX_holder post (nI rc, T, va, fo, cr, vb, cb, cn) x := by
  have H : ∀ m i, i ≤ rc → rc < m + i → (∀ j, j < i → ¬ (cr j = x ∧ cn j = 0)) → wX_holder_2 post x (nI rc) T va fo cr vb cb cn m (nI i) := by
    intro m
    induction m with
    | zero => intro i h2 h3; omega
    | succ m ih =>
      intro i h2 h3 h4
      have hc : (nI i).toNatClampNeg = i := nI_clamp (by omega)
      rw [wX_holder_2]
      dsimp only
      rw [hc]
      by_cases e : i = rc
      · rw [e] at h4
        exact br_t (by rw [e]; exact nI_le (Nat.le_refl _) (by omega)) (h0 h4)
      · have hi : vp_in (nI i) 24 := vp_in_nI (by omega) (by decide)
        refine br_f (nI_ge (by omega) (by omega)) ⟨hi, ?_⟩
        by_cases z : cr i = x
        · refine br_t z ⟨hi, ?_⟩
          by_cases w : cn i = 0
          · exact br_t w ⟨hi, h1 i (by omega) z w⟩
          · refine br_f w ?_
            intro y ey
            rw [ey, nI_1]
            exact ih (i + 1) (by omega) (by omega) (lt_s h4 (fun a => w a.2))
        · refine br_f z ?_
          intro y ey
          rw [ey, nI_1]
          exact ih (i + 1) (by omega) (by omega) (lt_s h4 (fun a => z a.1))
  exact Exists.intro (rc + 1) (H (rc + 1) 0 (Nat.zero_le _) (by omega) lt_0)
theorem un_xcv {post : Int32 → Prop} {r : Nat} {s : Int32} (hrc : rc ≤ 24) (hr : r < 8)
  (h0 : (∀ i, i < rc → ¬ (cr i = nI r ∧ (cn i = 0 ∨ ¬ cn i ≤ s))) → post (va r))
  (h1 : ∀ i, i < rc → cr i = nI r → (cn i = 0 ∨ ¬ cn i ≤ s) → (∀ j, j < i → ¬ (cr j = nI r ∧ (cn j = 0 ∨ ¬ cn j ≤ s))) → post (vb i)) :
  wpX_committedValue post (nI rc, T, va, fo, cr, vb, cb, cn) (nI r) s := by
  have hv : vp_in (nI r) 8 := vp_in_nI hr (by decide)
  have hcr : (nI r).toNatClampNeg = r := nI_clamp (by omega)
  have H : ∀ m i, i ≤ rc → rc < m + i → (∀ j, j < i → ¬ (cr j = nI r ∧ (cn j = 0 ∨ ¬ cn j ≤ s))) → wX_committedValue_2 post (nI r) s (nI rc) T va fo cr vb cb cn m (nI i) := by
    intro m
    induction m with
    | zero => intro i h2 h3; omega
    | succ m ih =>
      intro i h2 h3 h4
      have hc : (nI i).toNatClampNeg = i := nI_clamp (by omega)
      rw [wX_committedValue_2]
      dsimp only
      rw [hc, hcr]
      by_cases e : i = rc
      · rw [e] at h4
        exact br_t (by rw [e]; exact nI_le (Nat.le_refl _) (by omega)) ⟨hv, h0 h4⟩
      · have hi : vp_in (nI i) 24 := vp_in_nI (by omega) (by decide)
        refine br_f (nI_ge (by omega) (by omega)) ⟨hi, ?_⟩
        by_cases z : cr i = nI r
        · refine br_t z ⟨hi, ?_⟩
          by_cases w : cn i = 0
          · exact br_t w ⟨hi, h1 i (by omega) z (Or.inl w) h4⟩
          · refine br_f w ⟨hi, ?_⟩
            by_cases t : cn i ≤ s
            · refine br_t t ?_
              intro y ey
              rw [ey, nI_1]
              exact ih (i + 1) (by omega) (by omega) (lt_s h4 (fun a => a.2.elim w (fun b => b t)))
            · exact br_f t ⟨hi, h1 i (by omega) z (Or.inr t) h4⟩
        · refine br_f z ?_
          intro y ey
          rw [ey, nI_1]
          exact ih (i + 1) (by omega) (by omega) (lt_s h4 (fun a => z a.1))
  exact Exists.intro (rc + 1) (H (rc + 1) 0 (Nat.zero_le _) (by omega) lt_0)
theorem un_xc {post : Int32 → Prop} (hrc : rc ≤ 24) (h : post (nI (un_c x cb cn rc))) : wpX_changes post (nI rc, T, va, fo, cr, vb, cb, cn) x := by
  have H : ∀ m i, i ≤ rc → rc < m + i → wX_changes_4 post x (nI rc) T va fo cr vb cb cn m (nI (un_c x cb cn i)) (nI i) := by
    intro m
    induction m with
    | zero => intro i h2 h3; omega
    | succ m ih =>
      intro i h2 h3
      rw [wX_changes_4]
      dsimp only
      by_cases e : i = rc
      · rw [e]
        exact br_t (nI_le (Nat.le_refl _) (by omega)) h
      · have k := ih (i + 1) (by omega) (by omega)
        refine br_f (nI_ge (by omega) (by omega)) (un_xo (by omega) ?_ ?_)
        · intro z y ey y2 ey2
          rw [un_c_s1 z] at k
          rw [ey, ey2, nI_1 (un_c x cb cn i), nI_1 i]
          exact k
        · intro z y ey
          rw [un_c_s0 z] at k
          rw [ey, nI_1 i]
          exact k
  exact Exists.intro (rc + 1) (H (rc + 1) 0 (Nat.zero_le _) (by omega))
theorem un_xl {post : Int32 → Prop} (hrc : rc ≤ 24) (hrow : ∀ i, i < rc → ∃ r, r < 8 ∧ cr i = nI r)
  (h : ∀ res, (∀ b, b < 32 → (bt res b = true ↔ ∃ i, i < rc ∧ cn i = 0 ∧ cb i = x ∧ cr i = nI b)) → post res) : wpX_locks post (nI rc, T, va, fo, cr, vb, cb, cn) x := by
  have H : ∀ m i z, i ≤ rc → rc < m + i → (∀ b, b < 32 → (bt z b = true ↔ ∃ j, j < i ∧ cn j = 0 ∧ cb j = x ∧ cr j = nI b)) → wX_locks_4 post x (nI rc) T va fo cr vb cb cn m z (nI i) := by
    intro m
    induction m with
    | zero => intro i z h2 h3; omega
    | succ m ih =>
      intro i z h2 h3 h4
      have hc : (nI i).toNatClampNeg = i := nI_clamp (by omega)
      rw [wX_locks_4]
      dsimp only
      rw [hc]
      by_cases e : i = rc
      · rw [e] at h4
        rw [e]
        exact br_t (nI_le (Nat.le_refl _) (by omega)) (h z h4)
      · refine br_f (nI_ge (by omega) (by omega)) (un_xo (by omega) ?_ ?_)
        · intro w
          refine ⟨vp_in_nI (by omega) (by decide), ?_⟩
          intro y ey y2 ey2
          rw [ey2, nI_1 i]
          refine ih (i + 1) y (by omega) (by omega) ?_
          intro b hb
          obtain ⟨r, hr, er⟩ := hrow i (by omega)
          rw [ey, b_or, er, un_b1 r hr b hb, Bool.or_eq_true, h4 b hb, decide_eq_true_iff]
          constructor
          · intro t
            rcases t with ⟨j, t1, t2⟩ | t
            · exact ⟨j, by omega, t2⟩
            · exact ⟨i, by omega, w.1, w.2, by rw [t]; exact er⟩
          · intro t
            obtain ⟨j, t1, t2⟩ := t
            rcases Nat.lt_or_ge j i with t3 | t3
            · exact Or.inl ⟨j, t3, t2⟩
            · have ej : j = i := by omega
              rw [ej, er] at t2
              exact Or.inr ((nI_eq (by omega) (by omega)).mp t2.2.2).symm
        · intro w y ey
          rw [ey, nI_1 i]
          refine ih (i + 1) z (by omega) (by omega) ?_
          intro b hb
          rw [h4 b hb]
          constructor
          · intro t
            obtain ⟨j, t1, t2⟩ := t
            exact ⟨j, by omega, t2⟩
          · intro t
            obtain ⟨j, t1, t2⟩ := t
            rcases Nat.lt_or_ge j i with t3 | t3
            · exact ⟨j, t3, t2⟩
            · have ej : j = i := by omega
              rw [ej] at t2
              exact absurd ⟨t2.1, t2.2.1⟩ w
  refine Exists.intro (rc + 1) (H (rc + 1) 0 0 (Nat.zero_le _) (by omega) ?_)
  intro b hb
  rw [b_0]
  constructor
  · intro t; exact absurd t (by decide)
  · intro t; obtain ⟨j, t1, t2⟩ := t; exact absurd t1 (Nat.not_lt_zero j)
theorem un_xcm {post : Int32 → SX → Prop} (hrc : rc ≤ 24) (h : ∀ cn' : Nat → Int32, (∀ i, i < rc → cn' i = if cn i = 0 ∧ cb i = x then T else cn i) → post T (nI rc, T, va, fo, cr, vb, cb, cn')) : ∃ m, wX_commit_23 post x (nI rc) T m 0 va fo cr vb cb cn := by
  have H : ∀ m i, ∀ cn' : Nat → Int32, i ≤ rc → rc < m + i → (∀ j, j < i → cn' j = if cn j = 0 ∧ cb j = x then T else cn j) → (∀ j, i ≤ j → cn' j = cn j) → wX_commit_23 post x (nI rc) T m (nI i) va fo cr vb cb cn' := by
    intro m
    induction m with
    | zero => intro i cn' h2 h3; omega
    | succ m ih =>
      intro i cn' h2 h3 h4 h5
      have hc : (nI i).toNatClampNeg = i := nI_clamp (by omega)
      rw [wX_commit_23]
      dsimp only
      rw [hc]
      by_cases e : i = rc
      · rw [e] at h4
        rw [e]
        exact br_t (nI_le (Nat.le_refl _) (by omega)) (h cn' h4)
      · have hi := h5 i (Nat.le_refl _)
        refine br_f (nI_ge (by omega) (by omega)) (un_xo (by omega) ?_ ?_)
        · intro w
          refine ⟨vp_in_nI (by omega) (by decide), ?_⟩
          intro a ea y ey
          rw [ey, nI_1 i, ea]
          refine ih (i + 1) _ (by omega) (by omega) (lt_s ?_ ?_) ?_
          · intro j hj
            rw [pk_un (by omega)]
            exact h4 j hj
          · rw [hi] at w
            rw [pk_us, if_pos w]
          · intro j hj
            rw [pk_un (by omega)]
            exact h5 j (by omega)
        · intro w y ey
          rw [ey, nI_1 i]
          refine ih (i + 1) _ (by omega) (by omega) (lt_s h4 ?_) (fun j hj => h5 j (by omega))
          rw [hi] at w
          rw [hi, if_neg w]
  exact Exists.intro (rc + 1) (H (rc + 1) 0 cn (Nat.zero_le _) (by omega) lt_0 (fun j _ => rfl))
theorem un_xm {post : SX → Prop} {i j : Nat} (hi : i < 24) (hj : j < 24) (h : post (R, T, va, fo, upd cr j (cr i), upd vb j (vb i), upd cb j (cb i), upd cn j (cn i))) : wpX_moveChange post (R, T, va, fo, cr, vb, cb, cn) (nI i) (nI j) := by
  have hc : (nI i).toNatClampNeg = i := nI_clamp (by omega)
  have hd : (nI j).toNatClampNeg = j := nI_clamp (by omega)
  have a : vp_in (nI i) 24 := vp_in_nI hi (by decide)
  have b : vp_in (nI j) 24 := vp_in_nI hj (by decide)
  unfold wpX_moveChange
  simp only [hc, hd]
  exact ⟨a, b, nm_e ⟨a, b, nm_e ⟨a, b, nm_e ⟨a, b, nm_e h⟩⟩⟩⟩
theorem un_xf {post : SX → Prop} {q : Nat} (hq : q + 1 ≤ 24) (hr : vp_in (cr 0) 8)
  (h : ∀ cr' vb' cb' cn' : Nat → Int32, (∀ j, j < q → cr' j = cr (j + 1) ∧ vb' j = vb (j + 1) ∧ cb' j = cb (j + 1) ∧ cn' j = cn (j + 1)) → post (nI q, T, va, upd fo (cr 0).toNatClampNeg (cn 0), cr', vb', cb', cn')) :
  wpX_forgetOldest post (nI (q + 1), T, va, fo, cr, vb, cb, cn) := by
  have H : ∀ m i, ∀ cr' vb' cb' cn' : Nat → Int32, i ≤ q → q < m + i → (∀ j, j < i → cr' j = cr (j + 1) ∧ vb' j = vb (j + 1) ∧ cb' j = cb (j + 1) ∧ cn' j = cn (j + 1)) → (∀ j, i < j → cr' j = cr j ∧ vb' j = vb j ∧ cb' j = cb j ∧ cn' j = cn j) → wX_forgetOldest_19 post m (nI (i + 1)) (nI (q + 1)) T va (upd fo (cr 0).toNatClampNeg (cn 0)) cr' vb' cb' cn' := by
    intro m
    induction m with
    | zero => intro i cr' vb' cb' cn' h2 h3; omega
    | succ m ih =>
      intro i cr' vb' cb' cn' h2 h3 h4 h5
      rw [wX_forgetOldest_19]
      dsimp only
      rw [nI_pred i, nI_pred q]
      by_cases e : i = q
      · rw [e] at h4
        rw [e]
        exact br_t (nI_le (Nat.le_refl _) (by omega)) (nm_e (h cr' vb' cb' cn' h4))
      · refine br_f (nI_ge (by omega) (by omega)) (un_xm (by omega) (by omega) ?_)
        dsimp only
        intro y ey
        rw [ey, nI_1 (i + 1)]
        obtain ⟨k1, k2, k3, k4⟩ := h5 (i + 1) (by omega)
        refine ih (i + 1) _ _ _ _ (by omega) (by omega) (lt_s ?_ ?_) ?_
        · intro j hj
          rw [pk_un (by omega), pk_un (by omega), pk_un (by omega), pk_un (by omega)]
          exact h4 j hj
        · rw [pk_us, pk_us, pk_us, pk_us]
          exact ⟨k1, k2, k3, k4⟩
        · intro j hj
          rw [pk_un (by omega), pk_un (by omega), pk_un (by omega), pk_un (by omega)]
          exact h5 j (by omega)
  unfold wpX_forgetOldest
  dsimp only
  exact ⟨hr, nm_e ⟨q + 1, H (q + 1) 0 cr vb cb cn (Nat.zero_le _) (by omega) lt_0 (fun j _ => ⟨rfl, rfl, rfl, rfl⟩)⟩⟩
theorem un_xr {post : SX → Prop} (hrc : rc ≤ 24) (hrow : ∀ i, i < rc → vp_in (cr i) 8) (h : post (nI rc, T, un_rs x cr vb cb cn rc va, fo, cr, vb, cb, cn)) : wpX_restoreRows post (nI rc, T, va, fo, cr, vb, cb, cn) x := by
  have H : ∀ m i, ∀ va' : Nat → Int32, i ≤ rc → i < m → un_rs x cr vb cb cn i va' = un_rs x cr vb cb cn rc va → wX_restoreRows_7 post x (nI rc) T m (nI i - 1) va' fo cr vb cb cn := by
    intro m
    induction m with
    | zero => intro i va' h2 h3; omega
    | succ m ih =>
      intro i va' h2 h3 h4
      cases i with
      | zero =>
        rw [wX_restoreRows_7]
        dsimp only
        have e : va' = un_rs x cr vb cb cn rc va := h4
        rw [e]
        exact br_t (by decide) h
      | succ i =>
        have hc : (nI i).toNatClampNeg = i := nI_clamp (by omega)
        have hi : vp_in (nI i) 24 := vp_in_nI (by omega) (by decide)
        rw [nI_pred i, wX_restoreRows_7]
        dsimp only
        rw [hc]
        refine br_f (nI_pos (by omega)) (un_xo (by omega) ?_ ?_)
        · intro w
          refine ⟨hi, hi, hrow i (by omega), ?_⟩
          intro a ea y ey
          rw [ey, un_m1, ea]
          refine ih i _ (by omega) (by omega) ?_
          rw [← h4, un_rs_s1 va' w]
        · intro w y ey
          rw [ey, un_m1]
          refine ih i _ (by omega) (by omega) ?_
          rw [← h4, un_rs_s0 va' w]
  unfold wpX_restoreRows
  dsimp only
  exact nm_e ⟨rc + 1, H (rc + 1) rc va (Nat.le_refl _) (by omega) rfl⟩
def un_kx (x : Int32) (cb cn : Nat → Int32) : Nat → Int32 := fun i => if cn i = 0 ∧ cb i = x then 0 else 1
theorem un_xd {post : SX → Prop} (hrc : rc ≤ 24)
  (h : ∀ cr' vb' cb' cn' : Nat → Int32, (∀ i, i < rc → ¬ (cn i = 0 ∧ cb i = x) → cr' (un_q (un_kx x cb cn) i) = cr i ∧ vb' (un_q (un_kx x cb cn) i) = vb i ∧ cb' (un_q (un_kx x cb cn) i) = cb i ∧ cn' (un_q (un_kx x cb cn) i) = cn i) → post (nI (un_q (un_kx x cb cn) rc), T, va, fo, cr', vb', cb', cn')) :
  wpX_dropOpenChanges post (nI rc, T, va, fo, cr, vb, cb, cn) x := by
  have H : ∀ m i, ∀ cr' vb' cb' cn' : Nat → Int32, i ≤ rc → rc < m + i → (∀ j, j < i → ¬ (cn j = 0 ∧ cb j = x) → cr' (un_q (un_kx x cb cn) j) = cr j ∧ vb' (un_q (un_kx x cb cn) j) = vb j ∧ cb' (un_q (un_kx x cb cn) j) = cb j ∧ cn' (un_q (un_kx x cb cn) j) = cn j) → (∀ j, i ≤ j → cr' j = cr j ∧ vb' j = vb j ∧ cb' j = cb j ∧ cn' j = cn j) → wX_dropOpenChanges_4 post x m (nI (un_q (un_kx x cb cn) i)) (nI i) (nI rc) T va fo cr' vb' cb' cn' := by
    intro m
    induction m with
    | zero => intro i cr' vb' cb' cn' h2 h3; omega
    | succ m ih =>
      intro i cr' vb' cb' cn' h2 h3 h4 h5
      have hk := un_q_n (un_kx x cb cn) i
      rw [wX_dropOpenChanges_4]
      dsimp only
      by_cases e : i = rc
      · rw [e] at h4
        rw [e]
        exact br_t (nI_le (Nat.le_refl _) (by omega)) (h cr' vb' cb' cn' h4)
      · obtain ⟨k1, k2, k3, k4⟩ := h5 i (Nat.le_refl _)
        refine br_f (nI_ge (by omega) (by omega)) (un_xo (by omega) ?_ ?_)
        · intro w y ey
          rw [k3, k4] at w
          have s := ih (i + 1) cr' vb' cb' cn' (by omega) (by omega) (lt_s h4 (fun a => absurd w a)) (fun j hj => h5 j (by omega))
          have z : un_kx x cb cn i = 0 := if_pos w
          rw [un_q_s0 z] at s
          rw [ey, nI_1 i]
          exact s
        · intro w
          rw [k3, k4] at w
          refine un_xm (by omega) (by omega) ?_
          dsimp only
          intro y ey y2 ey2
          have z : ¬ un_kx x cb cn i = 0 := by
            have z1 : un_kx x cb cn i = 1 := if_neg w
            rw [z1]; decide
          have s := fun cr' vb' cb' cn' => ih (i + 1) cr' vb' cb' cn' (by omega) (by omega)
          rw [un_q_s1 z] at s
          rw [ey, ey2, nI_1 (un_q (un_kx x cb cn) i), nI_1 i]
          refine s _ _ _ _ (lt_s ?_ ?_) ?_
          · intro j hj hw
            have zj : ¬ un_kx x cb cn j = 0 := by
              have z1 : un_kx x cb cn j = 1 := if_neg hw
              rw [z1]; decide
            have lt := un_q_lt hj zj
            rw [pk_un (by omega), pk_un (by omega), pk_un (by omega), pk_un (by omega)]
            exact h4 j hj hw
          · intro _
            rw [pk_us, pk_us, pk_us, pk_us]
            exact ⟨k1, k2, k3, k4⟩
          · intro j hj
            rw [pk_un (by omega), pk_un (by omega), pk_un (by omega), pk_un (by omega)]
            exact h5 j (by omega)
  exact Exists.intro (rc + 1) (H (rc + 1) 0 cr vb cb cn (Nat.zero_le _) (by omega) lt_0 (fun j _ => ⟨rfl, rfl, rfl, rfl⟩))
end
