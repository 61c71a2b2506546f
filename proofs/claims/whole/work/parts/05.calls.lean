section
variable {n T rc : Nat} {row val bef who num kept now lock gone cr vb cb cn : Nat → Int32}
theorem un_cl (Y : un_YI n T row val bef who num kept now lock gone) (X : un_XI n rc cr vb cb cn row bef who num kept) (x : Int32) : un_c x cb cn rc = un_c x who num n := by
  obtain ⟨e, h24, h⟩ := X
  rw [e]
  exact un_c_link (n := n) (fun c hc z => Y.2.2.2.1 c hc (un_z.mp z)) (fun c hc k => (h c hc k).2.2.1) (fun c hc k => (h c hc k).2.2.2) n (Nat.le_refl _)
theorem un_nos (Y : un_YI n T row val bef who num kept now lock gone) {x : Int32} (hx : x < 0 ∨ nI 4 ≤ x) : ∀ c, c < n → ¬ who c = x := by
  intro c hc e
  obtain ⟨j, hj, ej⟩ := Y.2.1 c hc
  rw [← e, ej] at hx
  rcases hx with q | q
  · exact nI_pos (by omega) q
  · exact nI_ge hj (by decide) q
theorem un_nor (Y : un_YI n T row val bef who num kept now lock gone) {x : Int32} (hx : x < 0 ∨ nI 8 ≤ x) : ∀ c, c < n → ¬ row c = x := by
  intro c hc e
  obtain ⟨j, hj, ej⟩ := Y.1 c hc
  rw [← e, ej] at hx
  rcases hx with q | q
  · exact nI_pos (by omega) q
  · exact nI_ge hj (by decide) q
theorem un_xrow (Y : un_YI n T row val bef who num kept now lock gone) (X : un_XI n rc cr vb cb cn row bef who num kept) : ∀ i, i < rc → ∃ r, r < 8 ∧ cr i = nI r := by
  intro i hi
  obtain ⟨c, h1, h2, h3, h4, h5, h6, h7⟩ := un_XI_at X hi
  rw [h4]
  exact Y.1 c h1
theorem un_vin {f : Nat → Int32} {m : Nat} (h : ∀ i, i < m → ∃ r, r < 8 ∧ f i = nI r) : ∀ i, i < m → vp_in (f i) 8 := by
  intro i hi
  obtain ⟨r, hr, e⟩ := h i hi
  rw [e]
  exact vp_in_nI hr (by decide)
theorem un_hold (Y : un_YI n T row val bef who num kept now lock gone) (X : un_XI n rc cr vb cb cn row bef who num kept) {r : Nat} (hr : r < 8) {t : Int32} {post : Int32 → Prop} (h : post (lock r)) : wpX_holder post (nI rc, t, now, gone, cr, vb, cb, cn) (nI r) := by
  refine un_xh X.2.1 ?_ ?_
  · intro z
    rcases Y.2.2.2.2.2.2.2.1 r hr with q | ⟨c, c1, c2, c3, c4⟩
    · rw [q] at h; exact h
    · have k := Y.2.2.2.1 c c1 c3
      obtain ⟨e1, e2, e3, e4⟩ := X.2.2 c c1 k
      exact absurd ⟨e1.trans c2, e4.trans (un_z.mpr c3)⟩ (z (un_q kept c) (by rw [X.1]; exact un_q_lt c1 k))
  · intro i hi z w
    obtain ⟨c, h1, h2, h3, h4, h5, h6, h7⟩ := un_XI_at X hi
    rw [h7] at w
    rw [h4] at z
    rw [h6, ← Y.2.2.2.2.2.2.1 c r h1 (un_z.mp w) z hr]
    exact h
theorem un_hold0 (Y : un_YI n T row val bef who num kept now lock gone) (X : un_XI n rc cr vb cb cn row bef who num kept) {x : Int32} (hx : x < 0 ∨ nI 8 ≤ x) {t : Int32} {post : Int32 → Prop} (h : post (-4)) : wpX_holder post (nI rc, t, now, gone, cr, vb, cb, cn) x := by
  refine un_xh X.2.1 (fun _ => h) ?_
  intro i hi z w
  obtain ⟨c, h1, h2, h3, h4, h5, h6, h7⟩ := un_XI_at X hi
  rw [h4] at z
  exact absurd z (un_nor Y hx c h1)
theorem un_cv (Y : un_YI n T row val bef who num kept now lock gone) (X : un_XI n rc cr vb cb cn row bef who num kept) {r : Nat} (hr : r < 8) {s t : Int32} (hg : (gone r).toInt ≤ s.toInt) {post : Int32 → Prop} (h : post (un_va (nI r) s row val num n)) : wpX_committedValue post (nI rc, t, now, gone, cr, vb, cb, cn) (nI r) s := by
  obtain ⟨hR, hW, hN, hK0, hK1, hM, hL1, hL2, hG1, hG2, hG3, hB, hV⟩ := Y
  have old : ∀ d, d < n → row d = nI r → kept d = 0 → 0 ≤ (num d).toInt → 0 < (num d).toInt ∧ (num d).toInt ≤ s.toInt := by
    intro d hd e k p
    have a : ¬ (num d).toInt = 0 := fun z => hK0 d hd z k
    have b := hG1 d r hd k (by omega) e hr
    omega
  have seen : ∀ d, d < n → row d = nI r → 0 ≤ (num d).toInt → ¬ kept d = 0 → ¬ (cr (un_q kept d) = nI r ∧ (cn (un_q kept d) = 0 ∨ ¬ cn (un_q kept d) ≤ s)) → 0 < (num d).toInt ∧ (num d).toInt ≤ s.toInt := by
    intro d hd e p k z
    obtain ⟨e1, e2, e3, e4⟩ := X.2.2 d hd k
    rw [e1, e4, un_z, un_le] at z
    have z2 : ¬ ((num d).toInt = 0 ∨ ¬ (num d).toInt ≤ s.toInt) := fun a => z ⟨e, a⟩
    omega
  refine un_xcv X.2.1 hr ?_ ?_
  · intro z
    rw [hV r hr, ← un_va_lv n ?_]
    · exact h
    · intro d hd e p
      by_cases k : kept d = 0
      · exact old d hd e k p
      · exact seen d hd e p k (z (un_q kept d) (by rw [X.1]; exact un_q_lt hd k))
  · intro i hi z w zs
    obtain ⟨c, h1, h2, h3, h4, h5, h6, h7⟩ := un_XI_at X hi
    rw [h4] at z
    rw [h7, un_z, un_le] at w
    have p0 := hK1 c h1 h2
    have e1 : un_va (nI r) s row val num c = un_lv (nI r) row val num c := by
      refine un_va_lv c ?_
      intro d hd e p
      by_cases k : kept d = 0
      · exact old d (by omega) e k p
      · refine seen d (by omega) e p k (zs (un_q kept d) ?_)
        rw [← h3]
        exact un_q_lt hd k
    have e2 : un_va (nI r) s row val num n = un_va (nI r) s row val num c := by
      refine un_va_dead n (by omega) ?_
      intro d d1 d2 e p
      rcases Nat.lt_or_ge c d with g | g
      · have := hM c d g d2 (z.trans e.symm) p0 p.1
        omega
      · have ed : d = c := by omega
        rw [ed] at p
        omega
    rw [h5, hB c h1 p0, z, ← e1, ← e2]
    exact h
theorem un_xto {A B : Prop} {r : Nat} {R t s : Int32} {va fo cr vb cb cn : Nat → Int32} (hr : r < 8) (h0 : fo r ≤ s → A) (h1 : ¬ fo r ≤ s → B) : wpX_isTooOld (fun z => (z = 0 → A) ∧ (¬ z = 0 → B)) (R, t, va, fo, cr, vb, cb, cn) (nI r) s := by
  have hc : (nI r).toNatClampNeg = r := nI_clamp (by omega)
  unfold wpX_isTooOld
  dsimp only
  rw [hc]
  exact ⟨vp_in_nI hr (by decide), br_c (fun z => br_t rfl (h0 z)) (fun z => br_f (by decide) (h1 z))⟩
theorem un_xmo {A B : Prop} {R t s : Int32} {va fo cr vb cb cn : Nat → Int32} (h0 : s < 0 ∨ t < s → A) (h1 : ¬ s < 0 → ¬ t < s → B) : wpX_isMoment (fun z => (z = 0 → A) ∧ (¬ z = 0 → B)) (R, t, va, fo, cr, vb, cb, cn) s := by
  unfold wpX_isMoment
  dsimp only
  exact br_c (fun a => br_t rfl (h0 (Or.inl a))) (fun a => br_c (fun b => br_t rfl (h0 (Or.inr b))) (fun b => br_f (by decide) (h1 a b)))
theorem un_cs (Y : un_YI n T row val bef who num kept now lock gone) (X : un_XI n rc cr vb cb cn row bef who num kept) (hn : n ≤ 512) (hT : T < 2 ^ 31) {s : Int32} (h0 : ¬ s < 0) (hs : ¬ nI T < s) : ∀ d i z, i + d = 8 → ∃ res : Int32, (∀ post : Int32 → Prop, post res → wX_changedSince_14 post s (nI rc) (nI T) now gone cr vb cb cn (d + 1) z (nI i)) ∧ (∀ post : Int32 → Prop, post res → wY_changedSince_4 post s (nI n) (nI T) row val bef who num kept now lock gone (d + 1) z (nI i)) := by
  intro d
  induction d with
  | zero =>
    intro i z hi
    have e : (8 : Int32) ≤ nI i := nI_le (a := 8) (by omega) (by omega)
    exact ⟨z, fun post hp => br_t e hp, fun post hp => br_t e hp⟩
  | succ d ih =>
    intro i z hi
    have e : ¬ (8 : Int32) ≤ nI i := nI_ge (b := 8) (by omega) (by decide)
    have hi8 : i < 8 := by omega
    have hc : (nI i).toNatClampNeg = i := nI_clamp (by omega)
    have hv : vp_in (nI i) 8 := vp_in_nI hi8 (by decide)
    by_cases g : gone i ≤ s
    · have g1 : (gone i).toInt ≤ s.toInt := un_le.mp g
      have g2 : (gone i).toInt ≤ (nI T).toInt := by
        rw [nI_toInt hT]
        exact Y.2.2.2.2.2.2.2.2.2.2.1 i hi8
      have g3 : ¬ s < gone i := by rw [un_lt]; omega
      by_cases q : un_va (nI i) s row val num n = un_va (nI i) (nI T) row val num n
      · obtain ⟨res, hX, hY⟩ := ih (i + 1) z (by omega)
        refine ⟨res, fun post hp => ?_, fun post hp => ?_⟩
        · rw [wX_changedSince_14]
          refine br_f e (un_xto hi8 (fun _ => un_cv Y X hi8 g1 (un_cv Y X hi8 g2 (br_t q (nm_r (nI_1 i) (hX post hp))))) (fun a => absurd g a))
        · rw [wY_changedSince_4]
          dsimp only
          rw [hc]
          exact br_f e (br_f h0 (br_f hs ⟨hv, br_f g3 (un_yv hn (un_yv hn (br_t q (nm_r (nI_1 i) (hY post hp)))))⟩))
      · obtain ⟨res, hX, hY⟩ := ih (i + 1) (z ||| ((1 : Int32) <<< (nI i &&& 31))) (by omega)
        refine ⟨res, fun post hp => ?_, fun post hp => ?_⟩
        · rw [wX_changedSince_14]
          refine br_f e (un_xto hi8 (fun _ => un_cv Y X hi8 g1 (un_cv Y X hi8 g2 (br_f q (nm_e (nm_r (nI_1 i) (hX post hp)))))) (fun a => absurd g a))
        · rw [wY_changedSince_4]
          dsimp only
          rw [hc]
          exact br_f e (br_f h0 (br_f hs ⟨hv, br_f g3 (un_yv hn (un_yv hn (br_f q (nm_e (nm_r (nI_1 i) (hY post hp))))))⟩))
    · obtain ⟨res, hX, hY⟩ := ih (i + 1) z (by omega)
      have g3 : s < gone i := by
        rw [un_le] at g
        rw [un_lt]; omega
      refine ⟨res, fun post hp => ?_, fun post hp => ?_⟩
      · rw [wX_changedSince_14]
        refine br_f e (un_xto hi8 (fun a => absurd a g) (fun _ => nm_r (nI_1 i) (hX post hp)))
      · rw [wY_changedSince_4]
        dsimp only
        rw [hc]
        exact br_f e (br_f h0 (br_f hs ⟨hv, br_t g3 (nm_r (nI_1 i) (hY post hp))⟩))
end
section
variable {t x1 x3 : Int32} {va fo cr vb cb cn : Nat → Int32} {rc r : Nat}
theorem un_xrem {post : SX → Prop} (h24 : rc < 24) (hr : r < 8) (h : post (nI (rc + 1), t, va, fo, upd cr rc (nI r), upd vb rc (va r), upd cb rc x1, upd cn rc 0)) : wpX_remember post (nI rc, t, va, fo, cr, vb, cb, cn) x1 (nI r) := by
  have hc : (nI rc).toNatClampNeg = rc := nI_clamp (by omega)
  have hcr : (nI r).toNatClampNeg = r := nI_clamp (by omega)
  have a : vp_in (nI rc) 24 := vp_in_nI h24 (by decide)
  have b : vp_in (nI r) 8 := vp_in_nI hr (by decide)
  unfold wpX_remember
  simp only [hc, hcr]
  exact ⟨a, nm_e ⟨b, a, nm_e ⟨a, nm_e ⟨a, nm_e (nm_r (nI_1 rc) h)⟩⟩⟩⟩
theorem un_x41a {post : Int32 → SX → Prop} (h24 : rc < 24) (hr : r < 8) (h : post 0 (nI (rc + 1), t, upd va r x3, fo, upd cr rc (nI r), upd vb rc (va r), upd cb rc x1, upd cn rc 0)) : wX_change_41 post x1 (nI r) x3 (nI rc) t va fo cr vb cb cn := by
  have hcr : (nI r).toNatClampNeg = r := nI_clamp (by omega)
  unfold wX_change_41 wpX_makeRoom
  dsimp only
  refine br_f (nI_ge (b := 24) h24 (by decide)) (br_f (by decide) (un_xrem h24 hr ?_))
  dsimp only
  rw [hcr]
  exact ⟨vp_in_nI hr (by decide), nm_e h⟩
theorem un_x41b {post : Int32 → SX → Prop} (z : cn 0 = 0) (h : post (-3) (nI 24, t, va, fo, cr, vb, cb, cn)) : wX_change_41 post x1 (nI r) x3 (nI 24) t va fo cr vb cb cn := by
  unfold wX_change_41 wpX_makeRoom
  dsimp only
  exact br_t (nI_le (Nat.le_refl 24) (by decide)) (br_t z (br_t rfl h))
theorem un_x41c {post : Int32 → SX → Prop} (hr : r < 8) (z : ¬ cn 0 = 0) (hv : vp_in (cr 0) 8) (h : ∀ cr' vb' cb' cn' : Nat → Int32, (∀ j, j < 23 → cr' j = cr (j + 1) ∧ vb' j = vb (j + 1) ∧ cb' j = cb (j + 1) ∧ cn' j = cn (j + 1)) → post 0 (nI 24, t, upd va r x3, upd fo (cr 0).toNatClampNeg (cn 0), upd cr' 23 (nI r), upd vb' 23 (va r), upd cb' 23 x1, upd cn' 23 0)) : wX_change_41 post x1 (nI r) x3 (nI 24) t va fo cr vb cb cn := by
  have hcr : (nI r).toNatClampNeg = r := nI_clamp (by omega)
  unfold wX_change_41 wpX_makeRoom
  dsimp only
  refine br_t (nI_le (Nat.le_refl 24) (by decide)) (br_f z (un_xf (q := 23) (by omega) hv ?_))
  intro cr' vb' cb' cn' hs
  dsimp only
  refine br_f (by decide) (un_xrem (by omega) hr ?_)
  dsimp only
  rw [hcr]
  exact ⟨vp_in_nI hr (by decide), nm_e (h cr' vb' cb' cn' hs)⟩
end
section
variable {t x1 x3 : Int32} {row val bef who num kept now lock gone : Nat → Int32} {n r c0 r0 : Nat}
theorem un_y152 {post : Int32 → SY → Prop} (hn : n < 512) (hr : r < 8) (h : post 0 (nI (n + 1), t, upd row n (nI r), upd val n x3, upd bef n (now r), upd who n x1, upd num n 0, upd kept n 1, upd now r x3, upd lock r x1, gone)) : wY_change_152 post x1 (nI r) x3 (nI n) t row val bef who num kept now lock gone := by
  have hc : (nI n).toNatClampNeg = n := nI_clamp (by omega)
  have hcr : (nI r).toNatClampNeg = r := nI_clamp (by omega)
  have a : vp_in (nI n) 512 := vp_in_nI hn (by decide)
  have b : vp_in (nI r) 8 := vp_in_nI hr (by decide)
  unfold wY_change_152
  rw [hc, hcr, un_bb1]
  exact ⟨a, nm_e ⟨a, nm_e ⟨b, a, nm_e ⟨a, nm_e ⟨a, nm_e ⟨a, nm_e (nm_r (nI_1 n) ⟨b, nm_e ⟨b, nm_e h⟩⟩)⟩⟩⟩⟩⟩⟩
theorem un_y42a {post : Int32 → SY → Prop} {x2 : Int32} (hn : n < 512) (hq : un_q kept n < 24) (h : wY_change_152 post x1 x2 x3 (nI n) t row val bef who num kept now lock gone) : wY_change_42 post x1 x2 x3 (nI n) t row val bef who num kept now lock gone := by
  unfold wY_change_42
  refine un_yrm (by omega) (br_f (nI_ge (b := 24) hq (by decide)) ?_)
  exact br_f (nI_ge (b := 512) hn (by decide)) (br_t (by decide) (br_t (by decide) h))
theorem un_y42b {post : Int32 → SY → Prop} {x2 : Int32} (hn : n < 512) (hq : 24 ≤ un_q kept n) (h0 : c0 < n) (hk : ¬ kept c0 = 0) (hf : ∀ d, d < c0 → kept d = 0) (z : num c0 = 0) (h : post (-3) (nI n, t, row, val, bef, who, num, kept, now, lock, gone)) : wY_change_42 post x1 x2 x3 (nI n) t row val bef who num kept now lock gone := by
  have hc : (nI c0).toNatClampNeg = c0 := nI_clamp (by omega)
  have hqn := un_q_n kept n
  unfold wY_change_42
  refine un_yrm (by omega) (br_t (nI_le (a := 24) hq (by omega)) (un_yok (by omega) h0 hk hf ?_))
  unfold wY_change_59
  rw [hc]
  exact br_f (nI_ge (b := 512) hn (by decide)) (br_f (nI_pos (by omega)) ⟨vp_in_nI (by omega) (by decide), br_t z h⟩)
theorem un_y42c {post : Int32 → SY → Prop} {x2 : Int32} (hn : n < 512) (hq : 24 ≤ un_q kept n) (h0 : c0 < n) (hk : ¬ kept c0 = 0) (hf : ∀ d, d < c0 → kept d = 0) (z : ¬ num c0 = 0) (er : row c0 = nI r0) (hr0 : r0 < 8) (hg : (gone r0).toInt ≤ (num c0).toInt) (h : wY_change_152 post x1 x2 x3 (nI n) t row val bef who num (upd kept c0 0) now lock (upd gone r0 (num c0))) : wY_change_42 post x1 x2 x3 (nI n) t row val bef who num kept now lock gone := by
  have hc : (nI c0).toNatClampNeg = c0 := nI_clamp (by omega)
  have hcr : (nI r0).toNatClampNeg = r0 := nI_clamp (by omega)
  have a : vp_in (nI c0) 512 := vp_in_nI (by omega) (by decide)
  have b : vp_in (nI r0) 8 := vp_in_nI hr0 (by decide)
  have hqn := un_q_n kept n
  unfold wY_change_42
  refine un_yrm (by omega) (br_t (nI_le (a := 24) hq (by omega)) (un_yok (by omega) h0 hk hf ?_))
  unfold wY_change_59
  rw [hc]
  refine br_f (nI_ge (b := 512) hn (by decide)) (br_f (nI_pos (by omega)) ⟨a, br_f z ?_⟩)
  unfold wY_change_89
  rw [hc, un_b0, er]
  refine br_f (nI_pos (by omega)) ⟨a, nm_e ⟨a, nm_e ⟨a, b, ?_⟩⟩⟩
  rw [hcr]
  by_cases g : num c0 ≤ gone r0
  · refine br_t g ⟨b, ?_⟩
    have e : gone r0 = num c0 := by
      rw [un_le] at g
      exact Int32.toInt_inj.mp (by omega)
    unfold wY_change_151
    rw [hcr, e]
    exact ⟨b, nm_e h⟩
  · refine br_f g ⟨a, ?_⟩
    unfold wY_change_151
    rw [hcr]
    exact ⟨b, nm_e h⟩
theorem un_YC1 {post : Int32 → SY → Prop} {u : SY} {x2 : Int32} (hx : x1 < 0 ∨ nI 4 ≤ x1) (h : post (-1) u) : wpY_change post u x1 x2 x3 := by
  obtain ⟨a, b, c, d, e, f, g, i, k, l, m⟩ := u
  unfold wpY_change
  dsimp only
  exact un_yS0 hx (br_t rfl h)
theorem un_YC2 {post : Int32 → SY → Prop} {u : SY} {x2 : Int32} {j : Nat} (hj : j < 4) (hx : x2 < 0 ∨ nI 8 ≤ x2) (h : post (-1) u) : wpY_change post u (nI j) x2 x3 := by
  obtain ⟨a, b, c, d, e, f, g, i, k, l, m⟩ := u
  unfold wpY_change
  dsimp only
  exact un_yS1 hj (br_f (by decide) (un_yR0 hx (br_t rfl h)))
theorem un_YC3 {post : Int32 → SY → Prop} {R : Int32} {j : Nat} (hj : j < 4) (hr : r < 8) (hl : ¬ (lock r = -4 ∨ lock r = nI j)) (h : post (-2) (R, t, row, val, bef, who, num, kept, now, lock, gone)) : wpY_change post (R, t, row, val, bef, who, num, kept, now, lock, gone) (nI j) (nI r) x3 := by
  have hcr : (nI r).toNatClampNeg = r := nI_clamp (by omega)
  have b : vp_in (nI r) 8 := vp_in_nI hr (by decide)
  unfold wpY_change
  dsimp only
  rw [hcr]
  exact un_yS1 hj (br_f (by decide) (un_yR1 hr (br_f (by decide) ⟨b, br_f (fun z => hl (Or.inl z)) ⟨b, br_f (fun z => hl (Or.inr z)) h⟩⟩)))
theorem un_YC4 {post : Int32 → SY → Prop} {R : Int32} {j : Nat} (hj : j < 4) (hr : r < 8) (hl : lock r = -4 ∨ lock r = nI j) (h : wY_change_42 post (nI j) (nI r) x3 R t row val bef who num kept now lock gone) : wpY_change post (R, t, row, val, bef, who, num, kept, now, lock, gone) (nI j) (nI r) x3 := by
  have hcr : (nI r).toNatClampNeg = r := nI_clamp (by omega)
  have b : vp_in (nI r) 8 := vp_in_nI hr (by decide)
  unfold wpY_change
  dsimp only
  rw [hcr]
  refine un_yS1 hj (br_f (by decide) (un_yR1 hr (br_f (by decide) ⟨b, ?_⟩)))
  by_cases z : lock r = -4
  · exact br_t z h
  · exact br_f z ⟨b, br_t (hl.resolve_left z) h⟩
theorem un_XC1 {post : Int32 → SX → Prop} {u : SX} {x2 : Int32} (hx : x1 < 0 ∨ nI 4 ≤ x1) (h : post (-1) u) : wpX_change post u x1 x2 x3 := by
  obtain ⟨a, b, c, d, e, f, g, i⟩ := u
  unfold wpX_change
  dsimp only
  exact un_xS0 hx (br_t rfl h)
theorem un_XC2 {post : Int32 → SX → Prop} {u : SX} {x2 : Int32} {j : Nat} (hj : j < 4) (hx : x2 < 0 ∨ nI 8 ≤ x2) (h : post (-1) u) : wpX_change post u (nI j) x2 x3 := by
  obtain ⟨a, b, c, d, e, f, g, i⟩ := u
  unfold wpX_change
  dsimp only
  exact un_xS1 hj (br_f (by decide) (un_xR0 hx (br_t rfl h)))
end
section
variable {n T rc : Nat} {row val bef who num kept now lock gone cr vb cb cn : Nat → Int32}
theorem un_XC3 (Y : un_YI n T row val bef who num kept now lock gone) (X : un_XI n rc cr vb cb cn row bef who num kept) {post : Int32 → SX → Prop} {t x3 : Int32} {j r : Nat} (hj : j < 4) (hr : r < 8) (hl : ¬ (lock r = -4 ∨ lock r = nI j)) (h : post (-2) (nI rc, t, now, gone, cr, vb, cb, cn)) : wpX_change post (nI rc, t, now, gone, cr, vb, cb, cn) (nI j) (nI r) x3 := by
  unfold wpX_change
  dsimp only
  exact un_xS1 hj (br_f (by decide) (un_xR1 hr (br_f (by decide) (un_hold Y X hr (br_f (fun z => hl (Or.inl z)) (br_f (fun z => hl (Or.inr z)) h))))))
theorem un_XC4 (Y : un_YI n T row val bef who num kept now lock gone) (X : un_XI n rc cr vb cb cn row bef who num kept) {post : Int32 → SX → Prop} {t x3 : Int32} {j r : Nat} (hj : j < 4) (hr : r < 8) (hl : lock r = -4 ∨ lock r = nI j) (h : wX_change_41 post (nI j) (nI r) x3 (nI rc) t now gone cr vb cb cn) : wpX_change post (nI rc, t, now, gone, cr, vb, cb, cn) (nI j) (nI r) x3 := by
  unfold wpX_change
  dsimp only
  refine un_xS1 hj (br_f (by decide) (un_xR1 hr (br_f (by decide) (un_hold Y X hr ?_))))
  by_cases z : lock r = -4
  · exact br_t z h
  · exact br_f z (br_t (hl.resolve_left z) h)
end
