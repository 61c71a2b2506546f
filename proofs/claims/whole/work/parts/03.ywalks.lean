theorem un_g3 {x : Int32} (h : nI 4 ≤ x) : 3 < x := by
  rw [un_le, nI_toInt (by decide)] at h
  rw [un_lt, show (3 : Int32).toInt = 3 from by decide]
  omega
theorem un_g7 {x : Int32} (h : nI 8 ≤ x) : 7 < x := by
  rw [un_le, nI_toInt (by decide)] at h
  rw [un_lt, show (7 : Int32).toInt = 7 from by decide]
  omega
theorem un_yS1 {post : Int32 → Prop} {u : SY} {j : Nat} (hj : j < 4) (h : post 1) : wpY_session post u (nI j) := by
  obtain ⟨a, b, c, d, e, f, g, i, k, l, m⟩ := u
  exact br_f (nI_pos (by omega)) (br_f (nI_nlt (b := j) (a := 3) (by omega) (by decide)) h)
theorem un_yS0 {post : Int32 → Prop} {u : SY} {x : Int32} (hx : x < 0 ∨ nI 4 ≤ x) (h : post 0) : wpY_session post u x := by
  obtain ⟨a, b, c, d, e, f, g, i, k, l, m⟩ := u
  by_cases z : x < 0
  · exact br_t z h
  · exact br_f z (br_t (un_g3 (hx.resolve_left z)) h)
theorem un_yR1 {post : Int32 → Prop} {u : SY} {j : Nat} (hj : j < 8) (h : post 1) : wpY_isRow post u (nI j) := by
  obtain ⟨a, b, c, d, e, f, g, i, k, l, m⟩ := u
  exact br_f (nI_pos (by omega)) (br_f (nI_nlt (b := j) (a := 7) (by omega) (by decide)) h)
theorem un_yR0 {post : Int32 → Prop} {u : SY} {x : Int32} (hx : x < 0 ∨ nI 8 ≤ x) (h : post 0) : wpY_isRow post u x := by
  obtain ⟨a, b, c, d, e, f, g, i, k, l, m⟩ := u
  by_cases z : x < 0
  · exact br_t z h
  · exact br_f z (br_t (un_g7 (hx.resolve_left z)) h)
theorem un_yi {post : SY → Prop} (h : ∀ lock : Nat → Int32, (∀ r, r < 8 → lock r = -4) → post (0, 0, (fun _ => 0), (fun _ => 0), (fun _ => 0), (fun _ => 0), (fun _ => 0), (fun _ => 0), (fun _ => 0), lock, (fun _ => 0))) : wpY_init post := by
  have H : ∀ m i, ∀ lock : Nat → Int32, i ≤ 8 → 8 < m + i → (∀ r, r < i → lock r = -4) → wY_init_84 post 0 0 m (nI i) (fun _ => 0) (fun _ => 0) (fun _ => 0) (fun _ => 0) (fun _ => 0) (fun _ => 0) (fun _ => 0) lock (fun _ => 0) := by
    intro m
    induction m with
    | zero => intro i lock h2 h3; omega
    | succ m ih =>
      intro i lock h2 h3 h4
      have hc : (nI i).toNatClampNeg = i := nI_clamp (by omega)
      rw [wY_init_84]
      dsimp only
      rw [hc]
      by_cases e : i = 8
      · rw [e] at h4
        rw [e]
        exact br_t (nI_le (Nat.le_refl 8) (by decide)) (h lock h4)
      · refine br_f (nI_ge (b := 8) (by omega) (by decide)) ⟨vp_in_nI (by omega) (by decide), ?_⟩
        intro a ea y ey
        rw [ey, nI_1 i, ea]
        refine ih (i + 1) _ (by omega) (by omega) (lt_s ?_ pk_us)
        intro r hr
        rw [pk_un (by omega)]
        exact h4 r hr
  exact Exists.intro 9 (H 9 0 _ (by omega) (by omega) lt_0)
section
variable {R T x : Int32} {row val bef who num kept now lock gone : Nat → Int32} {n : Nat}
theorem un_yok {post : Int32 → Prop} {c0 : Nat} (hn : n ≤ 512) (hc0 : c0 < n) (hk : ¬ kept c0 = 0) (hf : ∀ d, d < c0 → kept d = 0) (h : post (nI c0)) : wpY_oldestKept post (nI n, T, row, val, bef, who, num, kept, now, lock, gone) := by
  have H : ∀ m i, i ≤ c0 → c0 < m + i → wY_oldestKept_2 post (nI n) T row val bef who num kept now lock gone m (nI i) := by
    intro m
    induction m with
    | zero => intro i h2 h3; omega
    | succ m ih =>
      intro i h2 h3
      have hc : (nI i).toNatClampNeg = i := nI_clamp (by omega)
      rw [wY_oldestKept_2]
      dsimp only
      rw [hc]
      refine br_f (nI_ge (by omega) (by omega)) ⟨vp_in_nI (by omega) (by decide), ?_⟩
      by_cases e : i = c0
      · rw [e]
        exact br_f hk h
      · refine br_t (hf i (by omega)) ?_
        intro y ey
        rw [ey, nI_1 i]
        exact ih (i + 1) (by omega) (by omega)
  exact Exists.intro (c0 + 1) (H (c0 + 1) 0 (Nat.zero_le _) (by omega))
theorem un_yrm {post : Int32 → Prop} (hn : n ≤ 512) (h : post (nI (un_q kept n))) : wpY_remembered post (nI n, T, row, val, bef, who, num, kept, now, lock, gone) := by
  have H : ∀ m i, i ≤ n → n < m + i → wY_remembered_4 post (nI n) T row val bef who num kept now lock gone m (nI (un_q kept i)) (nI i) := by
    intro m
    induction m with
    | zero => intro i h2 h3; omega
    | succ m ih =>
      intro i h2 h3
      have hc : (nI i).toNatClampNeg = i := nI_clamp (by omega)
      rw [wY_remembered_4]
      dsimp only
      rw [hc]
      by_cases e : i = n
      · rw [e]
        exact br_t (nI_le (Nat.le_refl _) (by omega)) h
      · have k := ih (i + 1) (by omega) (by omega)
        refine br_f (nI_ge (by omega) (by omega)) ⟨vp_in_nI (by omega) (by decide), ?_⟩
        by_cases z : kept i = 0
        · refine br_t z ?_
          intro y ey
          rw [un_q_s0 z] at k
          rw [ey, nI_1 i]
          exact k
        · refine br_f z ?_
          intro y ey y2 ey2
          rw [un_q_s1 z] at k
          rw [ey, ey2, nI_1 (un_q kept i), nI_1 i]
          exact k
  exact Exists.intro (n + 1) (H (n + 1) 0 (Nat.zero_le _) (by omega))
theorem un_yrl {post : SY → Prop} (h : ∀ lock' : Nat → Int32, (∀ r, r < 8 → lock' r = if lock r = x then -4 else lock r) → post (R, T, row, val, bef, who, num, kept, now, lock', gone)) : wpY_release post (R, T, row, val, bef, who, num, kept, now, lock, gone) x := by
  have H : ∀ m i, ∀ lock' : Nat → Int32, i ≤ 8 → 8 < m + i → (∀ r, r < i → lock' r = if lock r = x then -4 else lock r) → (∀ r, i ≤ r → lock' r = lock r) → wY_release_2 post x R T m (nI i) row val bef who num kept now lock' gone := by
    intro m
    induction m with
    | zero => intro i lock' h2 h3; omega
    | succ m ih =>
      intro i lock' h2 h3 h4 h5
      have hc : (nI i).toNatClampNeg = i := nI_clamp (by omega)
      rw [wY_release_2]
      dsimp only
      rw [hc]
      by_cases e : i = 8
      · rw [e] at h4
        rw [e]
        exact br_t (nI_le (Nat.le_refl 8) (by decide)) (h lock' h4)
      · have hv : vp_in (nI i) 8 := vp_in_nI (by omega) (by decide)
        have hi := h5 i (Nat.le_refl _)
        refine br_f (nI_ge (b := 8) (by omega) (by decide)) ⟨hv, ?_⟩
        by_cases z : lock' i = x
        · refine br_t z ⟨hv, ?_⟩
          intro a ea y ey
          rw [ey, nI_1 i, ea]
          refine ih (i + 1) _ (by omega) (by omega) (lt_s ?_ ?_) ?_
          · intro r hr
            rw [pk_un (by omega)]
            exact h4 r hr
          · rw [pk_us, if_pos (hi ▸ z)]
          · intro r hr
            rw [pk_un (by omega)]
            exact h5 r (by omega)
        · refine br_f z ⟨hv, hv, ?_⟩
          intro a ea y ey
          rw [ey, nI_1 i, ea]
          refine ih (i + 1) _ (by omega) (by omega) (lt_s ?_ ?_) ?_
          · intro r hr
            rw [pk_un (by omega)]
            exact h4 r hr
          · rw [pk_us, hi, if_neg (hi ▸ z)]
          · intro r hr
            rw [pk_un (by omega)]
            exact h5 r (by omega)
  exact Exists.intro 9 (H 9 0 lock (by omega) (by omega) lt_0 (fun r _ => rfl))
theorem un_yc {post : Int32 → Prop} {j : Nat} (hj : j < 4) (hn : n ≤ 512) (h : post (nI (un_c (nI j) who num n))) : wpY_changes post (nI n, T, row, val, bef, who, num, kept, now, lock, gone) (nI j) := by
  have H : ∀ m i, i ≤ n → n < m + i → wY_changes_4 post (nI j) (nI n) T row val bef who num kept now lock gone m (nI (un_c (nI j) who num i)) (nI i) := by
    intro m
    induction m with
    | zero => intro i h2 h3; omega
    | succ m ih =>
      intro i h2 h3
      have hc : (nI i).toNatClampNeg = i := nI_clamp (by omega)
      rw [wY_changes_4]
      dsimp only
      rw [hc]
      by_cases e : i = n
      · rw [e]
        exact br_t (nI_le (Nat.le_refl _) (by omega)) h
      · have k := ih (i + 1) (by omega) (by omega)
        have hv : vp_in (nI i) 512 := vp_in_nI (by omega) (by decide)
        refine br_f (nI_ge (by omega) (by omega)) (un_yS1 hj (br_f (by decide) ⟨hv, ?_⟩))
        by_cases z : who i = nI j
        · refine br_t z ⟨hv, ?_⟩
          by_cases w : num i = 0
          · refine br_t w ?_
            intro y ey y2 ey2
            rw [un_c_s1 ⟨w, z⟩] at k
            rw [ey, ey2, nI_1 (un_c (nI j) who num i), nI_1 i]
            exact k
          · refine br_f w ?_
            intro y ey
            rw [un_c_s0 (fun a => w a.1)] at k
            rw [ey, nI_1 i]
            exact k
        · refine br_f z ?_
          intro y ey
          rw [un_c_s0 (fun a => z a.2)] at k
          rw [ey, nI_1 i]
          exact k
  exact Exists.intro (n + 1) (H (n + 1) 0 (Nat.zero_le _) (by omega))
theorem un_yc0 {post : Int32 → Prop} (hx : x < 0 ∨ nI 4 ≤ x) (hn : n ≤ 512) (h : post 0) : wpY_changes post (nI n, T, row, val, bef, who, num, kept, now, lock, gone) x := by
  have H : ∀ m i, i ≤ n → n < m + i → wY_changes_4 post x (nI n) T row val bef who num kept now lock gone m 0 (nI i) := by
    intro m
    induction m with
    | zero => intro i h2 h3; omega
    | succ m ih =>
      intro i h2 h3
      rw [wY_changes_4]
      dsimp only
      by_cases e : i = n
      · rw [e]
        exact br_t (nI_le (Nat.le_refl _) (by omega)) h
      · have k := ih (i + 1) (by omega) (by omega)
        refine br_f (nI_ge (by omega) (by omega)) (un_yS0 hx (br_t rfl ?_))
        intro y ey
        rw [ey, nI_1 i]
        exact k
  exact Exists.intro (n + 1) (H (n + 1) 0 (Nat.zero_le _) (by omega))
theorem un_ycm {post : Int32 → SY → Prop} (hn : n ≤ 512) (h : ∀ num' lock' : Nat → Int32, (∀ c, c < n → num' c = if num c = 0 ∧ who c = x then T else num c) → (∀ r, r < 8 → lock' r = if lock r = x then -4 else lock r) → post T (nI n, T, row, val, bef, who, num', kept, now, lock', gone)) : ∃ m, wY_commit_23 post x (nI n) T m 0 row val bef who num kept now lock gone := by
  have H : ∀ m i, ∀ num' : Nat → Int32, i ≤ n → n < m + i → (∀ c, c < i → num' c = if num c = 0 ∧ who c = x then T else num c) → (∀ c, i ≤ c → num' c = num c) → wY_commit_23 post x (nI n) T m (nI i) row val bef who num' kept now lock gone := by
    intro m
    induction m with
    | zero => intro i num' h2 h3; omega
    | succ m ih =>
      intro i num' h2 h3 h4 h5
      have hc : (nI i).toNatClampNeg = i := nI_clamp (by omega)
      rw [wY_commit_23]
      dsimp only
      rw [hc]
      by_cases e : i = n
      · rw [e] at h4
        rw [e]
        exact br_t (nI_le (Nat.le_refl _) (by omega)) (un_yrl (fun lock' hl => h num' lock' h4 hl))
      · have hv : vp_in (nI i) 512 := vp_in_nI (by omega) (by decide)
        have hi := h5 i (Nat.le_refl _)
        have hlo : ∀ t : Int32, ∀ c, c < i → upd num' i t c = if num c = 0 ∧ who c = x then T else num c := by
          intro t c hc2
          rw [pk_un (by omega)]
          exact h4 c hc2
        have hhi : ∀ t : Int32, ∀ c, i + 1 ≤ c → upd num' i t c = num c := by
          intro t c hc2
          rw [pk_un (by omega)]
          exact h5 c (by omega)
        refine br_f (nI_ge (by omega) (by omega)) ⟨hv, ?_⟩
        by_cases z : who i = x
        · refine br_t z ⟨hv, ?_⟩
          by_cases w : num' i = 0
          · refine br_t w ⟨hv, ?_⟩
            intro a ea y ey
            rw [ey, nI_1 i, ea]
            refine ih (i + 1) _ (by omega) (by omega) (lt_s (hlo _) ?_) (hhi _)
            rw [hi] at w
            rw [pk_us, if_pos ⟨w, z⟩]
          · refine br_f w ⟨hv, hv, ?_⟩
            intro a ea y ey
            rw [ey, nI_1 i, ea]
            refine ih (i + 1) _ (by omega) (by omega) (lt_s (hlo _) ?_) (hhi _)
            rw [hi] at w
            rw [pk_us, hi, if_neg (fun a => w a.1)]
        · refine br_f z ⟨hv, hv, ?_⟩
          intro a ea y ey
          rw [ey, nI_1 i, ea]
          refine ih (i + 1) _ (by omega) (by omega) (lt_s (hlo _) ?_) (hhi _)
          rw [pk_us, hi, if_neg (fun a => z a.2)]
  exact Exists.intro (n + 1) (H (n + 1) 0 num (Nat.zero_le _) (by omega) lt_0 (fun c _ => rfl))
theorem un_yrb {post : Int32 → SY → Prop} (hn : n ≤ 512) (hrow : ∀ c, c < n → vp_in (row c) 8) (h : ∀ num' kept' lock' : Nat → Int32, (∀ c, c < n → num' c = if num c = 0 ∧ who c = x then -1 else num c) → (∀ c, c < n → kept' c = if num c = 0 ∧ who c = x then 0 else kept c) → (∀ r, r < 8 → lock' r = if lock r = x then -4 else lock r) → post 0 (nI n, T, row, val, bef, who, num', kept', un_rs x row bef who num n now, lock', gone)) : ∃ m, wY_rollback_18 post x (nI n) T m (nI n - 1) row val bef who num kept now lock gone := by
  have H : ∀ m i, ∀ num' kept' now' : Nat → Int32, i ≤ n → i < m → (∀ c, c < i → num' c = num c ∧ kept' c = kept c) → (∀ c, i ≤ c → c < n → (num' c = if num c = 0 ∧ who c = x then -1 else num c) ∧ (kept' c = if num c = 0 ∧ who c = x then 0 else kept c)) → un_rs x row bef who num i now' = un_rs x row bef who num n now → wY_rollback_18 post x (nI n) T m (nI i - 1) row val bef who num' kept' now' lock gone := by
    intro m
    induction m with
    | zero => intro i num' kept' now' h2 h3; omega
    | succ m ih =>
      intro i num' kept' now' h2 h3 h4 h5 h6
      cases i with
      | zero =>
        rw [wY_rollback_18]
        dsimp only
        have e : now' = un_rs x row bef who num n now := h6
        rw [e]
        exact br_t (by decide) (un_yrl (fun lock' hl => h num' kept' lock' (fun c hc => (h5 c (Nat.zero_le _) hc).1) (fun c hc => (h5 c (Nat.zero_le _) hc).2) hl))
      | succ i =>
        have hc : (nI i).toNatClampNeg = i := nI_clamp (by omega)
        have hv : vp_in (nI i) 512 := vp_in_nI (by omega) (by decide)
        obtain ⟨hi, hki⟩ := h4 i (by omega)
        have skip : ¬ (num i = 0 ∧ who i = x) → ∀ y, y = nI i + (-1) → wY_rollback_18 post x (nI n) T m y row val bef who num' kept' now' lock gone := by
          intro w y ey
          rw [ey, un_m1]
          refine ih i num' kept' now' (by omega) (by omega) (fun c hc2 => h4 c (by omega)) ?_ ?_
          · intro c hc1 hc2
            rcases Nat.lt_or_ge i c with q | q
            · exact h5 c q hc2
            · have ec : c = i := by omega
              rw [ec, if_neg w, if_neg w]
              exact ⟨hi, hki⟩
          · rw [← h6, un_rs_s0 now' w]
        rw [nI_pred i, wY_rollback_18]
        dsimp only
        rw [hc]
        refine br_f (nI_pos (by omega)) ⟨hv, ?_⟩
        by_cases z : who i = x
        · refine br_t z ⟨hv, ?_⟩
          by_cases w : num' i = 0
          · rw [hi] at w
            refine br_t (by rw [hi]; exact w) ⟨hv, hv, hrow i (by omega), ?_⟩
            intro a ea
            refine ⟨hv, ?_⟩
            intro b eb
            refine ⟨hv, ?_⟩
            intro k ek y ey
            rw [ey, un_m1, ea, eb, ek, un_b0]
            refine ih i _ _ _ (by omega) (by omega) ?_ ?_ ?_
            · intro c hc2
              rw [pk_un (by omega), pk_un (by omega)]
              exact h4 c (by omega)
            · intro c hc1 hc2
              rcases Nat.lt_or_ge i c with q | q
              · rw [pk_un (by omega), pk_un (by omega)]
                exact h5 c q hc2
              · have ec : c = i := by omega
                rw [ec, if_pos ⟨w, z⟩, if_pos ⟨w, z⟩, pk_us, pk_us]
                exact ⟨rfl, rfl⟩
            · rw [← h6, un_rs_s1 now' ⟨w, z⟩]
          · refine br_f w (skip ?_)
            rw [hi] at w
            exact fun a => w a.1
        · exact br_f z (skip (fun a => z a.2))
  exact Exists.intro (n + 1) (H (n + 1) n num kept now (Nat.le_refl _) (by omega) (fun c _ => ⟨rfl, rfl⟩) (fun c a b => absurd b (by omega)) rfl)
theorem un_yv {post : Int32 → Prop} {r s : Int32} (hn : n ≤ 512) (h : post (un_va r s row val num n)) : wpY_valueAt post (nI n, T, row, val, bef, who, num, kept, now, lock, gone) r s := by
  have H : ∀ m i, i ≤ n → n < m + i → wY_valueAt_5 post r s (nI n) T row val bef who num kept now lock gone m (un_va r s row val num i) (nI i) := by
    intro m
    induction m with
    | zero => intro i h2 h3; omega
    | succ m ih =>
      intro i h2 h3
      have hc : (nI i).toNatClampNeg = i := nI_clamp (by omega)
      rw [wY_valueAt_5]
      dsimp only
      rw [hc]
      by_cases e : i = n
      · rw [e]
        exact br_t (nI_le (Nat.le_refl _) (by omega)) h
      · have k := ih (i + 1) (by omega) (by omega)
        have hv : vp_in (nI i) 512 := vp_in_nI (by omega) (by decide)
        have skip : ¬ (row i = r ∧ 0 < (num i).toInt ∧ (num i).toInt ≤ s.toInt) → ∀ y, y = nI i + 1 → wY_valueAt_5 post r s (nI n) T row val bef who num kept now lock gone m (un_va r s row val num i) y := by
          intro w y ey
          rw [un_va_s0 w] at k
          rw [ey, nI_1 i]
          exact k
        refine br_f (nI_ge (by omega) (by omega)) ⟨hv, ?_⟩
        by_cases z : row i = r
        · refine br_t z ⟨hv, ?_⟩
          by_cases w : num i ≤ 0
          · refine br_t w (skip ?_)
            rw [un_le0] at w
            omega
          · refine br_f w ⟨hv, ?_⟩
            by_cases t : s < num i
            · refine br_t t (skip ?_)
              rw [un_lt] at t
              omega
            · refine br_f t ⟨hv, ?_⟩
              intro y ey y2 ey2
              rw [un_le0] at w
              rw [un_lt] at t
              rw [un_va_s1 ⟨z, by omega, by omega⟩] at k
              rw [ey, ey2, nI_1 i]
              exact k
        · exact br_f z (skip (fun a => z a.1))
  exact Exists.intro (n + 1) (H (n + 1) 0 (Nat.zero_le _) (by omega))
theorem un_yl {post : Int32 → Prop} {j : Nat} (hj : j < 4) (h : ∀ res, (∀ b, b < 32 → (bt res b = true ↔ b < 8 ∧ lock b = nI j)) → post res) : wpY_locks post (R, T, row, val, bef, who, num, kept, now, lock, gone) (nI j) := by
  have H : ∀ m i z, i ≤ 8 → 8 < m + i → (∀ b, b < 32 → (bt z b = true ↔ b < i ∧ lock b = nI j)) → wY_locks_4 post (nI j) R T row val bef who num kept now lock gone m z (nI i) := by
    intro m
    induction m with
    | zero => intro i z h2 h3; omega
    | succ m ih =>
      intro i z h2 h3 h4
      have hc : (nI i).toNatClampNeg = i := nI_clamp (by omega)
      rw [wY_locks_4]
      dsimp only
      rw [hc]
      by_cases e : i = 8
      · rw [e] at h4
        rw [e]
        exact br_t (nI_le (Nat.le_refl 8) (by decide)) (h z h4)
      · refine br_f (nI_ge (b := 8) (by omega) (by decide)) (un_yS1 hj (br_f (by decide) ⟨vp_in_nI (by omega) (by decide), ?_⟩))
        by_cases w : lock i = nI j
        · refine br_t w ?_
          intro y ey y2 ey2
          rw [ey2, nI_1 i]
          refine ih (i + 1) y (by omega) (by omega) ?_
          intro b hb
          rw [ey, b_or, un_b1 i (by omega) b hb, Bool.or_eq_true, h4 b hb, decide_eq_true_iff]
          constructor
          · intro t
            rcases t with ⟨t1, t2⟩ | t
            · exact ⟨by omega, t2⟩
            · rw [t]; exact ⟨by omega, w⟩
          · intro t
            rcases Nat.lt_or_ge b i with t3 | t3
            · exact Or.inl ⟨t3, t.2⟩
            · exact Or.inr (by omega)
        · refine br_f w ?_
          intro y ey
          rw [ey, nI_1 i]
          refine ih (i + 1) z (by omega) (by omega) ?_
          intro b hb
          rw [h4 b hb]
          constructor
          · intro t
            exact ⟨by omega, t.2⟩
          · intro t
            rcases Nat.lt_or_ge b i with t3 | t3
            · exact ⟨t3, t.2⟩
            · have eb : b = i := by omega
              rw [eb] at t
              exact absurd t.2 w
  refine Exists.intro 9 (H 9 0 0 (by omega) (by omega) ?_)
  intro b hb
  rw [b_0]
  constructor
  · intro t; exact absurd t (by decide)
  · intro t; exact absurd t.1 (Nat.not_lt_zero b)
theorem un_yl0 {post : Int32 → Prop} (hx : x < 0 ∨ nI 4 ≤ x) (h : post 0) : wpY_locks post (R, T, row, val, bef, who, num, kept, now, lock, gone) x := by
  have H : ∀ m i, i ≤ 8 → 8 < m + i → wY_locks_4 post x R T row val bef who num kept now lock gone m 0 (nI i) := by
    intro m
    induction m with
    | zero => intro i h2 h3; omega
    | succ m ih =>
      intro i h2 h3
      rw [wY_locks_4]
      dsimp only
      by_cases e : i = 8
      · rw [e]
        exact br_t (nI_le (Nat.le_refl 8) (by decide)) h
      · have k := ih (i + 1) (by omega) (by omega)
        refine br_f (nI_ge (b := 8) (by omega) (by decide)) (un_yS0 hx (br_t rfl ?_))
        intro y ey
        rw [ey, nI_1 i]
        exact k
  exact Exists.intro 9 (H 9 0 (by omega) (by omega))
end
