section
theorem pk_us {f : Nat → Int32} {k : Nat} {x : Int32} : upd f k x k = x := if_pos rfl
theorem pk_un {f : Nat → Int32} {k j : Nat} {x : Int32} (h : j ≠ k) : upd f k x j = f j := if_neg h
theorem pk_ix (x : Int32) {n : Nat} (hn : n < 2 ^ 31) : x < 0 ∨ nI n ≤ x ∨ ∃ j : Nat, j < n ∧ x = nI j := by
  by_cases h : x < 0
  · exact Or.inl h
  · obtain ⟨j, hj, rfl⟩ := nI_of h
    by_cases h2 : j < n
    · exact Or.inr (Or.inr ⟨j, h2, rfl⟩)
    · exact Or.inr (Or.inl (nI_le (by omega) hj))
def bt (x : Int32) (i : Nat) : Bool := x.toBitVec.getLsbD i
theorem b_ext {x y : Int32} (h : ∀ i, i < 32 → bt x i = bt y i) : x = y := Int32.toBitVec_inj.mp (BitVec.eq_of_getLsbD_eq (fun i hi => h i hi))
theorem b_or (x y : Int32) (i : Nat) : bt (x ||| y) i = (bt x i || bt y i) := by unfold bt; rw [Int32.toBitVec_or, BitVec.getLsbD_or]
theorem b_0 (i : Nat) : bt 0 i = false := BitVec.getLsbD_zero
theorem un_b1 : ∀ r, r < 8 → ∀ b, b < 32 → bt ((1 : Int32) <<< (nI r &&& 31)) b = decide (b = r) := by decide +kernel
theorem un_bext {x y : Int32} (h : ∀ b, b < 32 → (bt x b = true ↔ bt y b = true)) : x = y := by
  apply b_ext
  intro i hi
  have e := h i hi
  cases h1 : bt x i with
  | true => exact (e.mp h1).symm
  | false =>
    cases h2 : bt y i with
    | true => rw [e.mpr h2] at h1; exact absurd h1 (by decide)
    | false => rfl
theorem un_0 : (0 : Int32).toInt = 0 := by decide
theorem un_z {x : Int32} : x = 0 ↔ x.toInt = 0 := by
  constructor
  · intro h; rw [h]; exact un_0
  · intro h
    apply Int32.toInt_inj.mp
    rw [h, un_0]
theorem un_le {x y : Int32} : x ≤ y ↔ x.toInt ≤ y.toInt := Int32.le_iff_toInt_le
theorem un_lt {x y : Int32} : x < y ↔ x.toInt < y.toInt := Int32.lt_iff_toInt_lt
theorem un_le0 {x : Int32} : x ≤ 0 ↔ x.toInt ≤ 0 := by rw [un_le, un_0]
theorem un_neg {x : Int32} : x < 0 ↔ x.toInt < 0 := by rw [un_lt, un_0]
theorem un_m4 {j : Nat} (h : j < 4) : ¬ nI j = -4 := by
  intro e
  have e2 := congrArg Int32.toInt e
  rw [nI_toInt (by omega), show (-4 : Int32).toInt = -4 from by decide] at e2
  omega
theorem un_m1 (n : Nat) : nI n + (-1) = nI n - 1 := (Int32.sub_eq_add_neg (nI n) 1).symm
theorem un_b0 : vp_nar .boolean 0 = 0 := rfl
theorem un_bb1 : vp_nar .boolean 1 = 1 := rfl
theorem un_inj {a b : Nat} (ha : a < 8) (hb : b < 8) (h : nI a = nI b) : a = b := (nI_eq (by omega) (by omega)).mp h
theorem un_inj4 {a b : Nat} (ha : a < 4) (hb : b < 4) (h : nI a = nI b) : a = b := (nI_eq (by omega) (by omega)).mp h

def un_q (kept : Nat → Int32) : Nat → Nat
  | 0 => 0
  | m + 1 => if kept m = 0 then un_q kept m else un_q kept m + 1
theorem un_q_s0 {kept : Nat → Int32} {m : Nat} (h : kept m = 0) : un_q kept (m + 1) = un_q kept m := if_pos h
theorem un_q_s1 {kept : Nat → Int32} {m : Nat} (h : ¬ kept m = 0) : un_q kept (m + 1) = un_q kept m + 1 := if_neg h
theorem un_q_le (kept : Nat → Int32) : ∀ d c, c ≤ d → un_q kept c ≤ un_q kept d := by
  intro d
  induction d with
  | zero => intro c h; rw [Nat.le_zero.mp h]; exact Nat.le_refl _
  | succ d ih =>
    intro c h
    rcases Nat.lt_or_ge c (d + 1) with h1 | h1
    · have := ih c (by omega)
      by_cases z : kept d = 0
      · rw [un_q_s0 z]; exact this
      · rw [un_q_s1 z]; omega
    · have e : c = d + 1 := by omega
      rw [e]; exact Nat.le_refl _
theorem un_q_n (kept : Nat → Int32) : ∀ d, un_q kept d ≤ d := by
  intro d
  induction d with
  | zero => exact Nat.le_refl _
  | succ d ih =>
    by_cases z : kept d = 0
    · rw [un_q_s0 z]; omega
    · rw [un_q_s1 z]; omega
theorem un_q_lt {kept : Nat → Int32} {c d : Nat} (h : c < d) (hk : ¬ kept c = 0) : un_q kept c < un_q kept d := by
  have := un_q_le kept d (c + 1) h
  rw [un_q_s1 hk] at this
  omega
theorem un_q_cong {kept kept' : Nat → Int32} : ∀ c, (∀ d, d < c → (kept' d = 0 ↔ kept d = 0)) → un_q kept' c = un_q kept c := by
  intro c
  induction c with
  | zero => intro _; rfl
  | succ c ih =>
    intro h
    have e := ih (fun d hd => h d (by omega))
    have hc := h c (by omega)
    by_cases z : kept c = 0
    · rw [un_q_s0 z, un_q_s0 (hc.mpr z), e]
    · rw [un_q_s1 z, un_q_s1 (fun y => z (hc.mp y)), e]
theorem un_q_ex {kept : Nat → Int32} : ∀ n i, i < un_q kept n → ∃ c, c < n ∧ (¬ kept c = 0) ∧ un_q kept c = i := by
  intro n
  induction n with
  | zero => intro i h; exact absurd h (Nat.not_lt_zero i)
  | succ n ih =>
    intro i h
    by_cases z : kept n = 0
    · rw [un_q_s0 z] at h
      obtain ⟨c, h1, h2, h3⟩ := ih i h
      exact ⟨c, by omega, h2, h3⟩
    · rw [un_q_s1 z] at h
      rcases Nat.lt_or_ge i (un_q kept n) with h1 | h1
      · obtain ⟨c, h1, h2, h3⟩ := ih i h1
        exact ⟨c, by omega, h2, h3⟩
      · exact ⟨n, by omega, z, by omega⟩
theorem un_q_first {kept : Nat → Int32} {n : Nat} (h : 0 < un_q kept n) : ∃ c, c < n ∧ (¬ kept c = 0) ∧ (∀ d, d < c → kept d = 0) ∧ un_q kept c = 0 := by
  obtain ⟨c, h1, h2, h3⟩ := un_q_ex n 0 h
  refine ⟨c, h1, h2, ?_, h3⟩
  intro d hd
  by_cases z : kept d = 0
  · exact z
  · have := un_q_lt hd z
    omega
theorem un_q_drop {kept kept' : Nat → Int32} {c0 : Nat} (h0 : ¬ kept c0 = 0) (h1 : kept' c0 = 0) (h2 : ∀ d, d ≠ c0 → kept' d = kept d) : ∀ c, c0 < c → un_q kept' c + 1 = un_q kept c := by
  intro c
  induction c with
  | zero => intro h; omega
  | succ c ih =>
    intro h
    rcases Nat.lt_or_ge c0 c with h3 | h3
    · have e := ih h3
      have hc := h2 c (by omega)
      by_cases z : kept c = 0
      · rw [un_q_s0 z, un_q_s0 (hc.trans z), e]
      · rw [un_q_s1 z, un_q_s1 (by rw [hc]; exact z)]; omega
    · have ec : c = c0 := by omega
      rw [ec, un_q_s1 h0, un_q_s0 h1, un_q_cong c0 (fun d hd => by rw [h2 d (by omega)])]

def un_c (x : Int32) (who num : Nat → Int32) : Nat → Nat
  | 0 => 0
  | m + 1 => if num m = 0 ∧ who m = x then un_c x who num m + 1 else un_c x who num m
theorem un_c_s1 {x : Int32} {who num : Nat → Int32} {m : Nat} (h : num m = 0 ∧ who m = x) : un_c x who num (m + 1) = un_c x who num m + 1 := if_pos h
theorem un_c_s0 {x : Int32} {who num : Nat → Int32} {m : Nat} (h : ¬ (num m = 0 ∧ who m = x)) : un_c x who num (m + 1) = un_c x who num m := if_neg h
theorem un_c_n (x : Int32) (who num : Nat → Int32) : ∀ d, un_c x who num d ≤ d := by
  intro d
  induction d with
  | zero => exact Nat.le_refl _
  | succ d ih =>
    by_cases z : num d = 0 ∧ who d = x
    · rw [un_c_s1 z]; omega
    · rw [un_c_s0 z]; omega
theorem un_c_0 {x : Int32} {who num : Nat → Int32} : ∀ n, (∀ c, c < n → ¬ who c = x) → un_c x who num n = 0 := by
  intro n
  induction n with
  | zero => intro _; rfl
  | succ n ih =>
    intro h
    rw [un_c_s0 (fun z => h n (by omega) z.2)]
    exact ih (fun c hc => h c (by omega))
theorem un_c_link {n : Nat} {x : Int32} {kept who num cb cn : Nat → Int32} (hK : ∀ c, c < n → num c = 0 → ¬ kept c = 0) (hb : ∀ c, c < n → ¬ kept c = 0 → cb (un_q kept c) = who c) (hn : ∀ c, c < n → ¬ kept c = 0 → cn (un_q kept c) = num c) : ∀ c, c ≤ n → un_c x cb cn (un_q kept c) = un_c x who num c := by
  intro c
  induction c with
  | zero => intro _; rfl
  | succ c ih =>
    intro h
    have e := ih (by omega)
    by_cases z : kept c = 0
    · rw [un_q_s0 z, e, un_c_s0 (fun y => hK c (by omega) y.1 z)]
    · rw [un_q_s1 z]
      by_cases w : num c = 0 ∧ who c = x
      · rw [un_c_s1 w, un_c_s1 (by rw [hb c (by omega) z, hn c (by omega) z]; exact w), e]
      · rw [un_c_s0 w, un_c_s0 (by rw [hb c (by omega) z, hn c (by omega) z]; exact w), e]

def un_lv (r : Int32) (row val num : Nat → Int32) : Nat → Int32
  | 0 => 0
  | m + 1 => if row m = r ∧ 0 ≤ (num m).toInt then val m else un_lv r row val num m
theorem un_lv_s1 {r : Int32} {row val num : Nat → Int32} {m : Nat} (h : row m = r ∧ 0 ≤ (num m).toInt) : un_lv r row val num (m + 1) = val m := if_pos h
theorem un_lv_s0 {r : Int32} {row val num : Nat → Int32} {m : Nat} (h : ¬ (row m = r ∧ 0 ≤ (num m).toInt)) : un_lv r row val num (m + 1) = un_lv r row val num m := if_neg h
theorem un_lv_cong {r : Int32} {row val num row' val' num' : Nat → Int32} : ∀ m, (∀ d, d < m → row' d = row d ∧ val' d = val d ∧ (row d = r → (0 ≤ (num' d).toInt ↔ 0 ≤ (num d).toInt))) → un_lv r row' val' num' m = un_lv r row val num m := by
  intro m
  induction m with
  | zero => intro _; rfl
  | succ m ih =>
    intro h
    have e := ih (fun d hd => h d (by omega))
    obtain ⟨h1, h2, h3⟩ := h m (by omega)
    by_cases z : row m = r ∧ 0 ≤ (num m).toInt
    · rw [un_lv_s1 z, un_lv_s1 ⟨h1.trans z.1, (h3 z.1).mpr z.2⟩, h2]
    · rw [un_lv_s0 z, un_lv_s0 (fun y => z ⟨h1.symm.trans y.1, (h3 (h1.symm.trans y.1)).mp y.2⟩), e]
theorem un_lv_dead {r : Int32} {row val num : Nat → Int32} {m : Nat} : ∀ n, m ≤ n → (∀ d, m ≤ d → d < n → row d = r → ¬ 0 ≤ (num d).toInt) → un_lv r row val num n = un_lv r row val num m := by
  intro n
  induction n with
  | zero => intro h _; rw [Nat.le_zero.mp h]
  | succ n ih =>
    intro h h1
    rcases Nat.lt_or_ge n m with h2 | h2
    · have e : n + 1 = m := by omega
      rw [e]
    · rw [un_lv_s0 (fun y => h1 n h2 (by omega) y.1 y.2)]
      exact ih h2 (fun d a b => h1 d a (by omega))

def un_va (r s : Int32) (row val num : Nat → Int32) : Nat → Int32
  | 0 => 0
  | m + 1 => if row m = r ∧ 0 < (num m).toInt ∧ (num m).toInt ≤ s.toInt then val m else un_va r s row val num m
theorem un_va_s1 {r s : Int32} {row val num : Nat → Int32} {m : Nat} (h : row m = r ∧ 0 < (num m).toInt ∧ (num m).toInt ≤ s.toInt) : un_va r s row val num (m + 1) = val m := if_pos h
theorem un_va_s0 {r s : Int32} {row val num : Nat → Int32} {m : Nat} (h : ¬ (row m = r ∧ 0 < (num m).toInt ∧ (num m).toInt ≤ s.toInt)) : un_va r s row val num (m + 1) = un_va r s row val num m := if_neg h
theorem un_va_lv {r s : Int32} {row val num : Nat → Int32} : ∀ m, (∀ d, d < m → row d = r → 0 ≤ (num d).toInt → 0 < (num d).toInt ∧ (num d).toInt ≤ s.toInt) → un_va r s row val num m = un_lv r row val num m := by
  intro m
  induction m with
  | zero => intro _; rfl
  | succ m ih =>
    intro h
    have e := ih (fun d hd => h d (by omega))
    have h1 := h m (by omega)
    by_cases z : row m = r ∧ 0 ≤ (num m).toInt
    · rw [un_lv_s1 z, un_va_s1 ⟨z.1, h1 z.1 z.2⟩]
    · rw [un_lv_s0 z, un_va_s0 (fun y => z ⟨y.1, by omega⟩), e]
theorem un_va_dead {r s : Int32} {row val num : Nat → Int32} {m : Nat} : ∀ n, m ≤ n → (∀ d, m ≤ d → d < n → row d = r → ¬ (0 < (num d).toInt ∧ (num d).toInt ≤ s.toInt)) → un_va r s row val num n = un_va r s row val num m := by
  intro n
  induction n with
  | zero => intro h _; rw [Nat.le_zero.mp h]
  | succ n ih =>
    intro h h1
    rcases Nat.lt_or_ge n m with h2 | h2
    · have e : n + 1 = m := by omega
      rw [e]
    · rw [un_va_s0 (fun y => h1 n h2 (by omega) y.1 y.2)]
      exact ih h2 (fun d a b => h1 d a (by omega))

def un_rs (x : Int32) (row bef who num : Nat → Int32) : Nat → (Nat → Int32) → (Nat → Int32)
  | 0 => fun f => f
  | m + 1 => fun f => un_rs x row bef who num m (if num m = 0 ∧ who m = x then upd f (row m).toNatClampNeg (bef m) else f)
theorem un_rs_s1 {x : Int32} {row bef who num : Nat → Int32} {m : Nat} (f : Nat → Int32) (h : num m = 0 ∧ who m = x) : un_rs x row bef who num (m + 1) f = un_rs x row bef who num m (upd f (row m).toNatClampNeg (bef m)) := by
  show un_rs x row bef who num m (if num m = 0 ∧ who m = x then upd f (row m).toNatClampNeg (bef m) else f) = _
  rw [if_pos h]
theorem un_rs_s0 {x : Int32} {row bef who num : Nat → Int32} {m : Nat} (f : Nat → Int32) (h : ¬ (num m = 0 ∧ who m = x)) : un_rs x row bef who num (m + 1) f = un_rs x row bef who num m f := by
  show un_rs x row bef who num m (if num m = 0 ∧ who m = x then upd f (row m).toNatClampNeg (bef m) else f) = _
  rw [if_neg h]
theorem un_rs_link {n : Nat} {x : Int32} {kept row bef who num cr vb cb cn : Nat → Int32} (hK : ∀ c, c < n → num c = 0 → ¬ kept c = 0) (hx : ∀ c, c < n → ¬ kept c = 0 → cr (un_q kept c) = row c ∧ vb (un_q kept c) = bef c ∧ cb (un_q kept c) = who c ∧ cn (un_q kept c) = num c) : ∀ c, c ≤ n → ∀ f, un_rs x cr vb cb cn (un_q kept c) f = un_rs x row bef who num c f := by
  intro c
  induction c with
  | zero => intro _ f; rfl
  | succ c ih =>
    intro h f
    have e := ih (by omega)
    by_cases z : kept c = 0
    · rw [un_q_s0 z, e, un_rs_s0 f (fun y => hK c (by omega) y.1 z)]
    · obtain ⟨h1, h2, h3, h4⟩ := hx c (by omega) z
      rw [un_q_s1 z]
      by_cases w : num c = 0 ∧ who c = x
      · rw [un_rs_s1 f w, un_rs_s1 f (by rw [h3, h4]; exact w), e, h1, h2]
      · rw [un_rs_s0 f w, un_rs_s0 f (by rw [h3, h4]; exact w), e]
theorem un_rs_none {x : Int32} {row bef who num : Nat → Int32} {r : Nat} : ∀ m f, (∀ d, d < m → num d = 0 → who d = x → (row d).toNatClampNeg ≠ r) → un_rs x row bef who num m f r = f r := by
  intro m
  induction m with
  | zero => intro f _; rfl
  | succ m ih =>
    intro f h
    by_cases w : num m = 0 ∧ who m = x
    · rw [un_rs_s1 f w, ih _ (fun d hd => h d (by omega)), pk_un (fun e => h m (by omega) w.1 w.2 e.symm)]
    · rw [un_rs_s0 f w, ih _ (fun d hd => h d (by omega))]
theorem un_rs_first {x : Int32} {row bef who num : Nat → Int32} {r d : Nat} (h0 : num d = 0) (h1 : who d = x) (h2 : (row d).toNatClampNeg = r) (h3 : ∀ e, e < d → num e = 0 → who e = x → (row e).toNatClampNeg ≠ r) : ∀ m f, d < m → un_rs x row bef who num m f r = bef d := by
  intro m
  induction m with
  | zero => intro f h; omega
  | succ m ih =>
    intro f h
    rcases Nat.lt_or_ge d m with h4 | h4
    · by_cases w : num m = 0 ∧ who m = x
      · rw [un_rs_s1 f w, ih _ h4]
      · rw [un_rs_s0 f w, ih _ h4]
    · have e : d = m := by omega
      rw [← e, un_rs_s1 f ⟨h0, h1⟩, un_rs_none d _ h3, h2, pk_us]
theorem un_least (P : Nat → Prop) (h : ∃ k, P k) : ∃ k, P k ∧ ∀ j, j < k → ¬ P j := by
  obtain ⟨k, hk⟩ := h
  revert hk
  refine Nat.strongRecOn (motive := fun k => P k → ∃ k, P k ∧ ∀ j, j < k → ¬ P j) k ?_
  intro k ih hk
  by_cases z : ∃ j, j < k ∧ P j
  · obtain ⟨j, hj, hp⟩ := z
    exact ih j hj hp
  · exact ⟨k, hk, fun j hj hp => z ⟨j, hj, hp⟩⟩
end
section
theorem un_xS1 {post : Int32 → Prop} {u : SX} {j : Nat} (hj : j < 4) (h : post 1) : wpX_isSession post u (nI j) := by
  obtain ⟨a, b, c, d, e, f, g, i⟩ := u
  exact br_f (nI_pos (by omega)) (br_f (nI_ge (b := 4) hj (by decide)) h)
theorem un_xS0 {post : Int32 → Prop} {u : SX} {x : Int32} (hx : x < 0 ∨ nI 4 ≤ x) (h : post 0) : wpX_isSession post u x := by
  obtain ⟨a, b, c, d, e, f, g, i⟩ := u
  by_cases z : x < 0
  · exact br_t z h
  · exact br_f z (br_t (hx.resolve_left z) h)
theorem un_xR1 {post : Int32 → Prop} {u : SX} {j : Nat} (hj : j < 8) (h : post 1) : wpX_isRow post u (nI j) := by
  obtain ⟨a, b, c, d, e, f, g, i⟩ := u
  exact br_f (nI_pos (by omega)) (br_f (nI_ge (b := 8) hj (by decide)) h)
theorem un_xR0 {post : Int32 → Prop} {u : SX} {x : Int32} (hx : x < 0 ∨ nI 8 ≤ x) (h : post 0) : wpX_isRow post u x := by
  obtain ⟨a, b, c, d, e, f, g, i⟩ := u
  by_cases z : x < 0
  · exact br_t z h
  · exact br_f z (br_t (hx.resolve_left z) h)
section
variable {R T x : Int32} {va fo cr vb cb cn : Nat → Int32} {rc : Nat}
theorem un_xo {A B : Prop} {i : Nat} (hi : i < 24) (h1 : cn i = 0 ∧ cb i = x → B) (h0 : ¬ (cn i = 0 ∧ cb i = x) → A) : wpX_isOpenChangeOf (fun r => (r = 0 → A) ∧ (¬ r = 0 → B)) (R, T, va, fo, cr, vb, cb, cn) (nI i) x := by
  have hc : (nI i).toNatClampNeg = i := nI_clamp (by omega)
  have hv : vp_in (nI i) 24 := vp_in_nI hi (by decide)
  unfold wpX_isOpenChangeOf
  dsimp only
  rw [hc]
  refine ⟨hv, ?_⟩
  by_cases z : cn i = 0
  · refine br_t z ⟨hv, ?_⟩
    by_cases w : cb i = x
    · exact br_t w (br_f (by decide) (h1 ⟨z, w⟩))
    · exact br_f w (br_t rfl (h0 (fun y => w y.2)))
  · exact br_f z (br_t rfl (h0 (fun y => z y.1)))
theorem un_xh {post : Int32 → Prop} (hrc : rc ≤ 24)
  (h0 : (∀ i, i < rc → ¬ (cr i = x ∧ cn i = 0)) → post (-4))
  (h1 : ∀ i, i < rc → cr i = x → cn i = 0 → post (cb i)) :
  wpX_holder post (nI rc, T, va, fo, cr, vb, cb, cn) x := by
  have H : ∀ m i, i ≤ rc → rc < m + i → (∀ j, j < i → ¬ (cr j = x ∧ cn j = 0)) → wX_holder_2 post x (nI rc) T va fo cr vb cb cn m (nI i) := by
    intro m
    induction m with
    | zero => intro i h2 h3; omega
    | succ m ih =>
      intro i h2 h3 h4
      have hc : (nI i).toNatClampNeg = i := nI_clamp (by omega)
      rw [wX_holder_2]
      dsimp only
      rw [hc]
      by_cases e : i = rc
      · rw [e] at h4
        exact br_t (by rw [e]; exact nI_le (Nat.le_refl _) (by omega)) (h0 h4)
      · have hi : vp_in (nI i) 24 := vp_in_nI (by omega) (by decide)
        refine br_f (nI_ge (by omega) (by omega)) ⟨hi, ?_⟩
        by_cases z : cr i = x
        · refine br_t z ⟨hi, ?_⟩
          by_cases w : cn i = 0
          · exact br_t w ⟨hi, h1 i (by omega) z w⟩
          · refine br_f w ?_
            intro y ey
            rw [ey, nI_1]
            exact ih (i + 1) (by omega) (by omega) (lt_s h4 (fun a => w a.2))
        · refine br_f z ?_
          intro y ey
          rw [ey, nI_1]
          exact ih (i + 1) (by omega) (by omega) (lt_s h4 (fun a => z a.1))
  exact Exists.intro (rc + 1) (H (rc + 1) 0 (Nat.zero_le _) (by omega) lt_0)
theorem un_xcv {post : Int32 → Prop} {r : Nat} {s : Int32} (hrc : rc ≤ 24) (hr : r < 8)
  (h0 : (∀ i, i < rc → ¬ (cr i = nI r ∧ (cn i = 0 ∨ ¬ cn i ≤ s))) → post (va r))
  (h1 : ∀ i, i < rc → cr i = nI r → (cn i = 0 ∨ ¬ cn i ≤ s) → (∀ j, j < i → ¬ (cr j = nI r ∧ (cn j = 0 ∨ ¬ cn j ≤ s))) → post (vb i)) :
  wpX_committedValue post (nI rc, T, va, fo, cr, vb, cb, cn) (nI r) s := by
  have hv : vp_in (nI r) 8 := vp_in_nI hr (by decide)
  have hcr : (nI r).toNatClampNeg = r := nI_clamp (by omega)
  have H : ∀ m i, i ≤ rc → rc < m + i → (∀ j, j < i → ¬ (cr j = nI r ∧ (cn j = 0 ∨ ¬ cn j ≤ s))) → wX_committedValue_2 post (nI r) s (nI rc) T va fo cr vb cb cn m (nI i) := by
    intro m
    induction m with
    | zero => intro i h2 h3; omega
    | succ m ih =>
      intro i h2 h3 h4
      have hc : (nI i).toNatClampNeg = i := nI_clamp (by omega)
      rw [wX_committedValue_2]
      dsimp only
      rw [hc, hcr]
      by_cases e : i = rc
      · rw [e] at h4
        exact br_t (by rw [e]; exact nI_le (Nat.le_refl _) (by omega)) ⟨hv, h0 h4⟩
      · have hi : vp_in (nI i) 24 := vp_in_nI (by omega) (by decide)
        refine br_f (nI_ge (by omega) (by omega)) ⟨hi, ?_⟩
        by_cases z : cr i = nI r
        · refine br_t z ⟨hi, ?_⟩
          by_cases w : cn i = 0
          · exact br_t w ⟨hi, h1 i (by omega) z (Or.inl w) h4⟩
          · refine br_f w ⟨hi, ?_⟩
            by_cases t : cn i ≤ s
            · refine br_t t ?_
              intro y ey
              rw [ey, nI_1]
              exact ih (i + 1) (by omega) (by omega) (lt_s h4 (fun a => a.2.elim w (fun b => b t)))
            · exact br_f t ⟨hi, h1 i (by omega) z (Or.inr t) h4⟩
        · refine br_f z ?_
          intro y ey
          rw [ey, nI_1]
          exact ih (i + 1) (by omega) (by omega) (lt_s h4 (fun a => z a.1))
  exact Exists.intro (rc + 1) (H (rc + 1) 0 (Nat.zero_le _) (by omega) lt_0)
theorem un_xc {post : Int32 → Prop} (hrc : rc ≤ 24) (h : post (nI (un_c x cb cn rc))) : wpX_changes post (nI rc, T, va, fo, cr, vb, cb, cn) x := by
  have H : ∀ m i, i ≤ rc → rc < m + i → wX_changes_4 post x (nI rc) T va fo cr vb cb cn m (nI (un_c x cb cn i)) (nI i) := by
    intro m
    induction m with
    | zero => intro i h2 h3; omega
    | succ m ih =>
      intro i h2 h3
      rw [wX_changes_4]
      dsimp only
      by_cases e : i = rc
      · rw [e]
        exact br_t (nI_le (Nat.le_refl _) (by omega)) h
      · have k := ih (i + 1) (by omega) (by omega)
        refine br_f (nI_ge (by omega) (by omega)) (un_xo (by omega) ?_ ?_)
        · intro z y ey y2 ey2
          rw [un_c_s1 z] at k
          rw [ey, ey2, nI_1 (un_c x cb cn i), nI_1 i]
          exact k
        · intro z y ey
          rw [un_c_s0 z] at k
          rw [ey, nI_1 i]
          exact k
  exact Exists.intro (rc + 1) (H (rc + 1) 0 (Nat.zero_le _) (by omega))
theorem un_xl {post : Int32 → Prop} (hrc : rc ≤ 24) (hrow : ∀ i, i < rc → ∃ r, r < 8 ∧ cr i = nI r)
  (h : ∀ res, (∀ b, b < 32 → (bt res b = true ↔ ∃ i, i < rc ∧ cn i = 0 ∧ cb i = x ∧ cr i = nI b)) → post res) : wpX_locks post (nI rc, T, va, fo, cr, vb, cb, cn) x := by
  have H : ∀ m i z, i ≤ rc → rc < m + i → (∀ b, b < 32 → (bt z b = true ↔ ∃ j, j < i ∧ cn j = 0 ∧ cb j = x ∧ cr j = nI b)) → wX_locks_4 post x (nI rc) T va fo cr vb cb cn m z (nI i) := by
    intro m
    induction m with
    | zero => intro i z h2 h3; omega
    | succ m ih =>
      intro i z h2 h3 h4
      have hc : (nI i).toNatClampNeg = i := nI_clamp (by omega)
      rw [wX_locks_4]
      dsimp only
      rw [hc]
      by_cases e : i = rc
      · rw [e] at h4
        rw [e]
        exact br_t (nI_le (Nat.le_refl _) (by omega)) (h z h4)
      · refine br_f (nI_ge (by omega) (by omega)) (un_xo (by omega) ?_ ?_)
        · intro w
          refine ⟨vp_in_nI (by omega) (by decide), ?_⟩
          intro y ey y2 ey2
          rw [ey2, nI_1 i]
          refine ih (i + 1) y (by omega) (by omega) ?_
          intro b hb
          obtain ⟨r, hr, er⟩ := hrow i (by omega)
          rw [ey, b_or, er, un_b1 r hr b hb, Bool.or_eq_true, h4 b hb, decide_eq_true_iff]
          constructor
          · intro t
            rcases t with ⟨j, t1, t2⟩ | t
            · exact ⟨j, by omega, t2⟩
            · exact ⟨i, by omega, w.1, w.2, by rw [t]; exact er⟩
          · intro t
            obtain ⟨j, t1, t2⟩ := t
            rcases Nat.lt_or_ge j i with t3 | t3
            · exact Or.inl ⟨j, t3, t2⟩
            · have ej : j = i := by omega
              rw [ej, er] at t2
              exact Or.inr ((nI_eq (by omega) (by omega)).mp t2.2.2).symm
        · intro w y ey
          rw [ey, nI_1 i]
          refine ih (i + 1) z (by omega) (by omega) ?_
          intro b hb
          rw [h4 b hb]
          constructor
          · intro t
            obtain ⟨j, t1, t2⟩ := t
            exact ⟨j, by omega, t2⟩
          · intro t
            obtain ⟨j, t1, t2⟩ := t
            rcases Nat.lt_or_ge j i with t3 | t3
            · exact ⟨j, t3, t2⟩
            · have ej : j = i := by omega
              rw [ej] at t2
              exact absurd ⟨t2.1, t2.2.1⟩ w
  refine Exists.intro (rc + 1) (H (rc + 1) 0 0 (Nat.zero_le _) (by omega) ?_)
  intro b hb
  rw [b_0]
  constructor
  · intro t; exact absurd t (by decide)
  · intro t; obtain ⟨j, t1, t2⟩ := t; exact absurd t1 (Nat.not_lt_zero j)
theorem un_xcm {post : Int32 → SX → Prop} (hrc : rc ≤ 24) (h : ∀ cn' : Nat → Int32, (∀ i, i < rc → cn' i = if cn i = 0 ∧ cb i = x then T else cn i) → post T (nI rc, T, va, fo, cr, vb, cb, cn')) : ∃ m, wX_commit_23 post x (nI rc) T m 0 va fo cr vb cb cn := by
  have H : ∀ m i, ∀ cn' : Nat → Int32, i ≤ rc → rc < m + i → (∀ j, j < i → cn' j = if cn j = 0 ∧ cb j = x then T else cn j) → (∀ j, i ≤ j → cn' j = cn j) → wX_commit_23 post x (nI rc) T m (nI i) va fo cr vb cb cn' := by
    intro m
    induction m with
    | zero => intro i cn' h2 h3; omega
    | succ m ih =>
      intro i cn' h2 h3 h4 h5
      have hc : (nI i).toNatClampNeg = i := nI_clamp (by omega)
      rw [wX_commit_23]
      dsimp only
      rw [hc]
      by_cases e : i = rc
      · rw [e] at h4
        rw [e]
        exact br_t (nI_le (Nat.le_refl _) (by omega)) (h cn' h4)
      · have hi := h5 i (Nat.le_refl _)
        refine br_f (nI_ge (by omega) (by omega)) (un_xo (by omega) ?_ ?_)
        · intro w
          refine ⟨vp_in_nI (by omega) (by decide), ?_⟩
          intro a ea y ey
          rw [ey, nI_1 i, ea]
          refine ih (i + 1) _ (by omega) (by omega) (lt_s ?_ ?_) ?_
          · intro j hj
            rw [pk_un (by omega)]
            exact h4 j hj
          · rw [hi] at w
            rw [pk_us, if_pos w]
          · intro j hj
            rw [pk_un (by omega)]
            exact h5 j (by omega)
        · intro w y ey
          rw [ey, nI_1 i]
          refine ih (i + 1) _ (by omega) (by omega) (lt_s h4 ?_) (fun j hj => h5 j (by omega))
          rw [hi] at w
          rw [hi, if_neg w]
  exact Exists.intro (rc + 1) (H (rc + 1) 0 cn (Nat.zero_le _) (by omega) lt_0 (fun j _ => rfl))
theorem un_xm {post : SX → Prop} {i j : Nat} (hi : i < 24) (hj : j < 24) (h : post (R, T, va, fo, upd cr j (cr i), upd vb j (vb i), upd cb j (cb i), upd cn j (cn i))) : wpX_moveChange post (R, T, va, fo, cr, vb, cb, cn) (nI i) (nI j) := by
  have hc : (nI i).toNatClampNeg = i := nI_clamp (by omega)
  have hd : (nI j).toNatClampNeg = j := nI_clamp (by omega)
  have a : vp_in (nI i) 24 := vp_in_nI hi (by decide)
  have b : vp_in (nI j) 24 := vp_in_nI hj (by decide)
  unfold wpX_moveChange
  simp only [hc, hd]
  exact ⟨a, b, nm_e ⟨a, b, nm_e ⟨a, b, nm_e ⟨a, b, nm_e h⟩⟩⟩⟩
theorem un_xf {post : SX → Prop} {q : Nat} (hq : q + 1 ≤ 24) (hr : vp_in (cr 0) 8)
  (h : ∀ cr' vb' cb' cn' : Nat → Int32, (∀ j, j < q → cr' j = cr (j + 1) ∧ vb' j = vb (j + 1) ∧ cb' j = cb (j + 1) ∧ cn' j = cn (j + 1)) → post (nI q, T, va, upd fo (cr 0).toNatClampNeg (cn 0), cr', vb', cb', cn')) :
  wpX_forgetOldest post (nI (q + 1), T, va, fo, cr, vb, cb, cn) := by
  have H : ∀ m i, ∀ cr' vb' cb' cn' : Nat → Int32, i ≤ q → q < m + i → (∀ j, j < i → cr' j = cr (j + 1) ∧ vb' j = vb (j + 1) ∧ cb' j = cb (j + 1) ∧ cn' j = cn (j + 1)) → (∀ j, i < j → cr' j = cr j ∧ vb' j = vb j ∧ cb' j = cb j ∧ cn' j = cn j) → wX_forgetOldest_19 post m (nI (i + 1)) (nI (q + 1)) T va (upd fo (cr 0).toNatClampNeg (cn 0)) cr' vb' cb' cn' := by
    intro m
    induction m with
    | zero => intro i cr' vb' cb' cn' h2 h3; omega
    | succ m ih =>
      intro i cr' vb' cb' cn' h2 h3 h4 h5
      rw [wX_forgetOldest_19]
      dsimp only
      rw [nI_pred i, nI_pred q]
      by_cases e : i = q
      · rw [e] at h4
        rw [e]
        exact br_t (nI_le (Nat.le_refl _) (by omega)) (nm_e (h cr' vb' cb' cn' h4))
      · refine br_f (nI_ge (by omega) (by omega)) (un_xm (by omega) (by omega) ?_)
        dsimp only
        intro y ey
        rw [ey, nI_1 (i + 1)]
        obtain ⟨k1, k2, k3, k4⟩ := h5 (i + 1) (by omega)
        refine ih (i + 1) _ _ _ _ (by omega) (by omega) (lt_s ?_ ?_) ?_
        · intro j hj
          rw [pk_un (by omega), pk_un (by omega), pk_un (by omega), pk_un (by omega)]
          exact h4 j hj
        · rw [pk_us, pk_us, pk_us, pk_us]
          exact ⟨k1, k2, k3, k4⟩
        · intro j hj
          rw [pk_un (by omega), pk_un (by omega), pk_un (by omega), pk_un (by omega)]
          exact h5 j (by omega)
  unfold wpX_forgetOldest
  dsimp only
  exact ⟨hr, nm_e ⟨q + 1, H (q + 1) 0 cr vb cb cn (Nat.zero_le _) (by omega) lt_0 (fun j _ => ⟨rfl, rfl, rfl, rfl⟩)⟩⟩
theorem un_xr {post : SX → Prop} (hrc : rc ≤ 24) (hrow : ∀ i, i < rc → vp_in (cr i) 8) (h : post (nI rc, T, un_rs x cr vb cb cn rc va, fo, cr, vb, cb, cn)) : wpX_restoreRows post (nI rc, T, va, fo, cr, vb, cb, cn) x := by
  have H : ∀ m i, ∀ va' : Nat → Int32, i ≤ rc → i < m → un_rs x cr vb cb cn i va' = un_rs x cr vb cb cn rc va → wX_restoreRows_7 post x (nI rc) T m (nI i - 1) va' fo cr vb cb cn := by
    intro m
    induction m with
    | zero => intro i va' h2 h3; omega
    | succ m ih =>
      intro i va' h2 h3 h4
      cases i with
      | zero =>
        rw [wX_restoreRows_7]
        dsimp only
        have e : va' = un_rs x cr vb cb cn rc va := h4
        rw [e]
        exact br_t (by decide) h
      | succ i =>
        have hc : (nI i).toNatClampNeg = i := nI_clamp (by omega)
        have hi : vp_in (nI i) 24 := vp_in_nI (by omega) (by decide)
        rw [nI_pred i, wX_restoreRows_7]
        dsimp only
        rw [hc]
        refine br_f (nI_pos (by omega)) (un_xo (by omega) ?_ ?_)
        · intro w
          refine ⟨hi, hi, hrow i (by omega), ?_⟩
          intro a ea y ey
          rw [ey, un_m1, ea]
          refine ih i _ (by omega) (by omega) ?_
          rw [← h4, un_rs_s1 va' w]
        · intro w y ey
          rw [ey, un_m1]
          refine ih i _ (by omega) (by omega) ?_
          rw [← h4, un_rs_s0 va' w]
  unfold wpX_restoreRows
  dsimp only
  exact nm_e ⟨rc + 1, H (rc + 1) rc va (Nat.le_refl _) (by omega) rfl⟩
def un_kx (x : Int32) (cb cn : Nat → Int32) : Nat → Int32 := fun i => if cn i = 0 ∧ cb i = x then 0 else 1
theorem un_xd {post : SX → Prop} (hrc : rc ≤ 24)
  (h : ∀ cr' vb' cb' cn' : Nat → Int32, (∀ i, i < rc → ¬ (cn i = 0 ∧ cb i = x) → cr' (un_q (un_kx x cb cn) i) = cr i ∧ vb' (un_q (un_kx x cb cn) i) = vb i ∧ cb' (un_q (un_kx x cb cn) i) = cb i ∧ cn' (un_q (un_kx x cb cn) i) = cn i) → post (nI (un_q (un_kx x cb cn) rc), T, va, fo, cr', vb', cb', cn')) :
  wpX_dropOpenChanges post (nI rc, T, va, fo, cr, vb, cb, cn) x := by
  have H : ∀ m i, ∀ cr' vb' cb' cn' : Nat → Int32, i ≤ rc → rc < m + i → (∀ j, j < i → ¬ (cn j = 0 ∧ cb j = x) → cr' (un_q (un_kx x cb cn) j) = cr j ∧ vb' (un_q (un_kx x cb cn) j) = vb j ∧ cb' (un_q (un_kx x cb cn) j) = cb j ∧ cn' (un_q (un_kx x cb cn) j) = cn j) → (∀ j, i ≤ j → cr' j = cr j ∧ vb' j = vb j ∧ cb' j = cb j ∧ cn' j = cn j) → wX_dropOpenChanges_4 post x m (nI (un_q (un_kx x cb cn) i)) (nI i) (nI rc) T va fo cr' vb' cb' cn' := by
    intro m
    induction m with
    | zero => intro i cr' vb' cb' cn' h2 h3; omega
    | succ m ih =>
      intro i cr' vb' cb' cn' h2 h3 h4 h5
      have hk := un_q_n (un_kx x cb cn) i
      rw [wX_dropOpenChanges_4]
      dsimp only
      by_cases e : i = rc
      · rw [e] at h4
        rw [e]
        exact br_t (nI_le (Nat.le_refl _) (by omega)) (h cr' vb' cb' cn' h4)
      · obtain ⟨k1, k2, k3, k4⟩ := h5 i (Nat.le_refl _)
        refine br_f (nI_ge (by omega) (by omega)) (un_xo (by omega) ?_ ?_)
        · intro w y ey
          rw [k3, k4] at w
          have s := ih (i + 1) cr' vb' cb' cn' (by omega) (by omega) (lt_s h4 (fun a => absurd w a)) (fun j hj => h5 j (by omega))
          have z : un_kx x cb cn i = 0 := if_pos w
          rw [un_q_s0 z] at s
          rw [ey, nI_1 i]
          exact s
        · intro w
          rw [k3, k4] at w
          refine un_xm (by omega) (by omega) ?_
          dsimp only
          intro y ey y2 ey2
          have z : ¬ un_kx x cb cn i = 0 := by
            have z1 : un_kx x cb cn i = 1 := if_neg w
            rw [z1]; decide
          have s := fun cr' vb' cb' cn' => ih (i + 1) cr' vb' cb' cn' (by omega) (by omega)
          rw [un_q_s1 z] at s
          rw [ey, ey2, nI_1 (un_q (un_kx x cb cn) i), nI_1 i]
          refine s _ _ _ _ (lt_s ?_ ?_) ?_
          · intro j hj hw
            have zj : ¬ un_kx x cb cn j = 0 := by
              have z1 : un_kx x cb cn j = 1 := if_neg hw
              rw [z1]; decide
            have lt := un_q_lt hj zj
            rw [pk_un (by omega), pk_un (by omega), pk_un (by omega), pk_un (by omega)]
            exact h4 j hj hw
          · intro _
            rw [pk_us, pk_us, pk_us, pk_us]
            exact ⟨k1, k2, k3, k4⟩
          · intro j hj
            rw [pk_un (by omega), pk_un (by omega), pk_un (by omega), pk_un (by omega)]
            exact h5 j (by omega)
  exact Exists.intro (rc + 1) (H (rc + 1) 0 cr vb cb cn (Nat.zero_le _) (by omega) lt_0 (fun j _ => ⟨rfl, rfl, rfl, rfl⟩))
end
end
section
theorem un_g3 {x : Int32} (h : nI 4 ≤ x) : 3 < x := by
  rw [un_le, nI_toInt (by decide)] at h
  rw [un_lt, show (3 : Int32).toInt = 3 from by decide]
  omega
theorem un_g7 {x : Int32} (h : nI 8 ≤ x) : 7 < x := by
  rw [un_le, nI_toInt (by decide)] at h
  rw [un_lt, show (7 : Int32).toInt = 7 from by decide]
  omega
theorem un_yS1 {post : Int32 → Prop} {u : SY} {j : Nat} (hj : j < 4) (h : post 1) : wpY_session post u (nI j) := by
  obtain ⟨a, b, c, d, e, f, g, i, k, l, m⟩ := u
  exact br_f (nI_pos (by omega)) (br_f (nI_nlt (b := j) (a := 3) (by omega) (by decide)) h)
theorem un_yS0 {post : Int32 → Prop} {u : SY} {x : Int32} (hx : x < 0 ∨ nI 4 ≤ x) (h : post 0) : wpY_session post u x := by
  obtain ⟨a, b, c, d, e, f, g, i, k, l, m⟩ := u
  by_cases z : x < 0
  · exact br_t z h
  · exact br_f z (br_t (un_g3 (hx.resolve_left z)) h)
theorem un_yR1 {post : Int32 → Prop} {u : SY} {j : Nat} (hj : j < 8) (h : post 1) : wpY_isRow post u (nI j) := by
  obtain ⟨a, b, c, d, e, f, g, i, k, l, m⟩ := u
  exact br_f (nI_pos (by omega)) (br_f (nI_nlt (b := j) (a := 7) (by omega) (by decide)) h)
theorem un_yR0 {post : Int32 → Prop} {u : SY} {x : Int32} (hx : x < 0 ∨ nI 8 ≤ x) (h : post 0) : wpY_isRow post u x := by
  obtain ⟨a, b, c, d, e, f, g, i, k, l, m⟩ := u
  by_cases z : x < 0
  · exact br_t z h
  · exact br_f z (br_t (un_g7 (hx.resolve_left z)) h)
theorem un_yi {post : SY → Prop} (h : ∀ lock : Nat → Int32, (∀ r, r < 8 → lock r = -4) → post (0, 0, (fun _ => 0), (fun _ => 0), (fun _ => 0), (fun _ => 0), (fun _ => 0), (fun _ => 0), (fun _ => 0), lock, (fun _ => 0))) : wpY_init post := by
  have H : ∀ m i, ∀ lock : Nat → Int32, i ≤ 8 → 8 < m + i → (∀ r, r < i → lock r = -4) → wY_init_84 post 0 0 m (nI i) (fun _ => 0) (fun _ => 0) (fun _ => 0) (fun _ => 0) (fun _ => 0) (fun _ => 0) (fun _ => 0) lock (fun _ => 0) := by
    intro m
    induction m with
    | zero => intro i lock h2 h3; omega
    | succ m ih =>
      intro i lock h2 h3 h4
      have hc : (nI i).toNatClampNeg = i := nI_clamp (by omega)
      rw [wY_init_84]
      dsimp only
      rw [hc]
      by_cases e : i = 8
      · rw [e] at h4
        rw [e]
        exact br_t (nI_le (Nat.le_refl 8) (by decide)) (h lock h4)
      · refine br_f (nI_ge (b := 8) (by omega) (by decide)) ⟨vp_in_nI (by omega) (by decide), ?_⟩
        intro a ea y ey
        rw [ey, nI_1 i, ea]
        refine ih (i + 1) _ (by omega) (by omega) (lt_s ?_ pk_us)
        intro r hr
        rw [pk_un (by omega)]
        exact h4 r hr
  exact Exists.intro 9 (H 9 0 _ (by omega) (by omega) lt_0)
section
variable {R T x : Int32} {row val bef who num kept now lock gone : Nat → Int32} {n : Nat}
theorem un_yok {post : Int32 → Prop} {c0 : Nat} (hn : n ≤ 512) (hc0 : c0 < n) (hk : ¬ kept c0 = 0) (hf : ∀ d, d < c0 → kept d = 0) (h : post (nI c0)) : wpY_oldestKept post (nI n, T, row, val, bef, who, num, kept, now, lock, gone) := by
  have H : ∀ m i, i ≤ c0 → c0 < m + i → wY_oldestKept_2 post (nI n) T row val bef who num kept now lock gone m (nI i) := by
    intro m
    induction m with
    | zero => intro i h2 h3; omega
    | succ m ih =>
      intro i h2 h3
      have hc : (nI i).toNatClampNeg = i := nI_clamp (by omega)
      rw [wY_oldestKept_2]
      dsimp only
      rw [hc]
      refine br_f (nI_ge (by omega) (by omega)) ⟨vp_in_nI (by omega) (by decide), ?_⟩
      by_cases e : i = c0
      · rw [e]
        exact br_f hk h
      · refine br_t (hf i (by omega)) ?_
        intro y ey
        rw [ey, nI_1 i]
        exact ih (i + 1) (by omega) (by omega)
  exact Exists.intro (c0 + 1) (H (c0 + 1) 0 (Nat.zero_le _) (by omega))
theorem un_yrm {post : Int32 → Prop} (hn : n ≤ 512) (h : post (nI (un_q kept n))) : wpY_remembered post (nI n, T, row, val, bef, who, num, kept, now, lock, gone) := by
  have H : ∀ m i, i ≤ n → n < m + i → wY_remembered_4 post (nI n) T row val bef who num kept now lock gone m (nI (un_q kept i)) (nI i) := by
    intro m
    induction m with
    | zero => intro i h2 h3; omega
    | succ m ih =>
      intro i h2 h3
      have hc : (nI i).toNatClampNeg = i := nI_clamp (by omega)
      rw [wY_remembered_4]
      dsimp only
      rw [hc]
      by_cases e : i = n
      · rw [e]
        exact br_t (nI_le (Nat.le_refl _) (by omega)) h
      · have k := ih (i + 1) (by omega) (by omega)
        refine br_f (nI_ge (by omega) (by omega)) ⟨vp_in_nI (by omega) (by decide), ?_⟩
        by_cases z : kept i = 0
        · refine br_t z ?_
          intro y ey
          rw [un_q_s0 z] at k
          rw [ey, nI_1 i]
          exact k
        · refine br_f z ?_
          intro y ey y2 ey2
          rw [un_q_s1 z] at k
          rw [ey, ey2, nI_1 (un_q kept i), nI_1 i]
          exact k
  exact Exists.intro (n + 1) (H (n + 1) 0 (Nat.zero_le _) (by omega))
theorem un_yrl {post : SY → Prop} (h : ∀ lock' : Nat → Int32, (∀ r, r < 8 → lock' r = if lock r = x then -4 else lock r) → post (R, T, row, val, bef, who, num, kept, now, lock', gone)) : wpY_release post (R, T, row, val, bef, who, num, kept, now, lock, gone) x := by
  have H : ∀ m i, ∀ lock' : Nat → Int32, i ≤ 8 → 8 < m + i → (∀ r, r < i → lock' r = if lock r = x then -4 else lock r) → (∀ r, i ≤ r → lock' r = lock r) → wY_release_2 post x R T m (nI i) row val bef who num kept now lock' gone := by
    intro m
    induction m with
    | zero => intro i lock' h2 h3; omega
    | succ m ih =>
      intro i lock' h2 h3 h4 h5
      have hc : (nI i).toNatClampNeg = i := nI_clamp (by omega)
      rw [wY_release_2]
      dsimp only
      rw [hc]
      by_cases e : i = 8
      · rw [e] at h4
        rw [e]
        exact br_t (nI_le (Nat.le_refl 8) (by decide)) (h lock' h4)
      · have hv : vp_in (nI i) 8 := vp_in_nI (by omega) (by decide)
        have hi := h5 i (Nat.le_refl _)
        refine br_f (nI_ge (b := 8) (by omega) (by decide)) ⟨hv, ?_⟩
        by_cases z : lock' i = x
        · refine br_t z ⟨hv, ?_⟩
          intro a ea y ey
          rw [ey, nI_1 i, ea]
          refine ih (i + 1) _ (by omega) (by omega) (lt_s ?_ ?_) ?_
          · intro r hr
            rw [pk_un (by omega)]
            exact h4 r hr
          · rw [pk_us, if_pos (hi ▸ z)]
          · intro r hr
            rw [pk_un (by omega)]
            exact h5 r (by omega)
        · refine br_f z ⟨hv, hv, ?_⟩
          intro a ea y ey
          rw [ey, nI_1 i, ea]
          refine ih (i + 1) _ (by omega) (by omega) (lt_s ?_ ?_) ?_
          · intro r hr
            rw [pk_un (by omega)]
            exact h4 r hr
          · rw [pk_us, hi, if_neg (hi ▸ z)]
          · intro r hr
            rw [pk_un (by omega)]
            exact h5 r (by omega)
  exact Exists.intro 9 (H 9 0 lock (by omega) (by omega) lt_0 (fun r _ => rfl))
theorem un_yc {post : Int32 → Prop} {j : Nat} (hj : j < 4) (hn : n ≤ 512) (h : post (nI (un_c (nI j) who num n))) : wpY_changes post (nI n, T, row, val, bef, who, num, kept, now, lock, gone) (nI j) := by
  have H : ∀ m i, i ≤ n → n < m + i → wY_changes_4 post (nI j) (nI n) T row val bef who num kept now lock gone m (nI (un_c (nI j) who num i)) (nI i) := by
    intro m
    induction m with
    | zero => intro i h2 h3; omega
    | succ m ih =>
      intro i h2 h3
      have hc : (nI i).toNatClampNeg = i := nI_clamp (by omega)
      rw [wY_changes_4]
      dsimp only
      rw [hc]
      by_cases e : i = n
      · rw [e]
        exact br_t (nI_le (Nat.le_refl _) (by omega)) h
      · have k := ih (i + 1) (by omega) (by omega)
        have hv : vp_in (nI i) 512 := vp_in_nI (by omega) (by decide)
        refine br_f (nI_ge (by omega) (by omega)) (un_yS1 hj (br_f (by decide) ⟨hv, ?_⟩))
        by_cases z : who i = nI j
        · refine br_t z ⟨hv, ?_⟩
          by_cases w : num i = 0
          · refine br_t w ?_
            intro y ey y2 ey2
            rw [un_c_s1 ⟨w, z⟩] at k
            rw [ey, ey2, nI_1 (un_c (nI j) who num i), nI_1 i]
            exact k
          · refine br_f w ?_
            intro y ey
            rw [un_c_s0 (fun a => w a.1)] at k
            rw [ey, nI_1 i]
            exact k
        · refine br_f z ?_
          intro y ey
          rw [un_c_s0 (fun a => z a.2)] at k
          rw [ey, nI_1 i]
          exact k
  exact Exists.intro (n + 1) (H (n + 1) 0 (Nat.zero_le _) (by omega))
theorem un_yc0 {post : Int32 → Prop} (hx : x < 0 ∨ nI 4 ≤ x) (hn : n ≤ 512) (h : post 0) : wpY_changes post (nI n, T, row, val, bef, who, num, kept, now, lock, gone) x := by
  have H : ∀ m i, i ≤ n → n < m + i → wY_changes_4 post x (nI n) T row val bef who num kept now lock gone m 0 (nI i) := by
    intro m
    induction m with
    | zero => intro i h2 h3; omega
    | succ m ih =>
      intro i h2 h3
      rw [wY_changes_4]
      dsimp only
      by_cases e : i = n
      · rw [e]
        exact br_t (nI_le (Nat.le_refl _) (by omega)) h
      · have k := ih (i + 1) (by omega) (by omega)
        refine br_f (nI_ge (by omega) (by omega)) (un_yS0 hx (br_t rfl ?_))
        intro y ey
        rw [ey, nI_1 i]
        exact k
  exact Exists.intro (n + 1) (H (n + 1) 0 (Nat.zero_le _) (by omega))
theorem un_ycm {post : Int32 → SY → Prop} (hn : n ≤ 512) (h : ∀ num' lock' : Nat → Int32, (∀ c, c < n → num' c = if num c = 0 ∧ who c = x then T else num c) → (∀ r, r < 8 → lock' r = if lock r = x then -4 else lock r) → post T (nI n, T, row, val, bef, who, num', kept, now, lock', gone)) : ∃ m, wY_commit_23 post x (nI n) T m 0 row val bef who num kept now lock gone := by
  have H : ∀ m i, ∀ num' : Nat → Int32, i ≤ n → n < m + i → (∀ c, c < i → num' c = if num c = 0 ∧ who c = x then T else num c) → (∀ c, i ≤ c → num' c = num c) → wY_commit_23 post x (nI n) T m (nI i) row val bef who num' kept now lock gone := by
    intro m
    induction m with
    | zero => intro i num' h2 h3; omega
    | succ m ih =>
      intro i num' h2 h3 h4 h5
      have hc : (nI i).toNatClampNeg = i := nI_clamp (by omega)
      rw [wY_commit_23]
      dsimp only
      rw [hc]
      by_cases e : i = n
      · rw [e] at h4
        rw [e]
        exact br_t (nI_le (Nat.le_refl _) (by omega)) (un_yrl (fun lock' hl => h num' lock' h4 hl))
      · have hv : vp_in (nI i) 512 := vp_in_nI (by omega) (by decide)
        have hi := h5 i (Nat.le_refl _)
        have hlo : ∀ t : Int32, ∀ c, c < i → upd num' i t c = if num c = 0 ∧ who c = x then T else num c := by
          intro t c hc2
          rw [pk_un (by omega)]
          exact h4 c hc2
        have hhi : ∀ t : Int32, ∀ c, i + 1 ≤ c → upd num' i t c = num c := by
          intro t c hc2
          rw [pk_un (by omega)]
          exact h5 c (by omega)
        refine br_f (nI_ge (by omega) (by omega)) ⟨hv, ?_⟩
        by_cases z : who i = x
        · refine br_t z ⟨hv, ?_⟩
          by_cases w : num' i = 0
          · refine br_t w ⟨hv, ?_⟩
            intro a ea y ey
            rw [ey, nI_1 i, ea]
            refine ih (i + 1) _ (by omega) (by omega) (lt_s (hlo _) ?_) (hhi _)
            rw [hi] at w
            rw [pk_us, if_pos ⟨w, z⟩]
          · refine br_f w ⟨hv, hv, ?_⟩
            intro a ea y ey
            rw [ey, nI_1 i, ea]
            refine ih (i + 1) _ (by omega) (by omega) (lt_s (hlo _) ?_) (hhi _)
            rw [hi] at w
            rw [pk_us, hi, if_neg (fun a => w a.1)]
        · refine br_f z ⟨hv, hv, ?_⟩
          intro a ea y ey
          rw [ey, nI_1 i, ea]
          refine ih (i + 1) _ (by omega) (by omega) (lt_s (hlo _) ?_) (hhi _)
          rw [pk_us, hi, if_neg (fun a => z a.2)]
  exact Exists.intro (n + 1) (H (n + 1) 0 num (Nat.zero_le _) (by omega) lt_0 (fun c _ => rfl))
theorem un_yrb {post : Int32 → SY → Prop} (hn : n ≤ 512) (hrow : ∀ c, c < n → vp_in (row c) 8) (h : ∀ num' kept' lock' : Nat → Int32, (∀ c, c < n → num' c = if num c = 0 ∧ who c = x then -1 else num c) → (∀ c, c < n → kept' c = if num c = 0 ∧ who c = x then 0 else kept c) → (∀ r, r < 8 → lock' r = if lock r = x then -4 else lock r) → post 0 (nI n, T, row, val, bef, who, num', kept', un_rs x row bef who num n now, lock', gone)) : ∃ m, wY_rollback_18 post x (nI n) T m (nI n - 1) row val bef who num kept now lock gone := by
  have H : ∀ m i, ∀ num' kept' now' : Nat → Int32, i ≤ n → i < m → (∀ c, c < i → num' c = num c ∧ kept' c = kept c) → (∀ c, i ≤ c → c < n → (num' c = if num c = 0 ∧ who c = x then -1 else num c) ∧ (kept' c = if num c = 0 ∧ who c = x then 0 else kept c)) → un_rs x row bef who num i now' = un_rs x row bef who num n now → wY_rollback_18 post x (nI n) T m (nI i - 1) row val bef who num' kept' now' lock gone := by
    intro m
    induction m with
    | zero => intro i num' kept' now' h2 h3; omega
    | succ m ih =>
      intro i num' kept' now' h2 h3 h4 h5 h6
      cases i with
      | zero =>
        rw [wY_rollback_18]
        dsimp only
        have e : now' = un_rs x row bef who num n now := h6
        rw [e]
        exact br_t (by decide) (un_yrl (fun lock' hl => h num' kept' lock' (fun c hc => (h5 c (Nat.zero_le _) hc).1) (fun c hc => (h5 c (Nat.zero_le _) hc).2) hl))
      | succ i =>
        have hc : (nI i).toNatClampNeg = i := nI_clamp (by omega)
        have hv : vp_in (nI i) 512 := vp_in_nI (by omega) (by decide)
        obtain ⟨hi, hki⟩ := h4 i (by omega)
        have skip : ¬ (num i = 0 ∧ who i = x) → ∀ y, y = nI i + (-1) → wY_rollback_18 post x (nI n) T m y row val bef who num' kept' now' lock gone := by
          intro w y ey
          rw [ey, un_m1]
          refine ih i num' kept' now' (by omega) (by omega) (fun c hc2 => h4 c (by omega)) ?_ ?_
          · intro c hc1 hc2
            rcases Nat.lt_or_ge i c with q | q
            · exact h5 c q hc2
            · have ec : c = i := by omega
              rw [ec, if_neg w, if_neg w]
              exact ⟨hi, hki⟩
          · rw [← h6, un_rs_s0 now' w]
        rw [nI_pred i, wY_rollback_18]
        dsimp only
        rw [hc]
        refine br_f (nI_pos (by omega)) ⟨hv, ?_⟩
        by_cases z : who i = x
        · refine br_t z ⟨hv, ?_⟩
          by_cases w : num' i = 0
          · rw [hi] at w
            refine br_t (by rw [hi]; exact w) ⟨hv, hv, hrow i (by omega), ?_⟩
            intro a ea
            refine ⟨hv, ?_⟩
            intro b eb
            refine ⟨hv, ?_⟩
            intro k ek y ey
            rw [ey, un_m1, ea, eb, ek, un_b0]
            refine ih i _ _ _ (by omega) (by omega) ?_ ?_ ?_
            · intro c hc2
              rw [pk_un (by omega), pk_un (by omega)]
              exact h4 c (by omega)
            · intro c hc1 hc2
              rcases Nat.lt_or_ge i c with q | q
              · rw [pk_un (by omega), pk_un (by omega)]
                exact h5 c q hc2
              · have ec : c = i := by omega
                rw [ec, if_pos ⟨w, z⟩, if_pos ⟨w, z⟩, pk_us, pk_us]
                exact ⟨rfl, rfl⟩
            · rw [← h6, un_rs_s1 now' ⟨w, z⟩]
          · refine br_f w (skip ?_)
            rw [hi] at w
            exact fun a => w a.1
        · exact br_f z (skip (fun a => z a.2))
  exact Exists.intro (n + 1) (H (n + 1) n num kept now (Nat.le_refl _) (by omega) (fun c _ => ⟨rfl, rfl⟩) (fun c a b => absurd b (by omega)) rfl)
theorem un_yv {post : Int32 → Prop} {r s : Int32} (hn : n ≤ 512) (h : post (un_va r s row val num n)) : wpY_valueAt post (nI n, T, row, val, bef, who, num, kept, now, lock, gone) r s := by
  have H : ∀ m i, i ≤ n → n < m + i → wY_valueAt_5 post r s (nI n) T row val bef who num kept now lock gone m (un_va r s row val num i) (nI i) := by
    intro m
    induction m with
    | zero => intro i h2 h3; omega
    | succ m ih =>
      intro i h2 h3
      have hc : (nI i).toNatClampNeg = i := nI_clamp (by omega)
      rw [wY_valueAt_5]
      dsimp only
      rw [hc]
      by_cases e : i = n
      · rw [e]
        exact br_t (nI_le (Nat.le_refl _) (by omega)) h
      · have k := ih (i + 1) (by omega) (by omega)
        have hv : vp_in (nI i) 512 := vp_in_nI (by omega) (by decide)
        have skip : ¬ (row i = r ∧ 0 < (num i).toInt ∧ (num i).toInt ≤ s.toInt) → ∀ y, y = nI i + 1 → wY_valueAt_5 post r s (nI n) T row val bef who num kept now lock gone m (un_va r s row val num i) y := by
          intro w y ey
          rw [un_va_s0 w] at k
          rw [ey, nI_1 i]
          exact k
        refine br_f (nI_ge (by omega) (by omega)) ⟨hv, ?_⟩
        by_cases z : row i = r
        · refine br_t z ⟨hv, ?_⟩
          by_cases w : num i ≤ 0
          · refine br_t w (skip ?_)
            rw [un_le0] at w
            omega
          · refine br_f w ⟨hv, ?_⟩
            by_cases t : s < num i
            · refine br_t t (skip ?_)
              rw [un_lt] at t
              omega
            · refine br_f t ⟨hv, ?_⟩
              intro y ey y2 ey2
              rw [un_le0] at w
              rw [un_lt] at t
              rw [un_va_s1 ⟨z, by omega, by omega⟩] at k
              rw [ey, ey2, nI_1 i]
              exact k
        · exact br_f z (skip (fun a => z a.1))
  exact Exists.intro (n + 1) (H (n + 1) 0 (Nat.zero_le _) (by omega))
theorem un_yl {post : Int32 → Prop} {j : Nat} (hj : j < 4) (h : ∀ res, (∀ b, b < 32 → (bt res b = true ↔ b < 8 ∧ lock b = nI j)) → post res) : wpY_locks post (R, T, row, val, bef, who, num, kept, now, lock, gone) (nI j) := by
  have H : ∀ m i z, i ≤ 8 → 8 < m + i → (∀ b, b < 32 → (bt z b = true ↔ b < i ∧ lock b = nI j)) → wY_locks_4 post (nI j) R T row val bef who num kept now lock gone m z (nI i) := by
    intro m
    induction m with
    | zero => intro i z h2 h3; omega
    | succ m ih =>
      intro i z h2 h3 h4
      have hc : (nI i).toNatClampNeg = i := nI_clamp (by omega)
      rw [wY_locks_4]
      dsimp only
      rw [hc]
      by_cases e : i = 8
      · rw [e] at h4
        rw [e]
        exact br_t (nI_le (Nat.le_refl 8) (by decide)) (h z h4)
      · refine br_f (nI_ge (b := 8) (by omega) (by decide)) (un_yS1 hj (br_f (by decide) ⟨vp_in_nI (by omega) (by decide), ?_⟩))
        by_cases w : lock i = nI j
        · refine br_t w ?_
          intro y ey y2 ey2
          rw [ey2, nI_1 i]
          refine ih (i + 1) y (by omega) (by omega) ?_
          intro b hb
          rw [ey, b_or, un_b1 i (by omega) b hb, Bool.or_eq_true, h4 b hb, decide_eq_true_iff]
          constructor
          · intro t
            rcases t with ⟨t1, t2⟩ | t
            · exact ⟨by omega, t2⟩
            · rw [t]; exact ⟨by omega, w⟩
          · intro t
            rcases Nat.lt_or_ge b i with t3 | t3
            · exact Or.inl ⟨t3, t.2⟩
            · exact Or.inr (by omega)
        · refine br_f w ?_
          intro y ey
          rw [ey, nI_1 i]
          refine ih (i + 1) z (by omega) (by omega) ?_
          intro b hb
          rw [h4 b hb]
          constructor
          · intro t
            exact ⟨by omega, t.2⟩
          · intro t
            rcases Nat.lt_or_ge b i with t3 | t3
            · exact ⟨t3, t.2⟩
            · have eb : b = i := by omega
              rw [eb] at t
              exact absurd t.2 w
  refine Exists.intro 9 (H 9 0 0 (by omega) (by omega) ?_)
  intro b hb
  rw [b_0]
  constructor
  · intro t; exact absurd t (by decide)
  · intro t; exact absurd t.1 (Nat.not_lt_zero b)
theorem un_yl0 {post : Int32 → Prop} (hx : x < 0 ∨ nI 4 ≤ x) (h : post 0) : wpY_locks post (R, T, row, val, bef, who, num, kept, now, lock, gone) x := by
  have H : ∀ m i, i ≤ 8 → 8 < m + i → wY_locks_4 post x R T row val bef who num kept now lock gone m 0 (nI i) := by
    intro m
    induction m with
    | zero => intro i h2 h3; omega
    | succ m ih =>
      intro i h2 h3
      rw [wY_locks_4]
      dsimp only
      by_cases e : i = 8
      · rw [e]
        exact br_t (nI_le (Nat.le_refl 8) (by decide)) h
      · have k := ih (i + 1) (by omega) (by omega)
        refine br_f (nI_ge (b := 8) (by omega) (by decide)) (un_yS0 hx (br_t rfl ?_))
        intro y ey
        rw [ey, nI_1 i]
        exact k
  exact Exists.intro 9 (H 9 0 (by omega) (by omega))
end
end
section
def un_YI (n T : Nat) (row val bef who num kept now lock gone : Nat → Int32) : Prop :=
  (∀ c, c < n → ∃ r, r < 8 ∧ row c = nI r) ∧
  (∀ c, c < n → ∃ j, j < 4 ∧ who c = nI j) ∧
  (∀ c, c < n → -1 ≤ (num c).toInt ∧ (num c).toInt ≤ (T : Int)) ∧
  (∀ c, c < n → (num c).toInt = 0 → ¬ kept c = 0) ∧
  (∀ c, c < n → ¬ kept c = 0 → 0 ≤ (num c).toInt) ∧
  (∀ c d, c < d → d < n → row c = row d → 0 ≤ (num c).toInt → 0 < (num d).toInt → 0 < (num c).toInt ∧ (num c).toInt ≤ (num d).toInt) ∧
  (∀ c r, c < n → (num c).toInt = 0 → row c = nI r → r < 8 → lock r = who c) ∧
  (∀ r, r < 8 → lock r = -4 ∨ ∃ c, c < n ∧ row c = nI r ∧ (num c).toInt = 0 ∧ who c = lock r) ∧
  (∀ c r, c < n → kept c = 0 → 0 < (num c).toInt → row c = nI r → r < 8 → (num c).toInt ≤ (gone r).toInt) ∧
  (∀ c r, c < n → ¬ kept c = 0 → 0 < (num c).toInt → row c = nI r → r < 8 → (gone r).toInt ≤ (num c).toInt) ∧
  (∀ r, r < 8 → (gone r).toInt ≤ (T : Int)) ∧
  (∀ c, c < n → 0 ≤ (num c).toInt → bef c = un_lv (row c) row val num c) ∧
  (∀ r, r < 8 → now r = un_lv (nI r) row val num n)
def un_XI (n rc : Nat) (cr vb cb cn row bef who num kept : Nat → Int32) : Prop :=
  rc = un_q kept n ∧ rc ≤ 24 ∧ ∀ c, c < n → ¬ kept c = 0 → cr (un_q kept c) = row c ∧ vb (un_q kept c) = bef c ∧ cb (un_q kept c) = who c ∧ cn (un_q kept c) = num c
section
variable {n T rc : Nat} {row val bef who num kept now lock gone cr vb cb cn : Nat → Int32}
theorem un_XI_at (X : un_XI n rc cr vb cb cn row bef who num kept) {i : Nat} (hi : i < rc) : ∃ c, c < n ∧ (¬ kept c = 0) ∧ un_q kept c = i ∧ cr i = row c ∧ vb i = bef c ∧ cb i = who c ∧ cn i = num c := by
  obtain ⟨e, h24, h⟩ := X
  rw [e] at hi
  obtain ⟨c, h1, h2, h3⟩ := un_q_ex n i hi
  have k := h c h1 h2
  rw [h3] at k
  exact ⟨c, h1, h2, h3, k⟩
theorem un_YI0 {lock : Nat → Int32} (h : ∀ r, r < 8 → lock r = -4) : un_YI 0 0 (fun _ => 0) (fun _ => 0) (fun _ => 0) (fun _ => 0) (fun _ => 0) (fun _ => 0) (fun _ => 0) lock (fun _ => 0) := by
  refine ⟨?_, ?_, ?_, ?_, ?_, ?_, ?_, ?_, ?_, ?_, ?_, ?_, ?_⟩
  · intro c h; omega
  · intro c h; omega
  · intro c h; omega
  · intro c h; omega
  · intro c h; omega
  · intro c d h1 h2; omega
  · intro c r h; omega
  · intro r hr; exact Or.inl (h r hr)
  · intro c r h; omega
  · intro c r h; omega
  · intro r hr
    show (0 : Int32).toInt ≤ _
    rw [un_0]; omega
  · intro c h; omega
  · intro r hr; rfl
theorem un_Ychange (Y : un_YI n T row val bef who num kept now lock gone) {r j : Nat} (v : Int32) (hr : r < 8) (hj : j < 4) (hl : lock r = -4 ∨ lock r = nI j) :
  un_YI (n + 1) T (upd row n (nI r)) (upd val n v) (upd bef n (now r)) (upd who n (nI j)) (upd num n 0) (upd kept n 1) (upd now r v) (upd lock r (nI j)) gone := by
  obtain ⟨hR, hW, hN, hK0, hK1, hM, hL1, hL2, hG1, hG2, hG3, hB, hV⟩ := Y
  have sp : ∀ c, c < n + 1 → c < n ∨ c = n := by intro c hc; omega
  have ne : ∀ c, c < n → c ≠ n := by intro c hc; omega
  have lvc : ∀ q : Int32, ∀ c, c ≤ n → un_lv q (upd row n (nI r)) (upd val n v) (upd num n 0) c = un_lv q row val num c := by
    intro q c hc
    refine un_lv_cong c ?_
    intro d hd
    rw [pk_un (by omega), pk_un (by omega), pk_un (by omega)]
    exact ⟨rfl, rfl, fun _ => Iff.rfl⟩
  refine ⟨?_, ?_, ?_, ?_, ?_, ?_, ?_, ?_, ?_, ?_, ?_, ?_, ?_⟩
  · intro c hc
    rcases sp c hc with h | h
    · rw [pk_un (ne c h)]; exact hR c h
    · rw [h, pk_us]; exact ⟨r, hr, rfl⟩
  · intro c hc
    rcases sp c hc with h | h
    · rw [pk_un (ne c h)]; exact hW c h
    · rw [h, pk_us]; exact ⟨j, hj, rfl⟩
  · intro c hc
    rcases sp c hc with h | h
    · rw [pk_un (ne c h)]; exact hN c h
    · rw [h, pk_us, un_0]; omega
  · intro c hc
    rcases sp c hc with h | h
    · rw [pk_un (ne c h), pk_un (ne c h)]; exact hK0 c h
    · rw [h, pk_us, pk_us]; intro _; decide
  · intro c hc
    rcases sp c hc with h | h
    · rw [pk_un (ne c h), pk_un (ne c h)]; exact hK1 c h
    · rw [h, pk_us, pk_us, un_0]; intro _; omega
  · intro c d hcd hd
    rcases sp d hd with h | h
    · rw [pk_un (ne d h), pk_un (ne d h), pk_un (by omega), pk_un (by omega)]; exact hM c d hcd h
    · rw [h, pk_us, pk_us, un_0]; intro _ _ h; omega
  · intro c r' hc
    rcases sp c hc with h | h
    · rw [pk_un (ne c h), pk_un (ne c h), pk_un (ne c h)]
      intro h1 h2 h3
      have k := hL1 c r' h h1 h2 h3
      by_cases e : r' = r
      · rw [e, pk_us]
        rw [e] at k
        obtain ⟨j', hj', ej'⟩ := hW c h
        rcases hl with q | q
        · rw [q, ej'] at k
          exact absurd k.symm (un_m4 hj')
        · rw [← q]; exact k
      · rw [pk_un e]; exact k
    · rw [h, pk_us, pk_us, pk_us]
      intro _ h2 h3
      rw [un_inj hr h3 h2, pk_us]
  · intro r' hr'
    by_cases e : r' = r
    · refine Or.inr ⟨n, by omega, ?_⟩
      rw [e, pk_us, pk_us, pk_us, pk_us]
      exact ⟨rfl, un_0, rfl⟩
    · rw [pk_un e]
      rcases hL2 r' hr' with q | ⟨c, h1, h2⟩
      · exact Or.inl q
      · refine Or.inr ⟨c, by omega, ?_⟩
        rw [pk_un (ne c h1), pk_un (ne c h1), pk_un (ne c h1)]
        exact h2
  · intro c r' hc
    rcases sp c hc with h | h
    · rw [pk_un (ne c h), pk_un (ne c h), pk_un (ne c h)]; exact hG1 c r' h
    · rw [h, pk_us, pk_us, un_0]; intro _ h; omega
  · intro c r' hc
    rcases sp c hc with h | h
    · rw [pk_un (ne c h), pk_un (ne c h), pk_un (ne c h)]; exact hG2 c r' h
    · rw [h, pk_us, pk_us, un_0]; intro _ h; omega
  · exact hG3
  · intro c hc
    rcases sp c hc with h | h
    · rw [lvc _ c (by omega), pk_un (ne c h), pk_un (ne c h), pk_un (ne c h)]; exact hB c h
    · rw [h, lvc _ n (Nat.le_refl _), pk_us, pk_us, pk_us]; intro _; exact hV r hr
  · intro r' hr'
    by_cases e : r' = r
    · rw [e, pk_us, un_lv_s1 (by rw [pk_us, pk_us, un_0]; exact ⟨rfl, Int.le_refl _⟩), pk_us]
    · rw [pk_un e, un_lv_s0 (by rw [pk_us]; exact fun a => e (un_inj hr hr' a.1).symm), lvc _ n (Nat.le_refl _)]
      exact hV r' hr'
theorem un_Xchange (X : un_XI n rc cr vb cb cn row bef who num kept) (h24 : rc < 24) (a b c d : Int32) :
  un_XI (n + 1) (rc + 1) (upd cr rc a) (upd vb rc b) (upd cb rc c) (upd cn rc d) (upd row n a) (upd bef n b) (upd who n c) (upd num n d) (upd kept n 1) := by
  obtain ⟨e, _, h⟩ := X
  have qc : ∀ i, i ≤ n → un_q (upd kept n 1) i = un_q kept i := by
    intro i hi
    refine un_q_cong i ?_
    intro d hd
    rw [pk_un (by omega)]
  have kn : ¬ upd kept n 1 n = 0 := by rw [pk_us]; decide
  refine ⟨?_, by omega, ?_⟩
  · rw [un_q_s1 kn, qc n (Nat.le_refl _), e]
  · intro i hi hk
    rw [qc i (by omega)]
    by_cases z : i = n
    · rw [z, ← e, pk_us, pk_us, pk_us, pk_us, pk_us, pk_us, pk_us, pk_us]
      exact ⟨rfl, rfl, rfl, rfl⟩
    · rw [pk_un z] at hk
      have hi2 : i < n := by omega
      have lt : un_q kept i < rc := by rw [e]; exact un_q_lt hi2 hk
      rw [pk_un z, pk_un z, pk_un z, pk_un z, pk_un (by omega), pk_un (by omega), pk_un (by omega), pk_un (by omega)]
      exact h i hi2 hk
theorem un_Yforget (Y : un_YI n T row val bef who num kept now lock gone) {c0 r0 : Nat} (h0 : c0 < n) (hk : ¬ kept c0 = 0) (hf : ∀ d, d < c0 → kept d = 0) (hn0 : ¬ (num c0).toInt = 0) (er : row c0 = nI r0) (hr0 : r0 < 8) :
  un_YI n T row val bef who num (upd kept c0 0) now lock (upd gone r0 (num c0)) := by
  obtain ⟨hR, hW, hN, hK0, hK1, hM, hL1, hL2, hG1, hG2, hG3, hB, hV⟩ := Y
  have pos : 0 < (num c0).toInt := by
    have := hK1 c0 h0 hk
    omega
  refine ⟨hR, hW, hN, ?_, ?_, hM, hL1, hL2, ?_, ?_, ?_, hB, hV⟩
  · intro c hc hz
    have e : c ≠ c0 := fun e => hn0 (e ▸ hz)
    rw [pk_un e]
    exact hK0 c hc hz
  · intro c hc hz
    by_cases e : c = c0
    · rw [e, pk_us] at hz; exact absurd rfl hz
    · rw [pk_un e] at hz; exact hK1 c hc hz
  · intro c r hc hz hp e1 hr
    by_cases e : r = r0
    · rw [e, pk_us]
      by_cases e2 : c = c0
      · rw [e2]; exact Int.le_refl _
      · rw [pk_un e2] at hz
        have a := hG1 c r hc hz hp e1 hr
        have b := hG2 c0 r0 h0 hk pos er hr0
        rw [e] at a
        omega
    · rw [pk_un e]
      by_cases e2 : c = c0
      · rw [e2, er] at e1
        exact absurd (un_inj hr0 hr e1).symm e
      · rw [pk_un e2] at hz
        exact hG1 c r hc hz hp e1 hr
  · intro c r hc hz hp e1 hr
    have e2 : c ≠ c0 := by
      intro e2
      rw [e2, pk_us] at hz
      exact hz rfl
    rw [pk_un e2] at hz
    by_cases e : r = r0
    · rw [e, pk_us]
      have lt : c0 < c := by
        rcases Nat.lt_or_ge c c0 with q | q
        · exact absurd (hf c q) hz
        · omega
      exact (hM c0 c lt hc (by rw [er, e1, e]) (by omega) hp).2
    · rw [pk_un e]
      exact hG2 c r hc hz hp e1 hr
  · intro r hr
    by_cases e : r = r0
    · rw [e, pk_us]; exact (hN c0 h0).2
    · rw [pk_un e]; exact hG3 r hr
theorem un_Xforget {q c0 : Nat} (X : un_XI n (q + 1) cr vb cb cn row bef who num kept) (h0 : c0 < n) (hk : ¬ kept c0 = 0) (hf : ∀ d, d < c0 → kept d = 0) {cr' vb' cb' cn' : Nat → Int32} (hs : ∀ j, j < q → cr' j = cr (j + 1) ∧ vb' j = vb (j + 1) ∧ cb' j = cb (j + 1) ∧ cn' j = cn (j + 1)) :
  un_XI n q cr' vb' cb' cn' row bef who num (upd kept c0 0) := by
  obtain ⟨e, h24, h⟩ := X
  have dr := un_q_drop (kept := kept) (kept' := upd kept c0 0) hk pk_us (fun d hd => pk_un hd)
  refine ⟨?_, by omega, ?_⟩
  · have := dr n h0
    omega
  · intro c hc hz
    have e2 : c ≠ c0 := by
      intro e2
      rw [e2, pk_us] at hz
      exact hz rfl
    rw [pk_un e2] at hz
    have lt : c0 < c := by
      rcases Nat.lt_or_ge c c0 with q | q
      · exact absurd (hf c q) hz
      · omega
    have d1 := dr c lt
    have d2 := un_q_lt hc hz
    have k := h c hc hz
    rw [← d1] at k
    obtain ⟨s1, s2, s3, s4⟩ := hs (un_q (upd kept c0 0) c) (by omega)
    rw [s1, s2, s3, s4]
    exact k
theorem un_Ycommit (Y : un_YI n T row val bef who num kept now lock gone) {j : Nat} (hj : j < 4) (hT : T + 1 < 2 ^ 31) {num' lock' : Nat → Int32}
  (h1 : ∀ c, c < n → num' c = if num c = 0 ∧ who c = nI j then nI (T + 1) else num c) (h2 : ∀ r, r < 8 → lock' r = if lock r = nI j then -4 else lock r) :
  un_YI n (T + 1) row val bef who num' kept now lock' gone := by
  obtain ⟨hR, hW, hN, hK0, hK1, hM, hL1, hL2, hG1, hG2, hG3, hB, hV⟩ := Y
  have tI : (nI (T + 1)).toInt = (T : Int) + 1 := by rw [nI_toInt hT]; rfl
  have cs : ∀ c, c < n → ((num c).toInt = 0 ∧ who c = nI j ∧ (num' c).toInt = (T : Int) + 1) ∨ (¬ ((num c).toInt = 0 ∧ who c = nI j) ∧ num' c = num c) := by
    intro c hc
    have e := h1 c hc
    by_cases z : num c = 0 ∧ who c = nI j
    · rw [if_pos z] at e
      exact Or.inl ⟨un_z.mp z.1, z.2, by rw [e]; exact tI⟩
    · rw [if_neg z] at e
      exact Or.inr ⟨fun a => z ⟨un_z.mpr a.1, a.2⟩, e⟩
  have lvc : ∀ q : Int32, ∀ c, c ≤ n → un_lv q row val num' c = un_lv q row val num c := by
    intro q c hc
    refine un_lv_cong c ?_
    intro d hd
    refine ⟨rfl, rfl, fun _ => ?_⟩
    rcases cs d (by omega) with ⟨a, _, b⟩ | ⟨_, b⟩
    · rw [a, b]; omega
    · rw [b]
  refine ⟨hR, hW, ?_, ?_, ?_, ?_, ?_, ?_, ?_, ?_, ?_, ?_, ?_⟩
  · intro c hc
    have := hN c hc
    rcases cs c hc with ⟨a, _, b⟩ | ⟨_, b⟩
    · rw [b]; omega
    · rw [b]; omega
  · intro c hc hz
    rcases cs c hc with ⟨a, _, b⟩ | ⟨_, b⟩
    · omega
    · rw [b] at hz; exact hK0 c hc hz
  · intro c hc hz
    rcases cs c hc with ⟨a, _, b⟩ | ⟨_, b⟩
    · omega
    · rw [b]; exact hK1 c hc hz
  · intro c d hcd hd e hc0 hd0
    have hc : c < n := by omega
    rcases cs d hd with ⟨a, a2, b⟩ | ⟨a, b⟩
    · rcases cs c hc with ⟨a', _, b'⟩ | ⟨a', b'⟩
      · omega
      · have h3 := hN c hc
        rw [b'] at hc0
        rw [b']
        have ne0 : ¬ (num c).toInt = 0 := by
          intro z
          obtain ⟨r, hr, er⟩ := hR c hc
          have k1 := hL1 c r hc z er hr
          have k2 := hL1 d r hd a (e ▸ er) hr
          exact a' ⟨z, by rw [← k1, k2, a2]⟩
        omega
    · rw [b] at hd0
      rcases cs c hc with ⟨a', _, b'⟩ | ⟨a', b'⟩
      · have := hM c d hcd hd e (by omega) hd0
        omega
      · rw [b'] at hc0
        rw [b, b']
        exact hM c d hcd hd e hc0 hd0
  · intro c r hc hz e hr
    rcases cs c hc with ⟨a, _, b⟩ | ⟨a, b⟩
    · omega
    · rw [b] at hz
      have k := hL1 c r hc hz e hr
      have nx : ¬ lock r = nI j := fun q => a ⟨hz, by rw [← k]; exact q⟩
      rw [h2 r hr, if_neg nx]
      exact k
  · intro r hr
    by_cases q : lock r = nI j
    · rw [h2 r hr, if_pos q]; exact Or.inl rfl
    · rw [h2 r hr, if_neg q]
      rcases hL2 r hr with p | ⟨c, p1, p2, p3, p4⟩
      · exact Or.inl p
      · refine Or.inr ⟨c, p1, p2, ?_, p4⟩
        rcases cs c p1 with ⟨a, a2, b⟩ | ⟨a, b⟩
        · exact absurd (p4.symm.trans a2) q
        · rw [b]; exact p3
  · intro c r hc hz hp e hr
    rcases cs c hc with ⟨a, _, b⟩ | ⟨a, b⟩
    · exact absurd hz (hK0 c hc a)
    · rw [b] at hp
      rw [b]
      exact hG1 c r hc hz hp e hr
  · intro c r hc hz hp e hr
    rcases cs c hc with ⟨a, _, b⟩ | ⟨a, b⟩
    · have := hG3 r hr
      omega
    · rw [b] at hp
      rw [b]
      exact hG2 c r hc hz hp e hr
  · intro r hr
    have := hG3 r hr
    omega
  · intro c hc hp
    rw [lvc _ c (by omega)]
    refine hB c hc ?_
    rcases cs c hc with ⟨a, _, b⟩ | ⟨a, b⟩
    · omega
    · rw [b] at hp; exact hp
  · intro r hr
    rw [lvc _ n (Nat.le_refl _)]
    exact hV r hr
theorem un_Xcommit (X : un_XI n rc cr vb cb cn row bef who num kept) {x t : Int32} {num' cn' : Nat → Int32}
  (h1 : ∀ c, c < n → num' c = if num c = 0 ∧ who c = x then t else num c) (h2 : ∀ i, i < rc → cn' i = if cn i = 0 ∧ cb i = x then t else cn i) :
  un_XI n rc cr vb cb cn' row bef who num' kept := by
  obtain ⟨e, h24, h⟩ := X
  refine ⟨e, h24, ?_⟩
  intro c hc hk
  obtain ⟨k1, k2, k3, k4⟩ := h c hc hk
  refine ⟨k1, k2, k3, ?_⟩
  rw [h1 c hc, h2 (un_q kept c) (by rw [e]; exact un_q_lt hc hk), k3, k4]
theorem un_Yrollback (Y : un_YI n T row val bef who num kept now lock gone) {j : Nat} (hj : j < 4) {num' kept' lock' : Nat → Int32}
  (h1 : ∀ c, c < n → num' c = if num c = 0 ∧ who c = nI j then -1 else num c) (h3 : ∀ c, c < n → kept' c = if num c = 0 ∧ who c = nI j then 0 else kept c) (h2 : ∀ r, r < 8 → lock' r = if lock r = nI j then -4 else lock r) :
  un_YI n T row val bef who num' kept' (un_rs (nI j) row bef who num n now) lock' gone := by
  obtain ⟨hR, hW, hN, hK0, hK1, hM, hL1, hL2, hG1, hG2, hG3, hB, hV⟩ := Y
  have tI : (-1 : Int32).toInt = -1 := by decide
  have cs : ∀ c, c < n → ((num c).toInt = 0 ∧ who c = nI j ∧ (num' c).toInt = -1 ∧ kept' c = 0) ∨ (¬ ((num c).toInt = 0 ∧ who c = nI j) ∧ num' c = num c ∧ kept' c = kept c) := by
    intro c hc
    have e := h1 c hc
    have e3 := h3 c hc
    by_cases z : num c = 0 ∧ who c = nI j
    · rw [if_pos z] at e e3
      exact Or.inl ⟨un_z.mp z.1, z.2, by rw [e]; exact tI, e3⟩
    · rw [if_neg z] at e e3
      exact Or.inr ⟨fun a => z ⟨un_z.mpr a.1, a.2⟩, e, e3⟩
  have lk : ∀ c d, c < n → d < n → row c = row d → (num c).toInt = 0 → who c = nI j → (num d).toInt = 0 → who d = nI j := by
    intro c d hc hd e z w z2
    obtain ⟨r, hr, er⟩ := hR c hc
    have k1 := hL1 c r hc z er hr
    have k2 := hL1 d r hd z2 (e ▸ er) hr
    rw [← k2, k1, w]
  have lt : ∀ c d, c < d → d < n → row c = row d → (num c).toInt = 0 → who c = nI j → 0 ≤ (num d).toInt → (num d).toInt = 0 ∧ who d = nI j := by
    intro c d hcd hd e z w p
    have z2 : (num d).toInt = 0 := by
      by_cases q : 0 < (num d).toInt
      · have := hM c d hcd hd e (by omega) q
        omega
      · omega
    exact ⟨z2, lk c d (by omega) hd e z w z2⟩
  have lvc : ∀ q : Int32, ∀ c, c ≤ n → (∀ d, d < c → row d = q → ¬ ((num d).toInt = 0 ∧ who d = nI j)) → un_lv q row val num' c = un_lv q row val num c := by
    intro q c hc hq
    refine un_lv_cong c ?_
    intro d hd
    refine ⟨rfl, rfl, fun hr => ?_⟩
    rcases cs d (by omega) with ⟨a, a2, _⟩ | ⟨_, b, _⟩
    · exact absurd ⟨a, a2⟩ (hq d hd hr)
    · rw [b]
  refine ⟨hR, hW, ?_, ?_, ?_, ?_, ?_, ?_, ?_, ?_, hG3, ?_, ?_⟩
  · intro c hc
    have := hN c hc
    rcases cs c hc with ⟨a, _, b, _⟩ | ⟨_, b, _⟩
    · rw [b]; omega
    · rw [b]; omega
  · intro c hc hz
    rcases cs c hc with ⟨a, _, b, _⟩ | ⟨_, b, b2⟩
    · omega
    · rw [b] at hz; rw [b2]; exact hK0 c hc hz
  · intro c hc hz
    rcases cs c hc with ⟨a, _, b, b2⟩ | ⟨_, b, b2⟩
    · exact absurd b2 hz
    · rw [b2] at hz; rw [b]; exact hK1 c hc hz
  · intro c d hcd hd e hc0 hd0
    have hc : c < n := by omega
    rcases cs d hd with ⟨a, a2, b, _⟩ | ⟨a, b, _⟩
    · omega
    · rcases cs c hc with ⟨a', _, b', _⟩ | ⟨a', b', _⟩
      · omega
      · rw [b] at hd0
        rw [b'] at hc0
        rw [b, b']
        exact hM c d hcd hd e hc0 hd0
  · intro c r hc hz e hr
    rcases cs c hc with ⟨a, _, b, _⟩ | ⟨a, b, _⟩
    · omega
    · rw [b] at hz
      have k := hL1 c r hc hz e hr
      have nx : ¬ lock r = nI j := fun q => a ⟨hz, by rw [← k]; exact q⟩
      rw [h2 r hr, if_neg nx]
      exact k
  · intro r hr
    by_cases q : lock r = nI j
    · rw [h2 r hr, if_pos q]; exact Or.inl rfl
    · rw [h2 r hr, if_neg q]
      rcases hL2 r hr with p | ⟨c, p1, p2, p3, p4⟩
      · exact Or.inl p
      · refine Or.inr ⟨c, p1, p2, ?_, p4⟩
        rcases cs c p1 with ⟨a, a2, b, _⟩ | ⟨a, b, _⟩
        · exact absurd (p4.symm.trans a2) q
        · rw [b]; exact p3
  · intro c r hc hz hp e hr
    rcases cs c hc with ⟨a, _, b, _⟩ | ⟨a, b, b2⟩
    · omega
    · rw [b] at hp
      rw [b2] at hz
      rw [b]
      exact hG1 c r hc hz hp e hr
  · intro c r hc hz hp e hr
    rcases cs c hc with ⟨a, _, b, _⟩ | ⟨a, b, b2⟩
    · omega
    · rw [b] at hp
      rw [b2] at hz
      rw [b]
      exact hG2 c r hc hz hp e hr
  · intro c hc hp
    rcases cs c hc with ⟨a, _, b, _⟩ | ⟨a, b, _⟩
    · omega
    · rw [b] at hp
      rw [lvc _ c (by omega) ?_]
      · exact hB c hc hp
      · intro d hd e z
        exact a (lt d c hd hc e z.1 z.2 hp)
  · intro r hr
    by_cases q : ∃ d, d < n ∧ row d = nI r ∧ (num d).toInt = 0 ∧ who d = nI j
    · obtain ⟨d, ⟨d1, d2, d3, d4⟩, dm⟩ := un_least _ q
      have below : ∀ e, e < d → row e = nI r → ¬ ((num e).toInt = 0 ∧ who e = nI j) := fun e he er z => dm e he ⟨by omega, er, z.1, z.2⟩
      have cl : (row d).toNatClampNeg = r := by rw [d2]; exact nI_clamp (by omega)
      rw [un_rs_first (un_z.mpr d3) d4 cl ?_ n now d1]
      · rw [hB d d1 (by omega), d2, ← lvc _ d (by omega) below]
        refine (un_lv_dead n (by omega) ?_).symm
        intro e e1 e2 er p
        rcases cs e e2 with ⟨a, a2, b, _⟩ | ⟨a, b, _⟩
        · omega
        · rw [b] at p
          rcases Nat.lt_or_ge d e with g | g
          · exact a (lt d e g e2 (d2.trans er.symm) d3 d4 p)
          · have ed : e = d := by omega
            rw [ed] at a
            exact a ⟨d3, d4⟩
      · intro e he z w cle
        obtain ⟨r', hr', er'⟩ := hR e (by omega)
        rw [er', nI_clamp (by omega)] at cle
        rw [cle] at er'
        exact below e he er' ⟨un_z.mp z, w⟩
    · have none : ∀ e, e < n → row e = nI r → ¬ ((num e).toInt = 0 ∧ who e = nI j) := fun e he er z => q ⟨e, he, er, z.1, z.2⟩
      rw [un_rs_none n now ?_, lvc _ n (Nat.le_refl _) none]
      · exact hV r hr
      · intro e he z w cle
        obtain ⟨r', hr', er'⟩ := hR e he
        rw [er', nI_clamp (by omega)] at cle
        rw [cle] at er'
        exact none e he er' ⟨un_z.mp z, w⟩
theorem un_Xrollback (X : un_XI n rc cr vb cb cn row bef who num kept) {x : Int32} {num' kept' cr' vb' cb' cn' : Nat → Int32} (hK : ∀ c, c < n → num c = 0 → ¬ kept c = 0)
  (h1 : ∀ c, c < n → num' c = if num c = 0 ∧ who c = x then -1 else num c) (h3 : ∀ c, c < n → kept' c = if num c = 0 ∧ who c = x then 0 else kept c)
  (h2 : ∀ i, i < rc → ¬ (cn i = 0 ∧ cb i = x) → cr' (un_q (un_kx x cb cn) i) = cr i ∧ vb' (un_q (un_kx x cb cn) i) = vb i ∧ cb' (un_q (un_kx x cb cn) i) = cb i ∧ cn' (un_q (un_kx x cb cn) i) = cn i) :
  un_XI n (un_q (un_kx x cb cn) rc) cr' vb' cb' cn' row bef who num' kept' := by
  obtain ⟨e, h24, h⟩ := X
  have qq : ∀ c, c ≤ n → un_q (un_kx x cb cn) (un_q kept c) = un_q kept' c := by
    intro c
    induction c with
    | zero => intro _; rfl
    | succ c ih =>
      intro hc
      have ihc := ih (by omega)
      have e3 := h3 c (by omega)
      by_cases z : kept c = 0
      · have e4 : kept' c = 0 := by
          rw [e3, z]
          split <;> rfl
        rw [un_q_s0 z, un_q_s0 e4, ihc]
      · obtain ⟨k1, k2, k3, k4⟩ := h c (by omega) z
        rw [un_q_s1 z]
        by_cases w : num c = 0 ∧ who c = x
        · have e4 : un_kx x cb cn (un_q kept c) = 0 := if_pos (by rw [k3, k4]; exact w)
          rw [if_pos w] at e3
          rw [un_q_s0 e4, un_q_s0 e3, ihc]
        · have e4 : un_kx x cb cn (un_q kept c) = 1 := if_neg (by rw [k3, k4]; exact w)
          rw [if_neg w] at e3
          rw [un_q_s1 (by rw [e4]; decide), un_q_s1 (by rw [e3]; exact z), ihc]
  refine ⟨?_, ?_, ?_⟩
  · rw [e]; exact qq n (Nat.le_refl _)
  · have := un_q_n (un_kx x cb cn) rc
    omega
  · intro c hc hk
    have e3 := h3 c hc
    have w : ¬ (num c = 0 ∧ who c = x) := by
      intro w
      rw [if_pos w] at e3
      exact hk e3
    rw [if_neg w] at e3
    rw [e3] at hk
    obtain ⟨k1, k2, k3, k4⟩ := h c hc hk
    have s := h2 (un_q kept c) (by rw [e]; exact un_q_lt hc hk) (by rw [k3, k4]; exact w)
    rw [qq c (by omega)] at s
    rw [h1 c hc, if_neg w]
    obtain ⟨s1, s2, s3, s4⟩ := s
    exact ⟨s1.trans k1, s2.trans k2, s3.trans k3, s4.trans k4⟩
end
end
section
section
variable {n T rc : Nat} {row val bef who num kept now lock gone cr vb cb cn : Nat → Int32}
theorem un_cl (Y : un_YI n T row val bef who num kept now lock gone) (X : un_XI n rc cr vb cb cn row bef who num kept) (x : Int32) : un_c x cb cn rc = un_c x who num n := by
  obtain ⟨e, h24, h⟩ := X
  rw [e]
  exact un_c_link (n := n) (fun c hc z => Y.2.2.2.1 c hc (un_z.mp z)) (fun c hc k => (h c hc k).2.2.1) (fun c hc k => (h c hc k).2.2.2) n (Nat.le_refl _)
theorem un_nos (Y : un_YI n T row val bef who num kept now lock gone) {x : Int32} (hx : x < 0 ∨ nI 4 ≤ x) : ∀ c, c < n → ¬ who c = x := by
  intro c hc e
  obtain ⟨j, hj, ej⟩ := Y.2.1 c hc
  rw [← e, ej] at hx
  rcases hx with q | q
  · exact nI_pos (by omega) q
  · exact nI_ge hj (by decide) q
theorem un_nor (Y : un_YI n T row val bef who num kept now lock gone) {x : Int32} (hx : x < 0 ∨ nI 8 ≤ x) : ∀ c, c < n → ¬ row c = x := by
  intro c hc e
  obtain ⟨j, hj, ej⟩ := Y.1 c hc
  rw [← e, ej] at hx
  rcases hx with q | q
  · exact nI_pos (by omega) q
  · exact nI_ge hj (by decide) q
theorem un_xrow (Y : un_YI n T row val bef who num kept now lock gone) (X : un_XI n rc cr vb cb cn row bef who num kept) : ∀ i, i < rc → ∃ r, r < 8 ∧ cr i = nI r := by
  intro i hi
  obtain ⟨c, h1, h2, h3, h4, h5, h6, h7⟩ := un_XI_at X hi
  rw [h4]
  exact Y.1 c h1
theorem un_vin {f : Nat → Int32} {m : Nat} (h : ∀ i, i < m → ∃ r, r < 8 ∧ f i = nI r) : ∀ i, i < m → vp_in (f i) 8 := by
  intro i hi
  obtain ⟨r, hr, e⟩ := h i hi
  rw [e]
  exact vp_in_nI hr (by decide)
theorem un_hold (Y : un_YI n T row val bef who num kept now lock gone) (X : un_XI n rc cr vb cb cn row bef who num kept) {r : Nat} (hr : r < 8) {t : Int32} {post : Int32 → Prop} (h : post (lock r)) : wpX_holder post (nI rc, t, now, gone, cr, vb, cb, cn) (nI r) := by
  refine un_xh X.2.1 ?_ ?_
  · intro z
    rcases Y.2.2.2.2.2.2.2.1 r hr with q | ⟨c, c1, c2, c3, c4⟩
    · rw [q] at h; exact h
    · have k := Y.2.2.2.1 c c1 c3
      obtain ⟨e1, e2, e3, e4⟩ := X.2.2 c c1 k
      exact absurd ⟨e1.trans c2, e4.trans (un_z.mpr c3)⟩ (z (un_q kept c) (by rw [X.1]; exact un_q_lt c1 k))
  · intro i hi z w
    obtain ⟨c, h1, h2, h3, h4, h5, h6, h7⟩ := un_XI_at X hi
    rw [h7] at w
    rw [h4] at z
    rw [h6, ← Y.2.2.2.2.2.2.1 c r h1 (un_z.mp w) z hr]
    exact h
theorem un_hold0 (Y : un_YI n T row val bef who num kept now lock gone) (X : un_XI n rc cr vb cb cn row bef who num kept) {x : Int32} (hx : x < 0 ∨ nI 8 ≤ x) {t : Int32} {post : Int32 → Prop} (h : post (-4)) : wpX_holder post (nI rc, t, now, gone, cr, vb, cb, cn) x := by
  refine un_xh X.2.1 (fun _ => h) ?_
  intro i hi z w
  obtain ⟨c, h1, h2, h3, h4, h5, h6, h7⟩ := un_XI_at X hi
  rw [h4] at z
  exact absurd z (un_nor Y hx c h1)
theorem un_cv (Y : un_YI n T row val bef who num kept now lock gone) (X : un_XI n rc cr vb cb cn row bef who num kept) {r : Nat} (hr : r < 8) {s t : Int32} (hg : (gone r).toInt ≤ s.toInt) {post : Int32 → Prop} (h : post (un_va (nI r) s row val num n)) : wpX_committedValue post (nI rc, t, now, gone, cr, vb, cb, cn) (nI r) s := by
  obtain ⟨hR, hW, hN, hK0, hK1, hM, hL1, hL2, hG1, hG2, hG3, hB, hV⟩ := Y
  have old : ∀ d, d < n → row d = nI r → kept d = 0 → 0 ≤ (num d).toInt → 0 < (num d).toInt ∧ (num d).toInt ≤ s.toInt := by
    intro d hd e k p
    have a : ¬ (num d).toInt = 0 := fun z => hK0 d hd z k
    have b := hG1 d r hd k (by omega) e hr
    omega
  have seen : ∀ d, d < n → row d = nI r → 0 ≤ (num d).toInt → ¬ kept d = 0 → ¬ (cr (un_q kept d) = nI r ∧ (cn (un_q kept d) = 0 ∨ ¬ cn (un_q kept d) ≤ s)) → 0 < (num d).toInt ∧ (num d).toInt ≤ s.toInt := by
    intro d hd e p k z
    obtain ⟨e1, e2, e3, e4⟩ := X.2.2 d hd k
    rw [e1, e4, un_z, un_le] at z
    have z2 : ¬ ((num d).toInt = 0 ∨ ¬ (num d).toInt ≤ s.toInt) := fun a => z ⟨e, a⟩
    omega
  refine un_xcv X.2.1 hr ?_ ?_
  · intro z
    rw [hV r hr, ← un_va_lv n ?_]
    · exact h
    · intro d hd e p
      by_cases k : kept d = 0
      · exact old d hd e k p
      · exact seen d hd e p k (z (un_q kept d) (by rw [X.1]; exact un_q_lt hd k))
  · intro i hi z w zs
    obtain ⟨c, h1, h2, h3, h4, h5, h6, h7⟩ := un_XI_at X hi
    rw [h4] at z
    rw [h7, un_z, un_le] at w
    have p0 := hK1 c h1 h2
    have e1 : un_va (nI r) s row val num c = un_lv (nI r) row val num c := by
      refine un_va_lv c ?_
      intro d hd e p
      by_cases k : kept d = 0
      · exact old d (by omega) e k p
      · refine seen d (by omega) e p k (zs (un_q kept d) ?_)
        rw [← h3]
        exact un_q_lt hd k
    have e2 : un_va (nI r) s row val num n = un_va (nI r) s row val num c := by
      refine un_va_dead n (by omega) ?_
      intro d d1 d2 e p
      rcases Nat.lt_or_ge c d with g | g
      · have := hM c d g d2 (z.trans e.symm) p0 p.1
        omega
      · have ed : d = c := by omega
        rw [ed] at p
        omega
    rw [h5, hB c h1 p0, z, ← e1, ← e2]
    exact h
theorem un_xto {A B : Prop} {r : Nat} {R t s : Int32} {va fo cr vb cb cn : Nat → Int32} (hr : r < 8) (h0 : fo r ≤ s → A) (h1 : ¬ fo r ≤ s → B) : wpX_isTooOld (fun z => (z = 0 → A) ∧ (¬ z = 0 → B)) (R, t, va, fo, cr, vb, cb, cn) (nI r) s := by
  have hc : (nI r).toNatClampNeg = r := nI_clamp (by omega)
  unfold wpX_isTooOld
  dsimp only
  rw [hc]
  exact ⟨vp_in_nI hr (by decide), br_c (fun z => br_t rfl (h0 z)) (fun z => br_f (by decide) (h1 z))⟩
theorem un_xmo {A B : Prop} {R t s : Int32} {va fo cr vb cb cn : Nat → Int32} (h0 : s < 0 ∨ t < s → A) (h1 : ¬ s < 0 → ¬ t < s → B) : wpX_isMoment (fun z => (z = 0 → A) ∧ (¬ z = 0 → B)) (R, t, va, fo, cr, vb, cb, cn) s := by
  unfold wpX_isMoment
  dsimp only
  exact br_c (fun a => br_t rfl (h0 (Or.inl a))) (fun a => br_c (fun b => br_t rfl (h0 (Or.inr b))) (fun b => br_f (by decide) (h1 a b)))
theorem un_cs (Y : un_YI n T row val bef who num kept now lock gone) (X : un_XI n rc cr vb cb cn row bef who num kept) (hn : n ≤ 512) (hT : T < 2 ^ 31) {s : Int32} (h0 : ¬ s < 0) (hs : ¬ nI T < s) : ∀ d i z, i + d = 8 → ∃ res : Int32, (∀ post : Int32 → Prop, post res → wX_changedSince_14 post s (nI rc) (nI T) now gone cr vb cb cn (d + 1) z (nI i)) ∧ (∀ post : Int32 → Prop, post res → wY_changedSince_4 post s (nI n) (nI T) row val bef who num kept now lock gone (d + 1) z (nI i)) := by
  intro d
  induction d with
  | zero =>
    intro i z hi
    have e : (8 : Int32) ≤ nI i := nI_le (a := 8) (by omega) (by omega)
    exact ⟨z, fun post hp => br_t e hp, fun post hp => br_t e hp⟩
  | succ d ih =>
    intro i z hi
    have e : ¬ (8 : Int32) ≤ nI i := nI_ge (b := 8) (by omega) (by decide)
    have hi8 : i < 8 := by omega
    have hc : (nI i).toNatClampNeg = i := nI_clamp (by omega)
    have hv : vp_in (nI i) 8 := vp_in_nI hi8 (by decide)
    by_cases g : gone i ≤ s
    · have g1 : (gone i).toInt ≤ s.toInt := un_le.mp g
      have g2 : (gone i).toInt ≤ (nI T).toInt := by
        rw [nI_toInt hT]
        exact Y.2.2.2.2.2.2.2.2.2.2.1 i hi8
      have g3 : ¬ s < gone i := by rw [un_lt]; omega
      by_cases q : un_va (nI i) s row val num n = un_va (nI i) (nI T) row val num n
      · obtain ⟨res, hX, hY⟩ := ih (i + 1) z (by omega)
        refine ⟨res, fun post hp => ?_, fun post hp => ?_⟩
        · rw [wX_changedSince_14]
          refine br_f e (un_xto hi8 (fun _ => un_cv Y X hi8 g1 (un_cv Y X hi8 g2 (br_t q (nm_r (nI_1 i) (hX post hp))))) (fun a => absurd g a))
        · rw [wY_changedSince_4]
          dsimp only
          rw [hc]
          exact br_f e (br_f h0 (br_f hs ⟨hv, br_f g3 (un_yv hn (un_yv hn (br_t q (nm_r (nI_1 i) (hY post hp)))))⟩))
      · obtain ⟨res, hX, hY⟩ := ih (i + 1) (z ||| ((1 : Int32) <<< (nI i &&& 31))) (by omega)
        refine ⟨res, fun post hp => ?_, fun post hp => ?_⟩
        · rw [wX_changedSince_14]
          refine br_f e (un_xto hi8 (fun _ => un_cv Y X hi8 g1 (un_cv Y X hi8 g2 (br_f q (nm_e (nm_r (nI_1 i) (hX post hp)))))) (fun a => absurd g a))
        · rw [wY_changedSince_4]
          dsimp only
          rw [hc]
          exact br_f e (br_f h0 (br_f hs ⟨hv, br_f g3 (un_yv hn (un_yv hn (br_f q (nm_e (nm_r (nI_1 i) (hY post hp))))))⟩))
    · obtain ⟨res, hX, hY⟩ := ih (i + 1) z (by omega)
      have g3 : s < gone i := by
        rw [un_le] at g
        rw [un_lt]; omega
      refine ⟨res, fun post hp => ?_, fun post hp => ?_⟩
      · rw [wX_changedSince_14]
        refine br_f e (un_xto hi8 (fun a => absurd a g) (fun _ => nm_r (nI_1 i) (hX post hp)))
      · rw [wY_changedSince_4]
        dsimp only
        rw [hc]
        exact br_f e (br_f h0 (br_f hs ⟨hv, br_t g3 (nm_r (nI_1 i) (hY post hp))⟩))
end
section
variable {t x1 x3 : Int32} {va fo cr vb cb cn : Nat → Int32} {rc r : Nat}
theorem un_xrem {post : SX → Prop} (h24 : rc < 24) (hr : r < 8) (h : post (nI (rc + 1), t, va, fo, upd cr rc (nI r), upd vb rc (va r), upd cb rc x1, upd cn rc 0)) : wpX_remember post (nI rc, t, va, fo, cr, vb, cb, cn) x1 (nI r) := by
  have hc : (nI rc).toNatClampNeg = rc := nI_clamp (by omega)
  have hcr : (nI r).toNatClampNeg = r := nI_clamp (by omega)
  have a : vp_in (nI rc) 24 := vp_in_nI h24 (by decide)
  have b : vp_in (nI r) 8 := vp_in_nI hr (by decide)
  unfold wpX_remember
  simp only [hc, hcr]
  exact ⟨a, nm_e ⟨b, a, nm_e ⟨a, nm_e ⟨a, nm_e (nm_r (nI_1 rc) h)⟩⟩⟩⟩
theorem un_x41a {post : Int32 → SX → Prop} (h24 : rc < 24) (hr : r < 8) (h : post 0 (nI (rc + 1), t, upd va r x3, fo, upd cr rc (nI r), upd vb rc (va r), upd cb rc x1, upd cn rc 0)) : wX_change_41 post x1 (nI r) x3 (nI rc) t va fo cr vb cb cn := by
  have hcr : (nI r).toNatClampNeg = r := nI_clamp (by omega)
  unfold wX_change_41 wpX_makeRoom
  dsimp only
  refine br_f (nI_ge (b := 24) h24 (by decide)) (br_f (by decide) (un_xrem h24 hr ?_))
  dsimp only
  rw [hcr]
  exact ⟨vp_in_nI hr (by decide), nm_e h⟩
theorem un_x41b {post : Int32 → SX → Prop} (z : cn 0 = 0) (h : post (-3) (nI 24, t, va, fo, cr, vb, cb, cn)) : wX_change_41 post x1 (nI r) x3 (nI 24) t va fo cr vb cb cn := by
  unfold wX_change_41 wpX_makeRoom
  dsimp only
  exact br_t (nI_le (Nat.le_refl 24) (by decide)) (br_t z (br_t rfl h))
theorem un_x41c {post : Int32 → SX → Prop} (hr : r < 8) (z : ¬ cn 0 = 0) (hv : vp_in (cr 0) 8) (h : ∀ cr' vb' cb' cn' : Nat → Int32, (∀ j, j < 23 → cr' j = cr (j + 1) ∧ vb' j = vb (j + 1) ∧ cb' j = cb (j + 1) ∧ cn' j = cn (j + 1)) → post 0 (nI 24, t, upd va r x3, upd fo (cr 0).toNatClampNeg (cn 0), upd cr' 23 (nI r), upd vb' 23 (va r), upd cb' 23 x1, upd cn' 23 0)) : wX_change_41 post x1 (nI r) x3 (nI 24) t va fo cr vb cb cn := by
  have hcr : (nI r).toNatClampNeg = r := nI_clamp (by omega)
  unfold wX_change_41 wpX_makeRoom
  dsimp only
  refine br_t (nI_le (Nat.le_refl 24) (by decide)) (br_f z (un_xf (q := 23) (by omega) hv ?_))
  intro cr' vb' cb' cn' hs
  dsimp only
  refine br_f (by decide) (un_xrem (by omega) hr ?_)
  dsimp only
  rw [hcr]
  exact ⟨vp_in_nI hr (by decide), nm_e (h cr' vb' cb' cn' hs)⟩
end
section
variable {t x1 x3 : Int32} {row val bef who num kept now lock gone : Nat → Int32} {n r c0 r0 : Nat}
theorem un_y152 {post : Int32 → SY → Prop} (hn : n < 512) (hr : r < 8) (h : post 0 (nI (n + 1), t, upd row n (nI r), upd val n x3, upd bef n (now r), upd who n x1, upd num n 0, upd kept n 1, upd now r x3, upd lock r x1, gone)) : wY_change_152 post x1 (nI r) x3 (nI n) t row val bef who num kept now lock gone := by
  have hc : (nI n).toNatClampNeg = n := nI_clamp (by omega)
  have hcr : (nI r).toNatClampNeg = r := nI_clamp (by omega)
  have a : vp_in (nI n) 512 := vp_in_nI hn (by decide)
  have b : vp_in (nI r) 8 := vp_in_nI hr (by decide)
  unfold wY_change_152
  rw [hc, hcr, un_bb1]
  exact ⟨a, nm_e ⟨a, nm_e ⟨b, a, nm_e ⟨a, nm_e ⟨a, nm_e ⟨a, nm_e (nm_r (nI_1 n) ⟨b, nm_e ⟨b, nm_e h⟩⟩)⟩⟩⟩⟩⟩⟩
theorem un_y42a {post : Int32 → SY → Prop} {x2 : Int32} (hn : n < 512) (hq : un_q kept n < 24) (h : wY_change_152 post x1 x2 x3 (nI n) t row val bef who num kept now lock gone) : wY_change_42 post x1 x2 x3 (nI n) t row val bef who num kept now lock gone := by
  unfold wY_change_42
  refine un_yrm (by omega) (br_f (nI_ge (b := 24) hq (by decide)) ?_)
  exact br_f (nI_ge (b := 512) hn (by decide)) (br_t (by decide) (br_t (by decide) h))
theorem un_y42b {post : Int32 → SY → Prop} {x2 : Int32} (hn : n < 512) (hq : 24 ≤ un_q kept n) (h0 : c0 < n) (hk : ¬ kept c0 = 0) (hf : ∀ d, d < c0 → kept d = 0) (z : num c0 = 0) (h : post (-3) (nI n, t, row, val, bef, who, num, kept, now, lock, gone)) : wY_change_42 post x1 x2 x3 (nI n) t row val bef who num kept now lock gone := by
  have hc : (nI c0).toNatClampNeg = c0 := nI_clamp (by omega)
  have hqn := un_q_n kept n
  unfold wY_change_42
  refine un_yrm (by omega) (br_t (nI_le (a := 24) hq (by omega)) (un_yok (by omega) h0 hk hf ?_))
  unfold wY_change_59
  rw [hc]
  exact br_f (nI_ge (b := 512) hn (by decide)) (br_f (nI_pos (by omega)) ⟨vp_in_nI (by omega) (by decide), br_t z h⟩)
theorem un_y42c {post : Int32 → SY → Prop} {x2 : Int32} (hn : n < 512) (hq : 24 ≤ un_q kept n) (h0 : c0 < n) (hk : ¬ kept c0 = 0) (hf : ∀ d, d < c0 → kept d = 0) (z : ¬ num c0 = 0) (er : row c0 = nI r0) (hr0 : r0 < 8) (hg : (gone r0).toInt ≤ (num c0).toInt) (h : wY_change_152 post x1 x2 x3 (nI n) t row val bef who num (upd kept c0 0) now lock (upd gone r0 (num c0))) : wY_change_42 post x1 x2 x3 (nI n) t row val bef who num kept now lock gone := by
  have hc : (nI c0).toNatClampNeg = c0 := nI_clamp (by omega)
  have hcr : (nI r0).toNatClampNeg = r0 := nI_clamp (by omega)
  have a : vp_in (nI c0) 512 := vp_in_nI (by omega) (by decide)
  have b : vp_in (nI r0) 8 := vp_in_nI hr0 (by decide)
  have hqn := un_q_n kept n
  unfold wY_change_42
  refine un_yrm (by omega) (br_t (nI_le (a := 24) hq (by omega)) (un_yok (by omega) h0 hk hf ?_))
  unfold wY_change_59
  rw [hc]
  refine br_f (nI_ge (b := 512) hn (by decide)) (br_f (nI_pos (by omega)) ⟨a, br_f z ?_⟩)
  unfold wY_change_89
  rw [hc, un_b0, er]
  refine br_f (nI_pos (by omega)) ⟨a, nm_e ⟨a, nm_e ⟨a, b, ?_⟩⟩⟩
  rw [hcr]
  by_cases g : num c0 ≤ gone r0
  · refine br_t g ⟨b, ?_⟩
    have e : gone r0 = num c0 := by
      rw [un_le] at g
      exact Int32.toInt_inj.mp (by omega)
    unfold wY_change_151
    rw [hcr, e]
    exact ⟨b, nm_e h⟩
  · refine br_f g ⟨a, ?_⟩
    unfold wY_change_151
    rw [hcr]
    exact ⟨b, nm_e h⟩
theorem un_YC1 {post : Int32 → SY → Prop} {u : SY} {x2 : Int32} (hx : x1 < 0 ∨ nI 4 ≤ x1) (h : post (-1) u) : wpY_change post u x1 x2 x3 := by
  obtain ⟨a, b, c, d, e, f, g, i, k, l, m⟩ := u
  unfold wpY_change
  dsimp only
  exact un_yS0 hx (br_t rfl h)
theorem un_YC2 {post : Int32 → SY → Prop} {u : SY} {x2 : Int32} {j : Nat} (hj : j < 4) (hx : x2 < 0 ∨ nI 8 ≤ x2) (h : post (-1) u) : wpY_change post u (nI j) x2 x3 := by
  obtain ⟨a, b, c, d, e, f, g, i, k, l, m⟩ := u
  unfold wpY_change
  dsimp only
  exact un_yS1 hj (br_f (by decide) (un_yR0 hx (br_t rfl h)))
theorem un_YC3 {post : Int32 → SY → Prop} {R : Int32} {j : Nat} (hj : j < 4) (hr : r < 8) (hl : ¬ (lock r = -4 ∨ lock r = nI j)) (h : post (-2) (R, t, row, val, bef, who, num, kept, now, lock, gone)) : wpY_change post (R, t, row, val, bef, who, num, kept, now, lock, gone) (nI j) (nI r) x3 := by
  have hcr : (nI r).toNatClampNeg = r := nI_clamp (by omega)
  have b : vp_in (nI r) 8 := vp_in_nI hr (by decide)
  unfold wpY_change
  dsimp only
  rw [hcr]
  exact un_yS1 hj (br_f (by decide) (un_yR1 hr (br_f (by decide) ⟨b, br_f (fun z => hl (Or.inl z)) ⟨b, br_f (fun z => hl (Or.inr z)) h⟩⟩)))
theorem un_YC4 {post : Int32 → SY → Prop} {R : Int32} {j : Nat} (hj : j < 4) (hr : r < 8) (hl : lock r = -4 ∨ lock r = nI j) (h : wY_change_42 post (nI j) (nI r) x3 R t row val bef who num kept now lock gone) : wpY_change post (R, t, row, val, bef, who, num, kept, now, lock, gone) (nI j) (nI r) x3 := by
  have hcr : (nI r).toNatClampNeg = r := nI_clamp (by omega)
  have b : vp_in (nI r) 8 := vp_in_nI hr (by decide)
  unfold wpY_change
  dsimp only
  rw [hcr]
  refine un_yS1 hj (br_f (by decide) (un_yR1 hr (br_f (by decide) ⟨b, ?_⟩)))
  by_cases z : lock r = -4
  · exact br_t z h
  · exact br_f z ⟨b, br_t (hl.resolve_left z) h⟩
theorem un_XC1 {post : Int32 → SX → Prop} {u : SX} {x2 : Int32} (hx : x1 < 0 ∨ nI 4 ≤ x1) (h : post (-1) u) : wpX_change post u x1 x2 x3 := by
  obtain ⟨a, b, c, d, e, f, g, i⟩ := u
  unfold wpX_change
  dsimp only
  exact un_xS0 hx (br_t rfl h)
theorem un_XC2 {post : Int32 → SX → Prop} {u : SX} {x2 : Int32} {j : Nat} (hj : j < 4) (hx : x2 < 0 ∨ nI 8 ≤ x2) (h : post (-1) u) : wpX_change post u (nI j) x2 x3 := by
  obtain ⟨a, b, c, d, e, f, g, i⟩ := u
  unfold wpX_change
  dsimp only
  exact un_xS1 hj (br_f (by decide) (un_xR0 hx (br_t rfl h)))
end
section
variable {n T rc : Nat} {row val bef who num kept now lock gone cr vb cb cn : Nat → Int32}
theorem un_XC3 (Y : un_YI n T row val bef who num kept now lock gone) (X : un_XI n rc cr vb cb cn row bef who num kept) {post : Int32 → SX → Prop} {t x3 : Int32} {j r : Nat} (hj : j < 4) (hr : r < 8) (hl : ¬ (lock r = -4 ∨ lock r = nI j)) (h : post (-2) (nI rc, t, now, gone, cr, vb, cb, cn)) : wpX_change post (nI rc, t, now, gone, cr, vb, cb, cn) (nI j) (nI r) x3 := by
  unfold wpX_change
  dsimp only
  exact un_xS1 hj (br_f (by decide) (un_xR1 hr (br_f (by decide) (un_hold Y X hr (br_f (fun z => hl (Or.inl z)) (br_f (fun z => hl (Or.inr z)) h))))))
theorem un_XC4 (Y : un_YI n T row val bef who num kept now lock gone) (X : un_XI n rc cr vb cb cn row bef who num kept) {post : Int32 → SX → Prop} {t x3 : Int32} {j r : Nat} (hj : j < 4) (hr : r < 8) (hl : lock r = -4 ∨ lock r = nI j) (h : wX_change_41 post (nI j) (nI r) x3 (nI rc) t now gone cr vb cb cn) : wpX_change post (nI rc, t, now, gone, cr, vb, cb, cn) (nI j) (nI r) x3 := by
  unfold wpX_change
  dsimp only
  refine un_xS1 hj (br_f (by decide) (un_xR1 hr (br_f (by decide) (un_hold Y X hr ?_))))
  by_cases z : lock r = -4
  · exact br_t z h
  · exact br_f z (br_t (hl.resolve_left z) h)
end
end
section
/-- X remembers the kept ones of the changes of Y, in their order; values and forgotten numbers are the same -/
def i_Rel (k : Nat) (u : SX) (v : SY) : Prop :=
  ∃ (n T rc : Nat) (row val bef who num kept now lock gone cr vb cb cn : Nat → Int32),
    u = (nI rc, nI T, now, gone, cr, vb, cb, cn) ∧ v = (nI n, nI T, row, val, bef, who, num, kept, now, lock, gone) ∧
    4 * n ≤ k ∧ 4 * T ≤ k ∧ un_YI n T row val bef who num kept now lock gone ∧ un_XI n rc cr vb cb cn row bef who num kept
theorem i_up {k : Nat} {u : SX} {v : SY} (h : i_Rel k u v) : i_Rel (k + 4) u v := by
  obtain ⟨n, T, rc, row, val, bef, who, num, kept, now, lock, gone, cr, vb, cb, cn, e1, e2, hn, hT, Y, X⟩ := h
  exact ⟨n, T, rc, row, val, bef, who, num, kept, now, lock, gone, cr, vb, cb, cn, e1, e2, by omega, by omega, Y, X⟩
theorem i_vc0 : wpX_init (fun u => wpY_init (fun v => i_Rel 0 u v)) := by
  unfold wpX_init
  refine un_yi ?_
  intro lock h
  exact ⟨0, 0, 0, _, _, _, _, _, _, _, lock, _, _, _, _, _, rfl, rfl, Nat.le_refl _, Nat.le_refl _, un_YI0 h, rfl, by omega, fun c hc => absurd hc (Nat.not_lt_zero c)⟩
theorem i_vc_change {k : Nat} {u : SX} {v : SY} (I : i_Rel k u v) (hk : k + 4 ≤ 2048) (v1 : Int32) (v2 : Int32) (v3 : Int32) : wpX_change (fun r u' => wpY_change (fun r' v' => r' = r ∧ i_Rel (k + 4) u' v') v v1 v2 v3) u v1 v2 v3 := by
  have up := i_up I
  obtain ⟨n, T, rc, row, val, bef, who, num, kept, now, lock, gone, cr, vb, cb, cn, rfl, rfl, hn, hT, Y, X⟩ := I
  rcases pk_ix v1 (n := 4) (by decide) with q | q | ⟨j, hj, rfl⟩
  · exact un_XC1 (Or.inl q) (un_YC1 (Or.inl q) ⟨rfl, up⟩)
  · exact un_XC1 (Or.inr q) (un_YC1 (Or.inr q) ⟨rfl, up⟩)
  rcases pk_ix v2 (n := 8) (by decide) with q | q | ⟨r, hr, rfl⟩
  · exact un_XC2 hj (Or.inl q) (un_YC2 hj (Or.inl q) ⟨rfl, up⟩)
  · exact un_XC2 hj (Or.inr q) (un_YC2 hj (Or.inr q) ⟨rfl, up⟩)
  by_cases hl : lock r = -4 ∨ lock r = nI j
  · refine un_XC4 Y X hj hr hl ?_
    by_cases h24 : rc < 24
    · refine un_x41a h24 hr (un_YC4 hj hr hl (un_y42a (by omega) (by rw [← X.1]; exact h24) (un_y152 (by omega) hr ⟨rfl, ?_⟩)))
      exact ⟨n + 1, T, rc + 1, _, _, _, _, _, _, _, _, _, _, _, _, _, rfl, rfl, by omega, by omega, un_Ychange Y v3 hr hj hl, un_Xchange X h24 _ _ _ _⟩
    · have e24 : rc = 24 := by have := X.2.1; omega
      subst e24
      have hq : 24 ≤ un_q kept n := by rw [← X.1]; exact Nat.le_refl _
      obtain ⟨c0, h0, hk0, hf, q0⟩ := un_q_first (kept := kept) (n := n) (by omega)
      obtain ⟨r0, hr0, er0⟩ := Y.1 c0 h0
      have at0 := X.2.2 c0 h0 hk0
      rw [q0] at at0
      obtain ⟨a1, a2, a3, a4⟩ := at0
      by_cases z : num c0 = 0
      · exact un_x41b (a4.trans z) (un_YC4 hj hr hl (un_y42b (by omega) hq h0 hk0 hf z ⟨rfl, up⟩))
      · have z2 : ¬ (num c0).toInt = 0 := fun a => z (un_z.mpr a)
        have pos := Y.2.2.2.2.1 c0 h0 hk0
        have hg := Y.2.2.2.2.2.2.2.2.2.1 c0 r0 h0 hk0 (by omega) er0 hr0
        have hcr : (cr 0).toNatClampNeg = r0 := by rw [a1, er0]; exact nI_clamp (by omega)
        refine un_x41c hr (by rw [a4]; exact z) (by rw [a1, er0]; exact vp_in_nI hr0 (by decide)) ?_
        intro cr' vb' cb' cn' hs
        refine un_YC4 hj hr hl (un_y42c (by omega) hq h0 hk0 hf z er0 hr0 hg (un_y152 (by omega) hr ⟨rfl, ?_⟩))
        rw [hcr, a4]
        have Y2 := un_Yforget Y h0 hk0 hf z2 er0 hr0
        have X2 := un_Xforget (q := 23) X h0 hk0 hf hs
        exact ⟨n + 1, T, 24, _, _, _, _, _, _, _, _, _, _, _, _, _, rfl, rfl, by omega, by omega, un_Ychange Y2 v3 hr hj hl, un_Xchange X2 (by omega) _ _ _ _⟩
  · exact un_XC3 Y X hj hr hl (un_YC3 hj hr hl ⟨rfl, up⟩)
theorem i_vc_commit {k : Nat} {u : SX} {v : SY} (I : i_Rel k u v) (hk : k + 4 ≤ 2048) (v1 : Int32) : wpX_commit (fun r u' => wpY_commit (fun r' v' => r' = r ∧ i_Rel (k + 4) u' v') v v1) u v1 := by
  have up := i_up I
  obtain ⟨n, T, rc, row, val, bef, who, num, kept, now, lock, gone, cr, vb, cb, cn, rfl, rfl, hn, hT, Y, X⟩ := I
  have cl := un_cl Y X v1
  unfold wpX_commit wpY_commit
  dsimp only
  refine un_xc X.2.1 ?_
  by_cases hx : v1 < 0 ∨ nI 4 ≤ v1
  · rw [cl, un_c_0 n (un_nos Y hx)]
    exact br_t nI_0 (un_yc0 hx (by omega) (br_t rfl ⟨rfl, up⟩))
  · obtain ⟨j, hj, rfl⟩ : ∃ j : Nat, j < 4 ∧ v1 = nI j := by
      rcases pk_ix v1 (n := 4) (by decide) with q | q | q
      · exact absurd (Or.inl q) hx
      · exact absurd (Or.inr q) hx
      · exact q
    have cln := un_c_n (nI j) who num n
    rw [cl]
    by_cases z : un_c (nI j) who num n = 0
    · rw [z]
      exact br_t nI_0 (un_yc hj (by omega) (by rw [z]; exact br_t nI_0 ⟨rfl, up⟩))
    · have z2 : ¬ nI (un_c (nI j) who num n) = 0 := nI_ne0 (by omega) (by omega)
      refine br_f z2 (nm_r (nI_1 T) (un_xcm X.2.1 ?_))
      intro cn' hc'
      refine un_yc hj (by omega) (br_f z2 (nm_r (nI_1 T) (un_ycm (by omega) ?_)))
      intro num' lock' h1 h2
      exact ⟨rfl, n, T + 1, rc, _, _, _, _, _, _, _, _, _, _, _, _, _, rfl, rfl, by omega, by omega, un_Ycommit Y hj (by omega) h1 h2, un_Xcommit X h1 hc'⟩
theorem i_vc_rollback {k : Nat} {u : SX} {v : SY} (I : i_Rel k u v) (hk : k + 4 ≤ 2048) (v1 : Int32) : wpX_rollback (fun r u' => wpY_rollback (fun r' v' => r' = r ∧ i_Rel (k + 4) u' v') v v1) u v1 := by
  have up := i_up I
  obtain ⟨n, T, rc, row, val, bef, who, num, kept, now, lock, gone, cr, vb, cb, cn, rfl, rfl, hn, hT, Y, X⟩ := I
  have cl := un_cl Y X v1
  unfold wpX_rollback wpY_rollback
  dsimp only
  refine un_xc X.2.1 ?_
  by_cases hx : v1 < 0 ∨ nI 4 ≤ v1
  · rw [cl, un_c_0 n (un_nos Y hx)]
    exact br_t nI_0 (un_yc0 hx (by omega) (br_t rfl ⟨rfl, up⟩))
  · obtain ⟨j, hj, rfl⟩ : ∃ j : Nat, j < 4 ∧ v1 = nI j := by
      rcases pk_ix v1 (n := 4) (by decide) with q | q | q
      · exact absurd (Or.inl q) hx
      · exact absurd (Or.inr q) hx
      · exact q
    have cln := un_c_n (nI j) who num n
    rw [cl]
    by_cases z : un_c (nI j) who num n = 0
    · rw [z]
      exact br_t nI_0 (un_yc hj (by omega) (by rw [z]; exact br_t nI_0 ⟨rfl, up⟩))
    · have z2 : ¬ nI (un_c (nI j) who num n) = 0 := nI_ne0 (by omega) (by omega)
      have hK : ∀ c, c < n → num c = 0 → ¬ kept c = 0 := fun c hc z => Y.2.2.2.1 c hc (un_z.mp z)
      refine br_f z2 (un_xr X.2.1 (un_vin (un_xrow Y X)) ?_)
      dsimp only
      refine un_xd X.2.1 ?_
      intro cr' vb' cb' cn' hs
      dsimp only
      refine un_yc hj (by omega) (br_f z2 (nm_e (un_yrb (by omega) (un_vin Y.1) ?_)))
      intro num' kept' lock' h1 h3 h2
      have e : un_rs (nI j) cr vb cb cn rc now = un_rs (nI j) row bef who num n now := by
        rw [X.1]
        exact un_rs_link hK X.2.2 n (Nat.le_refl _) now
      rw [e]
      exact ⟨rfl, n, T, _, _, _, _, _, _, _, _, _, _, _, _, _, _, rfl, rfl, by omega, by omega, un_Yrollback Y hj h1 h3 h2, un_Xrollback X hK h1 h3 hs⟩
theorem i_vc_clock {k : Nat} {u : SX} {v : SY} (I : i_Rel k u v) (hk : k + 4 ≤ 2048) : wpX_clock (fun r => wpY_clock (fun r' => r' = r ∧ i_Rel (k + 4) u v) v) u := by
  have up := i_up I
  obtain ⟨n, T, rc, row, val, bef, who, num, kept, now, lock, gone, cr, vb, cb, cn, rfl, rfl, hn, hT, Y, X⟩ := I
  unfold wpX_clock wpY_clock
  exact ⟨rfl, up⟩
theorem i_vc_read {k : Nat} {u : SX} {v : SY} (I : i_Rel k u v) (hk : k + 4 ≤ 2048) (v1 : Int32) (v2 : Int32) (v3 : Int32) : wpX_read (fun r => wpY_read (fun r' => r' = r ∧ i_Rel (k + 4) u v) v v1 v2 v3) u v1 v2 v3 := by
  have up := i_up I
  obtain ⟨n, T, rc, row, val, bef, who, num, kept, now, lock, gone, cr, vb, cb, cn, rfl, rfl, hn, hT, Y, X⟩ := I
  unfold wpX_read wpY_read
  dsimp only
  rcases pk_ix v1 (n := 4) (by decide) with q | q | ⟨j, hj, rfl⟩
  · exact un_xS0 (Or.inl q) (br_t rfl (un_yS0 (Or.inl q) (br_t rfl ⟨rfl, up⟩)))
  · exact un_xS0 (Or.inr q) (br_t rfl (un_yS0 (Or.inr q) (br_t rfl ⟨rfl, up⟩)))
  rcases pk_ix v2 (n := 8) (by decide) with q | q | ⟨r, hr, rfl⟩
  · exact un_xS1 hj (br_f (by decide) (un_xR0 (Or.inl q) (br_t rfl (un_yS1 hj (br_f (by decide) (un_yR0 (Or.inl q) (br_t rfl ⟨rfl, up⟩)))))))
  · exact un_xS1 hj (br_f (by decide) (un_xR0 (Or.inr q) (br_t rfl (un_yS1 hj (br_f (by decide) (un_yR0 (Or.inr q) (br_t rfl ⟨rfl, up⟩)))))))
  have hcr : (nI r).toNatClampNeg = r := nI_clamp (by omega)
  have b : vp_in (nI r) 8 := vp_in_nI hr (by decide)
  rw [hcr]
  refine un_xS1 hj (br_f (by decide) (un_xR1 hr (br_f (by decide) (un_xmo ?_ ?_))))
  · intro q
    refine un_yS1 hj (br_f (by decide) (un_yR1 hr (br_f (by decide) ?_)))
    by_cases q0 : v3 < 0
    · exact br_t q0 ⟨rfl, up⟩
    · refine br_f q0 (br_f ?_ ⟨rfl, up⟩)
      have q1 := q.resolve_left q0
      rw [un_lt] at q1
      rw [un_le]
      omega
  · intro q0 q1
    have q2 : v3 ≤ nI T := by
      rw [un_lt] at q1
      rw [un_le]
      omega
    refine un_hold Y X hr ?_
    by_cases z : lock r = nI j
    · exact br_t z ⟨b, un_yS1 hj (br_f (by decide) (un_yR1 hr (br_f (by decide) (br_f q0 (br_t q2 ⟨b, br_t z ⟨b, rfl, up⟩⟩)))))⟩
    · refine br_f z (un_xto hr ?_ ?_)
      · intro g
        exact un_cv Y X hr (un_le.mp g) (un_yS1 hj (br_f (by decide) (un_yR1 hr (br_f (by decide) (br_f q0 (br_t q2 ⟨b, br_f z ⟨b, br_t g (un_yv (by omega) ⟨rfl, up⟩)⟩⟩))))))
      · intro g
        exact un_yS1 hj (br_f (by decide) (un_yR1 hr (br_f (by decide) (br_f q0 (br_t q2 ⟨b, br_f z ⟨b, br_f g ⟨rfl, up⟩⟩⟩)))))
theorem i_vc_raw {k : Nat} {u : SX} {v : SY} (I : i_Rel k u v) (hk : k + 4 ≤ 2048) (v1 : Int32) : wpX_raw (fun r => wpY_raw (fun r' => r' = r ∧ i_Rel (k + 4) u v) v v1) u v1 := by
  have up := i_up I
  obtain ⟨n, T, rc, row, val, bef, who, num, kept, now, lock, gone, cr, vb, cb, cn, rfl, rfl, hn, hT, Y, X⟩ := I
  unfold wpX_raw wpY_raw
  dsimp only
  rcases pk_ix v1 (n := 8) (by decide) with q | q | ⟨r, hr, rfl⟩
  · exact un_xR0 (Or.inl q) (br_t rfl (un_yR0 (Or.inl q) (br_t rfl ⟨rfl, up⟩)))
  · exact un_xR0 (Or.inr q) (br_t rfl (un_yR0 (Or.inr q) (br_t rfl ⟨rfl, up⟩)))
  · have b : vp_in (nI r) 8 := vp_in_nI hr (by decide)
    exact un_xR1 hr (br_f (by decide) ⟨b, un_yR1 hr (br_f (by decide) ⟨b, rfl, up⟩)⟩)
theorem i_vc_holder {k : Nat} {u : SX} {v : SY} (I : i_Rel k u v) (hk : k + 4 ≤ 2048) (v1 : Int32) : wpX_holder (fun r => wpY_holder (fun r' => r' = r ∧ i_Rel (k + 4) u v) v v1) u v1 := by
  have up := i_up I
  obtain ⟨n, T, rc, row, val, bef, who, num, kept, now, lock, gone, cr, vb, cb, cn, rfl, rfl, hn, hT, Y, X⟩ := I
  unfold wpY_holder
  dsimp only
  rcases pk_ix v1 (n := 8) (by decide) with q | q | ⟨r, hr, rfl⟩
  · exact un_hold0 Y X (Or.inl q) (un_yR0 (Or.inl q) (br_t rfl ⟨rfl, up⟩))
  · exact un_hold0 Y X (Or.inr q) (un_yR0 (Or.inr q) (br_t rfl ⟨rfl, up⟩))
  · have hcr : (nI r).toNatClampNeg = r := nI_clamp (by omega)
    have b : vp_in (nI r) 8 := vp_in_nI hr (by decide)
    rw [hcr]
    exact un_hold Y X hr (un_yR1 hr (br_f (by decide) ⟨b, rfl, up⟩))
theorem i_vc_locks {k : Nat} {u : SX} {v : SY} (I : i_Rel k u v) (hk : k + 4 ≤ 2048) (v1 : Int32) : wpX_locks (fun r => wpY_locks (fun r' => r' = r ∧ i_Rel (k + 4) u v) v v1) u v1 := by
  have up := i_up I
  obtain ⟨n, T, rc, row, val, bef, who, num, kept, now, lock, gone, cr, vb, cb, cn, rfl, rfl, hn, hT, Y, X⟩ := I
  refine un_xl X.2.1 (un_xrow Y X) ?_
  intro res hX
  by_cases hx : v1 < 0 ∨ nI 4 ≤ v1
  · have e : 0 = res := by
      refine un_bext ?_
      intro b hb
      rw [b_0, hX b hb]
      constructor
      · intro t; exact absurd t (by decide)
      · intro t
        obtain ⟨i, i1, i2, i3, i4⟩ := t
        obtain ⟨c, h1, h2, h3, h4, h5, h6, h7⟩ := un_XI_at X i1
        exact absurd (h6.symm.trans i3) (un_nos Y hx c h1)
    exact un_yl0 hx ⟨e, up⟩
  · obtain ⟨j, hj, rfl⟩ : ∃ j : Nat, j < 4 ∧ v1 = nI j := by
      rcases pk_ix v1 (n := 4) (by decide) with q | q | q
      · exact absurd (Or.inl q) hx
      · exact absurd (Or.inr q) hx
      · exact q
    refine un_yl hj ?_
    intro res' hY
    refine ⟨un_bext ?_, up⟩
    intro b hb
    rw [hX b hb, hY b hb]
    constructor
    · intro t
      rcases Y.2.2.2.2.2.2.2.1 b t.1 with p | ⟨c, c1, c2, c3, c4⟩
      · exact absurd (t.2.symm.trans p) (un_m4 hj)
      · have kc := Y.2.2.2.1 c c1 c3
        obtain ⟨e1, e2, e3, e4⟩ := X.2.2 c c1 kc
        exact ⟨un_q kept c, by rw [X.1]; exact un_q_lt c1 kc, e4.trans (un_z.mpr c3), (e3.trans c4).trans t.2, e1.trans c2⟩
    · intro t
      obtain ⟨i, i1, i2, i3, i4⟩ := t
      obtain ⟨c, h1, h2, h3, h4, h5, h6, h7⟩ := un_XI_at X i1
      obtain ⟨r, hr, er⟩ := Y.1 c h1
      have eb : b = r := (nI_eq (by omega) (by omega)).mp (i4.symm.trans (h4.trans er))
      have l := Y.2.2.2.2.2.2.1 c r h1 (un_z.mp (h7.symm.trans i2)) er hr
      rw [eb]
      exact ⟨hr, l.trans (h6.symm.trans i3)⟩
theorem i_vc_remembered {k : Nat} {u : SX} {v : SY} (I : i_Rel k u v) (hk : k + 4 ≤ 2048) : wpX_remembered (fun r => wpY_remembered (fun r' => r' = r ∧ i_Rel (k + 4) u v) v) u := by
  have up := i_up I
  obtain ⟨n, T, rc, row, val, bef, who, num, kept, now, lock, gone, cr, vb, cb, cn, rfl, rfl, hn, hT, Y, X⟩ := I
  unfold wpX_remembered
  dsimp only
  exact un_yrm (by omega) ⟨by rw [← X.1], up⟩
theorem i_vc_changes {k : Nat} {u : SX} {v : SY} (I : i_Rel k u v) (hk : k + 4 ≤ 2048) (v1 : Int32) : wpX_changes (fun r => wpY_changes (fun r' => r' = r ∧ i_Rel (k + 4) u v) v v1) u v1 := by
  have up := i_up I
  obtain ⟨n, T, rc, row, val, bef, who, num, kept, now, lock, gone, cr, vb, cb, cn, rfl, rfl, hn, hT, Y, X⟩ := I
  have cl := un_cl Y X v1
  refine un_xc X.2.1 ?_
  by_cases hx : v1 < 0 ∨ nI 4 ≤ v1
  · rw [cl, un_c_0 n (un_nos Y hx)]
    exact un_yc0 hx (by omega) ⟨nI_0.symm, up⟩
  · obtain ⟨j, hj, rfl⟩ : ∃ j : Nat, j < 4 ∧ v1 = nI j := by
      rcases pk_ix v1 (n := 4) (by decide) with q | q | q
      · exact absurd (Or.inl q) hx
      · exact absurd (Or.inr q) hx
      · exact q
    exact un_yc hj (by omega) ⟨by rw [cl], up⟩
theorem i_vc_oldest {k : Nat} {u : SX} {v : SY} (I : i_Rel k u v) (hk : k + 4 ≤ 2048) (v1 : Int32) : wpX_oldest (fun r => wpY_oldest (fun r' => r' = r ∧ i_Rel (k + 4) u v) v v1) u v1 := by
  have up := i_up I
  obtain ⟨n, T, rc, row, val, bef, who, num, kept, now, lock, gone, cr, vb, cb, cn, rfl, rfl, hn, hT, Y, X⟩ := I
  unfold wpX_oldest wpY_oldest
  dsimp only
  rcases pk_ix v1 (n := 8) (by decide) with q | q | ⟨r, hr, rfl⟩
  · exact un_xR0 (Or.inl q) (br_t rfl (un_yR0 (Or.inl q) (br_t rfl ⟨rfl, up⟩)))
  · exact un_xR0 (Or.inr q) (br_t rfl (un_yR0 (Or.inr q) (br_t rfl ⟨rfl, up⟩)))
  · have b : vp_in (nI r) 8 := vp_in_nI hr (by decide)
    exact un_xR1 hr (br_f (by decide) ⟨b, un_yR1 hr (br_f (by decide) ⟨b, rfl, up⟩)⟩)
theorem i_vc_changedSince {k : Nat} {u : SX} {v : SY} (I : i_Rel k u v) (hk : k + 4 ≤ 2048) (v1 : Int32) : wpX_changedSince (fun r => wpY_changedSince (fun r' => r' = r ∧ i_Rel (k + 4) u v) v v1) u v1 := by
  have up := i_up I
  obtain ⟨n, T, rc, row, val, bef, who, num, kept, now, lock, gone, cr, vb, cb, cn, rfl, rfl, hn, hT, Y, X⟩ := I
  unfold wpX_changedSince wpY_changedSince
  dsimp only
  refine un_xmo ?_ ?_
  · intro q
    refine ⟨1, br_f (by decide) ?_⟩
    by_cases q0 : v1 < 0
    · exact br_t q0 ⟨rfl, up⟩
    · exact br_f q0 (br_t (q.resolve_left q0) ⟨rfl, up⟩)
  · intro q0 q1
    obtain ⟨res, hX, hY⟩ := un_cs Y X (by omega) (by omega) q0 q1 8 0 0 rfl
    exact ⟨9, hX _ ⟨9, hY _ ⟨rfl, up⟩⟩⟩
end
