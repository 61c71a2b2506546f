theorem pk_us {f : Nat → Int32} {k : Nat} {x : Int32} : upd f k x k = x := if_pos rfl
theorem pk_un {f : Nat → Int32} {k j : Nat} {x : Int32} (h : j ≠ k) : upd f k x j = f j := if_neg h
theorem pk_ix (x : Int32) {n : Nat} (hn : n < 2 ^ 31) : x < 0 ∨ nI n ≤ x ∨ ∃ j : Nat, j < n ∧ x = nI j := by
  by_cases h : x < 0
  · exact Or.inl h
  · obtain ⟨j, hj, rfl⟩ := nI_of h
    by_cases h2 : j < n
    · exact Or.inr (Or.inr ⟨j, h2, rfl⟩)
    · exact Or.inr (Or.inl (nI_le (by omega) hj))
def bt (x : Int32) (i : Nat) : Bool := x.toBitVec.getLsbD i
theorem b_ext {x y : Int32} (h : ∀ i, i < 32 → bt x i = bt y i) : x = y := Int32.toBitVec_inj.mp (BitVec.eq_of_getLsbD_eq (fun i hi => h i hi))
theorem b_or (x y : Int32) (i : Nat) : bt (x ||| y) i = (bt x i || bt y i) := by unfold bt; rw [Int32.toBitVec_or, BitVec.getLsbD_or]
theorem b_0 (i : Nat) : bt 0 i = false := BitVec.getLsbD_zero
theorem un_b1 : ∀ r, r < 8 → ∀ b, b < 32 → bt ((1 : Int32) <<< (nI r &&& 31)) b = decide (b = r) := by decide +kernel
theorem un_bext {x y : Int32} (h : ∀ b, b < 32 → (bt x b = true ↔ bt y b = true)) : x = y := by
  apply b_ext
  intro i hi
  have e := h i hi
  cases h1 : bt x i with
  | true => exact (e.mp h1).symm
  | false =>
    cases h2 : bt y i with
    | true => rw [e.mpr h2] at h1; exact absurd h1 (by decide)
    | false => rfl
theorem un_0 : (0 : Int32).toInt = 0 := by decide
theorem un_z {x : Int32} : x = 0 ↔ x.toInt = 0 := by
  constructor
  · intro h; rw [h]; exact un_0
  · intro h
    apply Int32.toInt_inj.mp
    rw [h, un_0]
theorem un_le {x y : Int32} : x ≤ y ↔ x.toInt ≤ y.toInt := Int32.le_iff_toInt_le
theorem un_lt {x y : Int32} : x < y ↔ x.toInt < y.toInt := Int32.lt_iff_toInt_lt
theorem un_le0 {x : Int32} : x ≤ 0 ↔ x.toInt ≤ 0 := by rw [un_le, un_0]
theorem un_neg {x : Int32} : x < 0 ↔ x.toInt < 0 := by rw [un_lt, un_0]
theorem un_m4 {j : Nat} (h : j < 4) : ¬ nI j = -4 := by
  intro e
  have e2 := congrArg Int32.toInt e
  rw [nI_toInt (by omega), show (-4 : Int32).toInt = -4 from by decide] at e2
  omega
theorem un_m1 (n : Nat) : nI n + (-1) = nI n - 1 := (Int32.sub_eq_add_neg (nI n) 1).symm
theorem un_b0 : vp_nar .boolean 0 = 0 := rfl
theorem un_bb1 : vp_nar .boolean 1 = 1 := rfl
theorem un_inj {a b : Nat} (ha : a < 8) (hb : b < 8) (h : nI a = nI b) : a = b := (nI_eq (by omega) (by omega)).mp h
theorem un_inj4 {a b : Nat} (ha : a < 4) (hb : b < 4) (h : nI a = nI b) : a = b := (nI_eq (by omega) (by omega)).mp h

def un_q (kept : Nat → Int32) : Nat → Nat
  | 0 => 0
  | m + 1 => if kept m = 0 then un_q kept m else un_q kept m + 1
theorem un_q_s0 {kept : Nat → Int32} {m : Nat} (h : kept m = 0) : un_q kept (m + 1) = un_q kept m := if_pos h
theorem un_q_s1 {kept : Nat → Int32} {m : Nat} (h : ¬ kept m = 0) : un_q kept (m + 1) = un_q kept m + 1 := if_neg h
theorem un_q_le (kept : Nat → Int32) : ∀ d c, c ≤ d → un_q kept c ≤ un_q kept d := by
  intro d
  induction d with
  | zero => intro c h; rw [Nat.le_zero.mp h]; exact Nat.le_refl _
  | succ d ih =>
    intro c h
    rcases Nat.lt_or_ge c (d + 1) with h1 | h1
    · have := ih c (by omega)
      by_cases z : kept d = 0
      · rw [un_q_s0 z]; exact this
      · rw [un_q_s1 z]; omega
    · have e : c = d + 1 := by omega
      rw [e]; exact Nat.le_refl _
theorem un_q_n (kept : Nat → Int32) : ∀ d, un_q kept d ≤ d := by
  intro d
  induction d with
  | zero => exact Nat.le_refl _
  | succ d ih =>
    by_cases z : kept d = 0
    · rw [un_q_s0 z]; omega
    · rw [un_q_s1 z]; omega
theorem un_q_lt {kept : Nat → Int32} {c d : Nat} (h : c < d) (hk : ¬ kept c = 0) : un_q kept c < un_q kept d := by
  have := un_q_le kept d (c + 1) h
  rw [un_q_s1 hk] at this
  omega
theorem un_q_cong {kept kept' : Nat → Int32} : ∀ c, (∀ d, d < c → (kept' d = 0 ↔ kept d = 0)) → un_q kept' c = un_q kept c := by
  intro c
  induction c with
  | zero => intro _; rfl
  | succ c ih =>
    intro h
    have e := ih (fun d hd => h d (by omega))
    have hc := h c (by omega)
    by_cases z : kept c = 0
    · rw [un_q_s0 z, un_q_s0 (hc.mpr z), e]
    · rw [un_q_s1 z, un_q_s1 (fun y => z (hc.mp y)), e]
theorem un_q_ex {kept : Nat → Int32} : ∀ n i, i < un_q kept n → ∃ c, c < n ∧ (¬ kept c = 0) ∧ un_q kept c = i := by
  intro n
  induction n with
  | zero => intro i h; exact absurd h (Nat.not_lt_zero i)
  | succ n ih =>
    intro i h
    by_cases z : kept n = 0
    · rw [un_q_s0 z] at h
      obtain ⟨c, h1, h2, h3⟩ := ih i h
      exact ⟨c, by omega, h2, h3⟩
    · rw [un_q_s1 z] at h
      rcases Nat.lt_or_ge i (un_q kept n) with h1 | h1
      · obtain ⟨c, h1, h2, h3⟩ := ih i h1
        exact ⟨c, by omega, h2, h3⟩
      · exact ⟨n, by omega, z, by omega⟩
theorem un_q_first {kept : Nat → Int32} {n : Nat} (h : 0 < un_q kept n) : ∃ c, c < n ∧ (¬ kept c = 0) ∧ (∀ d, d < c → kept d = 0) ∧ un_q kept c = 0 := by
  obtain ⟨c, h1, h2, h3⟩ := un_q_ex n 0 h
  refine ⟨c, h1, h2, ?_, h3⟩
  intro d hd
  by_cases z : kept d = 0
  · exact z
  · have := un_q_lt hd z
    omega
theorem un_q_drop {kept kept' : Nat → Int32} {c0 : Nat} (h0 : ¬ kept c0 = 0) (h1 : kept' c0 = 0) (h2 : ∀ d, d ≠ c0 → kept' d = kept d) : ∀ c, c0 < c → un_q kept' c + 1 = un_q kept c := by
  intro c
  induction c with
  | zero => intro h; omega
  | succ c ih =>
    intro h
    rcases Nat.lt_or_ge c0 c with h3 | h3
    · have e := ih h3
      have hc := h2 c (by omega)
      by_cases z : kept c = 0
      · rw [un_q_s0 z, un_q_s0 (hc.trans z), e]
      · rw [un_q_s1 z, un_q_s1 (by rw [hc]; exact z)]; omega
    · have ec : c = c0 := by omega
      rw [ec, un_q_s1 h0, un_q_s0 h1, un_q_cong c0 (fun d hd => by rw [h2 d (by omega)])]

def un_c (x : Int32) (who num : Nat → Int32) : Nat → Nat
  | 0 => 0
  | m + 1 => if num m = 0 ∧ who m = x then un_c x who num m + 1 else un_c x who num m
theorem un_c_s1 {x : Int32} {who num : Nat → Int32} {m : Nat} (h : num m = 0 ∧ who m = x) : un_c x who num (m + 1) = un_c x who num m + 1 := if_pos h
theorem un_c_s0 {x : Int32} {who num : Nat → Int32} {m : Nat} (h : ¬ (num m = 0 ∧ who m = x)) : un_c x who num (m + 1) = un_c x who num m := if_neg h
theorem un_c_n (x : Int32) (who num : Nat → Int32) : ∀ d, un_c x who num d ≤ d := by
  intro d
  induction d with
  | zero => exact Nat.le_refl _
  | succ d ih =>
    by_cases z : num d = 0 ∧ who d = x
    · rw [un_c_s1 z]; omega
    · rw [un_c_s0 z]; omega
theorem un_c_0 {x : Int32} {who num : Nat → Int32} : ∀ n, (∀ c, c < n → ¬ who c = x) → un_c x who num n = 0 := by
  intro n
  induction n with
  | zero => intro _; rfl
  | succ n ih =>
    intro h
    rw [un_c_s0 (fun z => h n (by omega) z.2)]
    exact ih (fun c hc => h c (by omega))
theorem un_c_link {n : Nat} {x : Int32} {kept who num cb cn : Nat → Int32} (hK : ∀ c, c < n → num c = 0 → ¬ kept c = 0) (hb : ∀ c, c < n → ¬ kept c = 0 → cb (un_q kept c) = who c) (hn : ∀ c, c < n → ¬ kept c = 0 → cn (un_q kept c) = num c) : ∀ c, c ≤ n → un_c x cb cn (un_q kept c) = un_c x who num c := by
  intro c
  induction c with
  | zero => intro _; rfl
  | succ c ih =>
    intro h
    have e := ih (by omega)
    by_cases z : kept c = 0
    · rw [un_q_s0 z, e, un_c_s0 (fun y => hK c (by omega) y.1 z)]
    · rw [un_q_s1 z]
      by_cases w : num c = 0 ∧ who c = x
      · rw [un_c_s1 w, un_c_s1 (by rw [hb c (by omega) z, hn c (by omega) z]; exact w), e]
      · rw [un_c_s0 w, un_c_s0 (by rw [hb c (by omega) z, hn c (by omega) z]; exact w), e]

def un_lv (r : Int32) (row val num : Nat → Int32) : Nat → Int32
  | 0 => 0
  | m + 1 => if row m = r ∧ 0 ≤ (num m).toInt then val m else un_lv r row val num m
theorem un_lv_s1 {r : Int32} {row val num : Nat → Int32} {m : Nat} (h : row m = r ∧ 0 ≤ (num m).toInt) : un_lv r row val num (m + 1) = val m := if_pos h
theorem un_lv_s0 {r : Int32} {row val num : Nat → Int32} {m : Nat} (h : ¬ (row m = r ∧ 0 ≤ (num m).toInt)) : un_lv r row val num (m + 1) = un_lv r row val num m := if_neg h
theorem un_lv_cong {r : Int32} {row val num row' val' num' : Nat → Int32} : ∀ m, (∀ d, d < m → row' d = row d ∧ val' d = val d ∧ (row d = r → (0 ≤ (num' d).toInt ↔ 0 ≤ (num d).toInt))) → un_lv r row' val' num' m = un_lv r row val num m := by
  intro m
  induction m with
  | zero => intro _; rfl
  | succ m ih =>
    intro h
    have e := ih (fun d hd => h d (by omega))
    obtain ⟨h1, h2, h3⟩ := h m (by omega)
    by_cases z : row m = r ∧ 0 ≤ (num m).toInt
    · rw [un_lv_s1 z, un_lv_s1 ⟨h1.trans z.1, (h3 z.1).mpr z.2⟩, h2]
    · rw [un_lv_s0 z, un_lv_s0 (fun y => z ⟨h1.symm.trans y.1, (h3 (h1.symm.trans y.1)).mp y.2⟩), e]
theorem un_lv_dead {r : Int32} {row val num : Nat → Int32} {m : Nat} : ∀ n, m ≤ n → (∀ d, m ≤ d → d < n → row d = r → ¬ 0 ≤ (num d).toInt) → un_lv r row val num n = un_lv r row val num m := by
  intro n
  induction n with
  | zero => intro h _; rw [Nat.le_zero.mp h]
  | succ n ih =>
    intro h h1
    rcases Nat.lt_or_ge n m with h2 | h2
    · have e : n + 1 = m := by omega
      rw [e]
    · rw [un_lv_s0 (fun y => h1 n h2 (by omega) y.1 y.2)]
      exact ih h2 (fun d a b => h1 d a (by omega))

def un_va (r s : Int32) (row val num : Nat → Int32) : Nat → Int32
  | 0 => 0
  | m + 1 => if row m = r ∧ 0 < (num m).toInt ∧ (num m).toInt ≤ s.toInt then val m else un_va r s row val num m
theorem un_va_s1 {r s : Int32} {row val num : Nat → Int32} {m : Nat} (h : row m = r ∧ 0 < (num m).toInt ∧ (num m).toInt ≤ s.toInt) : un_va r s row val num (m + 1) = val m := if_pos h
theorem un_va_s0 {r s : Int32} {row val num : Nat → Int32} {m : Nat} (h : ¬ (row m = r ∧ 0 < (num m).toInt ∧ (num m).toInt ≤ s.toInt)) : un_va r s row val num (m + 1) = un_va r s row val num m := if_neg h
theorem un_va_lv {r s : Int32} {row val num : Nat → Int32} : ∀ m, (∀ d, d < m → row d = r → 0 ≤ (num d).toInt → 0 < (num d).toInt ∧ (num d).toInt ≤ s.toInt) → un_va r s row val num m = un_lv r row val num m := by
  intro m
  induction m with
  | zero => intro _; rfl
  | succ m ih =>
    intro h
    have e := ih (fun d hd => h d (by omega))
    have h1 := h m (by omega)
    by_cases z : row m = r ∧ 0 ≤ (num m).toInt
    · rw [un_lv_s1 z, un_va_s1 ⟨z.1, h1 z.1 z.2⟩]
    · rw [un_lv_s0 z, un_va_s0 (fun y => z ⟨y.1, by omega⟩), e]
theorem un_va_dead {r s : Int32} {row val num : Nat → Int32} {m : Nat} : ∀ n, m ≤ n → (∀ d, m ≤ d → d < n → row d = r → ¬ (0 < (num d).toInt ∧ (num d).toInt ≤ s.toInt)) → un_va r s row val num n = un_va r s row val num m := by
  intro n
  induction n with
  | zero => intro h _; rw [Nat.le_zero.mp h]
  | succ n ih =>
    intro h h1
    rcases Nat.lt_or_ge n m with h2 | h2
    · have e : n + 1 = m := by omega
      rw [e]
    · rw [un_va_s0 (fun y => h1 n h2 (by omega) y.1 y.2)]
      exact ih h2 (fun d a b => h1 d a (by omega))

def un_rs (x : Int32) (row bef who num : Nat → Int32) : Nat → (Nat → Int32) → (Nat → Int32)
  | 0 => fun f => f
  | m + 1 => fun f => un_rs x row bef who num m (if num m = 0 ∧ who m = x then upd f (row m).toNatClampNeg (bef m) else f)
theorem un_rs_s1 {x : Int32} {row bef who num : Nat → Int32} {m : Nat} (f : Nat → Int32) (h : num m = 0 ∧ who m = x) : un_rs x row bef who num (m + 1) f = un_rs x row bef who num m (upd f (row m).toNatClampNeg (bef m)) := by
  show un_rs x row bef who num m (if num m = 0 ∧ who m = x then upd f (row m).toNatClampNeg (bef m) else f) = _
  rw [if_pos h]
theorem un_rs_s0 {x : Int32} {row bef who num : Nat → Int32} {m : Nat} (f : Nat → Int32) (h : ¬ (num m = 0 ∧ who m = x)) : un_rs x row bef who num (m + 1) f = un_rs x row bef who num m f := by
  show un_rs x row bef who num m (if num m = 0 ∧ who m = x then upd f (row m).toNatClampNeg (bef m) else f) = _
  rw [if_neg h]
theorem un_rs_link {n : Nat} {x : Int32} {kept row bef who num cr vb cb cn : Nat → Int32} (hK : ∀ c, c < n → num c = 0 → ¬ kept c = 0) (hx : ∀ c, c < n → ¬ kept c = 0 → cr (un_q kept c) = row c ∧ vb (un_q kept c) = bef c ∧ cb (un_q kept c) = who c ∧ cn (un_q kept c) = num c) : ∀ c, c ≤ n → ∀ f, un_rs x cr vb cb cn (un_q kept c) f = un_rs x row bef who num c f := by
  intro c
  induction c with
  | zero => intro _ f; rfl
  | succ c ih =>
    intro h f
    have e := ih (by omega)
    by_cases z : kept c = 0
    · rw [un_q_s0 z, e, un_rs_s0 f (fun y => hK c (by omega) y.1 z)]
    · obtain ⟨h1, h2, h3, h4⟩ := hx c (by omega) z
      rw [un_q_s1 z]
      by_cases w : num c = 0 ∧ who c = x
      · rw [un_rs_s1 f w, un_rs_s1 f (by rw [h3, h4]; exact w), e, h1, h2]
      · rw [un_rs_s0 f w, un_rs_s0 f (by rw [h3, h4]; exact w), e]
theorem un_rs_none {x : Int32} {row bef who num : Nat → Int32} {r : Nat} : ∀ m f, (∀ d, d < m → num d = 0 → who d = x → (row d).toNatClampNeg ≠ r) → un_rs x row bef who num m f r = f r := by
  intro m
  induction m with
  | zero => intro f _; rfl
  | succ m ih =>
    intro f h
    by_cases w : num m = 0 ∧ who m = x
    · rw [un_rs_s1 f w, ih _ (fun d hd => h d (by omega)), pk_un (fun e => h m (by omega) w.1 w.2 e.symm)]
    · rw [un_rs_s0 f w, ih _ (fun d hd => h d (by omega))]
theorem un_rs_first {x : Int32} {row bef who num : Nat → Int32} {r d : Nat} (h0 : num d = 0) (h1 : who d = x) (h2 : (row d).toNatClampNeg = r) (h3 : ∀ e, e < d → num e = 0 → who e = x → (row e).toNatClampNeg ≠ r) : ∀ m f, d < m → un_rs x row bef who num m f r = bef d := by
  intro m
  induction m with
  | zero => intro f h; omega
  | succ m ih =>
    intro f h
    rcases Nat.lt_or_ge d m with h4 | h4
    · by_cases w : num m = 0 ∧ who m = x
      · rw [un_rs_s1 f w, ih _ h4]
      · rw [un_rs_s0 f w, ih _ h4]
    · have e : d = m := by omega
      rw [← e, un_rs_s1 f ⟨h0, h1⟩, un_rs_none d _ h3, h2, pk_us]
theorem un_least (P : Nat → Prop) (h : ∃ k, P k) : ∃ k, P k ∧ ∀ j, j < k → ¬ P j := by
  obtain ⟨k, hk⟩ := h
  revert hk
  refine Nat.strongRecOn (motive := fun k => P k → ∃ k, P k ∧ ∀ j, j < k → ¬ P j) k ?_
  intro k ih hk
  by_cases z : ∃ j, j < k ∧ P j
  · obtain ⟨j, hj, hp⟩ := z
    exact ih j hj hp
  · exact ⟨k, hk, fun j hj hp => z ⟨j, hj, hp⟩⟩
