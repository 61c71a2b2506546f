def un_YI (n T : Nat) (row val bef who num kept now lock gone : Nat → Int32) : Prop :=
  (∀ c, c < n → ∃ r, r < 8 ∧ row c = nI r) ∧
  (∀ c, c < n → ∃ j, j < 4 ∧ who c = nI j) ∧
  (∀ c, c < n → -1 ≤ (num c).toInt ∧ (num c).toInt ≤ (T : Int)) ∧
  (∀ c, c < n → (num c).toInt = 0 → ¬ kept c = 0) ∧
  (∀ c, c < n → ¬ kept c = 0 → 0 ≤ (num c).toInt) ∧
  (∀ c d, c < d → d < n → row c = row d → 0 ≤ (num c).toInt → 0 < (num d).toInt → 0 < (num c).toInt ∧ (num c).toInt ≤ (num d).toInt) ∧
  (∀ c r, c < n → (num c).toInt = 0 → row c = nI r → r < 8 → lock r = who c) ∧
  (∀ r, r < 8 → lock r = -4 ∨ ∃ c, c < n ∧ row c = nI r ∧ (num c).toInt = 0 ∧ who c = lock r) ∧
  (∀ c r, c < n → kept c = 0 → 0 < (num c).toInt → row c = nI r → r < 8 → (num c).toInt ≤ (gone r).toInt) ∧
  (∀ c r, c < n → ¬ kept c = 0 → 0 < (num c).toInt → row c = nI r → r < 8 → (gone r).toInt ≤ (num c).toInt) ∧
  (∀ r, r < 8 → (gone r).toInt ≤ (T : Int)) ∧
  (∀ c, c < n → 0 ≤ (num c).toInt → bef c = un_lv (row c) row val num c) ∧
  (∀ r, r < 8 → now r = un_lv (nI r) row val num n)
def un_XI (n rc : Nat) (cr vb cb cn row bef who num kept : Nat → Int32) : Prop :=
  rc = un_q kept n ∧ rc ≤ 24 ∧ ∀ c, c < n → ¬ kept c = 0 → cr (un_q kept c) = row c ∧ vb (un_q kept c) = bef c ∧ cb (un_q kept c) = who c ∧ cn (un_q kept c) = num c
section
variable {n T rc : Nat} {row val bef who num kept now lock gone cr vb cb cn : Nat → Int32}
theorem un_XI_at (X : un_XI n rc cr vb cb cn row bef who num kept) {i : Nat} (hi : i < rc) : ∃ c, c < n ∧ (¬ kept c = 0) ∧ un_q kept c = i ∧ cr i = row c ∧ vb i = bef c ∧ cb i = who c ∧ cn i = num c := by
  obtain ⟨e, h24, h⟩ := X
  rw [e] at hi
  obtain ⟨c, h1, h2, h3⟩ := un_q_ex n i hi
  have k := h c h1 h2
  rw [h3] at k
  exact ⟨c, h1, h2, h3, k⟩
theorem un_YI0 {lock : Nat → Int32} (h : ∀ r, r < 8 → lock r = -4) : un_YI 0 0 (fun _ => 0) (fun _ => 0) (fun _ => 0) (fun _ => 0) (fun _ => 0) (fun _ => 0) (fun _ => 0) lock (fun _ => 0) := by
  refine ⟨?_, ?_, ?_, ?_, ?_, ?_, ?_, ?_, ?_, ?_, ?_, ?_, ?_⟩
  · intro c h; omega
  · intro c h; omega
  · intro c h; omega
  · intro c h; omega
  · intro c h; omega
  · intro c d h1 h2; omega
  · intro c r h; omega
  · intro r hr; exact Or.inl (h r hr)
  · intro c r h; omega
  · intro c r h; omega
  · intro r hr
    show (0 : Int32).toInt ≤ _
    rw [un_0]; omega
  · intro c h; omega
  · intro r hr; rfl
theorem un_Ychange (Y : un_YI n T row val bef who num kept now lock gone) {r j : Nat} (v : Int32) (hr : r < 8) (hj : j < 4) (hl : lock r = -4 ∨ lock r = nI j) :
  un_YI (n + 1) T (upd row n (nI r)) (upd val n v) (upd bef n (now r)) (upd who n (nI j)) (upd num n 0) (upd kept n 1) (upd now r v) (upd lock r (nI j)) gone := by
  obtain ⟨hR, hW, hN, hK0, hK1, hM, hL1, hL2, hG1, hG2, hG3, hB, hV⟩ := Y
  have sp : ∀ c, c < n + 1 → c < n ∨ c = n := by intro c hc; omega
  have ne : ∀ c, c < n → c ≠ n := by intro c hc; omega
  have lvc : ∀ q : Int32, ∀ c, c ≤ n → un_lv q (upd row n (nI r)) (upd val n v) (upd num n 0) c = un_lv q row val num c := by
    intro q c hc
    refine un_lv_cong c ?_
    intro d hd
    rw [pk_un (by omega), pk_un (by omega), pk_un (by omega)]
    exact ⟨rfl, rfl, fun _ => Iff.rfl⟩
  refine ⟨?_, ?_, ?_, ?_, ?_, ?_, ?_, ?_, ?_, ?_, ?_, ?_, ?_⟩
  · intro c hc
    rcases sp c hc with h | h
    · rw [pk_un (ne c h)]; exact hR c h
    · rw [h, pk_us]; exact ⟨r, hr, rfl⟩
  · intro c hc
    rcases sp c hc with h | h
    · rw [pk_un (ne c h)]; exact hW c h
    · rw [h, pk_us]; exact ⟨j, hj, rfl⟩
  · intro c hc
    rcases sp c hc with h | h
    · rw [pk_un (ne c h)]; exact hN c h
    · rw [h, pk_us, un_0]; omega
  · intro c hc
    rcases sp c hc with h | h
    · rw [pk_un (ne c h), pk_un (ne c h)]; exact hK0 c h
    · rw [h, pk_us, pk_us]; intro _; decide
  · intro c hc
    rcases sp c hc with h | h
    · rw [pk_un (ne c h), pk_un (ne c h)]; exact hK1 c h
    · rw [h, pk_us, pk_us, un_0]; intro _; omega
  · intro c d hcd hd
    rcases sp d hd with h | h
    · rw [pk_un (ne d h), pk_un (ne d h), pk_un (by omega), pk_un (by omega)]; exact hM c d hcd h
    · rw [h, pk_us, pk_us, un_0]; intro _ _ h; omega
  · intro c r' hc
    rcases sp c hc with h | h
    · rw [pk_un (ne c h), pk_un (ne c h), pk_un (ne c h)]
      intro h1 h2 h3
      have k := hL1 c r' h h1 h2 h3
      by_cases e : r' = r
      · rw [e, pk_us]
        rw [e] at k
        obtain ⟨j', hj', ej'⟩ := hW c h
        rcases hl with q | q
        · rw [q, ej'] at k
          exact absurd k.symm (un_m4 hj')
        · rw [← q]; exact k
      · rw [pk_un e]; exact k
    · rw [h, pk_us, pk_us, pk_us]
      intro _ h2 h3
      rw [un_inj hr h3 h2, pk_us]
  · intro r' hr'
    by_cases e : r' = r
    · refine Or.inr ⟨n, by omega, ?_⟩
      rw [e, pk_us, pk_us, pk_us, pk_us]
      exact ⟨rfl, un_0, rfl⟩
    · rw [pk_un e]
      rcases hL2 r' hr' with q | ⟨c, h1, h2⟩
      · exact Or.inl q
      · refine Or.inr ⟨c, by omega, ?_⟩
        rw [pk_un (ne c h1), pk_un (ne c h1), pk_un (ne c h1)]
        exact h2
  · intro c r' hc
    rcases sp c hc with h | h
    · rw [pk_un (ne c h), pk_un (ne c h), pk_un (ne c h)]; exact hG1 c r' h
    · rw [h, pk_us, pk_us, un_0]; intro _ h; omega
  · intro c r' hc
    rcases sp c hc with h | h
    · rw [pk_un (ne c h), pk_un (ne c h), pk_un (ne c h)]; exact hG2 c r' h
    · rw [h, pk_us, pk_us, un_0]; intro _ h; omega
  · exact hG3
  · intro c hc
    rcases sp c hc with h | h
    · rw [lvc _ c (by omega), pk_un (ne c h), pk_un (ne c h), pk_un (ne c h)]; exact hB c h
    · rw [h, lvc _ n (Nat.le_refl _), pk_us, pk_us, pk_us]; intro _; exact hV r hr
  · intro r' hr'
    by_cases e : r' = r
    · rw [e, pk_us, un_lv_s1 (by rw [pk_us, pk_us, un_0]; exact ⟨rfl, Int.le_refl _⟩), pk_us]
    · rw [pk_un e, un_lv_s0 (by rw [pk_us]; exact fun a => e (un_inj hr hr' a.1).symm), lvc _ n (Nat.le_refl _)]
      exact hV r' hr'
theorem un_Xchange (X : un_XI n rc cr vb cb cn row bef who num kept) (h24 : rc < 24) (a b c d : Int32) :
  un_XI (n + 1) (rc + 1) (upd cr rc a) (upd vb rc b) (upd cb rc c) (upd cn rc d) (upd row n a) (upd bef n b) (upd who n c) (upd num n d) (upd kept n 1) := by
  obtain ⟨e, _, h⟩ := X
  have qc : ∀ i, i ≤ n → un_q (upd kept n 1) i = un_q kept i := by
    intro i hi
    refine un_q_cong i ?_
    intro d hd
    rw [pk_un (by omega)]
  have kn : ¬ upd kept n 1 n = 0 := by rw [pk_us]; decide
  refine ⟨?_, by omega, ?_⟩
  · rw [un_q_s1 kn, qc n (Nat.le_refl _), e]
  · intro i hi hk
    rw [qc i (by omega)]
    by_cases z : i = n
    · rw [z, ← e, pk_us, pk_us, pk_us, pk_us, pk_us, pk_us, pk_us, pk_us]
      exact ⟨rfl, rfl, rfl, rfl⟩
    · rw [pk_un z] at hk
      have hi2 : i < n := by omega
      have lt : un_q kept i < rc := by rw [e]; exact un_q_lt hi2 hk
      rw [pk_un z, pk_un z, pk_un z, pk_un z, pk_un (by omega), pk_un (by omega), pk_un (by omega), pk_un (by omega)]
      exact h i hi2 hk
theorem un_Yforget (Y : un_YI n T row val bef who num kept now lock gone) {c0 r0 : Nat} (h0 : c0 < n) (hk : ¬ kept c0 = 0) (hf : ∀ d, d < c0 → kept d = 0) (hn0 : ¬ (num c0).toInt = 0) (er : row c0 = nI r0) (hr0 : r0 < 8) :
  un_YI n T row val bef who num (upd kept c0 0) now lock (upd gone r0 (num c0)) := by
  obtain ⟨hR, hW, hN, hK0, hK1, hM, hL1, hL2, hG1, hG2, hG3, hB, hV⟩ := Y
  have pos : 0 < (num c0).toInt := by
    have := hK1 c0 h0 hk
    omega
  refine ⟨hR, hW, hN, ?_, ?_, hM, hL1, hL2, ?_, ?_, ?_, hB, hV⟩
  · intro c hc hz
    have e : c ≠ c0 := fun e => hn0 (e ▸ hz)
    rw [pk_un e]
    exact hK0 c hc hz
  · intro c hc hz
    by_cases e : c = c0
    · rw [e, pk_us] at hz; exact absurd rfl hz
    · rw [pk_un e] at hz; exact hK1 c hc hz
  · intro c r hc hz hp e1 hr
    by_cases e : r = r0
    · rw [e, pk_us]
      by_cases e2 : c = c0
      · rw [e2]; exact Int.le_refl _
      · rw [pk_un e2] at hz
        have a := hG1 c r hc hz hp e1 hr
        have b := hG2 c0 r0 h0 hk pos er hr0
        rw [e] at a
        omega
    · rw [pk_un e]
      by_cases e2 : c = c0
      · rw [e2, er] at e1
        exact absurd (un_inj hr0 hr e1).symm e
      · rw [pk_un e2] at hz
        exact hG1 c r hc hz hp e1 hr
  · intro c r hc hz hp e1 hr
    have e2 : c ≠ c0 := by
      intro e2
      rw [e2, pk_us] at hz
      exact hz rfl
    rw [pk_un e2] at hz
    by_cases e : r = r0
    · rw [e, pk_us]
      have lt : c0 < c := by
        rcases Nat.lt_or_ge c c0 with q | q
        · exact absurd (hf c q) hz
        · omega
      exact (hM c0 c lt hc (by rw [er, e1, e]) (by omega) hp).2
    · rw [pk_un e]
      exact hG2 c r hc hz hp e1 hr
  · intro r hr
    by_cases e : r = r0
    · rw [e, pk_us]; exact (hN c0 h0).2
    · rw [pk_un e]; exact hG3 r hr
theorem un_Xforget {q c0 : Nat} (X : un_XI n (q + 1) cr vb cb cn row bef who num kept) (h0 : c0 < n) (hk : ¬ kept c0 = 0) (hf : ∀ d, d < c0 → kept d = 0) {cr' vb' cb' cn' : Nat → Int32} (hs : ∀ j, j < q → cr' j = cr (j + 1) ∧ vb' j = vb (j + 1) ∧ cb' j = cb (j + 1) ∧ cn' j = cn (j + 1)) :
  un_XI n q cr' vb' cb' cn' row bef who num (upd kept c0 0) := by
  obtain ⟨e, h24, h⟩ := X
  have dr := un_q_drop (kept := kept) (kept' := upd kept c0 0) hk pk_us (fun d hd => pk_un hd)
  refine ⟨?_, by omega, ?_⟩
  · have := dr n h0
    omega
  · intro c hc hz
    have e2 : c ≠ c0 := by
      intro e2
      rw [e2, pk_us] at hz
      exact hz rfl
    rw [pk_un e2] at hz
    have lt : c0 < c := by
      rcases Nat.lt_or_ge c c0 with q | q
      · exact absurd (hf c q) hz
      · omega
    have d1 := dr c lt
    have d2 := un_q_lt hc hz
    have k := h c hc hz
    rw [← d1] at k
    obtain ⟨s1, s2, s3, s4⟩ := hs (un_q (upd kept c0 0) c) (by omega)
    rw [s1, s2, s3, s4]
    exact k
theorem un_Ycommit (Y : un_YI n T row val bef who num kept now lock gone) {j : Nat} (hj : j < 4) (hT : T + 1 < 2 ^ 31) {num' lock' : Nat → Int32}
  (h1 : ∀ c, c < n → num' c = if num c = 0 ∧ who c = nI j then nI (T + 1) else num c) (h2 : ∀ r, r < 8 → lock' r = if lock r = nI j then -4 else lock r) :
  un_YI n (T + 1) row val bef who num' kept now lock' gone := by
  obtain ⟨hR, hW, hN, hK0, hK1, hM, hL1, hL2, hG1, hG2, hG3, hB, hV⟩ := Y
  have tI : (nI (T + 1)).toInt = (T : Int) + 1 := by rw [nI_toInt hT]; rfl
  have cs : ∀ c, c < n → ((num c).toInt = 0 ∧ who c = nI j ∧ (num' c).toInt = (T : Int) + 1) ∨ (¬ ((num c).toInt = 0 ∧ who c = nI j) ∧ num' c = num c) := by
    intro c hc
    have e := h1 c hc
    by_cases z : num c = 0 ∧ who c = nI j
    · rw [if_pos z] at e
      exact Or.inl ⟨un_z.mp z.1, z.2, by rw [e]; exact tI⟩
    · rw [if_neg z] at e
      exact Or.inr ⟨fun a => z ⟨un_z.mpr a.1, a.2⟩, e⟩
  have lvc : ∀ q : Int32, ∀ c, c ≤ n → un_lv q row val num' c = un_lv q row val num c := by
    intro q c hc
    refine un_lv_cong c ?_
    intro d hd
    refine ⟨rfl, rfl, fun _ => ?_⟩
    rcases cs d (by omega) with ⟨a, _, b⟩ | ⟨_, b⟩
    · rw [a, b]; omega
    · rw [b]
  refine ⟨hR, hW, ?_, ?_, ?_, ?_, ?_, ?_, ?_, ?_, ?_, ?_, ?_⟩
  · intro c hc
    have := hN c hc
    rcases cs c hc with ⟨a, _, b⟩ | ⟨_, b⟩
    · rw [b]; omega
    · rw [b]; omega
  · intro c hc hz
    rcases cs c hc with ⟨a, _, b⟩ | ⟨_, b⟩
    · omega
    · rw [b] at hz; exact hK0 c hc hz
  · intro c hc hz
    rcases cs c hc with ⟨a, _, b⟩ | ⟨_, b⟩
    · omega
    · rw [b]; exact hK1 c hc hz
  · intro c d hcd hd e hc0 hd0
    have hc : c < n := by omega
    rcases cs d hd with ⟨a, a2, b⟩ | ⟨a, b⟩
    · rcases cs c hc with ⟨a', _, b'⟩ | ⟨a', b'⟩
      · omega
      · have h3 := hN c hc
        rw [b'] at hc0
        rw [b']
        have ne0 : ¬ (num c).toInt = 0 := by
          intro z
          obtain ⟨r, hr, er⟩ := hR c hc
          have k1 := hL1 c r hc z er hr
          have k2 := hL1 d r hd a (e ▸ er) hr
          exact a' ⟨z, by rw [← k1, k2, a2]⟩
        omega
    · rw [b] at hd0
      rcases cs c hc with ⟨a', _, b'⟩ | ⟨a', b'⟩
      · have := hM c d hcd hd e (by omega) hd0
        omega
      · rw [b'] at hc0
        rw [b, b']
        exact hM c d hcd hd e hc0 hd0
  · intro c r hc hz e hr
    rcases cs c hc with ⟨a, _, b⟩ | ⟨a, b⟩
    · omega
    · rw [b] at hz
      have k := hL1 c r hc hz e hr
      have nx : ¬ lock r = nI j := fun q => a ⟨hz, by rw [← k]; exact q⟩
      rw [h2 r hr, if_neg nx]
      exact k
  · intro r hr
    by_cases q : lock r = nI j
    · rw [h2 r hr, if_pos q]; exact Or.inl rfl
    · rw [h2 r hr, if_neg q]
      rcases hL2 r hr with p | ⟨c, p1, p2, p3, p4⟩
      · exact Or.inl p
      · refine Or.inr ⟨c, p1, p2, ?_, p4⟩
        rcases cs c p1 with ⟨a, a2, b⟩ | ⟨a, b⟩
        · exact absurd (p4.symm.trans a2) q
        · rw [b]; exact p3
  · intro c r hc hz hp e hr
    rcases cs c hc with ⟨a, _, b⟩ | ⟨a, b⟩
    · exact absurd hz (hK0 c hc a)
    · rw [b] at hp
      rw [b]
      exact hG1 c r hc hz hp e hr
  · intro c r hc hz hp e hr
    rcases cs c hc with ⟨a, _, b⟩ | ⟨a, b⟩
    · have := hG3 r hr
      omega
    · rw [b] at hp
      rw [b]
      exact hG2 c r hc hz hp e hr
  · intro r hr
    have := hG3 r hr
    omega
  · intro c hc hp
    rw [lvc _ c (by omega)]
    refine hB c hc ?_
    rcases cs c hc with ⟨a, _, b⟩ | ⟨a, b⟩
    · omega
    · rw [b] at hp; exact hp
  · intro r hr
    rw [lvc _ n (Nat.le_refl _)]
    exact hV r hr
theorem un_Xcommit (X : un_XI n rc cr vb cb cn row bef who num kept) {x t : Int32} {num' cn' : Nat → Int32}
  (h1 : ∀ c, c < n → num' c = if num c = 0 ∧ who c = x then t else num c) (h2 : ∀ i, i < rc → cn' i = if cn i = 0 ∧ cb i = x then t else cn i) :
  un_XI n rc cr vb cb cn' row bef who num' kept := by
  obtain ⟨e, h24, h⟩ := X
  refine ⟨e, h24, ?_⟩
  intro c hc hk
  obtain ⟨k1, k2, k3, k4⟩ := h c hc hk
  refine ⟨k1, k2, k3, ?_⟩
  rw [h1 c hc, h2 (un_q kept c) (by rw [e]; exact un_q_lt hc hk), k3, k4]
theorem un_Yrollback (Y : un_YI n T row val bef who num kept now lock gone) {j : Nat} (hj : j < 4) {num' kept' lock' : Nat → Int32}
  (h1 : ∀ c, c < n → num' c = if num c = 0 ∧ who c = nI j then -1 else num c) (h3 : ∀ c, c < n → kept' c = if num c = 0 ∧ who c = nI j then 0 else kept c) (h2 : ∀ r, r < 8 → lock' r = if lock r = nI j then -4 else lock r) :
  un_YI n T row val bef who num' kept' (un_rs (nI j) row bef who num n now) lock' gone := by
  obtain ⟨hR, hW, hN, hK0, hK1, hM, hL1, hL2, hG1, hG2, hG3, hB, hV⟩ := Y
  have tI : (-1 : Int32).toInt = -1 := by decide
  have cs : ∀ c, c < n → ((num c).toInt = 0 ∧ who c = nI j ∧ (num' c).toInt = -1 ∧ kept' c = 0) ∨ (¬ ((num c).toInt = 0 ∧ who c = nI j) ∧ num' c = num c ∧ kept' c = kept c) := by
    intro c hc
    have e := h1 c hc
    have e3 := h3 c hc
    by_cases z : num c = 0 ∧ who c = nI j
    · rw [if_pos z] at e e3
      exact Or.inl ⟨un_z.mp z.1, z.2, by rw [e]; exact tI, e3⟩
    · rw [if_neg z] at e e3
      exact Or.inr ⟨fun a => z ⟨un_z.mpr a.1, a.2⟩, e, e3⟩
  have lk : ∀ c d, c < n → d < n → row c = row d → (num c).toInt = 0 → who c = nI j → (num d).toInt = 0 → who d = nI j := by
    intro c d hc hd e z w z2
    obtain ⟨r, hr, er⟩ := hR c hc
    have k1 := hL1 c r hc z er hr
    have k2 := hL1 d r hd z2 (e ▸ er) hr
    rw [← k2, k1, w]
  have lt : ∀ c d, c < d → d < n → row c = row d → (num c).toInt = 0 → who c = nI j → 0 ≤ (num d).toInt → (num d).toInt = 0 ∧ who d = nI j := by
    intro c d hcd hd e z w p
    have z2 : (num d).toInt = 0 := by
      by_cases q : 0 < (num d).toInt
      · have := hM c d hcd hd e (by omega) q
        omega
      · omega
    exact ⟨z2, lk c d (by omega) hd e z w z2⟩
  have lvc : ∀ q : Int32, ∀ c, c ≤ n → (∀ d, d < c → row d = q → ¬ ((num d).toInt = 0 ∧ who d = nI j)) → un_lv q row val num' c = un_lv q row val num c := by
    intro q c hc hq
    refine un_lv_cong c ?_
    intro d hd
    refine ⟨rfl, rfl, fun hr => ?_⟩
    rcases cs d (by omega) with ⟨a, a2, _⟩ | ⟨_, b, _⟩
    · exact absurd ⟨a, a2⟩ (hq d hd hr)
    · rw [b]
  refine ⟨hR, hW, ?_, ?_, ?_, ?_, ?_, ?_, ?_, ?_, hG3, ?_, ?_⟩
  · intro c hc
    have := hN c hc
    rcases cs c hc with ⟨a, _, b, _⟩ | ⟨_, b, _⟩
    · rw [b]; omega
    · rw [b]; omega
  · intro c hc hz
    rcases cs c hc with ⟨a, _, b, _⟩ | ⟨_, b, b2⟩
    · omega
    · rw [b] at hz; rw [b2]; exact hK0 c hc hz
  · intro c hc hz
    rcases cs c hc with ⟨a, _, b, b2⟩ | ⟨_, b, b2⟩
    · exact absurd b2 hz
    · rw [b2] at hz; rw [b]; exact hK1 c hc hz
  · intro c d hcd hd e hc0 hd0
    have hc : c < n := by omega
    rcases cs d hd with ⟨a, a2, b, _⟩ | ⟨a, b, _⟩
    · omega
    · rcases cs c hc with ⟨a', _, b', _⟩ | ⟨a', b', _⟩
      · omega
      · rw [b] at hd0
        rw [b'] at hc0
        rw [b, b']
        exact hM c d hcd hd e hc0 hd0
  · intro c r hc hz e hr
    rcases cs c hc with ⟨a, _, b, _⟩ | ⟨a, b, _⟩
    · omega
    · rw [b] at hz
      have k := hL1 c r hc hz e hr
      have nx : ¬ lock r = nI j := fun q => a ⟨hz, by rw [← k]; exact q⟩
      rw [h2 r hr, if_neg nx]
      exact k
  · intro r hr
    by_cases q : lock r = nI j
    · rw [h2 r hr, if_pos q]; exact Or.inl rfl
    · rw [h2 r hr, if_neg q]
      rcases hL2 r hr with p | ⟨c, p1, p2, p3, p4⟩
      · exact Or.inl p
      · refine Or.inr ⟨c, p1, p2, ?_, p4⟩
        rcases cs c p1 with ⟨a, a2, b, _⟩ | ⟨a, b, _⟩
        · exact absurd (p4.symm.trans a2) q
        · rw [b]; exact p3
  · intro c r hc hz hp e hr
    rcases cs c hc with ⟨a, _, b, _⟩ | ⟨a, b, b2⟩
    · omega
    · rw [b] at hp
      rw [b2] at hz
      rw [b]
      exact hG1 c r hc hz hp e hr
  · intro c r hc hz hp e hr
    rcases cs c hc with ⟨a, _, b, _⟩ | ⟨a, b, b2⟩
    · omega
    · rw [b] at hp
      rw [b2] at hz
      rw [b]
      exact hG2 c r hc hz hp e hr
  · intro c hc hp
    rcases cs c hc with ⟨a, _, b, _⟩ | ⟨a, b, _⟩
    · omega
    · rw [b] at hp
      rw [lvc _ c (by omega) ?_]
      · exact hB c hc hp
      · intro d hd e z
        exact a (lt d c hd hc e z.1 z.2 hp)
  · intro r hr
    by_cases q : ∃ d, d < n ∧ row d = nI r ∧ (num d).toInt = 0 ∧ who d = nI j
    · obtain ⟨d, ⟨d1, d2, d3, d4⟩, dm⟩ := un_least _ q
      have below : ∀ e, e < d → row e = nI r → ¬ ((num e).toInt = 0 ∧ who e = nI j) := fun e he er z => dm e he ⟨by omega, er, z.1, z.2⟩
      have cl : (row d).toNatClampNeg = r := by rw [d2]; exact nI_clamp (by omega)
      rw [un_rs_first (un_z.mpr d3) d4 cl ?_ n now d1]
      · rw [hB d d1 (by omega), d2, ← lvc _ d (by omega) below]
        refine (un_lv_dead n (by omega) ?_).symm
        intro e e1 e2 er p
        rcases cs e e2 with ⟨a, a2, b, _⟩ | ⟨a, b, _⟩
        · omega
        · rw [b] at p
          rcases Nat.lt_or_ge d e with g | g
          · exact a (lt d e g e2 (d2.trans er.symm) d3 d4 p)
          · have ed : e = d := by omega
            rw [ed] at a
            exact a ⟨d3, d4⟩
      · intro e he z w cle
        obtain ⟨r', hr', er'⟩ := hR e (by omega)
        rw [er', nI_clamp (by omega)] at cle
        rw [cle] at er'
        exact below e he er' ⟨un_z.mp z, w⟩
    · have none : ∀ e, e < n → row e = nI r → ¬ ((num e).toInt = 0 ∧ who e = nI j) := fun e he er z => q ⟨e, he, er, z.1, z.2⟩
      rw [un_rs_none n now ?_, lvc _ n (Nat.le_refl _) none]
      · exact hV r hr
      · intro e he z w cle
        obtain ⟨r', hr', er'⟩ := hR e he
        rw [er', nI_clamp (by omega)] at cle
        rw [cle] at er'
        exact none e he er' ⟨un_z.mp z, w⟩
theorem un_Xrollback (X : un_XI n rc cr vb cb cn row bef who num kept) {x : Int32} {num' kept' cr' vb' cb' cn' : Nat → Int32} (hK : ∀ c, c < n → num c = 0 → ¬ kept c = 0)
  (h1 : ∀ c, c < n → num' c = if num c = 0 ∧ who c = x then -1 else num c) (h3 : ∀ c, c < n → kept' c = if num c = 0 ∧ who c = x then 0 else kept c)
  (h2 : ∀ i, i < rc → ¬ (cn i = 0 ∧ cb i = x) → cr' (un_q (un_kx x cb cn) i) = cr i ∧ vb' (un_q (un_kx x cb cn) i) = vb i ∧ cb' (un_q (un_kx x cb cn) i) = cb i ∧ cn' (un_q (un_kx x cb cn) i) = cn i) :
  un_XI n (un_q (un_kx x cb cn) rc) cr' vb' cb' cn' row bef who num' kept' := by
  obtain ⟨e, h24, h⟩ := X
  have qq : ∀ c, c ≤ n → un_q (un_kx x cb cn) (un_q kept c) = un_q kept' c := by
    intro c
    induction c with
    | zero => intro _; rfl
    | succ c ih =>
      intro hc
      have ihc := ih (by omega)
      have e3 := h3 c (by omega)
      by_cases z : kept c = 0
      · have e4 : kept' c = 0 := by
          rw [e3, z]
          split <;> rfl
        rw [un_q_s0 z, un_q_s0 e4, ihc]
      · obtain ⟨k1, k2, k3, k4⟩ := h c (by omega) z
        rw [un_q_s1 z]
        by_cases w : num c = 0 ∧ who c = x
        · have e4 : un_kx x cb cn (un_q kept c) = 0 := if_pos (by rw [k3, k4]; exact w)
          rw [if_pos w] at e3
          rw [un_q_s0 e4, un_q_s0 e3, ihc]
        · have e4 : un_kx x cb cn (un_q kept c) = 1 := if_neg (by rw [k3, k4]; exact w)
          rw [if_neg w] at e3
          rw [un_q_s1 (by rw [e4]; decide), un_q_s1 (by rw [e3]; exact z), ihc]
  refine ⟨?_, ?_, ?_⟩
  · rw [e]; exact qq n (Nat.le_refl _)
  · have := un_q_n (un_kx x cb cn) rc
    omega
  · intro c hc hk
    have e3 := h3 c hc
    have w : ¬ (num c = 0 ∧ who c = x) := by
      intro w
      rw [if_pos w] at e3
      exact hk e3
    rw [if_neg w] at e3
    rw [e3] at hk
    obtain ⟨k1, k2, k3, k4⟩ := h c hc hk
    have s := h2 (un_q kept c) (by rw [e]; exact un_q_lt hc hk) (by rw [k3, k4]; exact w)
    rw [qq c (by omega)] at s
    rw [h1 c hc, if_neg w]
    obtain ⟨s1, s2, s3, s4⟩ := s
    exact ⟨s1.trans k1, s2.trans k2, s3.trans k3, s4.trans k4⟩
end
