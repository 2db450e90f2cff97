/-! told: the law, by the model -/
def brm (M M' : pm_M) (c0 x y : Nat) : Prop := M' = sI (sI (sI M 70 0 (nI c0)) 70 1 (nI x)) 70 2 (nI y)
theorem lay_70 {M : pm_M} {k : Nat} {v : Int32} (h : lay M) : lay (sI M 70 k v) := lay_kp h (kp_sI (P := fun a _ => a = 70) (kp_rf _ _) rfl) (fun a j z _ => by rw [z]; rfl)
theorem m_brk {M : pm_M} {c0 x y : Nat} (hl : lay M) {Post : Int32 → pm_M → Prop} (k : ∀ M', brm M M' c0 x y → Post 1 M') : w_X10_breaks 62 (nI c0) (nI x) (nI y) M Post := by
  unfold w_X10_breaks
  refine ⟨70, lr_62_10 hl, by rw [ln_70 hl]; exact vp_in_nI (n := 0) (by decide) (by decide), fun M3 e3 => ?_⟩
  have l3 : lay M3 := by rw [e3]; exact lay_70 hl
  refine ⟨70, lr_62_10 l3, by rw [ln_70 l3]; exact vp_in_nI (n := 1) (by decide) (by decide), fun M6 e6 => ?_⟩
  have l6 : lay M6 := by rw [e6]; exact lay_70 l3
  refine ⟨70, lr_62_10 l6, by rw [ln_70 l6]; exact vp_in_nI (n := 2) (by decide) (by decide), fun M9 e9 => ?_⟩
  exact k M9 (by unfold brm; rw [e9, e6, e3]; rfl)
section
variable {N : pm_M} {n r : Nat} {A : Nat → Nat → Bool} {G : Nat → Bool}
theorem mcp_iff {a b : Nat} (hb : b < 2 ^ n) : b &&& mcp G n a = 0 ↔ ¬ ∃ i, i < n ∧ b.testBit i = true ∧ a.testBit i = false ∧ G (a ||| b1 i) = true := by
  rw [and0]
  constructor
  · rintro h ⟨i, i1, i2, i3, i4⟩
    have : (mcp G n a).testBit i = true := (mk_bit _ n i).mpr ⟨i1, by rw [i3, i4]; rfl⟩
    rw [h i i2] at this; cases this
  · intro h i hi
    cases e : (mcp G n a).testBit i
    · rfl
    · exfalso
      obtain ⟨i1, i2⟩ := (mk_bit _ n i).mp e
      rw [Bool.and_eq_true, Bool.not_eq_true'] at i2
      exact h ⟨i, i1, hi, i2.1, i2.2⟩
theorem m_breaks (h : im N n r A) (hr : r < 24) (ht : ∀ s, s < 2 ^ n → mI N 64 (4096 * r + s) = bI (G s)) {Post : Int32 → pm_M → Prop} (k0 : G 0 = true → n2 G n → n3 G n → Post 0 N) (k1 : ∀ M' c0 x y, bkn G n c0 x y → brm N M' c0 x y → Post 1 M') : w_X10_breaks_ 62 N Post := by
  have hp := p2_le h.2.1.2.1
  have hn := h.2.1
  have h2 := Nat.two_pow_pos n
  have al : ∀ s, s < 2 ^ n → ∀ {Po : Int32 → Prop}, Po (bI (G s)) → w_X10_isAllowed 62 (nI r) (nI s) N Po := fun s hs {Po} k => m_all0 h.1 hr (by omega) (ht s hs) k
  unfold w_X10_breaks_
  rw [h.2.2.2.2.1]
  intro x1 ex
  rw [ex]
  refine al 0 h2 (b0' (fun g0 => ?_) (fun g0 => m_brk (c0 := 1) (x := 0) (y := 0) h.1 (fun M' hb => ⟨Or.inr rfl, k1 M' 1 0 0 (Or.inl ⟨rfl, rfl, rfl, g0⟩) hb⟩)))
  -- parts
  have st : ∀ (k24 : Int32 → pm_M → Prop) (s p k' : Nat), s < 2 ^ n → G s = true → p < s → ((sb p s → G p = true) → w_X10_breaks__34 Post k24 62 (nI r) (nI s) k' (nI (p + 1)) N) → (sb p s → G p = false → ∀ M', brm N M' 2 s p → Post 1 M') → w_X10_breaks__34 Post k24 62 (nI r) (nI s) (k' + 1) (nI p) N := by
    intro k24 s p k' hs gs hps g1 g0'
    simp only [w_X10_breaks__34, w_X10_breaks__73, forall_eq, nI_1, nI_inv]
    refine bf (nI_ge hps (by omega)) (al s hs ?_)
    rw [gs]
    refine bf one0 ?_
    have le := sb_le (sb_df p s)
    rw [nI_z (by omega)]
    by_cases z : df p s = 0
    · have sbp : sb p s := fun i hi => by
        cases e : s.testBit i
        · have := congrArg (fun v => Nat.testBit v i) z
          simp [df_bit, hi, e] at this
        · rfl
      refine bt' z (al p (by omega) (b0' (fun e => g1 (fun _ => e)) (fun e => m_brk (c0 := 2) h.1 (fun M' hb => ⟨Or.inr rfl, g0' sbp e M' hb⟩))))
    · refine bf' z (g1 (fun q => absurd ?_ z))
      apply Nat.eq_of_testBit_eq
      intro i
      rw [df_bit, Nat.zero_testBit]
      cases e : p.testBit i
      · rfl
      · rw [q i e]; rfl
  have row : ∀ (k24 : Int32 → pm_M → Prop) (s : Nat), s < 2 ^ n → (G s = true → ∀ p, p < s → sb p s → G p = true) → k24 (nI (s + 1)) N → ∃ n_5 : Nat, w_X10_breaks__34 Post k24 62 (nI r) (nI s) n_5 0 N := by
    intro k24 s hs hg kk
    cases gs : G s with
    | true =>
      refine ⟨_, lp (fun k' (_ : Unit) p => w_X10_breaks__34 Post k24 62 (nI r) (nI s) k' (nI p) N) s (fun _ _ => True) ?_ ?_ 0 () (Nat.zero_le _) trivial⟩
      · intro k' p _ hps _ hk'
        exact st k24 s p k' hs gs hps (fun _ => hk' () trivial) (fun q e => by rw [hg gs p hps q] at e; cases e)
      · intro k' _ _
        show w_X10_breaks__34 Post k24 62 (nI r) (nI s) (k' + 1) (nI s) N
        simp only [w_X10_breaks__34, w_X10_breaks__79, forall_eq, nI_1]
        exact bt (nI_le (Nat.le_refl _) (by omega)) kk
    | false =>
      refine ⟨1, ?_⟩
      show w_X10_breaks__34 Post k24 62 (nI r) (nI s) (0 + 1) (nI 0) N
      simp only [w_X10_breaks__34, w_X10_breaks__79, forall_eq, nI_1]
      by_cases z : s = 0
      · subst z
        exact bt (nI_le (a := 0) (b := 0) (by decide) (by decide)) kk
      · refine bf (nI_ge (by omega) (by omega)) (al s hs ?_)
        rw [gs]
        exact bt rfl kk
  by_cases q2 : n2 G n
  · refine ⟨_, lp (fun k' (_ : Unit) s => w_X10_breaks__24 Post 62 (nI r) k' (nI s) N) (2 ^ n) (fun _ _ => True) ?_ ?_ 0 () (Nat.zero_le _) trivial⟩
    · intro k' s _ hs _ hk'
      show w_X10_breaks__24 Post 62 (nI r) (k' + 1) (nI s) N
      simp only [w_X10_breaks__24, h.2.2.2.1]
      exact bf (nI_nlt (by omega) (by omega)) (row _ s hs (fun gs p hps q => q2 s hs gs p hps q) (hk' () trivial))
    · intro k' _ _
      show w_X10_breaks__24 Post 62 (nI r) (k' + 1) (nI (2 ^ n)) N
      simp only [w_X10_breaks__24, h.2.2.2.1]
      refine bt (nI_lt (by omega) (by omega)) ?_
      -- exchanges
      have sx : ∀ (k87 k97 : Int32 → pm_M → Prop) (a b : Nat), a < 2 ^ n → b < 2 ^ n → bc a < bc b → (¬ xv G n a b → k97 (nI (b + 1)) N) → (xv G n a b → ∀ M', brm N M' 3 a b → Post 1 M') → ∃ n_11 : Nat, w_X10_breaks__143 Post k87 k97 62 (nI r) (nI a) (nI b) N n_11 0 0 := by
        intro k87 k97 a b ha hb hab g1 g0'
        refine ⟨_, lp (fun k' (f : Bool) i => w_X10_breaks__143 Post k87 k97 62 (nI r) (nI a) (nI b) N k' (bI f) (nI i)) n (fun i f => f = true ↔ ∃ t, t < i ∧ b.testBit t = true ∧ a.testBit t = false ∧ G (a ||| b1 t) = true) ?_ ?_ 0 false (Nat.zero_le _) ⟨fun q => (by cases q), fun ⟨t, t1, _⟩ => absurd t1 (Nat.not_lt_zero t)⟩⟩
        · intro k' i f hi hf hk'
          show w_X10_breaks__143 Post k87 k97 62 (nI r) (nI a) (nI b) N (k' + 1) (bI f) (nI i)
          have bi := b1_lt hi
          have dl := sb_lt (sb_df b a) hb
          simp only [w_X10_breaks__143, w_X10_breaks__184, w_X10_breaks__188, w_X10_breaks__189, h.2.2.1, forall_eq, nI_1, nI_inv, nI_b1 i (show i < 31 by omega), nI_and, nI_or]
          have nxt : ∀ f' : Bool, (f' = true ↔ f = true ∨ (b.testBit i = true ∧ a.testBit i = false ∧ G (a ||| b1 i) = true)) → w_X10_breaks__143 Post k87 k97 62 (nI r) (nI a) (nI b) N k' (bI f') (nI (i + 1)) := fun f' hf' => hk' f' (by
            rw [hf', hf]
            constructor
            · rintro (⟨t, t1, t2⟩ | z)
              · exact ⟨t, by omega, t2⟩
              · exact ⟨i, by omega, z⟩
            · rintro ⟨t, t1, t2⟩
              by_cases z : t = i
              · subst z; exact Or.inr t2
              · exact Or.inl ⟨t, by omega, t2⟩)
          refine bf (nI_ge hi (by omega)) (b0' (fun e => nxt true ⟨fun _ => Or.inl e, fun _ => rfl⟩) (fun e => ?_))
          rw [and_b1 (by omega) (by omega), df_bit]
          cases eb : b.testBit i with
          | false => exact bt rfl (nxt false ⟨fun z => (by cases z), fun z => by rcases z with z | z; (rw [e] at z; cases z); (rw [eb] at z; cases z.1)⟩)
          | true =>
            cases ea : a.testBit i with
            | true => exact bt rfl (nxt false ⟨fun z => (by cases z), fun z => by rcases z with z | z; (rw [e] at z; cases z); (rw [ea] at z; cases z.2.1)⟩)
            | false =>
              refine bf (by decide) (al _ (or_lt ha bi) (b0 (fun eg => nxt true ⟨fun _ => Or.inr ⟨eb, ea, eg⟩, fun _ => rfl⟩) (fun eg => nxt false ⟨fun z => (by cases z), fun z => by rcases z with z | z; (rw [e] at z; cases z); (rw [eg] at z; cases z.2.2)⟩)))
        · intro k' f hf
          show w_X10_breaks__143 Post k87 k97 62 (nI r) (nI a) (nI b) N (k' + 1) (bI f) (nI n)
          simp only [w_X10_breaks__143, w_X10_breaks__210, h.2.2.1, forall_eq, nI_1]
          refine bt (nI_le (Nat.le_refl _) (by omega)) (b0' (fun e => g1 (fun z => (mcp_iff hb).mp z.2 (hf.mp e))) (fun e => m_brk (c0 := 3) h.1 (fun M' hbm => ⟨Or.inr rfl, g0' ⟨hab, (mcp_iff hb).mpr (fun z => by rw [hf.mpr z] at e; cases e)⟩ M' hbm⟩)))
      have sb1 : ∀ (k87 : Int32 → pm_M → Prop) (a b k' : Nat), a < 2 ^ n → b < 2 ^ n → G a = true → ((G b = true → ¬ xv G n a b) → w_X10_breaks__97 Post k87 62 (nI r) (nI a) k' (nI (b + 1)) N) → (G b = true → xv G n a b → ∀ M', brm N M' 3 a b → Post 1 M') → w_X10_breaks__97 Post k87 62 (nI r) (nI a) (k' + 1) (nI b) N := by
        intro k87 a b k' ha hb ga g1 g0'
        have b1' := bc_16 a
        have b2' := bc_16 b
        simp only [w_X10_breaks__97, w_X10_breaks__210, h.2.2.2.1, forall_eq, nI_1]
        refine bf (nI_nlt (by omega) (by omega)) (al a ha ?_)
        rw [ga]
        refine bf one0 (al b hb (b0 (fun eb => m_bits (by omega) (m_bits (by omega) ?_)) (fun eb => g1 (fun z => by rw [eb] at z; cases z))))
        rw [nI_ltI (by omega) (by omega)]
        exact ⟨fun q => sx _ _ a b ha hb q (fun z => g1 (fun _ => z)) (fun z => g0' eb z), fun q => g1 (fun _ z => q z.1)⟩
      have rowx : ∀ (k87 : Int32 → pm_M → Prop) (a : Nat), a < 2 ^ n → (G a = true → ∀ b, b < 2 ^ n → G b = true → ¬ xv G n a b) → k87 (nI (a + 1)) N → ∃ n_3 : Nat, w_X10_breaks__97 Post k87 62 (nI r) (nI a) n_3 0 N := by
        intro k87 a ha hg kk
        cases ga : G a with
        | true =>
          refine ⟨_, lp (fun k' (_ : Unit) b => w_X10_breaks__97 Post k87 62 (nI r) (nI a) k' (nI b) N) (2 ^ n) (fun _ _ => True) ?_ ?_ 0 () (Nat.zero_le _) trivial⟩
          · intro k' b _ hb _ hk'
            exact sb1 k87 a b k' ha hb ga (fun _ => hk' () trivial) (fun gb z => absurd z (hg ga b hb gb))
          · intro k' _ _
            show w_X10_breaks__97 Post k87 62 (nI r) (nI a) (k' + 1) (nI (2 ^ n)) N
            simp only [w_X10_breaks__97, w_X10_breaks__216, h.2.2.2.1, forall_eq, nI_1]
            exact bt (nI_lt (by omega) (by omega)) kk
        | false =>
          refine ⟨1, ?_⟩
          show w_X10_breaks__97 Post k87 62 (nI r) (nI a) (0 + 1) (nI 0) N
          simp only [w_X10_breaks__97, w_X10_breaks__216, h.2.2.2.1, forall_eq, nI_1]
          refine bf (nI_nlt (by omega) (by omega)) (al a ha ?_)
          rw [ga]
          exact bt rfl kk
      by_cases q3 : n3 G n
      · refine ⟨_, lp (fun k' (_ : Unit) a => w_X10_breaks__87 Post 62 (nI r) k' (nI a) N) (2 ^ n) (fun _ _ => True) ?_ ?_ 0 () (Nat.zero_le _) trivial⟩
        · intro k' a _ ha _ hk'
          show w_X10_breaks__87 Post 62 (nI r) (k' + 1) (nI a) N
          simp only [w_X10_breaks__87, h.2.2.2.1]
          exact bf (nI_nlt (by omega) (by omega)) (rowx _ a ha (fun ga b hb gb => q3 a b ha hb ga gb) (hk' () trivial))
        · intro k' _ _
          show w_X10_breaks__87 Post 62 (nI r) (k' + 1) (nI (2 ^ n)) N
          simp only [w_X10_breaks__87, h.2.2.2.1]
          exact bt (nI_lt (by omega) (by omega)) (k0 g0 q2 q3)
      · obtain ⟨x, y, hxy⟩ := l3_ex q3
        have hxy' := hxy
        obtain ⟨x1, y1, x2, y2, y3, y4, x3⟩ := hxy
        refine ⟨_, lp (fun k' (_ : Unit) a => w_X10_breaks__87 Post 62 (nI r) k' (nI a) N) x (fun _ _ => True) ?_ ?_ 0 () (Nat.zero_le _) trivial⟩
        · intro k' a _ ha _ hk'
          show w_X10_breaks__87 Post 62 (nI r) (k' + 1) (nI a) N
          simp only [w_X10_breaks__87, h.2.2.2.1]
          exact bf (nI_nlt (by omega) (by omega)) (rowx _ a (by omega) (fun ga b hb gb => x3 a ha ga b hb gb) (hk' () trivial))
        · intro k' _ _
          show w_X10_breaks__87 Post 62 (nI r) (k' + 1) (nI x) N
          simp only [w_X10_breaks__87, h.2.2.2.1]
          refine bf (nI_nlt (by omega) (by omega)) ⟨_, lp (fun k2 (_ : Unit) b => w_X10_breaks__97 Post (w_X10_breaks__87 Post 62 (nI r) k') 62 (nI r) (nI x) k2 (nI b) N) y (fun _ _ => True) ?_ ?_ 0 () (Nat.zero_le _) trivial⟩
          · intro k2 b _ hb _ hk2
            exact sb1 _ x b k2 x1 (by omega) x2 (fun _ => hk2 () trivial) (fun gb z => absurd z (y4 b hb gb))
          · intro k2 _ _
            exact sb1 _ x y k2 x1 y1 x2 (fun z => absurd y3 (z y2)) (fun _ _ M' hb => k1 M' 3 x y (Or.inr (Or.inr ⟨rfl, g0, q2, hxy'⟩)) hb)
  · obtain ⟨x, y, hxy⟩ := l2_ex q2
    have hxy' := hxy
    obtain ⟨x1, x2, ⟨y1, y2, y3, y4⟩, x3⟩ := hxy
    refine ⟨_, lp (fun k' (_ : Unit) s => w_X10_breaks__24 Post 62 (nI r) k' (nI s) N) x (fun _ _ => True) ?_ ?_ 0 () (Nat.zero_le _) trivial⟩
    · intro k' s _ hs _ hk'
      show w_X10_breaks__24 Post 62 (nI r) (k' + 1) (nI s) N
      simp only [w_X10_breaks__24, h.2.2.2.1]
      exact bf (nI_nlt (by omega) (by omega)) (row _ s (by omega) (fun gs p hps q => x3 s hs gs p hps q) (hk' () trivial))
    · intro k' _ _
      show w_X10_breaks__24 Post 62 (nI r) (k' + 1) (nI x) N
      simp only [w_X10_breaks__24, h.2.2.2.1]
      refine bf (nI_nlt (by omega) (by omega)) ⟨_, lp (fun k2 (_ : Unit) p => w_X10_breaks__34 Post (w_X10_breaks__24 Post 62 (nI r) k') 62 (nI r) (nI x) k2 (nI p) N) y (fun _ _ => True) ?_ ?_ 0 () (Nat.zero_le _) trivial⟩
      · intro k2 p _ hps _ hk2
        exact st _ x p k2 x1 x2 (by omega) (fun _ => hk2 () trivial) (fun q e => by rw [y4 p hps q] at e; cases e)
      · intro k2 _ _
        exact st _ x y k2 x1 x2 y1 (fun q => by rw [q y2] at y3; cases y3) (fun _ _ M' hb => k1 M' 2 x y (Or.inr (Or.inl ⟨rfl, g0, hxy'⟩)) hb)
end
