/-! told: the law, by the class -/
def mcp (G : Nat → Bool) (n a : Nat) : Nat := mk (fun i => !a.testBit i && G (a ||| b1 i)) n
def xv (G : Nat → Bool) (n a b : Nat) : Prop := bc a < bc b ∧ b &&& mcp G n a = 0
def l2 (G : Nat → Bool) (n x y : Nat) : Prop := x < 2 ^ n ∧ G x = true ∧ (y < x ∧ sb y x ∧ G y = false ∧ ∀ p, p < y → sb p x → G p = true) ∧ ∀ t, t < x → G t = true → ∀ p, p < t → sb p t → G p = true
def n2 (G : Nat → Bool) (n : Nat) : Prop := ∀ t, t < 2 ^ n → G t = true → ∀ p, p < t → sb p t → G p = true
def l3 (G : Nat → Bool) (n x y : Nat) : Prop := x < 2 ^ n ∧ y < 2 ^ n ∧ G x = true ∧ G y = true ∧ xv G n x y ∧ (∀ b, b < y → G b = true → ¬ xv G n x b) ∧ ∀ a, a < x → G a = true → ∀ b, b < 2 ^ n → G b = true → ¬ xv G n a b
def n3 (G : Nat → Bool) (n : Nat) : Prop := ∀ a b, a < 2 ^ n → b < 2 ^ n → G a = true → G b = true → ¬ xv G n a b
theorem l2_ex {G : Nat → Bool} {n : Nat} (h : ¬ n2 G n) : ∃ x y, l2 G n x y := by
  have ex : ∃ t, t < 2 ^ n ∧ G t = true ∧ ∃ p, p < t ∧ sb p t ∧ G p = false := by
    apply Classical.byContradiction
    intro q
    refine h (fun t t1 t2 p p1 p2 => ?_)
    cases e : G p
    · exact absurd ⟨t, t1, t2, p, p1, p2, e⟩ q
    · rfl
  obtain ⟨t0, h0⟩ := ex
  obtain ⟨x, ⟨x1, x2, p0, hp0⟩, -, x3⟩ := least_ex (T := fun t => t < 2 ^ n ∧ G t = true ∧ ∃ p, p < t ∧ sb p t ∧ G p = false) t0 h0
  obtain ⟨y, ⟨y1, y2, y3⟩, -, y4⟩ := least_ex (T := fun p => p < x ∧ sb p x ∧ G p = false) p0 hp0
  refine ⟨x, y, x1, x2, ⟨y1, y2, y3, fun p hp hs => ?_⟩, fun t ht gt p hp hs => ?_⟩
  · cases e : G p
    · exact absurd ⟨by omega, hs, e⟩ (y4 p hp)
    · rfl
  · cases e : G p
    · exact absurd ⟨by omega, gt, p, hp, hs, e⟩ (x3 t ht)
    · rfl
theorem l3_ex {G : Nat → Bool} {n : Nat} (h : ¬ n3 G n) : ∃ x y, l3 G n x y := by
  have ex : ∃ a, a < 2 ^ n ∧ G a = true ∧ ∃ b, b < 2 ^ n ∧ G b = true ∧ xv G n a b := by
    apply Classical.byContradiction
    intro q
    exact h (fun a b a1 b1 a2 b2 z => q ⟨a, a1, a2, b, b1, b2, z⟩)
  obtain ⟨t0, h0⟩ := ex
  obtain ⟨x, ⟨x1, x2, p0, hp0⟩, -, x3⟩ := least_ex (T := fun a => a < 2 ^ n ∧ G a = true ∧ ∃ b, b < 2 ^ n ∧ G b = true ∧ xv G n a b) t0 h0
  obtain ⟨y, ⟨y1, y2, y3⟩, -, y4⟩ := least_ex (T := fun b => b < 2 ^ n ∧ G b = true ∧ xv G n x b) p0 hp0
  exact ⟨x, y, x1, y1, x2, y2, y3, fun b hb gb z => y4 b hb ⟨by omega, gb, z⟩, fun a ha ga b hb gb z => x3 a ha ⟨by omega, ga, b, hb, gb, z⟩⟩
theorem told_mat {G : Nat → Bool} {n : Nat} (h0 : G 0 = true) (h2 : n2 G n) (h3 : n3 G n) : mat n G := by
  refine ⟨h0, fun s t ht hs gt => ?_, fun s t hs ht gs gt hb => ?_⟩
  · by_cases z : s = t
    · subst z; exact gt
    · exact h2 t ht gt s (by have := sb_le hs; omega) hs
  · apply Classical.byContradiction
    intro q
    refine h3 s t hs ht gs gt ⟨hb, and0.mpr (fun i hi => ?_)⟩
    cases e : (mcp G n s).testBit i
    · rfl
    · exfalso
      have := ((mk_bit _ n i).mp e).2
      rw [Bool.and_eq_true, Bool.not_eq_true'] at this
      exact q ⟨i, hi, this.1, this.2⟩
def lsp (a k : Nat) : Prop := a = 8 ∨ (a = 6 ∧ k = 2)
def lst (M : pm_M) (G : Nat → Bool) (n : Nat) : Prop := mI M 6 2 = nI (cnt G (2 ^ n)) ∧ ∀ t, t < 2 ^ n → G t = true → mI M 8 (cnt G t) = nI t
section
variable {M : pm_M} {n : Nat} {G : Nat → Bool}
theorem lay_lsp {M' : pm_M} (hl : lay M) (hk : kp lsp M M') : lay M' := lay_kp hl hk (fun a k z _ => by
  rcases z with z | z
  · rw [z]; rfl
  · rw [z.1, z.2]; rfl)
theorem c_list (hn : n ≤ 12) (hl : lay M) (hm : mks M G) (hc : cnt G (2 ^ n) ≤ 150) {Post : pm_M → Prop} (kk : ∀ M', kp lsp M M' → lst M' G n → Post M') : w_X7_listSets 6 (nI (2 ^ n - 1)) M Post := by
  have hp := p2_le hn
  have h2 := Nat.two_pow_pos n
  have zz := hl.1
  unfold w_X7_listSets
  intro M1 e1
  have k1 : kp lsp M M1 := by rw [e1]; exact kp_sI (kp_rf _ _) (Or.inr ⟨rfl, rfl⟩)
  refine ⟨_, lp (fun k' (N : pm_M) s => w_X7_listSets_7 Post 6 (nI (2 ^ n - 1)) k' (nI s) N) (2 ^ n) (fun s N => kp lsp M N ∧ mI N 6 2 = nI (cnt G s) ∧ ∀ t, t < s → G t = true → mI N 8 (cnt G t) = nI t) ?_ ?_ 0 M1 (Nat.zero_le _) ⟨k1, by rw [e1, mI_sI, if_pos ⟨rfl, rfl⟩]; rfl, fun t ht => absurd ht (Nat.not_lt_zero t)⟩⟩
  · intro k' s N hs ⟨kN, c1, d1⟩ hk'
    show w_X7_listSets_7 Post 6 (nI (2 ^ n - 1)) (k' + 1) (nI s) N
    have lN := lay_lsp hl kN
    have cs : cnt G s ≤ 150 := Nat.le_trans (cnt_mono (by omega)) hc
    simp only [w_X7_listSets_7, w_X7_listSets_52, w_X7_listSets_58, c1, forall_eq, nI_1]
    refine bf (nI_nlt (by omega) (by omega)) ⟨8, lr_6_1 lN, ?_⟩
    rw [ln_8 lN]
    by_cases q : cnt G s = 150
    · refine bt (nI_le (by omega) (by omega)) (kk N kN ⟨?_, fun t ht gt => ?_⟩)
      · have := cnt_mono (G := G) (show s ≤ 2 ^ n by omega)
        rw [c1]; congr 1; omega
      · by_cases z : t < s
        · exact d1 t z gt
        · have a := cnt_lt ht gt
          have b := cnt_mono (G := G) (show s ≤ t by omega)
          omega
    · have mN' : mks N G := mks_of hm (fun k => (kN.2.2 7 k (by omega) (by unfold lsp; omega)).2.1)
      refine bf (nI_ge (by omega) (by decide)) (c_x7 lN mN' (by omega) (b0 (fun e => ⟨vp_in_nI (by omega) (by decide), ?_⟩) (fun e => hk' N ⟨kN, by rw [c1, cnt_s, if_neg (by rw [e]; decide)], fun t ht gt => ?_⟩)))
      · rw [nI_clamp (by omega), mI_sI, if_neg (by omega), c1, nI_1]
        refine hk' _ ⟨kp_sI (kp_sI kN (Or.inl rfl)) (Or.inr ⟨rfl, rfl⟩), ?_, fun t ht gt => ?_⟩
        · rw [mI_sI, if_pos ⟨rfl, rfl⟩, cnt_s, if_pos e]
        · rw [mI_sI, if_neg (by omega), mI_sI]
          by_cases z : t = s
          · subst z; rw [if_pos ⟨rfl, rfl⟩]
          · have := cnt_lt (show t < s by omega) gt
            rw [if_neg (by omega)]; exact d1 t (by omega) gt
      · by_cases z : t = s
        · subst z; rw [e] at gt; cases gt
        · exact d1 t (by omega) gt
  · intro k' N ⟨kN, c1, d1⟩
    show w_X7_listSets_7 Post 6 (nI (2 ^ n - 1)) (k' + 1) (nI (2 ^ n)) N
    simp only [w_X7_listSets_7, w_X7_listSets_58]
    exact bt (nI_lt (by omega) (by omega)) (kk N kN ⟨c1, d1⟩)
theorem c_leastP (hl : lay M) (hm : mks M G) {t : Nat} (ht : t < 4096) {Post : Int32 → Prop} (k1 : (∀ p, p < t → sb p t → G p = true) → Post (-1)) (k0 : ∀ p, p < t → sb p t → G p = false → (∀ q, q < p → sb q t → G q = true) → Post (nI p)) : w_X7_leastPartNotTold 6 (nI t) M Post := by
  unfold w_X7_leastPartNotTold
  obtain ⟨kf, hkf⟩ := lpu (fun k' (v : Nat) p => w_X7_leastPartNotTold_4 Post 6 (nI t) M k' (nI p) (nI v)) t (fun p v => v ≤ p ∧ ∀ q, q < p → sb q t → G q = true) (by
      intro k' p v hp pt ⟨v1, g⟩ hk'
      show w_X7_leastPartNotTold_4 Post 6 (nI t) M (k' + 1) (nI p) (nI v)
      have := sb_le hp
      simp only [w_X7_leastPartNotTold_4, forall_eq, nI_1, nI_nxp ht hp pt]
      refine bf (nI_ge (b := 4096) (by omega) (by decide)) (bf (nI_ge (by omega) (by omega)) (c_x7 hl hm (by omega) (b0' (fun e => ?_) (fun e => k0 p (by omega) hp e g))))
      have lt := nxp_lt hp pt
      refine hk' (v + 1) ⟨by omega, fun q hq hs => ?_⟩
      by_cases z : q = p
      · subst z; exact e
      · by_cases y : q < p
        · exact g q y hs
        · have := nxp_le hp hs (by omega)
          omega) (by
      intro k' v ⟨v1, g⟩
      show w_X7_leastPartNotTold_4 Post 6 (nI t) M (k' + 1) (nI t) (nI v)
      simp only [w_X7_leastPartNotTold_4, w_X7_leastPartNotTold_38]
      exact bf (nI_ge (b := 4096) (by omega) (by decide)) (bt (nI_le (Nat.le_refl _) (by omega)) (k1 g))) t 0 (by omega) (sb_0 t)
  exact ⟨kf, hkf 0 ⟨Nat.le_refl 0, fun q hq => absurd hq (Nat.not_lt_zero q)⟩⟩
/-- what is noted -/
def brc (M M' : pm_M) (c0 x y : Nat) : Prop := M' = sI (sI (sI M 6 3 (nI c0)) 6 4 (nI x)) 6 5 (nI y)
theorem c_lackP (hn : n ≤ 12) (hl : lay M) (hm : mks M G) (hc : cnt G (2 ^ n) ≤ 150) (hs : lst M G n) {Post : Int32 → pm_M → Prop} (k0 : n2 G n → Post 0 M) (k1 : ∀ x y M', l2 G n x y → brc M M' 2 x y → Post 1 M') : w_X7_lacksPart 6 M Post := by
  have hp := p2_le hn
  have v8 : ∀ i, i < 150 → vp_in (nI i) (mN M 8) := fun i hi => by rw [ln_8 hl]; exact vp_in_nI hi (by decide)
  have step : ∀ (t k' : Nat), t < 2 ^ n → G t = true → ((∀ p, p < t → sb p t → G p = true) → w_X7_lacksPart_2 Post 6 k' (nI (cnt G t + 1)) M) → (∀ p, p < t → sb p t → G p = false → (∀ q, q < p → sb q t → G q = true) → ∀ M', brc M M' 2 t p → Post 1 M') → w_X7_lacksPart_2 Post 6 (k' + 1) (nI (cnt G t)) M := by
    intro t k' ht gt g1 g0
    have ct := cnt_lt ht gt
    simp only [w_X7_lacksPart_2, hs.1, forall_eq, nI_1]
    refine bf (nI_ge ct (by omega)) ⟨8, lr_6_1 hl, v8 _ (by omega), ?_⟩
    rw [nI_clamp (by omega), hs.2 t ht gt]
    refine c_leastP hl hm (by omega) (fun g => bt rfl (g1 g)) (fun p p1 p2 p3 p4 => bf (m1 (by omega)) ⟨v8 _ (by omega), ?_⟩)
    unfold w_X7_noteBreach
    intro N1 e1 N2 e2 N3 e3
    exact g0 p p1 p2 p3 p4 N3 (by rw [e3, e2, e1]; rfl)
  unfold w_X7_lacksPart
  by_cases q : n2 G n
  · refine ⟨_, lp (fun k' (_ : Unit) i => w_X7_lacksPart_2 Post 6 k' (nI i) M) (cnt G (2 ^ n)) (fun _ _ => True) ?_ ?_ 0 () (Nat.zero_le _) trivial⟩
    · intro k' i _ hi _ hk'
      obtain ⟨t, t1, t2, t3⟩ := cnt_ex _ hi
      subst t3
      exact step t k' t1 t2 (fun _ => hk' () trivial) (fun p p1 p2 p3 => by rw [q t t1 t2 p p1 p2] at p3; cases p3)
    · intro k' _ _
      show w_X7_lacksPart_2 Post 6 (k' + 1) (nI (cnt G (2 ^ n))) M
      simp only [w_X7_lacksPart_2, hs.1]
      exact bt (nI_le (Nat.le_refl _) (by omega)) (k0 q)
  · obtain ⟨x, y, hxy⟩ := l2_ex q
    obtain ⟨x1, x2, ⟨y1, y2, y3, y4⟩, x3⟩ := hxy
    have cx := cnt_lt x1 x2
    refine ⟨_, lp (fun k' (_ : Unit) i => w_X7_lacksPart_2 Post 6 k' (nI i) M) (cnt G x) (fun _ _ => True) ?_ ?_ 0 () (Nat.zero_le _) trivial⟩
    · intro k' i _ hi _ hk'
      obtain ⟨t, t1, t2, t3⟩ := cnt_ex x hi
      subst t3
      exact step t k' (by omega) t2 (fun _ => hk' () trivial) (fun p p1 p2 p3 => by rw [x3 t t1 t2 p p1 p2] at p3; cases p3)
    · intro k' _ _
      refine step x k' x1 x2 (fun g => by rw [g y y1 y2] at y3; cases y3) (fun p p1 p2 p3 p4 M' hb => ?_)
      have : p = y := by
        by_cases z : p < y
        · rw [y4 p z p2] at p3; cases p3
        · by_cases z' : y < p
          · rw [p4 y z' y2] at y3; cases y3
          · omega
      subst this
      exact k1 x p M' ⟨x1, x2, ⟨y1, y2, y3, y4⟩, x3⟩ hb
theorem mk_s (P : Nat → Bool) (i : Nat) : mk P (i + 1) = mk P i ||| (if P i = true then b1 i else 0) := rfl
theorem or_b1 {a i : Nat} : a ||| b1 i = a ↔ a.testBit i = true := by
  constructor
  · intro h
    have q := sb_or_r a (b1 i)
    rw [h] at q
    exact sb_b1.mp q
  · intro h
    exact sb_as (sb_or (sb_rf a) (sb_b1.mpr h)) (sb_or_l a (b1 i))
/-- things that there aren't change nothing -/
theorem mcp_12 (hn : n ≤ 12) {a b : Nat} (hb : b < 2 ^ n) : b &&& mcp G 12 a = b &&& mcp G n a := by
  apply Nat.eq_of_testBit_eq
  intro i
  rw [Nat.testBit_and, Nat.testBit_and]
  cases e : b.testBit i with
  | false => rfl
  | true =>
    have hi := bit_lt hb e
    unfold mcp
    rw [Bool.true_and, Bool.true_and, Bool.eq_iff_iff, mk_bit, mk_bit]
    exact ⟨fun h => ⟨hi, h.2⟩, fun h => ⟨by omega, h.2⟩⟩
theorem c_come (hl : lay M) (hm : mks M G) {a : Nat} (ha : a < 4096) {Post : Int32 → Prop} (k : Post (nI (mcp G 12 a))) : w_X7_thingsThatMayCome 6 (nI a) M Post := by
  unfold w_X7_thingsThatMayCome
  refine ⟨_, lp (fun k' (v : Nat) i => w_X7_thingsThatMayCome_4 Post 6 (nI a) M k' (nI v) (nI i)) 12 (fun i v => v = mk (fun i => !a.testBit i && G (a ||| b1 i)) i) ?_ ?_ 0 0 (Nat.zero_le _) rfl⟩
  · intro k' i v hi hv hk'
    show w_X7_thingsThatMayCome_4 Post 6 (nI a) M (k' + 1) (nI v) (nI i)
    have lt : a ||| b1 i < 4096 := or_lt (n := 12) ha (b1_lt hi)
    simp only [w_X7_thingsThatMayCome_4, w_X7_thingsThatMayCome_38, forall_eq, nI_1, nI_b1 i (show i < 31 by omega), nI_or]
    refine bf (nI_ge (b := 12) (by omega) (by decide)) ?_
    rw [nI_eq (by omega) (by omega), or_b1]
    cases e : a.testBit i with
    | true => exact bt rfl (hk' v (by rw [mk_s, if_neg (by rw [e]; intro z; cases z), Nat.or_zero]; exact hv))
    | false =>
      refine bf (by decide) (c_x7 hl hm lt (b0 (fun g => ?_) (fun g => ?_)))
      · exact hk' _ (by rw [mk_s, if_pos (by rw [e, g]; rfl), hv])
      · exact hk' v (by rw [mk_s, if_neg (by rw [e, g]; decide), Nat.or_zero]; exact hv)
  · intro k' v hv
    show w_X7_thingsThatMayCome_4 Post 6 (nI a) M (k' + 1) (nI v) (nI 12)
    simp only [w_X7_thingsThatMayCome_4]
    refine bt (nI_le (b := 12) (Nat.le_refl _) (by decide)) ?_
    rw [hv]
    exact k
theorem c_none (hn : n ≤ 12) (hl : lay M) (hm : mks M G) (hc : cnt G (2 ^ n) ≤ 150) (hs : lst M G n) {a : Nat} (ha : a < 2 ^ n) {Post : Int32 → Prop} (k1 : (∀ b, b < 2 ^ n → G b = true → ¬ xv G n a b) → Post (-1)) (k0 : ∀ b, b < 2 ^ n → G b = true → xv G n a b → (∀ b', b' < b → G b' = true → ¬ xv G n a b') → Post (nI b)) : w_X7_leastWithNoneToCome 6 (nI a) M Post := by
  have hp := p2_le hn
  have v8 : ∀ i, i < 150 → vp_in (nI i) (mN M 8) := fun i hi => by rw [ln_8 hl]; exact vp_in_nI hi (by decide)
  unfold w_X7_leastWithNoneToCome
  refine c_come hl hm (by omega) ?_
  have step : ∀ (b k' : Nat), b < 2 ^ n → G b = true → (¬ xv G n a b → w_X7_leastWithNoneToCome_8 Post 6 (nI a) (nI (mcp G 12 a)) M k' (nI (cnt G b + 1))) → (xv G n a b → Post (nI b)) → w_X7_leastWithNoneToCome_8 Post 6 (nI a) (nI (mcp G 12 a)) M (k' + 1) (nI (cnt G b)) := by
    intro b k' hb gb g1 g0
    have cb := cnt_lt hb gb
    have b1' := bc_16 a
    have b2' := bc_16 b
    have ale : b &&& mcp G n a ≤ b := Nat.and_le_left
    simp only [w_X7_leastWithNoneToCome_8, w_X7_leastWithNoneToCome_37, w_X7_leastWithNoneToCome_62, hs.1, forall_eq, nI_1]
    refine bf (nI_ge cb (by omega)) ⟨8, lr_6_1 hl, v8 _ (by omega), ?_⟩
    rw [nI_clamp (by omega), hs.2 b hb gb]
    refine w_bc (by omega) (w_bc (by omega) ?_)
    rw [nI_leI (by omega) (by omega)]
    refine ⟨fun q => ⟨fun _ => g1 (fun z => by have := z.1; omega), fun z => absurd trivial z⟩, fun q => ⟨fun z => absurd z (by decide), fun _ => ⟨8, lr_6_1 hl, v8 _ (by omega), ?_⟩⟩⟩
    rw [hs.2 b hb gb, nI_and, mcp_12 hn hb, nI_z (by omega)]
    exact ⟨fun z => g1 (fun y => z y.2), fun z => ⟨v8 _ (by omega), g0 ⟨by omega, z⟩⟩⟩
  by_cases q : ∀ b, b < 2 ^ n → G b = true → ¬ xv G n a b
  · refine ⟨_, lp (fun k' (_ : Unit) i => w_X7_leastWithNoneToCome_8 Post 6 (nI a) (nI (mcp G 12 a)) M k' (nI i)) (cnt G (2 ^ n)) (fun _ _ => True) ?_ ?_ 0 () (Nat.zero_le _) trivial⟩
    · intro k' i _ hi _ hk'
      obtain ⟨t, t1, t2, t3⟩ := cnt_ex _ hi
      subst t3
      exact step t k' t1 t2 (fun _ => hk' () trivial) (fun z => absurd z (q t t1 t2))
    · intro k' _ _
      show w_X7_leastWithNoneToCome_8 Post 6 (nI a) (nI (mcp G 12 a)) M (k' + 1) (nI (cnt G (2 ^ n)))
      simp only [w_X7_leastWithNoneToCome_8, hs.1]
      exact bt (nI_le (Nat.le_refl _) (by omega)) (k1 q)
  · have ex : ∃ b, b < 2 ^ n ∧ G b = true ∧ xv G n a b := by
      apply Classical.byContradiction
      intro z
      exact q (fun b b1 b2 b3 => z ⟨b, b1, b2, b3⟩)
    obtain ⟨b0, hb0⟩ := ex
    obtain ⟨y, ⟨y1, y2, y3⟩, -, y4⟩ := least_ex (T := fun b => b < 2 ^ n ∧ G b = true ∧ xv G n a b) b0 hb0
    have cy := cnt_lt y1 y2
    refine ⟨_, lp (fun k' (_ : Unit) i => w_X7_leastWithNoneToCome_8 Post 6 (nI a) (nI (mcp G 12 a)) M k' (nI i)) (cnt G y) (fun _ _ => True) ?_ ?_ 0 () (Nat.zero_le _) trivial⟩
    · intro k' i _ hi _ hk'
      obtain ⟨t, t1, t2, t3⟩ := cnt_ex y hi
      subst t3
      exact step t k' (by omega) t2 (fun _ => hk' () trivial) (fun z => absurd ⟨by omega, t2, z⟩ (y4 t t1))
    · intro k' _ _
      exact step y k' y1 y2 (fun z => absurd y3 z) (fun _ => k0 y y1 y2 y3 (fun b' hb' gb' z => y4 b' hb' ⟨by omega, gb', z⟩))
theorem c_lackX (hn : n ≤ 12) (hl : lay M) (hm : mks M G) (hc : cnt G (2 ^ n) ≤ 150) (hs : lst M G n) {Post : Int32 → pm_M → Prop} (k0 : n3 G n → Post 0 M) (k1 : ∀ x y M', l3 G n x y → brc M M' 3 x y → Post 1 M') : w_X7_lacksExchange 6 M Post := by
  have hp := p2_le hn
  have v8 : ∀ i, i < 150 → vp_in (nI i) (mN M 8) := fun i hi => by rw [ln_8 hl]; exact vp_in_nI hi (by decide)
  have step : ∀ (a k' : Nat), a < 2 ^ n → G a = true → ((∀ b, b < 2 ^ n → G b = true → ¬ xv G n a b) → w_X7_lacksExchange_2 Post 6 k' (nI (cnt G a + 1)) M) → (∀ b, b < 2 ^ n → G b = true → xv G n a b → (∀ b', b' < b → G b' = true → ¬ xv G n a b') → ∀ M', brc M M' 3 a b → Post 1 M') → w_X7_lacksExchange_2 Post 6 (k' + 1) (nI (cnt G a)) M := by
    intro a k' ha ga g1 g0
    have ca := cnt_lt ha ga
    simp only [w_X7_lacksExchange_2, hs.1, forall_eq, nI_1]
    refine bf (nI_ge ca (by omega)) ⟨8, lr_6_1 hl, v8 _ (by omega), ?_⟩
    rw [nI_clamp (by omega), hs.2 a ha ga]
    refine c_none hn hl hm hc hs ha (fun g => bt rfl (g1 g)) (fun b b1 b2 b3 b4 => bf (m1 (by omega)) ⟨v8 _ (by omega), ?_⟩)
    unfold w_X7_noteBreach
    intro N1 e1 N2 e2 N3 e3
    exact g0 b b1 b2 b3 b4 N3 (by rw [e3, e2, e1]; rfl)
  unfold w_X7_lacksExchange
  by_cases q : n3 G n
  · refine ⟨_, lp (fun k' (_ : Unit) i => w_X7_lacksExchange_2 Post 6 k' (nI i) M) (cnt G (2 ^ n)) (fun _ _ => True) ?_ ?_ 0 () (Nat.zero_le _) trivial⟩
    · intro k' i _ hi _ hk'
      obtain ⟨t, t1, t2, t3⟩ := cnt_ex _ hi
      subst t3
      exact step t k' t1 t2 (fun _ => hk' () trivial) (fun b b1 b2 b3 => absurd b3 (q t b t1 b1 t2 b2))
    · intro k' _ _
      show w_X7_lacksExchange_2 Post 6 (k' + 1) (nI (cnt G (2 ^ n))) M
      simp only [w_X7_lacksExchange_2, hs.1]
      exact bt (nI_le (Nat.le_refl _) (by omega)) (k0 q)
  · obtain ⟨x, y, hxy⟩ := l3_ex q
    obtain ⟨x1, y1, x2, y2, y3, y4, x3⟩ := hxy
    have cx := cnt_lt x1 x2
    refine ⟨_, lp (fun k' (_ : Unit) i => w_X7_lacksExchange_2 Post 6 k' (nI i) M) (cnt G x) (fun _ _ => True) ?_ ?_ 0 () (Nat.zero_le _) trivial⟩
    · intro k' i _ hi _ hk'
      obtain ⟨t, t1, t2, t3⟩ := cnt_ex x hi
      subst t3
      exact step t k' (by omega) t2 (fun _ => hk' () trivial) (fun b b1 b2 b3 => absurd b3 (x3 t t1 t2 b b1 b2))
    · intro k' _ _
      refine step x k' x1 x2 (fun g => absurd y3 (g y y1 y2)) (fun b b1 b2 b3 b4 M' hb => ?_)
      have : b = y := by
        by_cases z : b < y
        · exact absurd b3 (y4 b z b2)
        · by_cases z' : y < b
          · exact absurd y3 (b4 y z' y2)
          · omega
      subst this
      exact k1 x b M' ⟨x1, y1, x2, y2, y3, y4, x3⟩ hb
/-- how the law is broken -/
def bkn (G : Nat → Bool) (n c0 x y : Nat) : Prop := (c0 = 1 ∧ x = 0 ∧ y = 0 ∧ G 0 = false) ∨ (c0 = 2 ∧ G 0 = true ∧ l2 G n x y) ∨ (c0 = 3 ∧ G 0 = true ∧ n2 G n ∧ l3 G n x y)
theorem c_breaks (hn : n ≤ 12) (hl : lay M) (hm : mks M G) (hc : cnt G (2 ^ n) ≤ 150) {Post : Int32 → pm_M → Prop} (k0 : ∀ M', kp lsp M M' → G 0 = true → n2 G n → n3 G n → Post 0 M') (k1 : ∀ M' M'' c0 x y, kp lsp M M' → bkn G n c0 x y → brc M' M'' c0 x y → Post 1 M'') : w_X7_breaksLaw 6 (nI (2 ^ n - 1)) M Post := by
  have zz := hl.1
  unfold w_X7_breaksLaw w_X7_breaksLaw_36 w_X7_breaksLaw_41
  refine c_list hn hl hm hc (fun M' k' hs => ?_)
  have l' := lay_lsp hl k'
  have m' : mks M' G := mks_of hm (fun k => (k'.2.2 7 k (by omega) (by unfold lsp; omega)).2.1)
  refine c_x7 (s := 0) l' m' (by decide) (b0' (fun e0 => ?_) (fun e0 => ?_))
  · refine c_lackP hn l' m' hc hs (fun h2 => bt' rfl (c_lackX hn l' m' hc hs (fun h3 => bt rfl ⟨Or.inl rfl, k0 M' k' e0 h2 h3⟩) (fun x y M'' hxy hb => bf one0 ⟨Or.inr rfl, k1 M' M'' 3 x y k' (Or.inr (Or.inr ⟨rfl, e0, h2, hxy⟩)) hb⟩))) (fun x y M'' hxy hb => bf' one0 ⟨Or.inr rfl, k1 M' M'' 2 x y k' (Or.inr (Or.inl ⟨rfl, e0, hxy⟩)) hb⟩)
  · unfold w_X7_noteBreach
    intro N1 e1 N2 e2 N3 e3
    exact k1 M' N3 1 0 0 k' (Or.inl ⟨rfl, rfl, rfl, e0⟩) (by unfold brc; rw [e3, e2, e1]; rfl)
end
