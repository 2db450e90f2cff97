/-! EDGES: groups of ends -/
def mg (g : Nat → Nat) (a b : Nat) : Nat → Nat := fun e => if g e = a then b else g e
def grp (u v : Nat → Nat) (s : Nat) : Nat → Nat → Nat
  | 0 => fun e => e
  | k + 1 => if s.testBit k = true then mg (grp u v s k) (grp u v s k (u k)) (grp u v s k (v k)) else grp u v s k
def fine (u v : Nat → Nat) (s k : Nat) : Prop := ∀ i, i < k → s.testBit i = true → grp u v s i (u i) ≠ grp u v s i (v i)
def mk (P : Nat → Bool) (k : Nat) : Nat := un b1 P k
theorem mk_bit (P : Nat → Bool) (k i : Nat) : (mk P k).testBit i = true ↔ i < k ∧ P i = true := by
  unfold mk
  rw [un_bit]
  constructor
  · rintro ⟨j, h1, h2, h3⟩
    rw [b1_bit] at h3
    simp at h3
    subst h3
    exact ⟨h1, h2⟩
  · intro ⟨h1, h2⟩
    exact ⟨i, h1, h2, by rw [b1_bit]; simp⟩
theorem mk_lt (P : Nat → Bool) (k : Nat) : mk P k < 2 ^ k := lt_of_bits fun i hi => ((mk_bit P k i).mp hi).1
theorem bc_full : bc (2 ^ 16 - 1) = 16 := by decide
theorem bc_compl {a b : Nat} (hb : b < 2 ^ 16) (h : a &&& b = 0) (ha : a < 2 ^ 16) : bc a + bc b ≤ 16 := by
  rw [← bc_dis h]
  exact bc_le_n (or_lt ha hb)
/-- counting by an injection -/
theorem inj_bc {a b : Nat} {f : Nat → Nat} (hb : b < 2 ^ 16) (hm : ∀ e, a.testBit e = true → b.testBit (f e) = true) (hi : ∀ e e', a.testBit e = true → a.testBit e' = true → f e = f e' → e = e') (ha : a < 2 ^ 16) : bc a ≤ bc b := by
  have key : sb a a → bc a ≤ bc (un (fun i => b1 (f i)) (fun i => a.testBit i) 16) := by
    refine bits_ind (P := fun w => sb w a → bc w ≤ bc (un (fun i => b1 (f i)) (fun i => w.testBit i) 16)) a (fun _ => by rw [bc_0]; exact Nat.zero_le _) ?_
    intro w i hw hwi ih hsb
    have h1 := ih (sb_tr (sb_or_l _ _) hw)
    have hia : a.testBit i = true := sb_b1.mp (sb_tr (sb_or_r w (b1 i)) hw)
    have hi16 : i < 16 := bit_lt ha hia
    have e : un (fun i => b1 (f i)) (fun j => (w ||| b1 i).testBit j) 16 = un (fun i => b1 (f i)) (fun j => w.testBit j) 16 ||| b1 (f i) := by
      apply sb_as
      · intro x hx
        obtain ⟨j, j1, j2, j3⟩ := (un_bit _ _ 16 x).mp hx
        rw [Nat.testBit_or, b1_bit] at j2
        simp at j2
        rcases j2 with z | z
        · exact sb_or_l _ _ x ((un_bit _ _ 16 x).mpr ⟨j, j1, z, j3⟩)
        · subst z; exact sb_or_r _ _ x j3
      · refine sb_or (fun x hx => ?_) (fun x hx => (un_bit _ _ 16 x).mpr ⟨i, hi16, by rw [Nat.testBit_or, b1_bit]; simp, hx⟩)
        obtain ⟨j, j1, j2, j3⟩ := (un_bit _ _ 16 x).mp hx
        exact (un_bit _ _ 16 x).mpr ⟨j, j1, by rw [Nat.testBit_or, j2]; rfl, j3⟩
    have hf : f i < 16 := bit_lt hb (hm i hia)
    have hn : (un (fun i => b1 (f i)) (fun j => w.testBit j) 16).testBit (f i) = false := by
      cases q : (un (fun i => b1 (f i)) (fun j => w.testBit j) 16).testBit (f i)
      · rfl
      · obtain ⟨j, j1, j2, j3⟩ := (un_bit _ _ 16 _).mp q
        rw [b1_bit] at j3
        simp at j3
        have := hi j i (hw j (by rw [Nat.testBit_or, j2]; rfl)) hia j3
        subst this
        rw [hwi] at j2; cases j2
    have b2 := bc_add hf hn
    have b3 := bc_add hi16 hwi
    rw [e]
    omega
  refine Nat.le_trans (key (sb_rf a)) (bc_mono fun x hx => ?_)
  obtain ⟨j, j1, j2, j3⟩ := (un_bit _ _ 16 x).mp hx
  rw [b1_bit] at j3
  simp at j3
  subst j3
  exact hm j j2
theorem nb_bit (f : Nat → Nat) (p m i : Nat) : (nb f p m).testBit i = true ↔ ∃ j, j < m ∧ p.testBit j = true ∧ (f j).testBit i = true := un_bit f _ m i
theorem end_u (a b : Nat) : (b1 a ||| b1 b).testBit a = true := by rw [Nat.testBit_or, b1_bit]; simp
theorem end_v (a b : Nat) : (b1 a ||| b1 b).testBit b = true := by rw [Nat.testBit_or, b1_bit, b1_bit]; simp
section EG
variable {u v : Nat → Nat} {n : Nat}
theorem grp_lt (hu : ∀ i, i < n → u i < 16 ∧ v i < 16) (s : Nat) : ∀ k, k ≤ n → ∀ e, e < 16 → grp u v s k e < 16 := by
  intro k
  induction k with
  | zero => intro _ e he; exact he
  | succ k ih =>
    intro hk e he
    have := hu k (by omega)
    simp only [grp]
    split
    · unfold mg
      split
      · exact ih (by omega) _ this.2
      · exact ih (by omega) e he
    · exact ih (by omega) e he
theorem mg_idem {g : Nat → Nat} {x y e : Nat} (hi : ∀ e, e < 16 → g (g e) = g e) (hx : x < 16) (hy : y < 16) (he : e < 16) : mg g (g x) (g y) (mg g (g x) (g y) e) = mg g (g x) (g y) e := by
  unfold mg
  by_cases q : g e = g x
  · rw [if_pos q, hi y hy]
    split <;> rfl
  · rw [if_neg q, hi e he, if_neg q]
theorem grp_idem (hu : ∀ i, i < n → u i < 16 ∧ v i < 16) (s : Nat) : ∀ k, k ≤ n → ∀ e, e < 16 → grp u v s k (grp u v s k e) = grp u v s k e := by
  intro k
  induction k with
  | zero => intro _ e _; rfl
  | succ k ih =>
    intro hk e he
    have := hu k (by omega)
    simp only [grp]
    split
    · exact mg_idem (ih (by omega)) this.1 this.2 he
    · exact ih (by omega) e he
/-- what is one by q, edge by edge, is one by q in the groups -/
theorem grp_q {α : Type} {q : Nat → α} (s : Nat) : ∀ k, (∀ i, i < k → s.testBit i = true → q (u i) = q (v i)) → ∀ e, q (grp u v s k e) = q e := by
  intro k
  induction k with
  | zero => intro _ e; rfl
  | succ k ih =>
    intro h e
    have ih := ih (fun i hi => h i (by omega))
    simp only [grp]
    split
    · rename_i hk
      unfold mg
      split
      · rename_i he
        rw [ih (v k), ← h k (by omega) hk, ← ih (u k), ← he, ih e]
      · exact ih e
    · exact ih e
theorem grp_ker {α : Type} {q : Nat → α} (s k : Nat) (h : ∀ i, i < k → s.testBit i = true → q (u i) = q (v i)) {x y : Nat} (e : grp u v s k x = grp u v s k y) : q x = q y := by
  rw [← grp_q (u := u) (v := v) s k h x, e, grp_q s k h y]
/-- an edge's ends are one from then on -/
theorem grp_edge (s : Nat) : ∀ k i, i < k → s.testBit i = true → grp u v s k (u i) = grp u v s k (v i) := by
  intro k
  induction k with
  | zero => intro i hi; omega
  | succ k ih =>
    intro i hi hs
    by_cases q : i = k
    · subst q
      simp only [grp]
      rw [if_pos hs]
      unfold mg
      rw [if_pos rfl]
      split <;> rfl
    · have := ih i (by omega) hs
      simp only [grp]
      split
      · unfold mg; rw [this]
      · exact this
/-- those that stand for their group -/
def fm (u v : Nat → Nat) (s k : Nat) : Nat := mk (fun e => decide (grp u v s k e = e)) 16
theorem fm_bit (s k e : Nat) : (fm u v s k).testBit e = true ↔ e < 16 ∧ grp u v s k e = e := by
  unfold fm
  rw [mk_bit]
  simp
theorem fm_lt (s k : Nat) : fm u v s k < 2 ^ 16 := mk_lt _ _
theorem mg_fix {g : Nat → Nat} {x y e : Nat} (hi : ∀ e, e < 16 → g (g e) = g e) (hy : y < 16) (hne : g x ≠ g y) : mg g (g x) (g y) e = e ↔ g e = e ∧ e ≠ g x := by
  unfold mg
  constructor
  · intro h
    by_cases q : g e = g x
    · rw [if_pos q] at h
      exfalso
      rw [← h, hi y hy] at q
      exact hne q.symm
    · rw [if_neg q] at h
      exact ⟨h, fun z => q (by rw [h, z])⟩
  · intro ⟨h1, h2⟩
    rw [if_neg (by rw [h1]; exact h2)]
    exact h1
theorem fm_step (hu : ∀ i, i < n → u i < 16 ∧ v i < 16) {s k : Nat} (hk : k < n) (hs : s.testBit k = true) (hne : grp u v s k (u k) ≠ grp u v s k (v k)) : bc (fm u v s (k + 1)) + 1 = bc (fm u v s k) := by
  have hk' := hu k hk
  have hid := grp_idem hu s k (by omega)
  have hlt := grp_lt hu s k (by omega) (u k) hk'.1
  have hb : (fm u v s k).testBit (grp u v s k (u k)) = true := (fm_bit s k _).mpr ⟨hlt, hid _ hk'.1⟩
  have e : fm u v s (k + 1) = df (fm u v s k) (b1 (grp u v s k (u k))) := by
    apply Nat.eq_of_testBit_eq
    intro x
    rw [df_bit, b1_bit, Bool.eq_iff_iff, fm_bit]
    simp only [Bool.and_eq_true]
    rw [fm_bit]
    simp only [grp]
    rw [if_pos hs, mg_fix hid hk'.2 hne]
    simp
    constructor
    · intro ⟨a, b, c⟩; exact ⟨⟨a, b⟩, fun z => c z.symm⟩
    · intro ⟨⟨a, b⟩, c⟩; exact ⟨a, b, fun z => c z.symm⟩
  rw [e]
  exact bc_sub hlt hb
theorem fm_0 (s : Nat) : bc (fm u v s 0) = 16 := by
  have : fm u v s 0 = 2 ^ 16 - 1 := by
    apply Nat.eq_of_testBit_eq
    intro x
    rw [Bool.eq_iff_iff, fm_bit, Nat.testBit_two_pow_sub_one]
    simp [grp]
  rw [this, bc_full]
theorem mg_same {g : Nat → Nat} {a : Nat} : mg g a a = g := by
  funext e
  unfold mg
  split
  · rename_i h; exact h.symm
  · rfl
/-- counts: at least, and just so where all is fine -/
theorem fm_count (hu : ∀ i, i < n → u i < 16 ∧ v i < 16) (s : Nat) : ∀ k, k ≤ n → 16 ≤ bc (fm u v s k) + bcn k s ∧ (fine u v s k ↔ bc (fm u v s k) + bcn k s = 16) := by
  intro k
  induction k with
  | zero => intro _; rw [fm_0]; exact ⟨by simp [bcn], fun _ => by simp [bcn], fun _ i hi => by omega⟩
  | succ k ih =>
    intro hk
    obtain ⟨i1, i2⟩ := ih (by omega)
    simp only [bcn]
    cases hs : s.testBit k
    · have hg : grp u v s (k + 1) = grp u v s k := by simp only [grp]; rw [if_neg (by rw [hs]; simp)]
      have e : fm u v s (k + 1) = fm u v s k := by simp only [fm, hg]
      rw [e]
      simp
      refine ⟨i1, ⟨fun h => i2.mp (fun i hi => h i (by omega)), fun h i hi hb => ?_⟩⟩
      by_cases q : i = k
      · subst q; rw [hs] at hb; cases hb
      · exact i2.mpr h i (by omega) hb
    · simp
      by_cases hne : grp u v s k (u k) = grp u v s k (v k)
      · have hg : grp u v s (k + 1) = grp u v s k := by simp only [grp]; rw [if_pos hs, hne, mg_same]
        have e : fm u v s (k + 1) = fm u v s k := by simp only [fm, hg]
        rw [e]
        refine ⟨by omega, ⟨fun h => absurd hne (h k (by omega) hs), fun h => by omega⟩⟩
      · have st := fm_step hu (show k < n by omega) hs hne
        refine ⟨by omega, ⟨fun h => ?_, fun h i hi hb => ?_⟩⟩
        · have := i2.mp (fun i hi => h i (by omega)); omega
        · by_cases q : i = k
          · subst q; exact hne
          · exact i2.mpr (by omega) i (by omega) hb
theorem bcn_n {k s : Nat} (hk : k ≤ 16) (hs : s < 2 ^ k) : bcn k s = bc s := by
  have : ∀ m, k ≤ m → bcn m s = bcn k s := by
    intro m
    induction m with
    | zero => intro h; rw [Nat.le_zero.mp h]
    | succ m ih =>
      intro h
      by_cases q : k = m + 1
      · rw [q]
      · simp only [bcn]
        have : s.testBit m = false := by
          cases z : s.testBit m
          · rfl
          · have := bit_lt hs z; omega
        rw [this, ih (by omega)]; simp
  exact (this 16 hk).symm
theorem fine_iff (hn : n ≤ 16) (hu : ∀ i, i < n → u i < 16 ∧ v i < 16) {s : Nat} (hs : s < 2 ^ n) : fine u v s n ↔ bc (fm u v s n) + bc s = 16 := by
  rw [← bcn_n hn hs]
  exact (fm_count hu s n (Nat.le_refl _)).2
theorem fine_sub {s t k : Nat} (h : fine u v t k) (hs : sb s t) : fine u v s k := by
  intro i hi hb e
  exact h i hi (hs i hb) (grp_ker (q := grp u v t i) s i (fun j hj hjs => grp_edge t i j hj (hs j hjs)) e)
theorem mat_edges {A : Nat → Bool} (hn : n ≤ 16) (hu : ∀ i, i < n → u i < 16 ∧ v i < 16) (hA : ∀ s, s < 2 ^ n → (A s = true ↔ fine u v s n)) : mat n A := by
  refine ⟨(hA 0 (Nat.two_pow_pos n)).mpr fun i _ h => by simp at h, fun s t ht hs h => (hA s (sb_lt hs ht)).mpr (fine_sub ((hA t ht).mp h) hs), fun s t hs ht h1 h2 hlt => ?_⟩
  have h1' := (fine_iff hn hu hs).mp ((hA s hs).mp h1)
  have h2' := (fine_iff hn hu ht).mp ((hA t ht).mp h2)
  apply Classical.byContradiction
  intro hno
  by_cases hall : ∀ i, i < n → t.testBit i = true → grp u v s n (u i) = grp u v s n (v i)
  · have := inj_bc (a := fm u v s n) (b := fm u v t n) (f := grp u v t n) (fm_lt t n) (fun e he => by
      have := (fm_bit s n e).mp he
      exact (fm_bit t n _).mpr ⟨grp_lt hu t n (Nat.le_refl _) e this.1, grp_idem hu t n (Nat.le_refl _) e this.1⟩) (fun e e' he he' heq => by
      have a := ((fm_bit s n e).mp he).2
      have b := ((fm_bit s n e').mp he').2
      have := grp_ker (q := grp u v s n) t n hall heq
      rw [a, b] at this
      exact this) (fm_lt s n)
    omega
  · obtain ⟨i, hi⟩ := Classical.not_forall.mp hall
    have hin : i < n := Classical.byContradiction fun z => hi (fun w => absurd w z)
    have hi2 : ¬ (t.testBit i = true → grp u v s n (u i) = grp u v s n (v i)) := fun z => hi (fun _ => z)
    have hti : t.testBit i = true := Classical.byContradiction fun z => hi2 (fun w => absurd w z)
    have hne : grp u v s n (u i) ≠ grp u v s n (v i) := fun z => hi2 (fun _ => z)
    have hsi : s.testBit i = false := by
      cases q : s.testBit i
      · rfl
      · exact absurd (grp_edge s n i hin q) hne
    refine hno ⟨i, hti, hsi, ?_⟩
    have hlt2 : s ||| b1 i < 2 ^ n := or_lt hs (b1_lt hin)
    rw [hA _ hlt2, fine_iff hn hu hlt2]
    have hge := (fm_count hu (s ||| b1 i) n (Nat.le_refl _)).1
    rw [bcn_n hn hlt2] at hge
    have hbc := bc_add (s := s) (i := i) (by omega) hsi
    have hid := grp_idem hu s n (Nat.le_refl _)
    have hui := hu i hin
    have hlu := grp_lt hu s n (Nat.le_refl _) (u i) hui.1
    have hle : bc (fm u v (s ||| b1 i) n) ≤ bc (df (fm u v s n) (b1 (grp u v s n (u i)))) := by
      refine inj_bc (f := mg (grp u v s n) (grp u v s n (u i)) (grp u v s n (v i))) (sb_lt (sb_df _ _) (fm_lt s n)) (fun e he => ?_) (fun e e' he he' heq => ?_) (fm_lt _ _)
      · have he16 := ((fm_bit _ n e).mp he).1
        have hfx : mg (grp u v s n) (grp u v s n (u i)) (grp u v s n (v i)) (mg (grp u v s n) (grp u v s n (u i)) (grp u v s n (v i)) e) = mg (grp u v s n) (grp u v s n (u i)) (grp u v s n (v i)) e := mg_idem hid hui.1 hui.2 he16
        have h3 := (mg_fix hid hui.2 hne).mp hfx
        have hlt16 : mg (grp u v s n) (grp u v s n (u i)) (grp u v s n (v i)) e < 16 := by
          unfold mg
          split
          · exact grp_lt hu s n (Nat.le_refl _) _ hui.2
          · exact grp_lt hu s n (Nat.le_refl _) _ he16
        rw [df_bit, b1_bit, (fm_bit s n _).mpr ⟨hlt16, h3.1⟩]
        simp
        exact fun z => h3.2 z.symm
      · have a := ((fm_bit _ n e).mp he).2
        have b := ((fm_bit _ n e').mp he').2
        have hq : ∀ x, grp u v (s ||| b1 i) n (grp u v s n x) = grp u v (s ||| b1 i) n x := fun x => grp_q (q := grp u v (s ||| b1 i) n) s n (fun j hj hjs => grp_edge _ n j hj (by rw [Nat.testBit_or, hjs]; rfl)) x
        have hq2 : ∀ x, grp u v (s ||| b1 i) n (mg (grp u v s n) (grp u v s n (u i)) (grp u v s n (v i)) x) = grp u v (s ||| b1 i) n x := by
          intro x
          unfold mg
          split
          · rename_i hx
            rw [hq (v i), ← grp_edge (u := u) (v := v) (s ||| b1 i) n i hin (by rw [Nat.testBit_or, b1_bit]; simp), ← hq (u i), ← hx, hq x]
          · exact hq x
        have := congrArg (grp u v (s ||| b1 i) n) heq
        rw [hq2, hq2, a, b] at this
        exact this
    have hs1 := bc_sub hlu ((fm_bit s n _).mpr ⟨hlu, hid _ hui.1⟩)
    omega
/-- no ring: every part but the empty one has more ends than edges -/
theorem fine_ends (hn : n ≤ 16) (hu : ∀ i, i < n → u i < 16 ∧ v i < 16) {s : Nat} (hs : s < 2 ^ n) : fine u v s n ↔ ∀ p, sb p s → p ≠ 0 → bc p + 1 ≤ bc (nb (fun i => b1 (u i) ||| b1 (v i)) p n) := by
  constructor
  · intro h p hp hp0
    have hpn := sb_lt hp hs
    have hc := (fine_iff hn hu hpn).mp (fine_sub h hp)
    obtain ⟨i, hi⟩ := bits_ex hp0
    have hin := bit_lt hpn hi
    have hN : nb (fun i => b1 (u i) ||| b1 (v i)) p n < 2 ^ 16 := by
      refine lt_of_bits fun x hx => ?_
      obtain ⟨j, j1, j2, j3⟩ := (nb_bit _ _ n x).mp hx
      rw [Nat.testBit_or, b1_bit, b1_bit] at j3
      have := hu j j1
      simp at j3
      omega
    have out : ∀ k, k ≤ n → ∀ e, (nb (fun i => b1 (u i) ||| b1 (v i)) p n).testBit e = false → grp u v p k e = e ∧ ∀ x, grp u v p k x = e → x = e := by
      intro k
      induction k with
      | zero => intro _ e _; exact ⟨rfl, fun x hx => hx⟩
      | succ k ih =>
        intro hk e he
        obtain ⟨a, b⟩ := ih (by omega) e he
        simp only [grp]
        split
        · rename_i hpk
          have hue : u k ≠ e := by
            intro z
            rw [← z] at he
            have := (nb_bit (fun i => b1 (u i) ||| b1 (v i)) p n (u k)).mpr ⟨k, by omega, hpk, end_u _ _⟩
            rw [he] at this
            cases this
          have hve : v k ≠ e := by
            intro z
            rw [← z] at he
            have := (nb_bit (fun i => b1 (u i) ||| b1 (v i)) p n (v k)).mpr ⟨k, by omega, hpk, end_v _ _⟩
            rw [he] at this
            cases this
          have h1 : grp u v p k (u k) ≠ e := fun z => hue (b _ z)
          have h2 : grp u v p k (v k) ≠ e := fun z => hve (b _ z)
          unfold mg
          refine ⟨by rw [if_neg (by rw [a]; exact fun z => h1 z.symm)]; exact a, fun x hx => ?_⟩
          split at hx
          · exact absurd hx h2
          · exact b x hx
        · exact ⟨a, b⟩
    have hlab : grp u v p n (u i) < 16 := grp_lt hu p n (Nat.le_refl _) _ (hu i hin).1
    have hbit : (nb (fun i => b1 (u i) ||| b1 (v i)) p n).testBit (grp u v p n (u i)) = true := by
      cases q : (nb (fun i => b1 (u i) ||| b1 (v i)) p n).testBit (grp u v p n (u i))
      · have := (out n (Nat.le_refl _) _ q).2 (u i) rfl
        rw [← this] at q
        have := (nb_bit (fun i => b1 (u i) ||| b1 (v i)) p n (u i)).mpr ⟨i, hin, hi, end_u _ _⟩
        rw [q] at this
        cases this
      · rfl
    have hsub : sb (df (2 ^ 16 - 1) (df (nb (fun i => b1 (u i) ||| b1 (v i)) p n) (b1 (grp u v p n (u i))))) (fm u v p n) := by
      intro x hx
      rw [df_bit, Nat.testBit_two_pow_sub_one, df_bit, b1_bit] at hx
      simp at hx
      refine (fm_bit p n x).mpr ⟨hx.1, ?_⟩
      cases q : (nb (fun i => b1 (u i) ||| b1 (v i)) p n).testBit x
      · exact (out n (Nat.le_refl _) x q).1
      · have := hx.2.resolve_left (by rw [q]; simp)
        rw [← this]
        exact grp_idem hu p n (Nat.le_refl _) _ (hu i hin).1
    have b1' := bc_mono hsub
    have hsb2 : sb (df (nb (fun i => b1 (u i) ||| b1 (v i)) p n) (b1 (grp u v p n (u i)))) (2 ^ 16 - 1) := by
      intro x hx
      rw [Nat.testBit_two_pow_sub_one]
      simp
      exact bit_lt (sb_lt (sb_df _ _) hN) hx
    have b2 := bc_df hsb2
    have b3 := bc_sub hlab hbit
    rw [bc_full] at b2
    omega
  · intro h k hk hsk e
    -- the first step that fails
    have key : ∀ k, k < n → s.testBit k = true → grp u v s k (u k) = grp u v s k (v k) → fine u v s k → False := by
      intro k hk hsk e hf
      have huk := hu k hk
      let t := mk (fun i => s.testBit i && decide (grp u v s k (u i) = grp u v s k (u k))) k
      have ht : ∀ i, t.testBit i = true ↔ i < k ∧ s.testBit i = true ∧ grp u v s k (u i) = grp u v s k (u k) := by
        intro i
        show (mk _ k).testBit i = true ↔ _
        rw [mk_bit]
        simp
      have hts : sb t s := fun i hi => ((ht i).mp hi).2.1
      have htk : t < 2 ^ k := mk_lt _ _
      have htn : t < 2 ^ n := sb_lt hts hs
      let C := mk (fun x => decide (grp u v s k x = grp u v s k (u k))) 16
      have hC : ∀ x, C.testBit x = true ↔ x < 16 ∧ grp u v s k x = grp u v s k (u k) := by
        intro x
        show (mk _ 16).testBit x = true ↔ _
        rw [mk_bit]
        simp
      have hC16 : C < 2 ^ 16 := mk_lt _ _
      have conn : ∀ x, C.testBit x = true → grp u v t k x = grp u v t k (u k) := by
        intro x hx
        have := grp_ker (q := fun x => if grp u v s k x = grp u v s k (u k) then (true, grp u v t k x) else (false, grp u v s k x)) s k (fun i hi hsi => by
          have he := grp_edge (u := u) (v := v) s k i hi hsi
          by_cases q : grp u v s k (u i) = grp u v s k (u k)
          · rw [if_pos q, if_pos (by rw [← he]; exact q), grp_edge t k i hi ((ht i).mpr ⟨hi, hsi, q⟩)]
          · rw [if_neg q, if_neg (by rw [← he]; exact q), he]) ((hC x).mp hx).2
        rw [if_pos ((hC x).mp hx).2, if_pos rfl] at this
        exact (Prod.mk.inj this).2
      have hfc := (fm_count hu t k (by omega)).2.mp (fine_sub hf hts)
      rw [bcn_n (by omega) htk] at hfc
      have h1 : bc (fm u v t k &&& C) ≤ 1 := by
        have : sb (fm u v t k &&& C) (b1 (grp u v t k (u k))) := by
          intro x hx
          rw [Nat.testBit_and] at hx
          simp at hx
          have a := ((fm_bit t k x).mp hx.1).2
          rw [conn x hx.2] at a
          rw [b1_bit]
          simp
          exact a
        have := bc_mono this
        rw [bc_one (grp_lt hu t k (by omega) _ huk.1)] at this
        exact this
      have h2 : bc (df (fm u v t k) C) + bc C ≤ 16 := bc_compl hC16 (and0.mpr fun x hx => by
        rw [df_bit] at hx
        simp at hx
        exact hx.2) (sb_lt (sb_df _ _) (fm_lt t k))
      have h3 := bc_df (sb_and_l (fm u v t k) C)
      have e3 : df (fm u v t k) (fm u v t k &&& C) = df (fm u v t k) C := by
        apply Nat.eq_of_testBit_eq
        intro j
        rw [df_bit, df_bit, Nat.testBit_and]
        cases (fm u v t k).testBit j <;> cases C.testBit j <;> rfl
      rw [e3] at h3
      have htkk : t.testBit k = false := by
        cases q : t.testBit k
        · rfl
        · have := (ht k).mp q; omega
      have hb := bc_add (s := t) (i := k) (by omega) htkk
      have h4 := h (t ||| b1 k) (sb_or hts (sb_b1.mpr hsk)) (fun z => by
        have : (t ||| b1 k).testBit k = true := by rw [Nat.testBit_or, b1_bit]; simp
        rw [z] at this
        simp at this)
      have h5 : sb (nb (fun i => b1 (u i) ||| b1 (v i)) (t ||| b1 k) n) C := by
        intro x hx
        obtain ⟨j, j1, j2, j3⟩ := (nb_bit _ _ n x).mp hx
        rw [Nat.testBit_or, b1_bit] at j2
        rw [Nat.testBit_or, b1_bit, b1_bit] at j3
        simp at j2 j3
        have huj := hu j j1
        have lab : grp u v s k (u j) = grp u v s k (u k) ∧ grp u v s k (v j) = grp u v s k (u k) := by
          rcases j2 with z | z
          · have := (ht j).mp z
            exact ⟨this.2.2, by rw [← grp_edge (u := u) (v := v) s k j this.1 this.2.1]; exact this.2.2⟩
          · subst z; exact ⟨rfl, e.symm⟩
        rcases j3 with z | z
        · subst z; exact (hC _).mpr ⟨huj.1, lab.1⟩
        · subst z; exact (hC _).mpr ⟨huj.2, lab.2⟩
      have := bc_mono h5
      omega
    have upto : ∀ m, m ≤ n → fine u v s m := by
      intro m
      induction m with
      | zero => intro _ i hi; omega
      | succ m ih =>
        intro hm i hi hsi he
        by_cases q : i = m
        · subst q
          exact key i (by omega) hsi he (ih (by omega))
        · exact ih (by omega) i (by omega) hsi he
    exact upto n (Nat.le_refl _) k hk hsk e
end EG
