/-! the pure memory: what is read after a write; what a run keeps; the fixed cells; loops -/
theorem mI_sI (M : pm_M) (a k : Nat) (v : Int32) (b j : Nat) : mI (sI M a k v) b j = if b = a ∧ j = k then v else mI M b j := rfl
theorem mL_sI (M : pm_M) (a k : Nat) (v : Int32) : mL (sI M a k v) = mL M := rfl
theorem mR_sI (M : pm_M) (a k : Nat) (v : Int32) : mR (sI M a k v) = mR M := rfl
theorem mT_sI (M : pm_M) (a k : Nat) (v : Int32) : mT (sI M a k v) = mT M := rfl
theorem mN_sI (M : pm_M) (a k : Nat) (v : Int32) : mN (sI M a k v) = mN M := rfl
theorem mZ_sI (M : pm_M) (a k : Nat) (v : Int32) : mZ (sI M a k v) = mZ M := rfl
theorem mI_sL (M : pm_M) (a k : Nat) (v : Int64) : mI (sL M a k v) = mI M := rfl
theorem mL_sL (M : pm_M) (a k : Nat) (v : Int64) (b j : Nat) : mL (sL M a k v) b j = if b = a ∧ j = k then v else mL M b j := rfl
theorem mR_sL (M : pm_M) (a k : Nat) (v : Int64) : mR (sL M a k v) = mR M := rfl
theorem mT_sL (M : pm_M) (a k : Nat) (v : Int64) : mT (sL M a k v) = mT M := rfl
theorem mN_sL (M : pm_M) (a k : Nat) (v : Int64) : mN (sL M a k v) = mN M := rfl
theorem mZ_sL (M : pm_M) (a k : Nat) (v : Int64) : mZ (sL M a k v) = mZ M := rfl
theorem mI_sR (M : pm_M) (a k : Nat) (v : Option Nat) : mI (sR M a k v) = mI M := rfl
theorem mL_sR (M : pm_M) (a k : Nat) (v : Option Nat) : mL (sR M a k v) = mL M := rfl
theorem mR_sR (M : pm_M) (a k : Nat) (v : Option Nat) (b j : Nat) : mR (sR M a k v) b j = if b = a ∧ j = k then v else mR M b j := rfl
theorem mT_sR (M : pm_M) (a k : Nat) (v : Option Nat) : mT (sR M a k v) = mT M := rfl
theorem mN_sR (M : pm_M) (a k : Nat) (v : Option Nat) : mN (sR M a k v) = mN M := rfl
theorem mZ_sR (M : pm_M) (a k : Nat) (v : Option Nat) : mZ (sR M a k v) = mZ M := rfl
theorem mI_sN (M : pm_M) (t n b j : Nat) : mI (sN M t n) b j = if b = mZ M then 0 else mI M b j := rfl
theorem mL_sN (M : pm_M) (t n b j : Nat) : mL (sN M t n) b j = if b = mZ M then 0 else mL M b j := rfl
theorem mR_sN (M : pm_M) (t n b j : Nat) : mR (sN M t n) b j = if b = mZ M then none else mR M b j := rfl
theorem mT_sN (M : pm_M) (t n b : Nat) : mT (sN M t n) b = if b = mZ M then t else mT M b := rfl
theorem mN_sN (M : pm_M) (t n b : Nat) : mN (sN M t n) b = if b = mZ M then n else mN M b := rfl
theorem mZ_sN (M : pm_M) (t n : Nat) : mZ (sN M t n) = mZ M + 1 := rfl
/-- kept, but at the places of P -/
def kp (P : Nat → Nat → Prop) (M M' : pm_M) : Prop := mZ M ≤ mZ M' ∧ (∀ a, a < mZ M → mT M' a = mT M a ∧ mN M' a = mN M a) ∧ ∀ a k, a < mZ M → ¬ P a k → mI M' a k = mI M a k ∧ mL M' a k = mL M a k ∧ mR M' a k = mR M a k
theorem kp_rf (P : Nat → Nat → Prop) (M : pm_M) : kp P M M := ⟨Nat.le_refl _, fun _ _ => ⟨rfl, rfl⟩, fun _ _ _ _ => ⟨rfl, rfl, rfl⟩⟩
theorem kp_tr {P : Nat → Nat → Prop} {M M' M'' : pm_M} (h : kp P M M') (g : kp P M' M'') : kp P M M'' :=
  ⟨Nat.le_trans h.1 g.1, fun a ha => ⟨((g.2.1 a (Nat.lt_of_lt_of_le ha h.1)).1).trans (h.2.1 a ha).1, ((g.2.1 a (Nat.lt_of_lt_of_le ha h.1)).2).trans (h.2.1 a ha).2⟩, fun a k ha hn => by
    have h1 := h.2.2 a k ha hn
    have h2 := g.2.2 a k (Nat.lt_of_lt_of_le ha h.1) hn
    exact ⟨h2.1.trans h1.1, h2.2.1.trans h1.2.1, h2.2.2.trans h1.2.2⟩⟩
theorem kp_mono {P Q : Nat → Nat → Prop} {M M' : pm_M} (h : kp P M M') (g : ∀ a k, P a k → Q a k) : kp Q M M' :=
  ⟨h.1, h.2.1, fun a k ha hn => h.2.2 a k ha (fun q => hn (g a k q))⟩
theorem kp_sI {P : Nat → Nat → Prop} {M M' : pm_M} {a k : Nat} {v : Int32} (h : kp P M M') (hp : P a k) : kp P M (sI M' a k v) :=
  kp_tr h ⟨Nat.le_refl _, fun _ _ => ⟨rfl, rfl⟩, fun b j _ hn => ⟨(mI_sI _ _ _ _ _ _).trans (if_neg (fun e : b = a ∧ j = k => hn (by rw [e.1, e.2]; exact hp))), rfl, rfl⟩⟩
theorem kp_sL {P : Nat → Nat → Prop} {M M' : pm_M} {a k : Nat} {v : Int64} (h : kp P M M') (hp : P a k) : kp P M (sL M' a k v) :=
  kp_tr h ⟨Nat.le_refl _, fun _ _ => ⟨rfl, rfl⟩, fun b j _ hn => ⟨rfl, (mL_sL _ _ _ _ _ _).trans (if_neg (fun e : b = a ∧ j = k => hn (by rw [e.1, e.2]; exact hp))), rfl⟩⟩
theorem kp_sR {P : Nat → Nat → Prop} {M M' : pm_M} {a k : Nat} {v : Option Nat} (h : kp P M M') (hp : P a k) : kp P M (sR M' a k v) :=
  kp_tr h ⟨Nat.le_refl _, fun _ _ => ⟨rfl, rfl⟩, fun b j _ hn => ⟨rfl, rfl, (mR_sR _ _ _ _ _ _).trans (if_neg (fun e : b = a ∧ j = k => hn (by rw [e.1, e.2]; exact hp)))⟩⟩
theorem kp_sN {P : Nat → Nat → Prop} {M M' : pm_M} {t n : Nat} (h : kp P M M') : kp P M (sN M' t n) :=
  kp_tr h ⟨Nat.le_succ _, fun a ha => ⟨if_neg (Nat.ne_of_lt ha), if_neg (Nat.ne_of_lt ha)⟩, fun b j hb _ => ⟨if_neg (Nat.ne_of_lt hb), if_neg (Nat.ne_of_lt hb), if_neg (Nat.ne_of_lt hb)⟩⟩
theorem kp_sC {P : Nat → Nat → Prop} {M M' : pm_M} {a i b j n : Nat} (h : kp P M M') (hp : ∀ k, P b k) : kp P M (sC M' a i b j n) :=
  kp_tr h ⟨Nat.le_refl _, fun _ _ => ⟨rfl, rfl⟩, fun d k _ hn => ⟨rfl, by
    show (if d = b then va_cpy (mL M' a) (mL M' b) i j n else mL M' d) k = mL M' d k
    rw [if_neg (fun e : d = b => hn (by rw [e]; exact hp k))], rfl⟩⟩
/-- a loop that goes up -/
theorem lp {σ : Type} (L : Nat → σ → Nat → Prop) (N : Nat) (I : Nat → σ → Prop)
    (hs : ∀ k i s, i < N → I i s → (∀ s', I (i + 1) s' → L k s' (i + 1)) → L (k + 1) s i)
    (he : ∀ k s, I N s → L (k + 1) s N) : ∀ (i : Nat) (s : σ), i ≤ N → I i s → L (N - i + 1) s i := by
  have key : ∀ d i s, i + d = N → I i s → L (d + 1) s i := by
    intro d
    induction d with
    | zero =>
      intro i s e h
      have e1 : i = N := by omega
      subst e1
      exact he _ _ h
    | succ d ih =>
      intro i s e h
      exact hs _ _ _ (by omega) h (fun s' h' => ih (i + 1) s' (by omega) h')
  intro i s hi h
  exact key (N - i) i s (by omega) h
/-- a loop that goes down: the places N - 1 .. 0 -/
theorem lpd {σ : Type} (L : Nat → σ → Nat → Prop) (I : Nat → σ → Prop)
    (hs : ∀ k i s, I (i + 1) s → (∀ s', I i s' → L k s' i) → L (k + 1) s (i + 1))
    (he : ∀ k s, I 0 s → L (k + 1) s 0) : ∀ (i : Nat) (s : σ), I i s → L (i + 1) s i := by
  intro i
  induction i with
  | zero => exact fun s h => he _ _ h
  | succ i ih => exact fun s h => hs _ _ _ h (fun s' h' => ih s' h')
def bI (b : Bool) : Int32 := if b = true then 1 else 0
theorem bI_t : bI true = 1 := rfl
theorem bI_f : bI false = 0 := rfl
theorem bI_01 (b : Bool) : bI b = 0 ∨ bI b = 1 := by cases b <;> decide
theorem bI_0 (b : Bool) : bI b = 0 ↔ b = false := by cases b <;> decide
theorem bI_1 (b : Bool) : bI b = 1 ↔ b = true := by cases b <;> decide
theorem bI_e (a b : Bool) : bI a = bI b ↔ a = b := by cases a <;> cases b <;> decide
theorem b0 {b : Bool} {A B : Prop} (h1 : b = true → A) (h2 : b = false → B) : (bI b = 0 → B) ∧ (¬ bI b = 0 → A) :=
  ⟨fun h => h2 ((bI_0 b).mp h), fun h => h1 (by cases b with | true => rfl | false => exact absurd rfl h)⟩
theorem b0' {b : Bool} {A B : Prop} (h1 : b = true → A) (h2 : b = false → B) : (¬ bI b = 0 → A) ∧ (bI b = 0 → B) := ⟨(b0 h1 h2).2, (b0 h1 h2).1⟩
theorem sw {A B : Prop} (h : A ∧ B) : B ∧ A := ⟨h.2, h.1⟩
theorem bt {c A B : Prop} (h : c) (k : A) : (c → A) ∧ (¬ c → B) := ⟨fun _ => k, fun n => absurd h n⟩
theorem bf {c A B : Prop} (h : ¬ c) (k : B) : (c → A) ∧ (¬ c → B) := ⟨fun n => absurd n h, fun _ => k⟩
theorem bt' {c A B : Prop} (h : c) (k : A) : (¬ c → B) ∧ (c → A) := ⟨fun n => absurd h n, fun _ => k⟩
theorem bf' {c A B : Prop} (h : ¬ c) (k : B) : (¬ c → B) ∧ (c → A) := ⟨fun _ => k, fun n => absurd n h⟩
theorem nI_z {k : Nat} (h : k < 2 ^ 31) : nI k = 0 ↔ k = 0 := nI_eq (b := 0) h (by decide)
theorem nI_n {k : Nat} (h : k < 2 ^ 31) : nI k < 0 ↔ False := ⟨fun q => nI_pos h q, False.elim⟩
theorem w_max {a b : Nat} {M : pm_M} {Post : Int32 → Prop} (ha : a < 2 ^ 31) (hb : b < 2 ^ 31) (h : Post (nI (max a b))) : w_J9_max_7cf53 (nI a) (nI b) M Post := by
  unfold w_J9_max_7cf53 w_J9_max_7cf53_10
  by_cases q : a < b
  · rw [Nat.max_eq_right (by omega)] at h
    exact bt (nI_lt q hb) h
  · rw [Nat.max_eq_left (by omega)] at h
    exact bf (nI_nlt (by omega) ha) h
theorem w_min {a b : Nat} {M : pm_M} {Post : Int32 → Prop} (ha : a < 2 ^ 31) (hb : b < 2 ^ 31) (h : Post (nI (min a b))) : w_J9_min_7cf53 (nI a) (nI b) M Post := by
  unfold w_J9_min_7cf53 w_J9_min_7cf53_10
  by_cases q : b < a
  · rw [Nat.min_eq_right (by omega)] at h
    exact bt (nI_lt q ha) h
  · rw [Nat.min_eq_left (by omega)] at h
    exact bf (nI_nlt (by omega) hb) h
theorem w_bc {s : Nat} {M : pm_M} {Post : Int32 → Prop} (hs : s < 65536) (h : Post (nI (bc s))) : w_J6_bitCount_0f7a4 (nI s) M Post := w_bitCount (by rw [bcI_nI hs]; exact h)
theorem bc_16 (s : Nat) : bc s ≤ 16 := bcn_le 16 s
theorem p2_le {n : Nat} (hn : n ≤ 12) : 2 ^ n ≤ 4096 := Nat.pow_le_pow_right (by decide) hn
/-- the fixed cells -/
def sr (a k : Nat) : Option Nat :=
  if a = 0 then (if k = 0 then some 1 else if k = 1 then some 2 else if k = 2 then some 3 else if k = 3 then some 4 else if k = 4 then some 5 else if k = 5 then some 6 else if k = 6 then some 9 else if k = 7 then some 12 else if k = 8 then some 14 else none)
  else if a = 1 then (if k < 10 then some (42 + 2 * k) else none)
  else if a = 6 then (if k = 0 then some 7 else if k = 1 then some 8 else none)
  else if a = 9 then (if k = 0 then some 10 else if k = 1 then some 11 else none)
  else if a = 12 then (if k = 0 then some 13 else none)
  else if a = 14 then (if k = 0 then some 15 else if k = 1 then some 28 else if k = 2 then some 41 else none)
  else if a = 15 then (if k < 12 then some (16 + k) else none)
  else if a = 28 then (if k < 12 then some (29 + k) else none)
  else if 42 ≤ a ∧ a < 62 ∧ a % 2 = 0 then (if k = 0 then some (a + 1) else none)
  else if a = 62 then (if k = 2 then some 63 else if 4 ≤ k ∧ k ≤ 14 then some (60 + k) else if 18 ≤ k ∧ k ≤ 25 then some (57 + k) else none)
  else none
def sn (a : Nat) : Nat :=
  if a = 1 then 10 else if a = 2 then 24 else if a = 3 ∨ a = 4 then 12 else if a = 7 then 64 else if a = 8 then 150
  else if a = 10 ∨ a = 11 then 40 else if a = 13 then 12 else if a = 15 then 12 else if 16 ≤ a ∧ a < 28 then 6 else if a = 28 then 12 else if 29 ≤ a ∧ a < 41 then 6 else if a = 41 then 12
  else if 42 ≤ a ∧ a < 62 ∧ a % 2 = 1 then 200
  else if a = 63 then 12 else if a = 64 ∨ a = 65 then 98304 else if 66 ≤ a ∧ a < 70 then 24 else if a = 70 then 3 else if a = 71 ∨ a = 72 then 10
  else if a = 73 then 2000 else if 74 ≤ a ∧ a < 77 then 200 else if a = 77 then 16 else if a = 78 ∨ a = 79 then 72 else if a = 80 then 4096 else if a = 81 ∨ a = 82 then 12
  else 0
def lay (M : pm_M) : Prop := 83 ≤ mZ M ∧ (∀ a k b, sr a k = some b → mR M a k = some b) ∧ (∀ a, a < 83 → mN M a = sn a) ∧ mT M 6 = 6 ∧ mT M 9 = 0 ∧ mT M 12 = 2 ∧ mT M 14 = 7
theorem lay_kp {P : Nat → Nat → Prop} {M M' : pm_M} (h : lay M) (hk : kp P M M') (hp : ∀ a k, P a k → a < 83 → sr a k = none) : lay M' := by
  obtain ⟨hz, hr, hn, t1, t2, t3, t4⟩ := h
  have lt : ∀ a, a < 83 → a < mZ M := fun a ha => Nat.lt_of_lt_of_le ha hz
  have tt : ∀ a, a < 83 → mT M' a = mT M a := fun a ha => (hk.2.1 a (lt a ha)).1
  refine ⟨Nat.le_trans hz hk.1, fun a k b e => ?_, fun a ha => ((hk.2.1 a (lt a ha)).2).trans (hn a ha), (tt 6 (by decide)).trans t1, (tt 9 (by decide)).trans t2, (tt 12 (by decide)).trans t3, (tt 14 (by decide)).trans t4⟩
  have ha : a < 83 := by
    by_cases q : a < 63
    · omega
    · exfalso
      have : sr a k = none := by
        unfold sr
        rw [if_neg (by omega), if_neg (by omega), if_neg (by omega), if_neg (by omega), if_neg (by omega), if_neg (by omega), if_neg (by omega), if_neg (by omega), if_neg (by omega), if_neg (by omega)]
      rw [this] at e
      exact absurd e (by simp)
  have hnp : ¬ P a k := fun q => by
    rw [hp a k q ha] at e
    exact absurd e (by simp)
  rw [(hk.2.2 a k (lt a ha) hnp).2.2]
  exact hr a k b e
theorem lr_0_0 {M : pm_M} (h : lay M) : mR M 0 0 = some 1 := h.2.1 0 0 1 rfl
theorem lr_0_1 {M : pm_M} (h : lay M) : mR M 0 1 = some 2 := h.2.1 0 1 2 rfl
theorem lr_0_2 {M : pm_M} (h : lay M) : mR M 0 2 = some 3 := h.2.1 0 2 3 rfl
theorem lr_0_3 {M : pm_M} (h : lay M) : mR M 0 3 = some 4 := h.2.1 0 3 4 rfl
theorem lr_0_4 {M : pm_M} (h : lay M) : mR M 0 4 = some 5 := h.2.1 0 4 5 rfl
theorem lr_0_5 {M : pm_M} (h : lay M) : mR M 0 5 = some 6 := h.2.1 0 5 6 rfl
theorem lr_0_6 {M : pm_M} (h : lay M) : mR M 0 6 = some 9 := h.2.1 0 6 9 rfl
theorem lr_0_7 {M : pm_M} (h : lay M) : mR M 0 7 = some 12 := h.2.1 0 7 12 rfl
theorem lr_0_8 {M : pm_M} (h : lay M) : mR M 0 8 = some 14 := h.2.1 0 8 14 rfl
theorem lr_6_0 {M : pm_M} (h : lay M) : mR M 6 0 = some 7 := h.2.1 6 0 7 rfl
theorem lr_6_1 {M : pm_M} (h : lay M) : mR M 6 1 = some 8 := h.2.1 6 1 8 rfl
theorem lr_9_0 {M : pm_M} (h : lay M) : mR M 9 0 = some 10 := h.2.1 9 0 10 rfl
theorem lr_9_1 {M : pm_M} (h : lay M) : mR M 9 1 = some 11 := h.2.1 9 1 11 rfl
theorem lr_12_0 {M : pm_M} (h : lay M) : mR M 12 0 = some 13 := h.2.1 12 0 13 rfl
theorem lr_14_0 {M : pm_M} (h : lay M) : mR M 14 0 = some 15 := h.2.1 14 0 15 rfl
theorem lr_14_1 {M : pm_M} (h : lay M) : mR M 14 1 = some 28 := h.2.1 14 1 28 rfl
theorem lr_14_2 {M : pm_M} (h : lay M) : mR M 14 2 = some 41 := h.2.1 14 2 41 rfl
theorem lr_62_2 {M : pm_M} (h : lay M) : mR M 62 2 = some 63 := h.2.1 62 2 63 rfl
theorem lr_62_4 {M : pm_M} (h : lay M) : mR M 62 4 = some 64 := h.2.1 62 4 64 rfl
theorem lr_62_5 {M : pm_M} (h : lay M) : mR M 62 5 = some 65 := h.2.1 62 5 65 rfl
theorem lr_62_6 {M : pm_M} (h : lay M) : mR M 62 6 = some 66 := h.2.1 62 6 66 rfl
theorem lr_62_7 {M : pm_M} (h : lay M) : mR M 62 7 = some 67 := h.2.1 62 7 67 rfl
theorem lr_62_8 {M : pm_M} (h : lay M) : mR M 62 8 = some 68 := h.2.1 62 8 68 rfl
theorem lr_62_9 {M : pm_M} (h : lay M) : mR M 62 9 = some 69 := h.2.1 62 9 69 rfl
theorem lr_62_10 {M : pm_M} (h : lay M) : mR M 62 10 = some 70 := h.2.1 62 10 70 rfl
theorem lr_62_11 {M : pm_M} (h : lay M) : mR M 62 11 = some 71 := h.2.1 62 11 71 rfl
theorem lr_62_12 {M : pm_M} (h : lay M) : mR M 62 12 = some 72 := h.2.1 62 12 72 rfl
theorem lr_62_13 {M : pm_M} (h : lay M) : mR M 62 13 = some 73 := h.2.1 62 13 73 rfl
theorem lr_62_14 {M : pm_M} (h : lay M) : mR M 62 14 = some 74 := h.2.1 62 14 74 rfl
theorem lr_62_18 {M : pm_M} (h : lay M) : mR M 62 18 = some 75 := h.2.1 62 18 75 rfl
theorem lr_62_19 {M : pm_M} (h : lay M) : mR M 62 19 = some 76 := h.2.1 62 19 76 rfl
theorem lr_62_20 {M : pm_M} (h : lay M) : mR M 62 20 = some 77 := h.2.1 62 20 77 rfl
theorem lr_62_21 {M : pm_M} (h : lay M) : mR M 62 21 = some 78 := h.2.1 62 21 78 rfl
theorem lr_62_22 {M : pm_M} (h : lay M) : mR M 62 22 = some 79 := h.2.1 62 22 79 rfl
theorem lr_62_23 {M : pm_M} (h : lay M) : mR M 62 23 = some 80 := h.2.1 62 23 80 rfl
theorem lr_62_24 {M : pm_M} (h : lay M) : mR M 62 24 = some 81 := h.2.1 62 24 81 rfl
theorem lr_62_25 {M : pm_M} (h : lay M) : mR M 62 25 = some 82 := h.2.1 62 25 82 rfl
theorem ln_1 {M : pm_M} (h : lay M) : mN M 1 = 10 := h.2.2.1 1 (by decide)
theorem ln_2 {M : pm_M} (h : lay M) : mN M 2 = 24 := h.2.2.1 2 (by decide)
theorem ln_3 {M : pm_M} (h : lay M) : mN M 3 = 12 := h.2.2.1 3 (by decide)
theorem ln_4 {M : pm_M} (h : lay M) : mN M 4 = 12 := h.2.2.1 4 (by decide)
theorem ln_7 {M : pm_M} (h : lay M) : mN M 7 = 64 := h.2.2.1 7 (by decide)
theorem ln_8 {M : pm_M} (h : lay M) : mN M 8 = 150 := h.2.2.1 8 (by decide)
theorem ln_10 {M : pm_M} (h : lay M) : mN M 10 = 40 := h.2.2.1 10 (by decide)
theorem ln_11 {M : pm_M} (h : lay M) : mN M 11 = 40 := h.2.2.1 11 (by decide)
theorem ln_13 {M : pm_M} (h : lay M) : mN M 13 = 12 := h.2.2.1 13 (by decide)
theorem ln_15 {M : pm_M} (h : lay M) : mN M 15 = 12 := h.2.2.1 15 (by decide)
theorem ln_28 {M : pm_M} (h : lay M) : mN M 28 = 12 := h.2.2.1 28 (by decide)
theorem ln_41 {M : pm_M} (h : lay M) : mN M 41 = 12 := h.2.2.1 41 (by decide)
theorem ln_63 {M : pm_M} (h : lay M) : mN M 63 = 12 := h.2.2.1 63 (by decide)
theorem ln_64 {M : pm_M} (h : lay M) : mN M 64 = 98304 := h.2.2.1 64 (by decide)
theorem ln_65 {M : pm_M} (h : lay M) : mN M 65 = 98304 := h.2.2.1 65 (by decide)
theorem ln_66 {M : pm_M} (h : lay M) : mN M 66 = 24 := h.2.2.1 66 (by decide)
theorem ln_67 {M : pm_M} (h : lay M) : mN M 67 = 24 := h.2.2.1 67 (by decide)
theorem ln_68 {M : pm_M} (h : lay M) : mN M 68 = 24 := h.2.2.1 68 (by decide)
theorem ln_69 {M : pm_M} (h : lay M) : mN M 69 = 24 := h.2.2.1 69 (by decide)
theorem ln_70 {M : pm_M} (h : lay M) : mN M 70 = 3 := h.2.2.1 70 (by decide)
theorem ln_71 {M : pm_M} (h : lay M) : mN M 71 = 10 := h.2.2.1 71 (by decide)
theorem ln_72 {M : pm_M} (h : lay M) : mN M 72 = 10 := h.2.2.1 72 (by decide)
theorem ln_73 {M : pm_M} (h : lay M) : mN M 73 = 2000 := h.2.2.1 73 (by decide)
theorem ln_74 {M : pm_M} (h : lay M) : mN M 74 = 200 := h.2.2.1 74 (by decide)
theorem ln_75 {M : pm_M} (h : lay M) : mN M 75 = 200 := h.2.2.1 75 (by decide)
theorem ln_76 {M : pm_M} (h : lay M) : mN M 76 = 200 := h.2.2.1 76 (by decide)
theorem ln_77 {M : pm_M} (h : lay M) : mN M 77 = 16 := h.2.2.1 77 (by decide)
theorem ln_78 {M : pm_M} (h : lay M) : mN M 78 = 72 := h.2.2.1 78 (by decide)
theorem ln_79 {M : pm_M} (h : lay M) : mN M 79 = 72 := h.2.2.1 79 (by decide)
theorem ln_80 {M : pm_M} (h : lay M) : mN M 80 = 4096 := h.2.2.1 80 (by decide)
theorem ln_81 {M : pm_M} (h : lay M) : mN M 81 = 12 := h.2.2.1 81 (by decide)
theorem ln_82 {M : pm_M} (h : lay M) : mN M 82 = 12 := h.2.2.1 82 (by decide)
theorem lr_sl {M : pm_M} (h : lay M) {k : Nat} (hk : k < 10) : mR M 1 k = some (42 + 2 * k) := h.2.1 1 k _ (if_pos hk)
theorem lr_sn {M : pm_M} (h : lay M) {k : Nat} (hk : k < 10) : mR M (42 + 2 * k) 0 = some (43 + 2 * k) := h.2.1 _ _ _ (by
  unfold sr
  rw [if_neg (by omega), if_neg (by omega), if_neg (by omega), if_neg (by omega), if_neg (by omega), if_neg (by omega), if_neg (by omega), if_neg (by omega), if_pos (by omega), if_pos rfl]
  congr 1
  omega)
theorem ln_sn {M : pm_M} (h : lay M) {k : Nat} (hk : k < 10) : mN M (43 + 2 * k) = 200 := (h.2.2.1 _ (by omega)).trans (by
  unfold sn
  rw [if_neg (by omega), if_neg (by omega), if_neg (by omega), if_neg (by omega), if_neg (by omega), if_neg (by omega), if_neg (by omega), if_neg (by omega), if_neg (by omega), if_neg (by omega), if_neg (by omega), if_neg (by omega), if_pos (by omega)])
theorem lr_vr {M : pm_M} (h : lay M) {k : Nat} (hk : k < 12) : mR M 15 k = some (16 + k) := h.2.1 15 k _ (if_pos hk)
theorem lr_vd {M : pm_M} (h : lay M) {k : Nat} (hk : k < 12) : mR M 28 k = some (29 + k) := h.2.1 28 k _ (if_pos hk)
theorem ln_vr {M : pm_M} (h : lay M) {k : Nat} (hk : k < 12) : mN M (16 + k) = 6 := (h.2.2.1 _ (by omega)).trans (by
  unfold sn
  rw [if_neg (by omega), if_neg (by omega), if_neg (by omega), if_neg (by omega), if_neg (by omega), if_neg (by omega), if_neg (by omega), if_neg (by omega), if_pos (by omega)])
theorem ln_vd {M : pm_M} (h : lay M) {k : Nat} (hk : k < 12) : mN M (29 + k) = 6 := (h.2.2.1 _ (by omega)).trans (by
  unfold sn
  rw [if_neg (by omega), if_neg (by omega), if_neg (by omega), if_neg (by omega), if_neg (by omega), if_neg (by omega), if_neg (by omega), if_neg (by omega), if_neg (by omega), if_neg (by omega), if_pos (by omega)])
theorem vi {i N : Nat} {X : Int32} (h : i < N) (e : X = nI i) (hN : N < 2 ^ 31) : vp_in X N := e ▸ vp_in_nI h hN
