/-! told: the sets, in their order -/
theorem cnt_s (G : Nat → Bool) (s : Nat) : cnt G (s + 1) = if G s = true then cnt G s + 1 else cnt G s := rfl
theorem cnt_mono {G : Nat → Bool} {a b : Nat} (h : a ≤ b) : cnt G a ≤ cnt G b := by
  induction b with
  | zero => have : a = 0 := by omega
            subst this; exact Nat.le_refl _
  | succ b ih =>
    by_cases e : a = b + 1
    · subst e; exact Nat.le_refl _
    · have := ih (by omega)
      rw [cnt_s]
      by_cases q : G b = true
      · rw [if_pos q]; omega
      · rw [if_neg q]; exact this
theorem cnt_lt {G : Nat → Bool} {a b : Nat} (h : a < b) (g : G a = true) : cnt G a < cnt G b := by
  have h1 : cnt G (a + 1) = cnt G a + 1 := by rw [cnt_s, if_pos g]
  have h2 := cnt_mono (G := G) (show a + 1 ≤ b from h)
  omega
theorem cnt_ex {G : Nat → Bool} {i : Nat} : ∀ N, i < cnt G N → ∃ t, t < N ∧ G t = true ∧ cnt G t = i := by
  intro N
  induction N with
  | zero => intro h; exact absurd h (Nat.not_lt_zero i)
  | succ N ih =>
    intro h
    by_cases q : i < cnt G N
    · obtain ⟨t, t1, t2, t3⟩ := ih q
      exact ⟨t, by omega, t2, t3⟩
    · rw [cnt_s] at h
      by_cases g : G N = true
      · rw [if_pos g] at h
        exact ⟨N, by omega, g, by omega⟩
      · rw [if_neg g] at h; exact absurd h q
theorem cnt_or {G H : Nat → Bool} {a : Nat} (h : ∀ s, H s = true → G s = true ∨ s = a) : ∀ N, cnt H N ≤ cnt G N + (if a < N then 1 else 0) := by
  intro N
  induction N with
  | zero => exact Nat.zero_le _
  | succ N ih =>
    rw [cnt_s, cnt_s]
    by_cases q : H N = true
    · rw [if_pos q]
      rcases h N q with g | g
      · rw [if_pos g]
        by_cases z : a < N
        · rw [if_pos z] at ih; rw [if_pos (by omega)]; omega
        · rw [if_neg z] at ih; omega
      · subst g
        rw [if_neg (Nat.lt_irrefl N)] at ih
        rw [if_pos (Nat.lt_succ_self N)]
        by_cases g : G N = true
        · rw [if_pos g]; omega
        · rw [if_neg g]; omega
    · rw [if_neg q]
      have : cnt G N ≤ (if G N = true then cnt G N + 1 else cnt G N) := by
        by_cases g : G N = true
        · rw [if_pos g]; omega
        · rw [if_neg g]; exact Nat.le_refl _
      by_cases z : a < N
      · have e1 : (if a < N + 1 then 1 else 0) = 1 := if_pos (by omega)
        rw [if_pos z] at ih; rw [e1]; omega
      · rw [if_neg z] at ih; omega
/-- told so far -/
def tB (X : Nat → Int64) (m s : Nat) : Bool := (List.range m).any (fun t => decide (vl X (t + 1) = s))
theorem tB_iff {X : Nat → Int64} {m s : Nat} : tB X m s = true ↔ ∃ t, t < m ∧ vl X (t + 1) = s := by
  unfold tB
  rw [List.any_eq_true]
  constructor
  · rintro ⟨t, t1, t2⟩; exact ⟨t, List.mem_range.mp t1, of_decide_eq_true t2⟩
  · rintro ⟨t, t1, t2⟩; exact ⟨t, List.mem_range.mpr t1, decide_eq_true t2⟩
theorem tB_s {X : Nat → Int64} {m s : Nat} : tB X (m + 1) s = (tB X m s || decide (vl X (m + 1) = s)) := by
  apply beq_of
  rw [Bool.or_eq_true, tB_iff, tB_iff, decide_eq_true_iff]
  constructor
  · rintro ⟨t, t1, t2⟩
    by_cases z : t = m
    · subst z; exact Or.inr t2
    · exact Or.inl ⟨t, by omega, t2⟩
  · rintro (⟨t, t1, t2⟩ | z)
    · exact ⟨t, by omega, t2⟩
    · exact ⟨m, by omega, z⟩
theorem tB_cnt (X : Nat → Int64) (N : Nat) : ∀ m, cnt (tB X m) N ≤ m := by
  intro m
  induction m with
  | zero =>
    have : ∀ N, cnt (tB X 0) N = 0 := by
      intro N
      induction N with
      | zero => rfl
      | succ N ih => rw [cnt_s, if_neg (by rw [tB_iff]; rintro ⟨t, t1, -⟩; omega)]; exact ih
    rw [this N]; exact Nat.le_refl _
  | succ m ih =>
    have := cnt_or (G := tB X m) (H := tB X (m + 1)) (a := vl X (m + 1)) (fun s hs => by
      rw [tB_s, Bool.or_eq_true, decide_eq_true_iff] at hs
      exact hs.imp id (fun z => z.symm)) N
    by_cases z : vl X (m + 1) < N
    · rw [if_pos z] at this; omega
    · rw [if_neg z] at this; omega
def mks (N : pm_M) (G : Nat → Bool) : Prop := ∀ s, s < 4096 → lb (mL N 7 (s / 64)) (s % 64) = G s
theorem nI_63 (s : Nat) : nI s &&& 63 = nI (s % 64) := by
  rw [show (63 : Int32) = nI 63 from rfl, nI_and]
  congr 1
  exact Nat.and_two_pow_sub_one_eq_mod s 6
theorem nI_s6 {s : Nat} (h : s < 2 ^ 31) : nI s >>> ((6 : Int32) &&& 31) = nI (s / 64) := nI_shr (e := 6) h (by decide)
theorem c_x7 {M : pm_M} {G : Nat → Bool} (hl : lay M) (hm : mks M G) {s : Nat} (hs : s < 4096) {Post : Int32 → Prop} (k : Post (bI (G s))) : w_X7_fits 6 (nI s) M Post := by
  unfold w_X7_fits w_X7_fits_36 w_X7_fits_37
  refine bf (nI_pos (by omega)) (bf (nI_ge (b := 4096) hs (by decide)) ⟨7, lr_6_0 hl, ?_⟩)
  rw [nI_s6 (by omega), nI_63, nI_clamp (by omega), ln_7 hl, lg_cmp_eq, lb_get _ (by omega), hm s hs]
  refine ⟨vp_in_nI (by omega) (by decide), ?_⟩
  cases e : G s with
  | true => rw [e] at k; exact ⟨fun q => absurd q (by decide), fun _ => ⟨Or.inr rfl, k⟩⟩
  | false => rw [e] at k; exact ⟨fun _ => ⟨Or.inl rfl, k⟩, fun q => absurd rfl q⟩
theorem mks_of {M M' : pm_M} {G : Nat → Bool} (h : mks M G) (e : ∀ k, mL M' 7 k = mL M 7 k) : mks M' G := fun s hs => by rw [e]; exact h s hs
theorem cok_x7 {M : pm_M} {n r : Nat} {w : Nat → Nat} {A : Nat → Nat → Bool} {c : Nat} {Q P : Nat → Nat} {G : Nat → Bool} (h : iv M n r w A c Q P) (hm : mks M G) : cok M n r c Q P G 6 (fun _ _ => True) := by
  have hp := iv_p h
  refine cok_fix h (fun M' l' ha hT s s1 hs pt K9 k => ?_) (by decide)
  have t6 : mT M' 6 = 6 := hT.trans h.1.2.2.2.1
  refine ⟨fun e => ?_, fun e => ?_, fun e => ?_, fun _ => ?_, fun e => ?_⟩
  · rw [t6] at e; cases e
  · rw [t6] at e; cases e
  · rw [t6] at e; cases e
  · exact c_x7 l' (mks_of hm (fun k => (ha 7 k (by decide) (by unfold ft; omega) (by decide)).2)) (by omega) k
  · rw [t6] at e; cases e
/-- parts, upwards -/
theorem df_add : ∀ (t x : Nat), sb x t → df t x + x = t := by
  intro t
  induction t using Nat.strongRecOn with
  | _ t ih =>
    intro x hx
    by_cases t0 : t = 0
    · subst t0
      have := sb_le hx
      have : x = 0 := by omega
      subst this
      rw [df_0]
    · have hh : sb (x / 2) (t / 2) := fun i hi => by
        rw [Nat.testBit_div_two] at *
        exact hx _ hi
      have h1 := ih (t / 2) (by omega) (x / 2) hh
      have h2 : df t x / 2 = df (t / 2) (x / 2) := by
        apply Nat.eq_of_testBit_eq
        intro i
        rw [Nat.testBit_div_two, df_bit, df_bit, Nat.testBit_div_two, Nat.testBit_div_two]
      have odd : ∀ y : Nat, y % 2 = if y.testBit 0 = true then 1 else 0 := fun y => by
        rw [Nat.testBit_zero]
        by_cases z : y % 2 = 1
        · rw [z]; simp
        · have : y % 2 = 0 := by omega
          rw [this]; simp
      have a := odd t
      have b := odd x
      have c := odd (df t x)
      rw [df_bit] at c
      have d := hx 0
      cases e1 : t.testBit 0 <;> cases e2 : x.testBit 0 <;> simp [e1, e2] at a b c d <;> omega
def nxp (t p : Nat) : Nat := df t (df t p - 1)
theorem nxp_sb (t p : Nat) : sb (nxp t p) t := sb_df _ _
theorem nxp_e {t p : Nat} (hp : sb p t) : nxp t p + ((df t p - 1) &&& t) = t := by
  have : nxp t p = df t ((df t p - 1) &&& t) := by
    unfold nxp
    apply Nat.eq_of_testBit_eq
    intro i
    rw [df_bit, df_bit, Nat.testBit_and]
    cases t.testBit i <;> cases (df t p - 1).testBit i <;> rfl
  rw [this]
  exact df_add t _ (sb_and_r _ _)
theorem nxp_lt {t p : Nat} (hp : sb p t) (h : p ≠ t) : p < nxp t p := by
  have a := df_add t p hp
  have b := nxp_e hp
  have c := prev_lt (p := df t p) (u := t) (by omega)
  omega
theorem nxp_le {t p q : Nat} (hp : sb p t) (hq : sb q t) (h : p < q) : nxp t p ≤ q := by
  have a := df_add t p hp
  have b := nxp_e hp
  have c := df_add t q hq
  have d := part_prev t (df t p) (df t q) (sb_df _ _) (sb_df _ _) (by omega)
  omega
theorem nI_nxp {t p : Nat} (ht : t < 4096) (hp : sb p t) (h : p ≠ t) : (nI p - nI t) &&& nI t = nI (nxp t p) := by
  have a := df_add t p hp
  have e : nI p - nI t = nI (df t p - 1) ^^^ (-1) := by
    apply Int32.toBitVec_inj.1
    show BitVec.ofNat 32 p - BitVec.ofNat 32 t = BitVec.ofNat 32 (df t p - 1) ^^^ (-1 : Int32).toBitVec
    have h1 : (-1 : Int32).toBitVec = BitVec.allOnes 32 := by decide
    rw [h1, BitVec.xor_allOnes]
    apply BitVec.eq_of_toNat_eq
    rw [BitVec.toNat_sub, BitVec.toNat_not, BitVec.toNat_ofNat, BitVec.toNat_ofNat, BitVec.toNat_ofNat]
    omega
  rw [e, Int32.and_comm, nI_inv]
  rfl
theorem lpu {σ : Type} (L : Nat → σ → Nat → Prop) (t : Nat) (I : Nat → σ → Prop)
    (hs : ∀ k p s, sb p t → p ≠ t → I p s → (∀ s', I (nxp t p) s' → L k s' (nxp t p)) → L (k + 1) s p)
    (he : ∀ k s, I t s → L (k + 1) s t) : ∀ (d p : Nat), t - p ≤ d → sb p t → ∃ k, ∀ s, I p s → L k s p := by
  intro d
  induction d with
  | zero =>
    intro p hd hp
    have := sb_le hp
    have : p = t := by omega
    subst this
    exact ⟨1, fun s h => he 0 s h⟩
  | succ d ih =>
    intro p hd hp
    by_cases e : p = t
    · subst e
      exact ⟨1, fun s h => he 0 s h⟩
    · have lt := nxp_lt hp e
      obtain ⟨k, hk⟩ := ih (nxp t p) (by omega) (nxp_sb t p)
      exact ⟨k + 1, fun s h => hs k p s hp e h hk⟩
