/-! reading a row -/
def bnd (X : Nat → Int64) (sz lo hi T : Nat) : Bool := decide (T < sz) && (decide (lN lo ≤ X T) && decide (X T ≤ lN hi))
def vl (X : Nat → Int64) (T : Nat) : Nat := (X T).toInt32.toNatClampNeg
def fs (sz T : Nat) : Int32 := if T < sz then -4 else -6
/-- how it stands after T numbers -/
def sq (sz : Nat) (ok : Nat → Bool) : Nat → Int32
  | 0 => 0
  | T + 1 => if sq sz ok T = 0 then (if ok T = true then 0 else fs sz T) else sq sz ok T
theorem fs_ne (sz T : Nat) : ¬ fs sz T = 0 := by
  unfold fs
  by_cases q : T < sz
  · rw [if_pos q]; decide
  · rw [if_neg q]; decide
theorem sq_ok {sz : Nat} {ok : Nat → Bool} : ∀ T, sq sz ok T = 0 → ∀ t, t < T → ok t = true := by
  intro T
  induction T with
  | zero => intro _ t ht; omega
  | succ T ih =>
    intro h t ht
    unfold sq at h
    by_cases q : sq sz ok T = 0
    · rw [if_pos q] at h
      by_cases z : ok T = true
      · by_cases e : t = T
        · subst e; exact z
        · exact ih q t (by omega)
      · rw [if_neg z] at h
        exact absurd h (fs_ne sz T)
    · rw [if_neg q] at h; exact absurd h q
theorem sq_down {sz : Nat} {ok : Nat → Bool} {T : Nat} (h : sq sz ok (T + 1) = 0) : sq sz ok T = 0 := by
  unfold sq at h
  by_cases q : sq sz ok T = 0
  · exact q
  · rw [if_neg q] at h; exact absurd h q
theorem sq_stuck {sz : Nat} {ok : Nat → Bool} {T : Nat} (h : ¬ sq sz ok T = 0) : ∀ T', T ≤ T' → sq sz ok T' = sq sz ok T := by
  intro T'
  induction T' with
  | zero => intro q; rw [show T = 0 by omega]
  | succ T' ih =>
    intro q
    by_cases e : T = T' + 1
    · rw [e]
    · have i := ih (by omega)
      show (if sq sz ok T' = 0 then (if ok T' = true then 0 else fs sz T') else sq sz ok T') = sq sz ok T
      rw [i, if_neg h]
theorem sq_le {sz : Nat} {ok : Nat → Bool} {T T' : Nat} (h : sq sz ok T' = 0) (hl : T ≤ T') : sq sz ok T = 0 := by
  apply Classical.byContradiction
  intro q
  rw [sq_stuck q T' hl] at h
  exact q h
theorem sq_fill {sz : Nat} {ok : Nat → Bool} : ∀ T, (∀ t, t < T → ok t = true) → sq sz ok T = 0 := by
  intro T
  induction T with
  | zero => intro _; rfl
  | succ T ih =>
    intro h
    show (if sq sz ok T = 0 then (if ok T = true then 0 else fs sz T) else sq sz ok T) = 0
    rw [if_pos (ih (fun t ht => h t (by omega))), if_pos (h T (by omega))]
theorem lN_ex {x : Int64} {hi : Nat} (h1 : lN 0 ≤ x) (h2 : x ≤ lN hi) (hh : hi < 2 ^ 62) : ∃ u, u ≤ hi ∧ x = lN u := by
  unfold lN at *
  rw [Int64.le_iff_toInt_le, Int64.toInt_ofNat_of_lt (by omega)] at h1 h2
  refine ⟨x.toInt.toNat, by omega, ?_⟩
  apply Int64.toInt_inj.mp
  rw [Int64.toInt_ofNat_of_lt (by omega)]
  omega
theorem bnd_vl {X : Nat → Int64} {sz lo hi T : Nat} (h : bnd X sz lo hi T = true) (hh : hi < 2 ^ 31) (hlo : lo < 2 ^ 31) : T < sz ∧ X T = lN (vl X T) ∧ lo ≤ vl X T ∧ vl X T ≤ hi := by
  unfold bnd at h
  rw [Bool.and_eq_true, Bool.and_eq_true, decide_eq_true_iff, decide_eq_true_iff, decide_eq_true_iff] at h
  obtain ⟨h1, h2, h3⟩ := h
  obtain ⟨u, u1, u2⟩ := lN_ex (Int64.le_trans ((lL_le (by omega) (by omega)).mpr (Nat.zero_le lo)) h2) h3 (by omega)
  have e : vl X T = u := by
    unfold vl
    rw [u2, lN_i, nI_clamp (by omega)]
  rw [u2, lL_le (by omega) (by omega)] at h2
  rw [e]
  exact ⟨h1, u2, h2, u1⟩
theorem bnd_f {X : Nat → Int64} {sz lo hi T : Nat} (h : bnd X sz lo hi T = false) (hT : T < sz) : X T < lN lo ∨ ¬ X T ≤ lN hi := by
  unfold bnd at h
  rw [decide_eq_true hT, Bool.true_and] at h
  by_cases q : lN lo ≤ X T
  · rw [decide_eq_true q, Bool.true_and, decide_eq_false_iff_not] at h
    exact Or.inr h
  · exact Or.inl (Int64.not_le.mp q)
def rowc (M : pm_M) (k sz : Nat) (X : Nat → Int64) : Prop := k < 10 ∧ sz ≤ 200 ∧ mI M (42 + 2 * k) 2 = nI sz ∧ ∀ i, i < sz → mL M (43 + 2 * k) i = X i
def rowm (M : pm_M) (k sz : Nat) (X : Nat → Int64) : Prop := k < 10 ∧ sz ≤ 200 ∧ mI M 71 k = nI (sz + 1) ∧ ∀ i, i < sz → mL M 73 (200 * k + i) = X i
def cst (M : pm_M) (k T : Nat) (st : Int32) : Prop := mR M 5 0 = some (42 + 2 * k) ∧ mI M 5 2 = st ∧ (st = 0 → mI M 5 1 = nI T)
def mst (M : pm_M) (k T : Nat) (st : Int32) : Prop := mI M 62 15 = nI k ∧ mI M 62 17 = st ∧ (st = 0 → mI M 62 16 = nI T)
def rd5 (a _k : Nat) : Prop := a = 5
def rdm (a k : Nat) : Prop := a = 62 ∧ (k = 16 ∨ k = 17)
theorem rowc_kp {T : Nat → Nat → Prop} {M M' : pm_M} {k sz : Nat} {X : Nat → Int64} (hz : 83 ≤ mZ M) (h : rowc M k sz X) (hk : kp T M M') (ht : ∀ a j, 42 ≤ a → a < 62 → ¬ T a j) : rowc M' k sz X := by
  obtain ⟨a1, a2, a3, a4⟩ := h
  refine ⟨a1, a2, ?_, fun i hi => ?_⟩
  · rw [(hk.2.2 _ _ (by omega) (ht _ _ (by omega) (by omega))).1]; exact a3
  · rw [(hk.2.2 _ _ (by omega) (ht _ _ (by omega) (by omega))).2.1]; exact a4 i hi
theorem rowm_kp {T : Nat → Nat → Prop} {M M' : pm_M} {k sz : Nat} {X : Nat → Int64} (hz : 83 ≤ mZ M) (h : rowm M k sz X) (hk : kp T M M') (ht : ∀ a j, (a = 71 ∨ a = 73) → ¬ T a j) : rowm M' k sz X := by
  obtain ⟨a1, a2, a3, a4⟩ := h
  refine ⟨a1, a2, ?_, fun i hi => ?_⟩
  · rw [(hk.2.2 _ _ (by omega) (ht _ _ (Or.inl rfl))).1]; exact a3
  · rw [(hk.2.2 _ _ (by omega) (ht _ _ (Or.inr rfl))).2.1]; exact a4 i hi
section
variable {M : pm_M} {k sz : Nat} {X : Nat → Int64} {ok : Nat → Bool}
theorem c_nx0 {T lo hi : Nat} {st : Int32} (hl : lay M) (hr : rowc M k sz X) (hc : cst M k T st) (hhi : hi < 2 ^ 31) (hlo : lo < 2 ^ 31) (hT : st = 0 → T ≤ 200) {Post : Int32 → pm_M → Prop}
    (k1 : st = 0 → bnd X sz lo hi T = true → ∀ M', kp rd5 M M' → cst M' k (T + 1) 0 → Post (nI (vl X T)) M')
    (k2 : ∀ M' st', kp rd5 M M' → cst M' k (T + 1) st' → (st = 0 → bnd X sz lo hi T = false ∧ st' = fs sz T) → (¬ st = 0 → st' = st) → Post (nI lo) M') : w_X4_next 5 (nI lo) (nI hi) M Post := by
  obtain ⟨k10, hsz, e2, hX⟩ := hr
  obtain ⟨c1, c2, c3⟩ := hc
  unfold w_X4_next w_X4_next_31 w_X4_next_75
  by_cases s0 : st = 0
  · have t200 := hT s0
    rw [c2, c3 s0]
    refine bt s0 (fun o ho => ?_)
    rw [ho, c1]
    refine os (fun o4 ho4 => ⟨42 + 2 * k, ho4, ?_⟩)
    by_cases Tz : T < sz
    · refine c_stretch (l := 1) hsz e2 (by omega) (bf' one0 (fun o8 ho8 => ⟨42 + 2 * k, by rw [ho8], ?_⟩))
      unfold w_X6_number w_X6_number_21 w_X6_number_22
      rw [e2]
      refine bf (nI_pos (by omega)) (bf (nI_ge Tz (by omega)) ⟨43 + 2 * k, lr_sn hl k10, by rw [ln_sn hl k10]; exact vp_in_nI (by omega) (by decide), ?_⟩)
      rw [nI_clamp (by omega), hX T Tz, nI_1, nI_l hlo, nI_l hhi]
      intro M12 e12
      rw [lg_cmp_lt, lg_cmp_le]
      have kM : kp rd5 M M12 := by rw [e12]; exact kp_sI (kp_rf _ _) rfl
      have f0 : mR M12 5 0 = some (42 + 2 * k) := by rw [e12]; exact c1
      have f1 : mI M12 5 1 = nI (T + 1) := by rw [e12, mI_sI, if_pos ⟨rfl, rfl⟩]
      have f2 : mI M12 5 2 = st := by rw [e12, mI_sI, if_neg (by omega)]; exact c2
      have bad : bnd X sz lo hi T = false → ∀ M_1 : pm_M, M_1 = sI M12 5 2 (-4) → Post (nI lo) M_1 := fun eb M1 e1 => by
        refine k2 M1 (-4) (by rw [e1]; exact kp_sI kM rfl) ⟨by rw [e1]; exact f0, by rw [e1, mI_sI, if_pos ⟨rfl, rfl⟩], fun q => absurd q (by decide)⟩ (fun _ => ⟨eb, ?_⟩) (fun q => absurd s0 q)
        unfold fs; rw [if_pos Tz]
      cases eb : bnd X sz lo hi T with
      | true =>
        have g := bnd_vl eb hhi hlo
        have g2 := eb
        unfold bnd at g2
        rw [Bool.and_eq_true, Bool.and_eq_true, decide_eq_true_iff, decide_eq_true_iff, decide_eq_true_iff] at g2
        refine bf (Int64.not_lt.mpr g2.2.1) (bt g2.2.2 ?_)
        have := k1 s0 eb M12 kM ⟨f0, by rw [f2, s0], fun _ => f1⟩
        rw [← lN_i, ← g.2.1] at this
        exact this
      | false =>
        by_cases q : X T < lN lo
        · exact bt q (bad eb)
        · exact bf q (bf ((bnd_f eb Tz).resolve_left q) (bad eb))
    · refine c_stretch0 hsz e2 (one_str (Or.inr (nI_le (by omega) (by omega))) hsz) (bt' rfl (fun M1 e1 => ?_))
      refine k2 M1 (-6) (by rw [e1]; exact kp_sI (kp_rf _ _) rfl) ⟨by rw [e1]; exact c1, by rw [e1, mI_sI, if_pos ⟨rfl, rfl⟩], fun q => absurd q (by decide)⟩ (fun _ => ⟨?_, ?_⟩) (fun q => absurd s0 q)
      · unfold bnd; rw [decide_eq_false Tz, Bool.false_and]
      · unfold fs; rw [if_neg Tz]
  · rw [c2]
    exact bf s0 (k2 M st (kp_rf _ _) ⟨c1, c2, fun q => absurd q s0⟩ (fun q => absurd q s0) (fun _ => rfl))
theorem m_nx0 {T lo hi : Nat} {st : Int32} (hl : lay M) (hr : rowm M k sz X) (hc : mst M k T st) (hhi : hi < 2 ^ 31) (hlo : lo < 2 ^ 31) (hT : st = 0 → T ≤ 200) {Post : Int32 → pm_M → Prop}
    (k1 : st = 0 → bnd X sz lo hi T = true → ∀ M', kp rdm M M' → mst M' k (T + 1) 0 → Post (nI (vl X T)) M')
    (k2 : ∀ M' st', kp rdm M M' → mst M' k (T + 1) st' → (st = 0 → bnd X sz lo hi T = false ∧ st' = fs sz T) → (¬ st = 0 → st' = st) → Post (nI 0) M') : w_X10_next 62 (lN lo) (lN hi) M Post := by
  obtain ⟨k10, hsz, e2, hX⟩ := hr
  obtain ⟨c1, c2, c3⟩ := hc
  unfold w_X10_next w_X10_next_79
  by_cases s0 : st = 0
  · have t200 := hT s0
    rw [c2, c3 s0, c1]
    refine bt s0 ⟨71, lr_62_11 hl, by rw [ln_71 hl]; exact vp_in_nI k10 (by decide), ?_⟩
    rw [nI_clamp (show k < 2 ^ 31 by omega), e2, nI_pred, ix_200, nI_clamp (show 200 * k + T < 2 ^ 31 by omega), nI_1]
    by_cases Tz : T < sz
    · refine bt (nI_lt Tz (by omega)) ⟨73, lr_62_13 hl, by rw [ln_73 hl]; exact vp_in_nI (by omega) (by decide), ?_⟩
      rw [hX T Tz]
      intro x7 e7
      rw [e7, lg_cmp_lt, lg_cmp_le]
      intro M12 e12
      have kM : kp rdm M M12 := by rw [e12]; exact kp_sI (kp_rf _ _) ⟨rfl, Or.inl rfl⟩
      have f0 : mI M12 62 15 = nI k := by rw [e12, mI_sI, if_neg (by omega)]; exact c1
      have f1 : mI M12 62 16 = nI (T + 1) := by rw [e12, mI_sI, if_pos ⟨rfl, rfl⟩]
      have f2 : mI M12 62 17 = st := by rw [e12, mI_sI, if_neg (by omega)]; exact c2
      have bad : bnd X sz lo hi T = false → ∀ M_1 : pm_M, M_1 = sI M12 62 17 (-4) → Post (nI 0) M_1 := fun eb M1 e1 => by
        refine k2 M1 (-4) (by rw [e1]; exact kp_sI kM ⟨rfl, Or.inr rfl⟩) ⟨by rw [e1, mI_sI, if_neg (by omega)]; exact f0, by rw [e1, mI_sI, if_pos ⟨rfl, rfl⟩], fun q => absurd q (by decide)⟩ (fun _ => ⟨eb, ?_⟩) (fun q => absurd s0 q)
        unfold fs; rw [if_pos Tz]
      cases eb : bnd X sz lo hi T with
      | true =>
        have g := bnd_vl eb hhi hlo
        have g2 := eb
        unfold bnd at g2
        rw [Bool.and_eq_true, Bool.and_eq_true, decide_eq_true_iff, decide_eq_true_iff, decide_eq_true_iff] at g2
        refine bf (Int64.not_lt.mpr g2.2.1) (bt g2.2.2 ?_)
        have := k1 s0 eb M12 kM ⟨f0, by rw [f2, s0], fun _ => f1⟩
        rw [← lN_i, ← g.2.1] at this
        exact this
      | false =>
        by_cases q : X T < lN lo
        · exact bt q (bad eb)
        · exact bf q (bf ((bnd_f eb Tz).resolve_left q) (bad eb))
    · refine bf (nI_nlt (by omega) (by omega)) (fun M1 e1 => ?_)
      refine k2 M1 (-6) (by rw [e1]; exact kp_sI (kp_rf _ _) ⟨rfl, Or.inr rfl⟩) ⟨by rw [e1, mI_sI, if_neg (by omega)]; exact c1, by rw [e1, mI_sI, if_pos ⟨rfl, rfl⟩], fun q => absurd q (by decide)⟩ (fun _ => ⟨?_, ?_⟩) (fun q => absurd s0 q)
      · unfold bnd; rw [decide_eq_false Tz, Bool.false_and]
      · unfold fs; rw [if_neg Tz]
  · rw [c2]
    exact bf s0 (k2 M st (kp_rf _ _) ⟨c1, c2, fun q => absurd q s0⟩ (fun q => absurd q s0) (fun _ => rfl))
theorem sq_T {T : Nat} (hb : ∀ t, ok t = true → t < sz) (hsz : sz ≤ 200) (h : sq sz ok T = 0) : T ≤ 200 := by
  cases T with
  | zero => exact Nat.zero_le _
  | succ T => have := hb T (sq_ok (T + 1) h T (by omega)); omega
theorem c_nx {T lo hi : Nat} (hl : lay M) (hr : rowc M k sz X) (hb : ∀ t, ok t = true → t < sz) (hc : cst M k T (sq sz ok T)) (hok : ok T = bnd X sz lo hi T) (hhi : hi < 2 ^ 31) (hlo : lo ≤ hi) {Post : Int32 → pm_M → Prop} (kk : ∀ u M', lo ≤ u → u ≤ hi → kp rd5 M M' → cst M' k (T + 1) (sq sz ok (T + 1)) → (sq sz ok (T + 1) = 0 → u = vl X T) → Post (nI u) M') : w_X4_next 5 (nI lo) (nI hi) M Post := by
  refine c_nx0 hl hr hc hhi (by omega) (fun q => sq_T hb hr.2.1 q) (fun s0 eb M' k1 k2 => ?_) (fun M' st' k1 k2 k3 k4 => ?_)
  · have e : sq sz ok (T + 1) = 0 := by
      show (if sq sz ok T = 0 then (if ok T = true then 0 else fs sz T) else sq sz ok T) = 0
      rw [if_pos s0, if_pos (by rw [hok]; exact eb)]
    have g := bnd_vl eb hhi (by omega)
    exact kk _ M' g.2.2.1 g.2.2.2 k1 (by rw [e]; exact k2) (fun _ => rfl)
  · have e : sq sz ok (T + 1) = st' := by
      show (if sq sz ok T = 0 then (if ok T = true then 0 else fs sz T) else sq sz ok T) = st'
      by_cases q : sq sz ok T = 0
      · rw [if_pos q, if_neg (by rw [hok, (k3 q).1]; decide), (k3 q).2]
      · rw [if_neg q, k4 q]
    have ne : ¬ st' = 0 := fun z => by
      by_cases q : sq sz ok T = 0
      · rw [(k3 q).2] at z; exact fs_ne _ _ z
      · rw [k4 q] at z; exact q z
    exact kk lo M' (Nat.le_refl _) hlo k1 (by rw [e]; exact k2) (fun q => absurd (e ▸ q) ne)
theorem m_nx {T lo hi : Nat} (hl : lay M) (hr : rowm M k sz X) (hb : ∀ t, ok t = true → t < sz) (hc : mst M k T (sq sz ok T)) (hok : ok T = bnd X sz lo hi T) (hhi : hi < 2 ^ 31) (hlo : lo ≤ hi) {Post : Int32 → pm_M → Prop} (kk : ∀ u M', u ≤ hi → kp rdm M M' → mst M' k (T + 1) (sq sz ok (T + 1)) → (sq sz ok (T + 1) = 0 → u = vl X T) → Post (nI u) M') : w_X10_next 62 (lN lo) (lN hi) M Post := by
  refine m_nx0 hl hr hc hhi (by omega) (fun q => sq_T hb hr.2.1 q) (fun s0 eb M' k1 k2 => ?_) (fun M' st' k1 k2 k3 k4 => ?_)
  · have e : sq sz ok (T + 1) = 0 := by
      show (if sq sz ok T = 0 then (if ok T = true then 0 else fs sz T) else sq sz ok T) = 0
      rw [if_pos s0, if_pos (by rw [hok]; exact eb)]
    have g := bnd_vl eb hhi (by omega)
    exact kk _ M' g.2.2.2 k1 (by rw [e]; exact k2) (fun _ => rfl)
  · have e : sq sz ok (T + 1) = st' := by
      show (if sq sz ok T = 0 then (if ok T = true then 0 else fs sz T) else sq sz ok T) = st'
      by_cases q : sq sz ok T = 0
      · rw [if_pos q, if_neg (by rw [hok, (k3 q).1]; decide), (k3 q).2]
      · rw [if_neg q, k4 q]
    have ne : ¬ st' = 0 := fun z => by
      by_cases q : sq sz ok T = 0
      · rw [(k3 q).2] at z; exact fs_ne _ _ z
      · rw [k4 q] at z; exact q z
    exact kk 0 M' (Nat.zero_le _) k1 (by rw [e]; exact k2) (fun q => absurd (e ▸ q) ne)
end
