-- what a place's FOLDS come to.
def p12 (k : Nat) : Nat := cnt (fun t => bt (nI k) t) 12
theorem c_bits64 : ∀ a, a < 64 → ∀ b, b < 64 → f_J6_bitCount_0f7a4 (nI (64 * a + b)) = nI (p12 (64 * a + b)) := by decide +kernel
theorem c_bits12 (k : Nat) (hk : k < 4096) : f_J6_bitCount_0f7a4 (nI k) = nI (p12 k) := by
  have := c_bits64 (k / 64) (by omega) (k % 64) (by omega)
  rwa [show 64 * (k / 64) + k % 64 = k by omega] at this
theorem cnt_congr {p q : Nat → Bool} : ∀ n, (∀ i, i < n → p i = q i) → cnt p n = cnt q n
  | 0, _ => rfl
  | n + 1, h => by
    unfold cnt
    rw [cnt_congr n (fun i hi => h i (by omega)), h n (by omega)]
theorem cnt_more {p : Nat → Bool} {n : Nat} : ∀ m, n ≤ m → (∀ i, n ≤ i → i < m → p i = false) → cnt p m = cnt p n
  | 0, h, _ => by rw [show n = 0 by omega]
  | m + 1, h, hp => by
    by_cases c : n = m + 1
    · rw [c]
    · rw [show cnt p (m + 1) = if p m = true then cnt p m + 1 else cnt p m from rfl, hp m (by omega) (by omega), if_neg ft]
      exact cnt_more m (by omega) (fun i h1 h2 => hp i h1 (by omega))
theorem m_4095 : ∀ i, i < 32 → bt 4095 i = decide (i < 12) := by decide +kernel
theorem c_bitsB {p : Nat → Bool} {n : Nat} (hn : n ≤ 12) : f_J6_bitCount_0f7a4 (bs p n) = nI (cnt p n) := by
  have e : bs p n = bs p n &&& 4095 := by
    apply b_ext
    intro i hi
    rw [b_and, b_bs (by omega) hi, m_4095 i hi]
    by_cases c : i < n
    · rw [decide_eq_true (show i < 12 by omega), Bool.and_true]
    · rw [decide_eq_false c]; rfl
  obtain ⟨k, k1, k2⟩ := pk_andE (bs p n) (m := 4095) 12 (by decide)
  rw [← e] at k2
  rw [k2, c_bits12 k (by omega)]
  unfold p12
  rw [← k2, cnt_congr (p := fun t => bt (bs p n) t) (q := fun i => decide (i < n) && p i) 12 (fun i hi => b_bs (by omega) (by omega)), cnt_more (n := n) 12 hn (fun i h1 h2 => by rw [decide_eq_false (by omega)]; rfl), cnt_congr n (fun i hi => by rw [decide_eq_true hi, Bool.true_and])]
/-- how deep all FOLDS at s are -/
def mS (v : XM) (s : Int32) : Nat → Nat
  | 0 => 0
  | n + 1 => if otO v n s = -1 then mS v s n else mS v s n + (dpO v n).toNatClampNeg
def mC (v : XM) (s : Int32) (n : Nat) : Nat := cnt (fun i => !decide (otO v i s = -1)) n
def BothM (w : XM) (r : Int32 × Int32) (s : Int32 × XM) : Prop := f_X12_thrown s.2 = r.1 ∧ (r.1 = 0 → r.2 = s.1) ∧ Rel w s.2
section ME
variable {nS nF nT nW bB : Nat} {u w v m M W T : XM}
theorem mS_b (h : RW nS nF nT nW bB u v) {s : Int32} : ∀ n, n ≤ nF → mC v s n ≤ mS v s n ∧ mS v s n ≤ 9 * mC v s n
  | 0, _ => ⟨Nat.le_refl _, Nat.le_refl _⟩
  | n + 1, hn => by
    have ih := mS_b h (s := s) n (by omega)
    obtain ⟨d, d1, d2, d3⟩ := dpN h (show n < nF by omega)
    have e1 : mC v s (n + 1) = if (!decide (otO v n s = -1)) = true then mC v s n + 1 else mC v s n := rfl
    have e2 : mS v s (n + 1) = if otO v n s = -1 then mS v s n else mS v s n + (dpO v n).toNatClampNeg := rfl
    rw [e1, e2, d3, nI_clamp (by omega)]
    by_cases c : otO v n s = -1
    · rw [if_pos c, decide_eq_true c, if_neg (by decide)]; exact ih
    · rw [if_neg c, decide_eq_false c, if_pos (show (!false) = true from rfl)]; omega
theorem mS_s (h : RW nS nF nT nW bB u v) {s : Int32} {n : Nat} (hn : n < nF) : (otO v n s = -1 → mS v s (n + 1) = mS v s n ∧ mC v s (n + 1) = mC v s n) ∧ (¬ otO v n s = -1 → nI (mS v s (n + 1)) = nI (mS v s n) + dpO v n ∧ mC v s (n + 1) = mC v s n + 1) := by
  obtain ⟨d, d1, d2, d3⟩ := dpN h hn
  have e1 : mC v s (n + 1) = if (!decide (otO v n s = -1)) = true then mC v s n + 1 else mC v s n := rfl
  have e2 : mS v s (n + 1) = if otO v n s = -1 then mS v s n else mS v s n + (dpO v n).toNatClampNeg := rfl
  constructor
  · intro c
    rw [e1, e2, if_pos c, decide_eq_true c, if_neg (by decide)]; exact ⟨rfl, rfl⟩
  · intro c
    rw [e1, e2, if_neg c, decide_eq_false c, if_pos (show (!false) = true from rfl), d3, nI_clamp (by omega), nI_add]; exact ⟨rfl, rfl⟩
theorem mS_i (h : RW nS nF nT nW bB u v) {s : Int32} : ∀ n, n ≤ nF → itr (fun i acc => if otO v i s = -1 then acc else acc + dpO v i) n (0 : Int32) = nI (mS v s n)
  | 0, _ => rfl
  | n + 1, hn => by
    obtain ⟨h1, h2⟩ := mS_s h (s := s) (show n < nF by omega)
    show (if otO v n s = -1 then itr (fun i acc => if otO v i s = -1 then acc else acc + dpO v i) n (0 : Int32) else itr (fun i acc => if otO v i s = -1 then acc else acc + dpO v i) n (0 : Int32) + dpO v n) = _
    rw [mS_i h n (by omega)]
    by_cases c : otO v n s = -1
    · rw [if_pos c, (h1 c).1]
    · rw [if_neg c, (h2 c).1]
theorem com_step {K : Int32 → Int32 → Option Int32} {a b : Nat} (ha : a < 2 ^ 30) (hb : b < 2 ^ 30) : f_X12_common_4 K (nI a) (nI b) = if b = 0 then some (nI a) else K (nI b) (nI (a % b)) := by
  unfold f_X12_common_4
  by_cases c : b = 0
  · subst c
    rw [if_pos (show nI 0 = 0 from rfl), if_pos rfl]
  · rw [if_neg (nI_ne0 (by omega) (by omega)), nz_of (nI_ne0 (by omega) (by omega)), pk_rem (by omega) (by omega) (by omega), if_neg c]
theorem r_common : ∀ (b a fu : Nat), b < fu → a < 2 ^ 30 → b < 2 ^ 30 → x_lp (φ := Int32 → Int32 → Option (Int32)) (fun _ _ => none) (f_X12_common_4) fu (nI a) (nI b) = some (nI (Nat.gcd a b)) := by
  intro b
  induction b using Nat.strongRecOn with
  | _ b ih =>
    intro a fu hf ha hb
    obtain ⟨fu, rfl⟩ : ∃ q, fu = q + 1 := ⟨fu - 1, by omega⟩
    show f_X12_common_4 (x_lp (φ := Int32 → Int32 → Option (Int32)) (fun _ _ => none) (f_X12_common_4) fu) (nI a) (nI b) = _
    rw [com_step ha hb]
    by_cases c : b = 0
    · subst c
      rw [if_pos rfl, Nat.gcd_zero_right]
    · have hm : a % b < b := Nat.mod_lt _ (by omega)
      rw [if_neg c, ih (a % b) hm b fu (by omega) hb (by omega), Nat.gcd_comm b, ← Nat.gcd_rec b a, Nat.gcd_comm]
theorem c_mean {M : XM} {a b x : Nat} (hb : 1 ≤ b) (hb2 : b < 200) (ha : a < 200) (hx : x < 200) : x_lp (φ := Int32 → Int32 → Int32 → Int32 → Option (Int32 × Int32)) (fun _ _ _ _ => none) (f_X11_mean_79 M) x_NN (nI b) (nI a) (nI x) (nI b) = some ((0 : Int32), nI (x / Nat.gcd a b)) := by
  have g0 : 0 < Nat.gcd a b := Nat.gcd_pos_of_pos_right _ (by omega)
  refine wp_eq.mp (lp_ind (σ := Int32) (fun (K : Int32 → Int32 → Int32 → Int32 → Option (Int32 × Int32)) s => K (nI b) (nI a) (nI x) s) (fun i s => 1 ≤ i ∧ i ≤ b ∧ s = nI i ∧ Nat.gcd a b ≤ i) _ ?_ x_NN b (nI b) (by show b < 1000000; omega) ⟨hb, Nat.le_refl _, rfl, Nat.le_of_dvd (by omega) (Nat.gcd_dvd_right a b)⟩)
  rintro i K _ ⟨i1, i2, rfl, i3⟩ ih
  show wp (f_X11_mean_79 M K (nI b) (nI a) (nI x) (nI i)) _
  unfold f_X11_mean_79 f_X11_mean_106
  by_cases c1 : i = 1
  · subst c1
    rw [if_pos (show nI 1 ≤ 1 by decide), wp_some, show Nat.gcd a b = 1 by omega, Nat.div_one]
  · rw [if_neg (show ¬ nI i ≤ 1 from nI_ge (b := i) (a := 1) (by omega) (by omega)), nz_of (nI_ne0 (by omega) (by omega)), pk_rem (by omega) (by omega) (by omega), nz_of (nI_ne0 (by omega) (by omega)), pk_rem (by omega) (by omega) (by omega), nz_of (nI_ne0 (by omega) (by omega)), pk_div (by omega) (by omega) (by omega), (nI_m1 (by omega)).1]
    have ma : a % i < i := Nat.mod_lt _ (by omega)
    have mb : b % i < i := Nat.mod_lt _ (by omega)
    have nx : ¬ (a % i = 0 ∧ b % i = 0) → wp (K (nI b) (nI a) (nI x) (nI (i - 1))) (fun r => r = ((0 : Int32), nI (x / Nat.gcd a b))) := fun q => by
      refine ih (i - 1) _ (by omega) ⟨by omega, by omega, rfl, ?_⟩
      by_cases z : Nat.gcd a b = i
      · refine absurd ⟨?_, ?_⟩ q
        · exact Nat.mod_eq_zero_of_dvd (by rw [← z]; exact Nat.gcd_dvd_left a b)
        · exact Nat.mod_eq_zero_of_dvd (by rw [← z]; exact Nat.gcd_dvd_right a b)
      · omega
    by_cases c2 : a % i = 0
    · rw [if_pos (by rw [c2]; rfl)]
      by_cases c3 : b % i = 0
      · rw [if_pos (by rw [c3]; rfl), wp_some]
        have : i ∣ Nat.gcd a b := Nat.dvd_gcd (Nat.dvd_of_mod_eq_zero c2) (Nat.dvd_of_mod_eq_zero c3)
        have := Nat.le_of_dvd g0 this
        rw [show Nat.gcd a b = i by omega]
      · rw [if_neg (nI_ne0 (by omega) (by omega))]
        exact nx (fun q => c3 q.2)
    · rw [if_neg (nI_ne0 (by omega) (by omega))]
      exact nx (fun q => c2 q.1)
theorem b_mean (h : RelN nS nF nT nW bB w v) (x y : Int32) : R2 (f_X11_mean w x y) (f_X12_mean v x y) (BothM w) := by
  have h1 := h.th (x := 0)
  have h2 := h1.th (x := 1)
  have hb := h.1.1.1
  have hth : (x_si v 0 0 0).1 0 0 = 0 := by rw [si_row, row_at, up_eq]
  unfold f_X11_mean f_X12_mean
  simp only [lt_eq]
  generalize x_si v 0 0 0 = v1 at h1 h2 hth ⊢
  have r := h1.rw
  have hre : BothM w ((1 : Int32), (0 : Int32)) (f_X12_refuse v1) := ⟨by show (x_si v1 0 0 1).1 0 0 = 1; rw [si_row, row_at, up_eq], fun q => absurd q one0, h2.rel⟩
  have hre' : R2 (some ((1 : Int32), (0 : Int32))) (f_X12_mean_22 v1) (BothM w) := R2_some hre
  have h30 : ∀ q : Int32, f_X11_mean_32 w x q 0 = some ((1 : Int32), (0 : Int32)) := fun q => by
    unfold f_X11_mean_32; rw [if_pos rfl]
  rcases h_Spot r x with ⟨k, hk, rfl, e1, e2⟩ | ⟨-, e1, e2⟩
  · rw [show f_X9_hasSpot (x_sub w 6) (nI k) = 1 from e1, e2, if_neg one0, if_neg one0, show f_X9_foldsAt (x_sub w 6) (nI k) = _ from c_foldsAt r, bo_some, c_bitsB (by omega)]
    obtain ⟨b1, b2⟩ := mS_b r (s := nI k) nF (Nat.le_refl _)
    have b3 : mC v1 (nI k) nF ≤ nF := cnt_le _
    show R2 (f_X11_mean_32 w (nI k) y (nI (mC v1 (nI k) nF))) _ _
    have fin : ∀ x : Nat, x < 200 → 1 ≤ mC v1 (nI k) nF → R2 (f_X11_mean_74 w (nI (mC v1 (nI k) nF)) (nI (mS v1 (nI k) nF)) (nI x)) (f_X12_mean_100 v1 (nI (mS v1 (nI k) nF)) (nI (mC v1 (nI k) nF)) (nI x)) (BothM w) := fun x hx hc => by
      have g0 : 0 < Nat.gcd (mS v1 (nI k) nF) (mC v1 (nI k) nF) := Nat.gcd_pos_of_pos_right _ (by omega)
      have g1 := Nat.le_of_dvd (show 0 < mC v1 (nI k) nF by omega) (Nat.gcd_dvd_right (mS v1 (nI k) nF) (mC v1 (nI k) nF))
      unfold f_X11_mean_74 f_X12_mean_100 f_X12_common
      rw [c_mean hc (by omega) (by omega) hx, r_common _ _ x_NN (by show _ < 1000000; omega) (by omega) (by omega), bo_some, nz_of (nI_ne0 (by omega) (by omega)), pk_div (by omega) (by omega) (by omega)]
      exact R2_some ⟨hth, fun _ => rfl, h1.rel⟩
    have rl : ∀ (y : Int32) (Q : Int32 × XM → Prop), wp (if mC v1 (nI k) nF = 0 then some (f_X12_refuse v1) else if y = 0 then f_X12_mean_100 v1 (nI (mS v1 (nI k) nF)) (nI (mC v1 (nI k) nF)) (nI (mS v1 (nI k) nF)) else f_X12_mean_100 v1 (nI (mS v1 (nI k) nF)) (nI (mC v1 (nI k) nF)) (nI (mC v1 (nI k) nF))) Q → wp (x_lp (φ := XM → Int32 → Int32 → Int32 → Int32 → Int32 → Option (Int32 × XM)) (fun _ _ _ _ _ _ => none) (f_X12_mean_35) x_NN v1 (nI k) y (0 : Int32) (0 : Int32) (0 : Int32)) Q := fun y Q hq => by
      refine lp_fora (σ := Int32 × Int32) (n := nF) (fun (K : XM → Int32 → Int32 → Int32 → Int32 → Int32 → Option (Int32 × XM)) a c => K v1 (nI k) y a.1 a.2 c) (fun j a => a = (nI (mS v1 (nI k) j), nI (mC v1 (nI k) j))) _ ?_ ?_ x_NN (0, 0) (by show nF < 1000000; omega) rfl
      · rintro K i _ hi rfl ih
        show wp (f_X12_mean_35 K v1 (nI k) y (nI (mS v1 (nI k) i)) (nI (mC v1 (nI k) i)) (nI i)) Q
        obtain ⟨s1, s2⟩ := mS_s r (s := nI k) hi
        unfold f_X12_mean_35 f_X12_mean_72
        rw [kl_1, ga_in (by omega), r.v1, if_neg (nI_ge hi (by omega)), r_otherEnd (by omega), bo_some, ← kl_1, nI_1, nI_1]
        by_cases c : otO v1 i (nI k) = -1
        · rw [if_pos c]
          exact ih _ (by rw [(s1 c).1, (s1 c).2])
        · rw [if_neg c, r_depthOf (by omega), bo_some]
          exact ih _ (by rw [(s2 c).1, (s2 c).2])
      · rintro K _ rfl
        show wp (f_X12_mean_35 K v1 (nI k) y (nI (mS v1 (nI k) nF)) (nI (mC v1 (nI k) nF)) (nI nF)) Q
        unfold f_X12_mean_35
        rw [kl_1, ga_in (by omega), r.v1, if_pos (nI_le (Nat.le_refl _) (by omega))]
        by_cases c : mC v1 (nI k) nF = 0
        · rw [if_pos c] at hq
          rw [if_pos (by rw [c]; rfl)]; exact hq
        · rw [if_neg c] at hq
          rw [if_neg (nI_ne0 (by omega) (by omega))]; exact hq
    unfold f_X11_mean_32
    rcases rng (a := 0) (b := 1) (by omega) (by omega) y with ⟨q, q1, q2, rfl, q4, q5, q6⟩ | ⟨q1, q2⟩
    · rw [show f_X12_isIn (nI q) 0 1 = 1 from q6, if_neg one0]
      by_cases c : mC v1 (nI k) nF = 0
      · rw [if_pos (by rw [c]; rfl)]
        refine R2_wp (wp_some.mpr (rl _ _ ?_))
        rw [if_pos c, wp_some]; exact hre
      · rw [if_neg (nI_ne0 (by omega) (by omega)), if_neg (show ¬ nI q < 0 from q4), if_pos (show nI q ≤ 1 from q5), show f_X10_deepInAll (x_sub w 5) (nI k) = _ from c_deepInAll r, bo_some, mS_i r nF (Nat.le_refl _)]
        by_cases cq : q = 0
        · subst cq
          rw [if_pos (show nI 0 = 0 from rfl)]
          obtain ⟨a, b, f1, f2, f3⟩ := fin (mS v1 (nI k) nF) (by omega) (by omega)
          obtain ⟨c', g1, g2⟩ := rl (nI 0) (fun z => z = b) (by rw [if_neg c, if_pos (show nI 0 = 0 from rfl), f2]; exact wp_some.mpr rfl)
          exact ⟨a, b, f1, by rw [g1, g2], f3⟩
        · have : nI q ≠ 0 := nI_ne0 (by omega) (by omega)
          rw [if_neg this]
          obtain ⟨a, b, f1, f2, f3⟩ := fin (mC v1 (nI k) nF) (by omega) (by omega)
          obtain ⟨c', g1, g2⟩ := rl (nI q) (fun z => z = b) (by rw [if_neg c, if_neg this, f2]; exact wp_some.mpr rfl)
          exact ⟨a, b, f1, by rw [g1, g2], f3⟩
    · rw [show f_X12_isIn y 0 1 = 0 from q2, if_pos rfl]
      by_cases c : nI (mC v1 (nI k) nF) = 0
      · rw [if_pos c]; exact hre'
      · rw [if_neg c]
        rcases q1 with q1 | ⟨q1, q3⟩
        · rw [if_pos (show y < 0 from q1)]; exact hre'
        · rw [if_neg (show ¬ y < 0 from q1), if_neg (show ¬ y ≤ 1 from q3)]; exact hre'
  · rw [show f_X9_hasSpot (x_sub w 6) x = 0 from e1, e2, if_pos rfl, if_pos rfl, h30]
    exact hre'
end ME
