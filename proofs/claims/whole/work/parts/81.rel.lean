-- The relation of the class's world and the reference's row, and what both say of it.
theorem kl_2 : (2 : Int32) = nI 2 := rfl
theorem kl_3 : (3 : Int32) = nI 3 := rfl
theorem kl_4 : (4 : Int32) = nI 4 := rfl
theorem kl_5 : (5 : Int32) = nI 5 := rfl
theorem kl_6 : (6 : Int32) = nI 6 := rfl
theorem kl_7 : (7 : Int32) = nI 7 := rfl
theorem kl_8 : (8 : Int32) = nI 8 := rfl
theorem kl_9 : (9 : Int32) = nI 9 := rfl
theorem kl_10 : (10 : Int32) = nI 10 := rfl
theorem kl_11 : (11 : Int32) = nI 11 := rfl
theorem kl_12 : (12 : Int32) = nI 12 := rfl
theorem kl_13 : (13 : Int32) = nI 13 := rfl
theorem kl_14 : (14 : Int32) = nI 14 := rfl
theorem kl_15 : (15 : Int32) = nI 15 := rfl
theorem kl_16 : (16 : Int32) = nI 16 := rfl
theorem kl_17 : (17 : Int32) = nI 17 := rfl
theorem kl_18 : (18 : Int32) = nI 18 := rfl
theorem kl_19 : (19 : Int32) = nI 19 := rfl
theorem kl_20 : (20 : Int32) = nI 20 := rfl
theorem kl_21 : (21 : Int32) = nI 21 := rfl
theorem kl_22 : (22 : Int32) = nI 22 := rfl
theorem kl_23 : (23 : Int32) = nI 23 := rfl
theorem kl_24 : (24 : Int32) = nI 24 := rfl
theorem kl_25 : (25 : Int32) = nI 25 := rfl
theorem kl_26 : (26 : Int32) = nI 26 := rfl
theorem kl_27 : (27 : Int32) = nI 27 := rfl
theorem kl_28 : (28 : Int32) = nI 28 := rfl
theorem kl_29 : (29 : Int32) = nI 29 := rfl
theorem kl_30 : (30 : Int32) = nI 30 := rfl
theorem kl_31 : (31 : Int32) = nI 31 := rfl
theorem kl_32 : (32 : Int32) = nI 32 := rfl
theorem kl_33 : (33 : Int32) = nI 33 := rfl
theorem kl_34 : (34 : Int32) = nI 34 := rfl
theorem kl_35 : (35 : Int32) = nI 35 := rfl
theorem kl_36 : (36 : Int32) = nI 36 := rfl
theorem kl_37 : (37 : Int32) = nI 37 := rfl
theorem kl_38 : (38 : Int32) = nI 38 := rfl
theorem kl_39 : (39 : Int32) = nI 39 := rfl
theorem kl_40 : (40 : Int32) = nI 40 := rfl
theorem kl_41 : (41 : Int32) = nI 41 := rfl
theorem kl_42 : (42 : Int32) = nI 42 := rfl
theorem kl_43 : (43 : Int32) = nI 43 := rfl
theorem kl_44 : (44 : Int32) = nI 44 := rfl
theorem kl_45 : (45 : Int32) = nI 45 := rfl
theorem kl_46 : (46 : Int32) = nI 46 := rfl
theorem kl_47 : (47 : Int32) = nI 47 := rfl
theorem kl_48 : (48 : Int32) = nI 48 := rfl
theorem kl_49 : (49 : Int32) = nI 49 := rfl
theorem kl_50 : (50 : Int32) = nI 50 := rfl
theorem kl_51 : (51 : Int32) = nI 51 := rfl
theorem kl_52 : (52 : Int32) = nI 52 := rfl
theorem kl_53 : (53 : Int32) = nI 53 := rfl
theorem kl_54 : (54 : Int32) = nI 54 := rfl
theorem kl_55 : (55 : Int32) = nI 55 := rfl
theorem kl_56 : (56 : Int32) = nI 56 := rfl
theorem kl_57 : (57 : Int32) = nI 57 := rfl
theorem kl_58 : (58 : Int32) = nI 58 := rfl
theorem kl_59 : (59 : Int32) = nI 59 := rfl
theorem kl_60 : (60 : Int32) = nI 60 := rfl
theorem kl_61 : (61 : Int32) = nI 61 := rfl
theorem kl_62 : (62 : Int32) = nI 62 := rfl
theorem kl_63 : (63 : Int32) = nI 63 := rfl
theorem kl_64 : (64 : Int32) = nI 64 := rfl
theorem kl_65 : (65 : Int32) = nI 65 := rfl
theorem kl_69 : (69 : Int32) = nI 69 := rfl
theorem kl_70 : (70 : Int32) = nI 70 := rfl
theorem kl_71 : (71 : Int32) = nI 71 := rfl
theorem kl_72 : (72 : Int32) = nI 72 := rfl
theorem kl_73 : (73 : Int32) = nI 73 := rfl
theorem kl_74 : (74 : Int32) = nI 74 := rfl
theorem kl_75 : (75 : Int32) = nI 75 := rfl
theorem kl_76 : (76 : Int32) = nI 76 := rfl
theorem kl_77 : (77 : Int32) = nI 77 := rfl
theorem kl_78 : (78 : Int32) = nI 78 := rfl
theorem kl_79 : (79 : Int32) = nI 79 := rfl
theorem kl_84 : (84 : Int32) = nI 84 := rfl
theorem kl_89 : (89 : Int32) = nI 89 := rfl
theorem kl_94 : (94 : Int32) = nI 94 := rfl
theorem kl_95 : (95 : Int32) = nI 95 := rfl
theorem kl_96 : (96 : Int32) = nI 96 := rfl
theorem kl_97 : (97 : Int32) = nI 97 := rfl
theorem kl_99 : (99 : Int32) = nI 99 := rfl
theorem kl_100 : (100 : Int32) = nI 100 := rfl
theorem kl_111 : (111 : Int32) = nI 111 := rfl
theorem kl_112 : (112 : Int32) = nI 112 := rfl
theorem kl_113 : (113 : Int32) = nI 113 := rfl
theorem kl_120 : (120 : Int32) = nI 120 := rfl
theorem kl_122 : (122 : Int32) = nI 122 := rfl
theorem kl_128 : (128 : Int32) = nI 128 := rfl
theorem kl_129 : (129 : Int32) = nI 129 := rfl
theorem kl_200 : (200 : Int32) = nI 200 := rfl
theorem kl_240 : (240 : Int32) = nI 240 := rfl
theorem kl_255 : (255 : Int32) = nI 255 := rfl
theorem kl_287 : (287 : Int32) = nI 287 := rfl
theorem kl_300 : (300 : Int32) = nI 300 := rfl
theorem kl_328 : (328 : Int32) = nI 328 := rfl
theorem kl_353 : (353 : Int32) = nI 353 := rfl
theorem kl_360 : (360 : Int32) = nI 360 := rfl
theorem kl_400 : (400 : Int32) = nI 400 := rfl
theorem kl_512 : (512 : Int32) = nI 512 := rfl
theorem kl_706 : (706 : Int32) = nI 706 := rfl
theorem kl_900 : (900 : Int32) = nI 900 := rfl
theorem kl_940 : (940 : Int32) = nI 940 := rfl
theorem kl_999 : (999 : Int32) = nI 999 := rfl
theorem kl_1000 : (1000 : Int32) = nI 1000 := rfl
theorem kl_12345 : (12345 : Int32) = nI 12345 := rfl
theorem kl_65536 : (65536 : Int32) = nI 65536 := rfl
theorem kl_100000 : (100000 : Int32) = nI 100000 := rfl
theorem kl_1048576 : (1048576 : Int32) = nI 1048576 := rfl
theorem kl_0 : (0 : Int32) = nI 0 := rfl
theorem kl_1 : (1 : Int32) = nI 1 := rfl
def bI (b : Bool) : Int32 := if b = true then 1 else 0
theorem bI_0 {b : Bool} : bI b = 0 ↔ b = false := by cases b <;> decide
theorem bI_1 {b : Bool} : bI b = 1 ↔ b = true := by cases b <;> decide
theorem bI_inj {a b : Bool} : bI a = bI b ↔ a = b := by cases a <;> cases b <;> decide
def itr {σ : Type} (F : Nat → σ → σ) : Nat → σ → σ
  | 0, a => a
  | n + 1, a => F n (itr F n a)
theorem lp_eq {φ σ β : Type} (ap : φ → σ → Int32 → Option β) {z : φ} {b : φ → φ} {n : Nat} (F : Nat → σ → σ) (G : σ → Option β) (hs : ∀ (K : φ) (a : σ) (i : Nat), i < n → ap (b K) a (nI i) = ap K (F i a) (nI (i + 1))) (he : ∀ (K : φ) (a : σ), ap (b K) a (nI n) = G a) : ∀ (fu : Nat) (a : σ), n < fu → ap (x_lp z b fu) a 0 = G (itr F n a) := by
  have key : ∀ (fu m i : Nat) (a : σ), i + m = n → m < fu → ap (x_lp z b fu) (itr F i a) (nI i) = G (itr F n a) := by
    intro fu
    induction fu with
    | zero => intro m i a _ h; exact absurd h (Nat.not_lt_zero m)
    | succ fu ih =>
      intro m i a h1 h2
      match m, h1, h2 with
      | 0, h1, _ =>
        obtain rfl : i = n := by omega
        exact he _ _
      | m + 1, h1, h2 =>
        have h3 := hs (x_lp z b fu) (itr F i a) i (by omega)
        exact h3.trans (ih m (i + 1) a (by omega) (by omega))
  intro fu a hf
  exact key fu n 0 a (by omega) hf
theorem itr_bs {p : Nat → Bool} : ∀ n, itr (fun i acc => if p i = true then acc ||| ((1 : Int32) <<< (nI i &&& 31)) else acc) n 0 = bs p n
  | 0 => rfl
  | n + 1 => by
    have ih := itr_bs (p := p) n
    show (if p n = true then itr _ n 0 ||| _ else itr _ n 0) = _
    rw [ih]; rfl
theorem itr_sm {f : Nat → Int32} : ∀ n, itr (fun i acc => acc + f i) n 0 = sm f n
  | 0 => rfl
  | n + 1 => by
    have ih := itr_sm (f := f) n
    show itr _ n 0 + _ = _
    rw [ih]; rfl
theorem itr_om {f : Nat → Int32} : ∀ n, itr (fun i acc => acc ||| f i) n 0 = om f n
  | 0 => rfl
  | n + 1 => by
    have ih := itr_om (f := f) n
    show itr _ n 0 ||| _ = _
    rw [ih]; rfl
-- bits
def bt (x : Int32) (i : Nat) : Bool := x.toBitVec.getLsbD i
theorem b_ext {x y : Int32} (h : ∀ i, i < 32 → bt x i = bt y i) : x = y := Int32.toBitVec_inj.mp (BitVec.eq_of_getLsbD_eq (fun i hi => h i hi))
theorem b_or (x y : Int32) (i : Nat) : bt (x ||| y) i = (bt x i || bt y i) := by unfold bt; rw [Int32.toBitVec_or, BitVec.getLsbD_or]
theorem b_and (x y : Int32) (i : Nat) : bt (x &&& y) i = (bt x i && bt y i) := by unfold bt; rw [Int32.toBitVec_and, BitVec.getLsbD_and]
theorem b_xor (x y : Int32) (i : Nat) : bt (x ^^^ y) i = (bt x i ^^ bt y i) := by unfold bt; rw [Int32.toBitVec_xor, BitVec.getLsbD_xor]
theorem b_big {x : Int32} {i : Nat} (h : 32 ≤ i) : bt x i = false := BitVec.getLsbD_of_ge _ _ h
theorem b_m1 : ∀ i, i < 32 → bt (-1) i = true := by decide +kernel
theorem b_0 (i : Nat) : bt 0 i = false := BitVec.getLsbD_zero
theorem s_l : ∀ n, n < 32 → ((nI n &&& 31).toBitVec.smod 32).toNat = n := by decide +kernel
theorem b_shl (n : Nat) (hn : n < 32) (x : Int32) {i : Nat} (hi : i < 32) : bt (x <<< (nI n &&& 31)) i = (decide (n ≤ i) && bt x (i - n)) := by
  unfold bt
  rw [Int32.toBitVec_shiftLeft]
  show (x.toBitVec <<< ((nI n &&& 31).toBitVec.smod 32).toNat).getLsbD i = _
  rw [s_l n hn, BitVec.getLsbD_shiftLeft]
  rcases Nat.lt_or_ge i n with h | h
  · simp [h, Nat.not_le.mpr h]
  · simp [hi, h, Nat.not_lt.mpr h]
theorem b_sshr (n : Nat) (hn : n < 32) (x : Int32) {i : Nat} (hi : i < 32) : bt (x >>> (nI n &&& 31)) i = if n + i < 32 then bt x (n + i) else bt x 31 := by
  unfold bt
  rw [Int32.toBitVec_shiftRight]
  show (x.toBitVec.sshiftRight ((nI n &&& 31).toBitVec.smod 32).toNat).getLsbD i = _
  rw [s_l n hn, BitVec.getLsbD_sshiftRight]
  by_cases h : n + i < 32
  · rw [if_pos h, if_pos h]; simp [hi]
  · rw [if_neg h, if_neg h]; simp [hi, BitVec.msb_eq_getLsbD_last]
theorem b_one : ∀ i, i < 32 → bt 1 i = decide (i = 0) := by decide +kernel
/-- bit j of a row of bits -/
theorem b_get {x : Int32} {j : Nat} (hj : j < 32) : (x >>> (nI j &&& 31)) &&& 1 = bI (bt x j) := by
  apply b_ext
  intro i hi
  rw [b_and, b_one i hi, b_sshr j hj x hi]
  by_cases h : i = 0
  · subst h
    rw [if_pos (by omega)]
    cases bt x (j + 0) <;> simp_all [bI] <;> decide
  · rw [decide_eq_false h, Bool.and_false]
    unfold bI
    by_cases c : bt x j = true
    · rw [if_pos c, b_one i hi, decide_eq_false h]
    · rw [if_neg c, b_0]
theorem b_1shl {j i : Nat} (hj : j < 32) (hi : i < 32) : bt ((1 : Int32) <<< (nI j &&& 31)) i = decide (i = j) := by
  rw [b_shl j hj 1 hi, b_one _ (by omega)]
  by_cases h : i = j
  · subst h; simp
  · rw [decide_eq_false h]
    by_cases c : j ≤ i
    · rw [decide_eq_true c, decide_eq_false (by omega)]; rfl
    · rw [decide_eq_false c]; rfl
theorem b_set {x : Int32} {j i : Nat} (hj : j < 32) (hi : i < 32) : bt (x ||| ((1 : Int32) <<< (nI j &&& 31))) i = (bt x i || decide (i = j)) := by rw [b_or, b_1shl hj hi]
theorem b_bs {p : Nat → Bool} : ∀ {n i : Nat}, n ≤ 32 → i < 32 → bt (bs p n) i = (decide (i < n) && p i)
  | 0, i, _, _ => by unfold bs; rw [b_0]; simp
  | n + 1, i, hn, hi => by
    have ih := b_bs (p := p) (n := n) (i := i) (by omega) hi
    unfold bs
    by_cases c : p n = true
    · rw [if_pos c, b_set (by omega) hi, ih]
      by_cases h : i = n
      · subst h; simp [c]
      · rw [decide_eq_false h, Bool.or_false]
        have : (i < n) ↔ (i < n + 1) := by omega
        simp [this]
    · rw [if_neg c, ih]
      by_cases h : i = n
      · subst h
        have c : p i = false := by simpa using c
        simp [c]
      · have : (i < n) ↔ (i < n + 1) := by omega
        simp [this]
theorem b_not (x : Int32) {i : Nat} (hi : i < 32) : bt (x ^^^ (-1)) i = !(bt x i) := by rw [b_xor, b_m1 i hi]; simp
/-- what a VALLEY tells: class cells cv, the reference's head hd -/
def RV (nS nF nT nW bB : Nat) (cv : Nat → Nat → Int32) (hd : Nat → Int32) : Prop :=
  (nS ≤ 8 ∧ nF ≤ 12 ∧ nT ≤ 6 ∧ nW ≤ 5 ∧ 2 ≤ bB ∧ bB ≤ 40) ∧
  (hd 0 = nI nS ∧ hd 1 = nI nF ∧ hd 2 = nI nT ∧ hd 3 = nI nW ∧ hd 4 = nI bB) ∧
  (cv 0 0 = nI nS ∧ cv 0 1 = nI nF ∧ cv 0 2 = nI nT ∧ cv 0 3 = nI nW ∧ cv 0 4 = nI bB ∧ cv 0 5 = hd 5) ∧
  (∀ f, f < nF → cv 2 f = hd (6 + f) ∧ cv 4 f = hd (18 + f) ∧ cv 6 f = hd (30 + f) ∧ cv 8 f = hd (42 + f)) ∧
  (∀ f, f < nF → ∃ a b d, a < nS ∧ b < nS ∧ a ≠ b ∧ 1 ≤ d ∧ d ≤ 9 ∧ hd (6 + f) = nI a ∧ hd (18 + f) = nI b ∧ hd (30 + f) = nI d) ∧
  (∀ t, t < nT → cv 10 t = hd (54 + t) ∧ ∃ s, s < nS ∧ hd (54 + t) = nI s) ∧
  (∀ w, w < nW → cv 12 w = hd (60 + w) ∧ cv 14 w = hd (65 + w) ∧ ∃ s p, s < nS ∧ 1 ≤ p ∧ p ≤ 5 ∧ hd (60 + w) = nI s ∧ hd (65 + w) = nI p)
/-- how deep a FOLD is whatever the MOOD -/
def pd (hd so : Nat → Int32) (f : Nat) : Int32 := if bt (so 2) f = true then 1 else hd (30 + f)
/-- all that deeds and hours change: class cells cs, the reference's so -/
def RS (nS nF nW bB : Nat) (hd : Nat → Int32) (cs : Nat → Nat → Int32) (so : Nat → Int32) : Prop :=
  (∃ h, h ≤ 400 ∧ so 0 = nI h) ∧ (cs 0 0 = so 0 ∧ cs 0 1 = so 1 ∧ cs 0 2 = so 3) ∧
  (∀ w, w < nW → cs 2 w = so (4 + w) ∧ cs 4 w = so (9 + w) ∧ cs 6 w = so (14 + w) ∧ cs 8 w = so (19 + w) ∧ cs 10 w = so (24 + w)) ∧
  (∀ w, w < nW → ∃ s l t, s < nS ∧ l ≤ 9 ∧ t + l ≤ bB ∧ so (4 + w) = nI s ∧ so (14 + w) = nI l ∧ so (19 + w) = nI t ∧ (l = 0 ↔ so (9 + w) = -1)) ∧
  (∀ w, nW ≤ w → w < 5 → so (19 + w) = 0 ∧ so (24 + w) = 0) ∧
  (∀ f, f < nF → cs 12 f = pd hd so f ∧ cs 14 f = so (29 + f) ∧ ∃ n, n ≤ 30 ∧ so (29 + f) = nI n) ∧
  (∀ f, nF ≤ f → f < 12 → so (29 + f) = 0)
/-- the reference's head and the rest of its row -/
def hdO (v : XM) : Nat → Int32 := fun k => v.1 2 k
def soO (v : XM) : Nat → Int32 := fun k => v.1 2 (70 + k)
/-- a world of the class (its cells from its root on) and the reference's row -/
def RW (nS nF nT nW bB : Nat) (u v : XM) : Prop := RV nS nF nT nW bB (fun i => u.1 (i + 1)) (hdO v) ∧ RS nS nF nW bB (hdO v) (fun i => u.1 (i + 17)) (soO v)
section RWX
variable {nS nF nT nW bB : Nat} {u v : XM}
theorem RW.b (h : RW nS nF nT nW bB u v) : nS ≤ 8 ∧ nF ≤ 12 ∧ nT ≤ 6 ∧ nW ≤ 5 ∧ 2 ≤ bB ∧ bB ≤ 40 := h.1.1
theorem RW.v0 (h : RW nS nF nT nW bB u v) : v.1 2 0 = nI nS := h.1.2.1.1
theorem RW.v1 (h : RW nS nF nT nW bB u v) : v.1 2 1 = nI nF := h.1.2.1.2.1
theorem RW.v2 (h : RW nS nF nT nW bB u v) : v.1 2 2 = nI nT := h.1.2.1.2.2.1
theorem RW.v3 (h : RW nS nF nT nW bB u v) : v.1 2 3 = nI nW := h.1.2.1.2.2.2.1
theorem RW.v4 (h : RW nS nF nT nW bB u v) : v.1 2 4 = nI bB := h.1.2.1.2.2.2.2
theorem RW.u0 (h : RW nS nF nT nW bB u v) : u.1 1 0 = nI nS := h.1.2.2.1.1
theorem RW.u1 (h : RW nS nF nT nW bB u v) : u.1 1 1 = nI nF := h.1.2.2.1.2.1
theorem RW.u2 (h : RW nS nF nT nW bB u v) : u.1 1 2 = nI nT := h.1.2.2.1.2.2.1
theorem RW.u3 (h : RW nS nF nT nW bB u v) : u.1 1 3 = nI nW := h.1.2.2.1.2.2.2.1
theorem RW.u4 (h : RW nS nF nT nW bB u v) : u.1 1 4 = nI bB := h.1.2.2.1.2.2.2.2.1
theorem RW.u5 (h : RW nS nF nT nW bB u v) : u.1 1 5 = v.1 2 5 := h.1.2.2.1.2.2.2.2.2
theorem RW.one (h : RW nS nF nT nW bB u v) {f : Nat} (hf : f < nF) : u.1 3 f = v.1 2 (6 + f) := (h.1.2.2.2.1 f hf).1
theorem RW.oth (h : RW nS nF nT nW bB u v) {f : Nat} (hf : f < nF) : u.1 5 f = v.1 2 (18 + f) := (h.1.2.2.2.1 f hf).2.1
theorem RW.knd (h : RW nS nF nT nW bB u v) {f : Nat} (hf : f < nF) : u.1 9 f = v.1 2 (42 + f) := (h.1.2.2.2.1 f hf).2.2.2
theorem RW.ends (h : RW nS nF nT nW bB u v) {f : Nat} (hf : f < nF) : ∃ a b d, a < nS ∧ b < nS ∧ a ≠ b ∧ 1 ≤ d ∧ d ≤ 9 ∧ v.1 2 (6 + f) = nI a ∧ v.1 2 (18 + f) = nI b ∧ v.1 2 (30 + f) = nI d := h.1.2.2.2.2.1 f hf
theorem RW.thg (h : RW nS nF nT nW bB u v) {t : Nat} (ht : t < nT) : u.1 11 t = v.1 2 (54 + t) := (h.1.2.2.2.2.2.1 t ht).1
theorem RW.thgN (h : RW nS nF nT nW bB u v) {t : Nat} (ht : t < nT) : ∃ s, s < nS ∧ v.1 2 (54 + t) = nI s := (h.1.2.2.2.2.2.1 t ht).2
theorem RW.pace (h : RW nS nF nT nW bB u v) {w : Nat} (hw : w < nW) : u.1 15 w = v.1 2 (65 + w) := (h.1.2.2.2.2.2.2 w hw).2.1
theorem RW.paceN (h : RW nS nF nT nW bB u v) {w : Nat} (hw : w < nW) : ∃ p, 1 ≤ p ∧ p ≤ 5 ∧ v.1 2 (65 + w) = nI p := by
  obtain ⟨s, p, -, h1, h2, -, h3⟩ := (h.1.2.2.2.2.2.2 w hw).2.2
  exact ⟨p, h1, h2, h3⟩
theorem RW.hour (h : RW nS nF nT nW bB u v) : u.1 17 0 = v.1 2 70 := h.2.2.1.1
theorem RW.hourN (h : RW nS nF nT nW bB u v) : ∃ n, n ≤ 400 ∧ v.1 2 70 = nI n := h.2.1
theorem RW.mood (h : RW nS nF nT nW bB u v) : u.1 17 1 = v.1 2 71 := h.2.2.1.2.1
theorem RW.gone (h : RW nS nF nT nW bB u v) : u.1 17 2 = v.1 2 73 := h.2.2.1.2.2
theorem so_at {a b k : Nat} (h : 70 + a = b) {v : XM} {x : Int32} : soO v (a + k) = x ↔ v.1 2 (b + k) = x := by
  unfold soO
  rw [show 70 + (a + k) = b + k by omega]
theorem RW.at_ (h : RW nS nF nT nW bB u v) {w : Nat} (hw : w < nW) : u.1 19 w = v.1 2 (74 + w) := ((h.2.2.2.1 w hw).1).trans ((so_at (by omega)).mpr rfl)
theorem RW.along (h : RW nS nF nT nW bB u v) {w : Nat} (hw : w < nW) : u.1 21 w = v.1 2 (79 + w) := ((h.2.2.2.1 w hw).2.1).trans ((so_at (by omega)).mpr rfl)
theorem RW.left (h : RW nS nF nT nW bB u v) {w : Nat} (hw : w < nW) : u.1 23 w = v.1 2 (84 + w) := ((h.2.2.2.1 w hw).2.2.1).trans ((so_at (by omega)).mpr rfl)
theorem RW.tired (h : RW nS nF nT nW bB u v) {w : Nat} (hw : w < nW) : u.1 25 w = v.1 2 (89 + w) := ((h.2.2.2.1 w hw).2.2.2.1).trans ((so_at (by omega)).mpr rfl)
theorem RW.known (h : RW nS nF nT nW bB u v) {w : Nat} (hw : w < nW) : u.1 27 w = v.1 2 (94 + w) := ((h.2.2.2.1 w hw).2.2.2.2).trans ((so_at (by omega)).mpr rfl)
theorem RW.wlk (h : RW nS nF nT nW bB u v) {w : Nat} (hw : w < nW) : ∃ s l t, s < nS ∧ l ≤ 9 ∧ t + l ≤ bB ∧ v.1 2 (74 + w) = nI s ∧ v.1 2 (84 + w) = nI l ∧ v.1 2 (89 + w) = nI t ∧ (l = 0 ↔ v.1 2 (79 + w) = -1) := by
  obtain ⟨s, l, t, h1, h2, h3, h4, h5, h6, h7⟩ := h.2.2.2.2.1 w hw
  exact ⟨s, l, t, h1, h2, h3, (so_at (by omega)).mp h4, (so_at (by omega)).mp h5, (so_at (by omega)).mp h6, h7.trans (so_at (by omega))⟩
theorem RW.out (h : RW nS nF nT nW bB u v) {w : Nat} (hw : nW ≤ w) (hw5 : w < 5) : v.1 2 (89 + w) = 0 ∧ v.1 2 (94 + w) = 0 := ⟨(so_at (by omega)).mp (h.2.2.2.2.2.1 w hw hw5).1, (so_at (by omega)).mp (h.2.2.2.2.2.1 w hw hw5).2⟩
/-- how deep, whatever the MOOD; now -/
def pdO (v : XM) (f : Nat) : Int32 := if bt (v.1 2 72) f = true then 1 else v.1 2 (30 + f)
theorem RW.dep (h : RW nS nF nT nW bB u v) {f : Nat} (hf : f < nF) : u.1 29 f = pdO v f := (h.2.2.2.2.2.2.1 f hf).1
theorem RW.slp (h : RW nS nF nT nW bB u v) {f : Nat} (hf : f < nF) : u.1 31 f = v.1 2 (99 + f) := ((h.2.2.2.2.2.2.1 f hf).2.1).trans ((so_at (by omega)).mpr rfl)
theorem RW.slpN (h : RW nS nF nT nW bB u v) {f : Nat} (hf : f < nF) : ∃ n, n ≤ 30 ∧ v.1 2 (99 + f) = nI n := by
  obtain ⟨n, h1, h2⟩ := (h.2.2.2.2.2.2.1 f hf).2.2
  exact ⟨n, h1, (so_at (by omega)).mp h2⟩
theorem RW.slpO (h : RW nS nF nT nW bB u v) {f : Nat} (hf : nF ≤ f) (hf2 : f < 12) : v.1 2 (99 + f) = 0 := (so_at (by omega)).mp (h.2.2.2.2.2.2.2 f hf hf2)
end RWX
theorem nI_iff {a b : Nat} (ha : a < 2 ^ 31) (hb : b < 2 ^ 31) (h : nI a = nI b) : a = b := (nI_eq ha hb).mp h
