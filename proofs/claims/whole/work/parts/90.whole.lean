-- The whole relation; copies of states.
def bec (n : Nat) (g h : Nat → Int32) : Nat → Int32 := fun k => if k < n then h k else g k
theorem bec_in {n k : Nat} {g h : Nat → Int32} (hk : k < n) : bec n g h k = h k := if_pos hk
theorem put_bec {v u : XM} {o p n : Nat} : x_put v o 2 (r_bec n n (x_sub v o) (x_sub u p)) = x_row v (1 + o) (bec n (v.1 (1 + o)) (u.1 (1 + p))) := by
  refine Prod.ext ?_ ?_
  · funext i j
    show (if o ≤ i ∧ i < o + 2 then (r_bec n n (x_sub v o) (x_sub u p)).1 (i - o) else v.1 i) j = (if i = 1 + o then bec n (v.1 (1 + o)) (u.1 (1 + p)) else v.1 i) j
    by_cases c : i = 1 + o
    · subst c
      rw [if_pos (by omega), if_pos rfl, show 1 + o - o = 1 by omega]
      show (if 1 = 1 ∧ j < n then (if j < n then u.1 (1 + p) j else 0) else v.1 (1 + o) j) = if j < n then u.1 (1 + p) j else v.1 (1 + o) j
      by_cases c2 : j < n
      · rw [if_pos ⟨rfl, c2⟩, if_pos c2, if_pos c2]
      · rw [if_neg (fun q => c2 q.2), if_neg c2]
    · rw [if_neg c]
      by_cases c2 : o ≤ i ∧ i < o + 2
      · rw [if_pos c2]
        show (if i - o = 1 ∧ j < n then _ else v.1 (i - o + o) j) = _
        rw [if_neg (by omega), Nat.sub_add_cancel c2.1]
      · rw [if_neg c2]
  · funext i
    show (if o ≤ i ∧ i < o + 2 then v.2 (i - o + o) else v.2 i) = v.2 i
    by_cases c : o ≤ i ∧ i < o + 2
    · rw [if_pos c, Nat.sub_add_cancel c.1]
    · rw [if_neg c]
theorem put_fill {v : XM} {o n : Nat} {x : Int32} : x_put v o 2 (r_fill n (x_sub v o) x) = x_row v (1 + o) (bec n (v.1 (1 + o)) (fun _ => x)) := by
  refine Prod.ext ?_ ?_
  · funext i j
    show (if o ≤ i ∧ i < o + 2 then (r_fill n (x_sub v o) x).1 (i - o) else v.1 i) j = (if i = 1 + o then bec n (v.1 (1 + o)) (fun _ => x) else v.1 i) j
    by_cases c : i = 1 + o
    · subst c
      rw [if_pos (by omega), if_pos rfl, show 1 + o - o = 1 by omega]
      show (if 1 = 1 ∧ j < n then x else v.1 (1 + o) j) = if j < n then x else v.1 (1 + o) j
      by_cases c2 : j < n
      · rw [if_pos ⟨rfl, c2⟩, if_pos c2]
      · rw [if_neg (fun q => c2 q.2), if_neg c2]
    · rw [if_neg c]
      by_cases c2 : o ≤ i ∧ i < o + 2
      · rw [if_pos c2]
        show (if i - o = 1 ∧ j < n then _ else v.1 (i - o + o) j) = _
        rw [if_neg (by omega), Nat.sub_add_cancel c2.1]
      · rw [if_neg c2]
  · funext i
    show (if o ≤ i ∧ i < o + 2 then v.2 (i - o + o) else v.2 i) = v.2 i
    by_cases c : o ≤ i ∧ i < o + 2
    · rw [if_pos c, Nat.sub_add_cancel c.1]
    · rw [if_neg c]
/-- two states of the class that hold the same -/
def StEq (a b : Nat → Nat → Int32) : Prop := (∀ j, j < 3 → a 0 j = b 0 j) ∧ (∀ j, j < 5 → a 2 j = b 2 j ∧ a 4 j = b 4 j ∧ a 6 j = b 6 j ∧ a 8 j = b 8 j ∧ a 10 j = b 10 j) ∧ ∀ j, j < 12 → a 12 j = b 12 j ∧ a 14 j = b 14 j
theorem become_st (v0 v1 : XM) : StEq (f_X5_become v0 v1).1 v1.1 := by
  simp only [f_X5_become, lt_eq, put_bec, Nat.reduceAdd, si_row]
  refine ⟨fun j hj => ?_, fun j hj => ⟨?_, ?_, ?_, ?_, ?_⟩, fun j hj => ⟨?_, ?_⟩⟩
  · simp (disch := omega) only [row_off, row_at]
    rcases (show j = 0 ∨ j = 1 ∨ j = 2 by omega) with rfl | rfl | rfl <;> simp (disch := omega) only [up_eq, up_ne]
  all_goals simp (disch := omega) only [row_off, row_at, bec_in]
theorem RS.steq {nS nF nW bB : Nat} {hd so : Nat → Int32} {cs cs' : Nat → Nat → Int32} (h : RS nS nF nW bB hd cs so) (e : StEq cs' cs) (hF : nF ≤ 12) (hW : nW ≤ 5) : RS nS nF nW bB hd cs' so := by
  obtain ⟨h1, h2, h3, h4, h5, h6, h7⟩ := h
  obtain ⟨e1, e2, e3⟩ := e
  refine ⟨h1, ?_, ?_, h4, h5, ?_, h7⟩
  · rw [e1 0 (by omega), e1 1 (by omega), e1 2 (by omega)]; exact h2
  · intro w hw
    obtain ⟨a1, a2, a3, a4, a5⟩ := e2 w (by omega)
    rw [a1, a2, a3, a4, a5]; exact h3 w hw
  · intro f hf
    obtain ⟨a1, a2⟩ := e3 f (by omega)
    rw [a1, a2]; exact h6 f hf
-- names
def okW (l : List Nat) : Prop := (1 ≤ l.length ∧ l.length ≤ 7) ∧ ∀ c ∈ l, 1 ≤ c ∧ c ≤ 26
def eN (b : Nat) (l : List Nat) : Nat := l.foldl (fun a c => b * a + c) 0
def usd (nS nT nW i : Nat) : Prop := i < nS ∨ (8 ≤ i ∧ i < 8 + nT) ∨ (14 ≤ i ∧ i < 14 + nW)
def RN (nS nT nW : Nat) (cn rn : Nat → Int64) : Prop := (∀ i, i < 19 → usd nS nT nW i → ∃ l, okW l ∧ cn i = lN (eN 32 l) ∧ rn i = lN (eN 27 l)) ∧ (∀ i, i < 19 → ¬ usd nS nT nW i → cn i = 0) ∧ ∀ i j, i < 19 → j < 19 → usd nS nT nW i → usd nS nT nW j → cn i = cn j → i = j
-- sentences
/-- node k of the tree g, put down behind what it joins -/
def TR (g : Nat → Int32) : Nat → Nat → List (Int32 × Int32 × Int32) → Prop
  | 0, _, _ => False
  | n + 1, k, P => (g (4 * k) = 1 ∧ ∃ a Q, a < k ∧ g (4 * k + 1) = nI a ∧ TR g n a Q ∧ P = Q ++ [(19, 0, 0)]) ∨
    (g (4 * k) = 2 ∧ ∃ a b Q1 Q2, a < k ∧ b < k ∧ g (4 * k + 1) = nI a ∧ g (4 * k + 2) = nI b ∧ TR g n a Q1 ∧ TR g n b Q2 ∧ P = Q1 ++ Q2 ++ [(18, 0, 0)]) ∨
    (g (4 * k) = 3 ∧ ∃ a b Q1 Q2, a < k ∧ b < k ∧ g (4 * k + 1) = nI a ∧ g (4 * k + 2) = nI b ∧ TR g n a Q1 ∧ TR g n b Q2 ∧ P = Q1 ++ Q2 ++ [(17, 0, 0)]) ∨
    (∃ (w : Nat) (s x : Int32), 20 ≤ w ∧ w ≤ 28 ∧ g (4 * k) = nI (50 + w) ∧ P = [(nI w, s, x)] ∧ (w = 23 ∨ w = 24 → g (4 * k + 1) = x) ∧ (25 ≤ w → g (4 * k + 2) = x ∧ g (4 * k + 3) = s ∧ (s = 60 ∨ s = 61 ∨ s = 62)))
def RSen (cn : Nat → Nat → Int32) (sn : Nat → Int32) : Prop := (sn 0 = 0 ∧ cn 0 0 = 0) ∨ (sn 0 = 1 ∧ ∃ (n t : Nat) (P : List (Int32 × Int32 × Int32)), 1 ≤ n ∧ n ≤ 20 ∧ cn 0 0 = nI n ∧ t < 60 ∧ sn 1 = nI t ∧ P.length ≤ 40 ∧ cn 0 1 = nI P.length ∧ TR (fun j => sn (2 + j)) 61 t P ∧ ∀ i x, P[i]? = some x → cn 2 i = x.1 ∧ cn 4 i = x.2.1 ∧ cn 6 i = x.2.2)
/-- a world with all that is kept of it -/
def RWorld (nS nF nT nW bB : Nat) (cu : Nat → Nat → Int32) (cl : Nat → Int64) (nw : Nat → Int32) (rn : Nat → Int64) : Prop :=
  RV nS nF nT nW bB (fun i => cu (i + 1)) nw ∧ RS nS nF nW bB nw (fun i => cu (i + 17)) (fun j => nw (70 + j)) ∧ RN nS nT nW cl rn ∧ RSen (fun i => cu (i + 32)) (fun j => nw (111 + j))
def RHist (nS nF nW bB : Nat) (hd : Nat → Int32) (w v : XM) : Prop := ∃ m x : Nat, m ≤ 8 ∧ x < 8 ∧ w.1 143 2 = nI m ∧ w.1 143 1 = nI x ∧ v.1 0 24 = nI m ∧ ∀ k, k < m → RS nS nF nW bB hd (fun i => w.1 (i + (145 + 15 * ((x + 7 - k) % 8)))) (fun j => v.1 5 (41 * (m - 1 - k) + j))
def RImg (R k : Nat) (w v : XM) : Prop := (w.1 R 3 = 0 ∧ v.1 10 k = 0) ∨ (w.1 R 3 = 1 ∧ v.1 10 k = 1 ∧ ∃ nS nF nT nW bB, RWorld nS nF nT nW bB (fun i => w.1 (i + R)) (w.2 (16 + R)) (fun j => v.1 4 (353 * k + j)) (fun i => v.2 9 (19 * k + i)))
def RTape (w v : XM) : Prop := (∃ n, n ≤ 940 ∧ w.1 1 2 = nI n ∧ v.1 0 2 = nI n) ∧ (∀ i, i < 940 → w.1 3 i = v.1 1 i ∧ ∃ b, b < 256 ∧ v.1 1 i = nI b) ∧ w.1 1 10 = v.1 0 10
def x_wd : List (List Nat) := ["spot", "inn", "fold", "thing", "walker", "breath", "laugh", "worry", "frown", "goes", "learns", "tells", "rests", "cream", "slip", "mood", "hour", "or", "and", "not", "going", "housed", "lost", "at", "knows", "left", "tired", "pace", "number"].map (fun s => s.toList.map (fun c => c.toNat - 96))
def RWds (w : XM) : Prop := ∀ i, i < 29 → w.2 4 i = lN (eN 32 (x_wd.getD i []))
def RTold (w v : XM) : Prop := (w.1 282 5 = 0 ∧ v.1 0 41 = 0) ∨ (w.1 282 5 = 1 ∧ v.1 0 41 = 1 ∧ w.1 282 6 = v.1 18 0 ∧ w.1 282 7 = v.1 18 1 ∧ w.1 282 8 = v.1 18 2 ∧ w.1 282 9 = v.1 18 3)
def RRoad (w v : XM) : Prop := (∃ n, n ≤ 8 ∧ w.1 300 6 = nI n ∧ v.1 0 27 = nI n ∧ ∀ i, i < n → w.1 312 i = v.1 12 i) ∧ (∃ n, n ≤ 6 ∧ w.1 300 8 = nI n ∧ v.1 0 31 = nI n ∧ ∀ i, i < n → w.1 314 i = v.1 15 i) ∧ (w.1 300 9 = v.1 0 32 ∧ w.1 300 10 = v.1 0 33 ∧ w.1 300 11 = v.1 0 34) ∧ ∀ i, i < 8 → w.1 308 i = 0
def RTag (w v : XM) : Prop := ∃ n, n ≤ 32 ∧ w.1 315 1 = nI n ∧ v.1 0 36 = nI n ∧ ∀ i, i < n → w.1 317 i = v.1 16 i
/-- all of the class's object and all of the reference's -/
def Rel (w v : XM) : Prop := ∃ nS nF nT nW bB, RWorld nS nF nT nW bB (fun i => w.1 (i + 5)) (w.2 21) (v.1 2) (v.2 7) ∧ RHist nS nF nW bB (v.1 2) w v ∧ RImg 46 0 w v ∧ RImg 87 1 w v ∧ RTape w v ∧ RWds w ∧ RTold w v ∧ RRoad w v ∧ RTag w v
