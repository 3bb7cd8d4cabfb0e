-- What stays of the relation when a deed changes the state.
theorem TR.congr {g g' : Nat → Int32} (hg : ∀ j, j < 240 → g' j = g j) : ∀ (n k : Nat) (P : List (Int32 × Int32 × Int32)), k < 60 → TR g n k P → TR g' n k P
  | 0, _, _, _, h => h
  | n + 1, k, P, hk, h => by
    rcases h with ⟨h1, a, Q, h2, h3, h4, h5⟩ | ⟨h1, a, b, Q1, Q2, h2, h3, h4, h5, h6, h7, h8⟩ | ⟨h1, a, b, Q1, Q2, h2, h3, h4, h5, h6, h7, h8⟩ | ⟨w, s, x, h1, h2, h3, h4, h5, h6⟩
    · exact Or.inl ⟨by rw [hg _ (by omega)]; exact h1, a, Q, h2, by rw [hg _ (by omega)]; exact h3, TR.congr hg n a Q (by omega) h4, h5⟩
    · exact Or.inr (Or.inl ⟨by rw [hg _ (by omega)]; exact h1, a, b, Q1, Q2, h2, h3, by rw [hg _ (by omega)]; exact h4, by rw [hg _ (by omega)]; exact h5, TR.congr hg n a Q1 (by omega) h6, TR.congr hg n b Q2 (by omega) h7, h8⟩)
    · exact Or.inr (Or.inr (Or.inl ⟨by rw [hg _ (by omega)]; exact h1, a, b, Q1, Q2, h2, h3, by rw [hg _ (by omega)]; exact h4, by rw [hg _ (by omega)]; exact h5, TR.congr hg n a Q1 (by omega) h6, TR.congr hg n b Q2 (by omega) h7, h8⟩))
    · exact Or.inr (Or.inr (Or.inr ⟨w, s, x, h1, h2, by rw [hg _ (by omega)]; exact h3, h4, fun z => by rw [hg _ (by omega)]; exact h5 z, fun z => by rw [hg _ (by omega), hg _ (by omega)]; exact h6 z⟩))
theorem RSen.congr {cn cn' : Nat → Nat → Int32} {sn sn' : Nat → Int32} (h : RSen cn sn) (hc : cn' 0 0 = cn 0 0 ∧ cn' 0 1 = cn 0 1 ∧ (∀ j, j < 40 → cn' 2 j = cn 2 j ∧ cn' 4 j = cn 4 j ∧ cn' 6 j = cn 6 j)) (hs : ∀ j, j < 242 → sn' j = sn j) : RSen cn' sn' := by
  obtain ⟨c1, c2, c3⟩ := hc
  rcases h with ⟨h1, h2⟩ | ⟨h1, n, t, P, h2, h3, h4, h5, h6, h7, h8, h9, h10⟩
  · exact Or.inl ⟨by rw [hs 0 (by omega)]; exact h1, by rw [c1]; exact h2⟩
  · refine Or.inr ⟨by rw [hs 0 (by omega)]; exact h1, n, t, P, h2, h3, by rw [c1]; exact h4, h5, by rw [hs 1 (by omega)]; exact h6, h7, by rw [c2]; exact h8, TR.congr (fun j hj => hs _ (by omega)) 61 t P h5 h9, fun i x hx => ?_⟩
    have hi : i < P.length := (List.getElem?_eq_some_iff.mp hx).1
    obtain ⟨e1, e2, e3⟩ := c3 i (by omega)
    rw [e1, e2, e3]
    exact h10 i x hx
theorem RWorld.congr {nS nF nT nW bB : Nat} {cu cu' : Nat → Nat → Int32} {cl cl' rn rn' : Nat → Int64} {nw nw' : Nat → Int32} (h : RWorld nS nF nT nW bB cu cl nw rn) (hc : ∀ i, 1 ≤ i → i < 40 → cu' i = cu i) (hl : cl' = cl) (hr : ∀ i, i < 19 → rn' i = rn i) (hn : ∀ j, j < 353 → nw' j = nw j) : RWorld nS nF nT nW bB cu' cl' nw' rn' := by
  obtain ⟨h1, h2, h3, h4⟩ := h
  have hb := h1.1
  refine ⟨h1.congr (fun i hi => hc (i + 1) (by omega) (by omega)) (fun j hj => hn j (by omega)), h2.congr (fun i hi => hc (i + 17) (by omega) (by omega)) (fun j hj => hn j (by omega)) (fun j hj => hn _ (by omega)) (by omega) (by omega), ?_, h4.congr ?_ (fun j hj => hn _ (by omega))⟩
  · rw [hl]
    obtain ⟨a1, a2, a3⟩ := h3
    refine ⟨fun i hi hu => ?_, a2, a3⟩
    rw [hr i hi]; exact a1 i hi hu
  · rw [hc (0 + 32) (by omega) (by omega), hc (2 + 32) (by omega) (by omega), hc (4 + 32) (by omega) (by omega), hc (6 + 32) (by omega) (by omega)]
    exact ⟨rfl, rfl, fun _ _ => ⟨rfl, rfl, rfl⟩⟩
section RC
variable {w w' v v' : XM}
theorem RImg.congr {R k : Nat} (h : RImg R k w v) (hk : k < 2) (hw : ∀ i, i < 41 → w'.1 (i + R) = w.1 (i + R)) (hl : w'.2 (16 + R) = w.2 (16 + R)) (hv : v'.1 10 = v.1 10 ∧ v'.1 4 = v.1 4 ∧ v'.2 9 = v.2 9) : RImg R k w' v' := by
  have h0 : w'.1 R = w.1 R := by have := hw 0 (by omega); simpa using this
  unfold RImg at h ⊢
  rw [h0, hl, hv.1, hv.2.1, hv.2.2]
  rcases h with h | ⟨h1, h2, nS, nF, nT, nW, bB, h3⟩
  · exact Or.inl h
  · exact Or.inr ⟨h1, h2, nS, nF, nT, nW, bB, h3.congr (fun i a b => hw i (by omega)) rfl (fun _ _ => rfl) (fun _ _ => rfl)⟩
theorem RHist.congr {nS nF nW bB : Nat} {hd hd' : Nat → Int32} (h : RHist nS nF nW bB hd w v) (hb : nF ≤ 12 ∧ nW ≤ 5) (hh : ∀ j, j < 70 → hd' j = hd j) (hw : ∀ i, 143 ≤ i → i < 265 → w'.1 i = w.1 i) (hv : v'.1 5 = v.1 5 ∧ v'.1 0 24 = v.1 0 24) : RHist nS nF nW bB hd' w' v' := by
  obtain ⟨m, x, h1, h2, h3, h4, h5, h6⟩ := h
  refine ⟨m, x, h1, h2, by rw [hw 143 (by omega) (by omega)]; exact h3, by rw [hw 143 (by omega) (by omega)]; exact h4, by rw [hv.2]; exact h5, fun k hk => ?_⟩
  rw [hv.1]
  exact (h6 k hk).congr (fun i hi => hw _ (by omega) (by omega)) hh (fun _ _ => rfl) hb.1 hb.2
theorem RTape.congr (h : RTape w v) (h1 : w'.1 1 2 = w.1 1 2 ∧ w'.1 1 10 = w.1 1 10 ∧ w'.1 3 = w.1 3) (h2 : v'.1 0 2 = v.1 0 2 ∧ v'.1 0 10 = v.1 0 10 ∧ v'.1 1 = v.1 1) : RTape w' v' := by
  unfold RTape at h ⊢
  rw [h1.1, h1.2.1, h1.2.2, h2.1, h2.2.1, h2.2.2]; exact h
theorem RTold.congr (h : RTold w v) (h1 : w'.1 282 = w.1 282) (h2 : v'.1 0 41 = v.1 0 41 ∧ v'.1 18 = v.1 18) : RTold w' v' := by
  unfold RTold at h ⊢
  rw [h1, h2.1, h2.2]; exact h
theorem RRoad.congr (h : RRoad w v) (h1 : ∀ i, (i = 300 ∨ i = 308 ∨ i = 312 ∨ i = 314) → w'.1 i = w.1 i) (h2 : v'.1 0 27 = v.1 0 27 ∧ v'.1 0 31 = v.1 0 31 ∧ v'.1 0 32 = v.1 0 32 ∧ v'.1 0 33 = v.1 0 33 ∧ v'.1 0 34 = v.1 0 34) (h3 : v'.1 12 = v.1 12 ∧ v'.1 15 = v.1 15) : RRoad w' v' := by
  unfold RRoad at h ⊢
  rw [h1 300 (by omega), h1 308 (by omega), h1 312 (by omega), h1 314 (by omega), h2.1, h2.2.1, h2.2.2.1, h2.2.2.2.1, h2.2.2.2.2, h3.1, h3.2]; exact h
theorem RTag.congr (h : RTag w v) (h1 : w'.1 315 1 = w.1 315 1 ∧ w'.1 317 = w.1 317) (h2 : v'.1 0 36 = v.1 0 36 ∧ v'.1 16 = v.1 16) : RTag w' v' := by
  unfold RTag at h ⊢
  rw [h1.1, h1.2, h2.1, h2.2]; exact h
theorem RWds.congr (h : RWds w) (h1 : w'.2 4 = w.2 4) : RWds w' := by
  unfold RWds at h ⊢
  rw [h1]; exact h
/-- the relation at hand, with its numbers -/
def RelN (nS nF nT nW bB : Nat) (w v : XM) : Prop := RWorld nS nF nT nW bB (fun i => w.1 (i + 5)) (w.2 21) (v.1 2) (v.2 7) ∧ RHist nS nF nW bB (v.1 2) w v ∧ RImg 46 0 w v ∧ RImg 87 1 w v ∧ RTape w v ∧ RWds w ∧ RTold w v ∧ RRoad w v ∧ RTag w v
theorem RelN.rel {nS nF nT nW bB : Nat} (h : RelN nS nF nT nW bB w v) : Rel w v := ⟨nS, nF, nT, nW, bB, h⟩
theorem RelN.rw {nS nF nT nW bB : Nat} (h : RelN nS nF nT nW bB w v) : RW nS nF nT nW bB (x_sub w 5) v := ⟨h.1.1, h.1.2.1⟩
/-- the fields of the reference that the relation speaks of -/
def vF (j : Nat) : Prop := j = 2 ∨ j = 10 ∨ j = 24 ∨ j = 27 ∨ j = 31 ∨ j = 32 ∨ j = 33 ∨ j = 34 ∨ j = 36 ∨ j = 41
/-- the class's cells that hold nothing that is told -/
def scrW (i : Nat) : Prop := (128 ≤ i ∧ i < 143) ∨ (265 ≤ i ∧ i < 282) ∨ (283 ≤ i ∧ i < 300) ∨ i = 301 ∨ i = 302 ∨ i = 303 ∨ i = 304 ∨ i = 305 ∨ i = 306 ∨ i = 307 ∨ i = 309 ∨ i = 310 ∨ i = 44 ∨ i = 45
/-- a change of the state alone -/
theorem RelN.state {nS nF nT nW bB : Nat} (h : RelN nS nF nT nW bB w v) (h2 : w'.2 = w.2) (hc : ∀ i, (i < 22 ∨ (37 ≤ i ∧ i < 128) ∨ 265 ≤ i) → i ≠ 5 → ¬ scrW i → w'.1 i = w.1 i) (hv2 : v'.2 7 = v.2 7 ∧ v'.2 9 = v.2 9) (hv : v'.1 1 = v.1 1 ∧ v'.1 4 = v.1 4 ∧ v'.1 10 = v.1 10 ∧ v'.1 12 = v.1 12 ∧ v'.1 15 = v.1 15 ∧ v'.1 16 = v.1 16 ∧ v'.1 18 = v.1 18) (hf : ∀ j, vF j → j ≠ 24 → v'.1 0 j = v.1 0 j) (hn : ∀ j, j < 70 ∨ 111 ≤ j → v'.1 2 j = v.1 2 j)
    (hS : RS nS nF nW bB (v'.1 2) (fun i => w'.1 (i + 22)) (fun j => v'.1 2 (70 + j))) (hH : RHist nS nF nW bB (v'.1 2) w' v') : RelN nS nF nT nW bB w' v' := by
  obtain ⟨⟨a1, a2, a3, a4⟩, -, a6, a7, a8, a9, a10, a11, a12⟩ := h
  have hb := a1.1
  refine ⟨⟨a1.congr (fun i hi => hc _ (by omega) (by omega) (by unfold scrW; omega)) (fun j hj => hn j (by omega)), hS, ?_, a4.congr ?_ (fun j hj => hn _ (by omega))⟩, hH, a6.congr (by omega) (fun i hi => hc _ (by omega) (by omega) ?_) (by rw [h2]) ⟨hv.2.2.1, hv.2.1, hv2.2⟩, a7.congr (by omega) (fun i hi => hc _ (by omega) (by omega) ?_) (by rw [h2]) ⟨hv.2.2.1, hv.2.1, hv2.2⟩, a8.congr ?_ ?_, a9.congr (by rw [h2]), a10.congr ?_ ?_, a11.congr ?_ ?_ ?_, a12.congr ?_ ?_⟩
  · rw [h2, hv2.1]; exact a3
  · dsimp only
    rw [hc (0 + 32 + 5) (by omega) (by omega) (by unfold scrW; omega), hc (2 + 32 + 5) (by omega) (by omega) (by unfold scrW; omega), hc (4 + 32 + 5) (by omega) (by omega) (by unfold scrW; omega), hc (6 + 32 + 5) (by omega) (by omega) (by unfold scrW; omega)]
    exact ⟨rfl, rfl, fun _ _ => ⟨rfl, rfl, rfl⟩⟩
  · unfold scrW; omega
  · unfold scrW; omega
  · rw [hc 1 (by omega) (by omega) (by unfold scrW; omega), hc 3 (by omega) (by omega) (by unfold scrW; omega)]; exact ⟨rfl, rfl, rfl⟩
  · exact ⟨hf 2 (by unfold vF; omega) (by omega), hf 10 (by unfold vF; omega) (by omega), hv.1⟩
  · exact hc 282 (by omega) (by omega) (by unfold scrW; omega)
  · exact ⟨hf 41 (by unfold vF; omega) (by omega), hv.2.2.2.2.2.2⟩
  · intro i hi
    exact hc i (by omega) (by omega) (by unfold scrW; omega)
  · exact ⟨hf 27 (by unfold vF; omega) (by omega), hf 31 (by unfold vF; omega) (by omega), hf 32 (by unfold vF; omega) (by omega), hf 33 (by unfold vF; omega) (by omega), hf 34 (by unfold vF; omega) (by omega)⟩
  · exact ⟨hv.2.2.2.1, hv.2.2.2.2.1⟩
  · rw [hc 315 (by omega) (by omega) (by unfold scrW; omega), hc 317 (by omega) (by omega) (by unfold scrW; omega)]; exact ⟨rfl, rfl⟩
  · exact ⟨hf 36 (by unfold vF; omega) (by omega), hv.2.2.2.2.2.1⟩
/-- nothing that is told has changed -/
theorem RelN.same {nS nF nT nW bB : Nat} (h : RelN nS nF nT nW bB w v) (h2 : w'.2 = w.2) (hc : ∀ i, i ≠ 5 → ¬ scrW i → w'.1 i = w.1 i) (hv2 : v'.2 7 = v.2 7 ∧ v'.2 9 = v.2 9) (hv : v'.1 1 = v.1 1 ∧ v'.1 2 = v.1 2 ∧ v'.1 4 = v.1 4 ∧ v'.1 5 = v.1 5 ∧ v'.1 10 = v.1 10 ∧ v'.1 12 = v.1 12 ∧ v'.1 15 = v.1 15 ∧ v'.1 16 = v.1 16 ∧ v'.1 18 = v.1 18) (hf : ∀ j, vF j → v'.1 0 j = v.1 0 j) : RelN nS nF nT nW bB w' v' := by
  have hb := h.1.1.1
  refine h.state h2 (fun i hi h5 hs => hc i h5 hs) hv2 ⟨hv.1, hv.2.2.1, hv.2.2.2.2.1, hv.2.2.2.2.2.1, hv.2.2.2.2.2.2.1, hv.2.2.2.2.2.2.2.1, hv.2.2.2.2.2.2.2.2⟩ (fun j hj _ => hf j hj) (fun j _ => by rw [hv.2.1]) ?_ ?_
  · rw [hv.2.1]
    exact h.1.2.1.congr (fun i hi => hc _ (by omega) (by unfold scrW; omega)) (fun _ _ => rfl) (fun _ _ => rfl) (by omega) (by omega)
  · rw [hv.2.1]
    exact h.2.1.congr ⟨by omega, by omega⟩ (fun _ _ => rfl) (fun i a b => hc i (by omega) (by unfold scrW; omega)) ⟨hv.2.2.2.1, hf 24 (by unfold vF; omega)⟩
end RC
