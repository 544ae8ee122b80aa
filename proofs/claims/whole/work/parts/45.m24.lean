/-! the model as a whole: what is in its cells; what a call leaves alone -/
def mF (m : Nat) (h h' : MH) : Prop := h'.1 = h.1 ∧ h'.2.1 = h.2.1 ∧ ∀ q : Nat, (q < m ∨ m + 9 ≤ q) → h'.2.2 q = h.2.2 q
theorem mF_rf {m : Nat} {h : MH} : mF m h h := ⟨rfl, rfl, fun _ _ => rfl⟩
theorem mF_tr {m : Nat} {h h' h'' : MH} (a : mF m h h') (b : mF m h' h'') : mF m h h'' := ⟨b.1.trans a.1, b.2.1.trans a.2.1, fun q hq => (b.2.2 q hq).trans (a.2.2 q hq)⟩
theorem mF_set {m a : Nat} {h : MH} {c : MC} (ha : m ≤ a ∧ a < m + 9) : mF m h (hset h a c) := ⟨rfl, rfl, fun q hq => hs_ne (by omega)⟩
theorem mF_scr {m : Nat} {h : MH} {y t : Int → Int} : mF m h (scr m y t h) := mF_tr (mF_set (by omega)) (mF_set (by omega))
theorem mF_mst {m : Nat} {h : MH} {s y t : Int → Int} : mF m h (mst m s y t h) := mF_tr mF_scr (mF_set (by omega))
/-- the rows that are scratch only: the frame, by, truths, order, the best order; the numbers that are -/
def mJ (m : Nat) (h : MH) : Prop := ∃ u y t o b : Int → Int, h.2.2 (m + 3) = some (cArr 0 27 (ix u)) ∧ h.2.2 (m + 4) = some (cArr 0 6 (ix y)) ∧ h.2.2 (m + 5) = some (cArr 1 64 (ix t)) ∧ h.2.2 (m + 6) = some (cArr 0 6 (ix o)) ∧ h.2.2 (m + 7) = some (cArr 0 6 (ix b))
def MS (m : Nat) (s im : Int → Int) (hi rn : Int) (bd : Int → Int) (h : MH) : Prop := (∃ f0 f5 f6 f7 f8 f9 f12 f13 f14 f17 f18 f21 f22 f23 : Int, h.2.2 m = some (mO m f0 hi f5 f6 f7 f8 f9 f12 f13 f14 f17 f18 rn f21 f22 f23)) ∧ h.2.2 (m + 1) = some (cArr 0 937 (ix s)) ∧ h.2.2 (m + 2) = some (cArr 0 937 (ix im)) ∧ h.2.2 (m + 8) = some (cArr 0 20 (ix bd)) ∧ mJ m h
section M24
variable {m : Nat} {s im bd : Int → Int} {hi rn : Int} {h : MH}
theorem mJ_set {a : Nat} {c : MC} (e : ¬ a = m + 3 ∧ ¬ a = m + 4 ∧ ¬ a = m + 5 ∧ ¬ a = m + 6 ∧ ¬ a = m + 7) (j : mJ m h) : mJ m (hset h a c) := by
  obtain ⟨u, y, t, o, b, j1, j2, j3, j4, j5⟩ := j
  exact ⟨u, y, t, o, b, (hs_ne (by omega)).trans j1, (hs_ne (by omega)).trans j2, (hs_ne (by omega)).trans j3, (hs_ne (by omega)).trans j4, (hs_ne (by omega)).trans j5⟩
theorem mJ_scr {y' t' : Int → Int} (j : mJ m h) : mJ m (scr m y' t' h) := by
  obtain ⟨u, y, t, o, b, j1, j2, j3, j4, j5⟩ := j
  exact ⟨u, y', t', o, b, (scr_m (by omega) (by omega)).trans j1, scr_4, scr_5, (scr_m (by omega) (by omega)).trans j4, (scr_m (by omega) (by omega)).trans j5⟩
theorem mJ_fr {u' : Int → Int} (j : mJ m h) : mJ m (hset h (m + 3) (cArr 0 27 (ix u'))) := by
  obtain ⟨u, y, t, o, b, j1, j2, j3, j4, j5⟩ := j
  exact ⟨u', y, t, o, b, hs_eq, (hs_ne (by omega)).trans j2, (hs_ne (by omega)).trans j3, (hs_ne (by omega)).trans j4, (hs_ne (by omega)).trans j5⟩
theorem MS_scr {y' t' : Int → Int} (z : MS m s im hi rn bd h) : MS m s im hi rn bd (scr m y' t' h) := by
  obtain ⟨⟨a1, a2, a3, a4, a5, a6, a7, a8, a9, b1, b2, b3, b4, b5, h0⟩, h1, h2, h8, j⟩ := z
  exact ⟨⟨a1, a2, a3, a4, a5, a6, a7, a8, a9, b1, b2, b3, b4, b5, (scr_m (by omega) (by omega)).trans h0⟩, (scr_m (by omega) (by omega)).trans h1, (scr_m (by omega) (by omega)).trans h2, (scr_m (by omega) (by omega)).trans h8, mJ_scr j⟩
theorem MS_s {s' : Int → Int} (z : MS m s im hi rn bd h) : MS m s' im hi rn bd (hset h (m + 1) (cArr 0 937 (ix s'))) := by
  obtain ⟨⟨a1, a2, a3, a4, a5, a6, a7, a8, a9, b1, b2, b3, b4, b5, h0⟩, h1, h2, h8, j⟩ := z
  exact ⟨⟨a1, a2, a3, a4, a5, a6, a7, a8, a9, b1, b2, b3, b4, b5, (hs_ne (by omega)).trans h0⟩, hs_eq, (hs_ne (by omega)).trans h2, (hs_ne (by omega)).trans h8, mJ_set (by omega) j⟩
theorem MS_mst {s' y' t' : Int → Int} (z : MS m s im hi rn bd h) : MS m s' im hi rn bd (mst m s' y' t' h) := MS_s (MS_scr z)
theorem MS_fr {u' : Int → Int} (z : MS m s im hi rn bd h) : MS m s im hi rn bd (hset h (m + 3) (cArr 0 27 (ix u'))) := by
  obtain ⟨⟨a1, a2, a3, a4, a5, a6, a7, a8, a9, b1, b2, b3, b4, b5, h0⟩, h1, h2, h8, j⟩ := z
  exact ⟨⟨a1, a2, a3, a4, a5, a6, a7, a8, a9, b1, b2, b3, b4, b5, (hs_ne (by omega)).trans h0⟩, (hs_ne (by omega)).trans h1, (hs_ne (by omega)).trans h2, (hs_ne (by omega)).trans h8, mJ_fr j⟩
/-- a call of the model that leaves the rest alone -/
def mC (G : MG) (m k y : Nat) (a : List V) (h : MH) (r : Int) (s im : Int → Int) (hi rn : Int) (bd : Int → Int) : Prop := ∃ h' : MH, MS m s im hi rn bd h' ∧ mF m h h' ∧ wpC G k y a h (qEq (some (vI r)) h')
theorem mC_id {G : MG} {k y : Nat} {a : List V} {r : Int} (z : MS m s im hi rn bd h) (w : ∀ Q : KQ, wpC G k y a h Q = Q (some (vI r)) h) : mC G m k y a h r s im hi rn bd := ⟨h, z, mF_rf, by rw [w]; exact ⟨rfl, rfl⟩⟩
end M24
