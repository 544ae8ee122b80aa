/-! aunts: what is asked of each, by their kinds; a mouth -/
section NE
variable {h : MH} {a b : Nat}
theorem ne_oa {t ty n : Nat} {fs : List V} {f : Nat → Int} (h1 : h.2.2 a = some (cObj t fs)) (h2 : h.2.2 b = some (cArr ty n f)) : ¬ a = b := by
  intro e; rw [e, h2] at h1; cases h1
theorem ne_ra {t ty n k : Nat} {g : Nat → Option Nat} {f : Nat → Int} (h1 : h.2.2 a = some (cRef t k g)) (h2 : h.2.2 b = some (cArr ty n f)) : ¬ a = b := by
  intro e; rw [e, h2] at h1; cases h1
theorem ne_ro {t k u : Nat} {g : Nat → Option Nat} {fs : List V} (h1 : h.2.2 a = some (cRef t k g)) (h2 : h.2.2 b = some (cObj u fs)) : ¬ a = b := by
  intro e; rw [e, h2] at h1; cases h1
theorem ne_aa {t ty n k : Nat} {g f : Nat → Int} (h1 : h.2.2 a = some (cArr t k g)) (h2 : h.2.2 b = some (cArr ty n f)) (hn : ¬ k = n) : ¬ a = b := by
  intro e; rw [e, h2] at h1; cases h1; exact hn rfl
theorem ne_oo {t u : Nat} {fs gs : List V} (h1 : h.2.2 a = some (cObj t fs)) (h2 : h.2.2 b = some (cObj u gs)) (hn : ¬ t = u) : ¬ a = b := by
  intro e; rw [e, h2] at h1; cases h1; exact hn rfl
end NE
def kT (k : Int) : Nat := if k = 1 then 4 else if k = 2 then 5 else if k = 3 then 8 else if k = 4 then 6 else if k = 5 then 3 else if k = 6 then 9 else 2
def AUC (r : Nat) (k p v kn : Int) : MC := if k = 6 then cObj 9 [vI p, vI v, vI kn, vR r] else cObj (kT k) [vI p, vI v, vI kn]
theorem AUC_0 {r : Nat} {p v kn : Int} : AUC r 0 p v kn = cObj 2 [vI p, vI v, vI kn] := rfl
theorem AUC_1 {r : Nat} {p v kn : Int} : AUC r 1 p v kn = cObj 4 [vI p, vI v, vI kn] := rfl
theorem AUC_2 {r : Nat} {p v kn : Int} : AUC r 2 p v kn = cObj 5 [vI p, vI v, vI kn] := rfl
theorem AUC_3 {r : Nat} {p v kn : Int} : AUC r 3 p v kn = cObj 8 [vI p, vI v, vI kn] := rfl
theorem AUC_4 {r : Nat} {p v kn : Int} : AUC r 4 p v kn = cObj 6 [vI p, vI v, vI kn] := rfl
theorem AUC_5 {r : Nat} {p v kn : Int} : AUC r 5 p v kn = cObj 3 [vI p, vI v, vI kn] := rfl
theorem AUC_6 {r : Nat} {p v kn : Int} : AUC r 6 p v kn = cObj 9 [vI p, vI v, vI kn, vR r] := rfl
theorem k7 {k : Int} (hk : 0 ≤ k ∧ k ≤ 6) : k = 0 ∨ k = 1 ∨ k = 2 ∨ k = 3 ∨ k = 4 ∨ k = 5 ∨ k = 6 := by omega
theorem AUC_o {r : Nat} {k p v kn : Int} (hk : 0 ≤ k ∧ k ≤ 6) : ∃ (t : Nat) (fs : List V), AUC r k p v kn = cObj t fs ∧ auntT t = true := by
  rcases k7 hk with e | e | e | e | e | e | e <;> subst e
  · exact ⟨_, _, AUC_0, rfl⟩
  · exact ⟨_, _, AUC_1, rfl⟩
  · exact ⟨_, _, AUC_2, rfl⟩
  · exact ⟨_, _, AUC_3, rfl⟩
  · exact ⟨_, _, AUC_4, rfl⟩
  · exact ⟨_, _, AUC_5, rfl⟩
  · exact ⟨_, _, AUC_6, rfl⟩
section AU
variable {G : MG} {d : Nat} {h : MH} {Q : KQ} {a r : Nat} {k p v kn : Int}
theorem AG0 {K : V → Prop} (hk : 0 ≤ k ∧ k ≤ 6) : xGet 0 50 (some (AUC r k p v kn)) K = K (vI p) := by
  rcases k7 hk with e | e | e | e | e | e | e <;> subst e
  · rw [AUC_0]; simp only [GX2]
  · rw [AUC_1]; simp only [GX4]
  · rw [AUC_2]; simp only [GX5]
  · rw [AUC_3]; simp only [GX8]
  · rw [AUC_4]; simp only [GX6]
  · rw [AUC_5]; simp only [GX3]
  · rw [AUC_6]; simp only [GX9]
theorem AG1 {K : V → Prop} (hk : 0 ≤ k ∧ k ≤ 6) : xGet 1 50 (some (AUC r k p v kn)) K = K (vI v) := by
  rcases k7 hk with e | e | e | e | e | e | e <;> subst e
  · rw [AUC_0]; simp only [GX2]
  · rw [AUC_1]; simp only [GX4]
  · rw [AUC_2]; simp only [GX5]
  · rw [AUC_3]; simp only [GX8]
  · rw [AUC_4]; simp only [GX6]
  · rw [AUC_5]; simp only [GX3]
  · rw [AUC_6]; simp only [GX9]
theorem AG2 {K : V → Prop} (hk : 0 ≤ k ∧ k ≤ 6) : xGet 2 50 (some (AUC r k p v kn)) K = K (vI kn) := by
  rcases k7 hk with e | e | e | e | e | e | e <;> subst e
  · rw [AUC_0]; simp only [GX2]
  · rw [AUC_1]; simp only [GX4]
  · rw [AUC_2]; simp only [GX5]
  · rw [AUC_3]; simp only [GX8]
  · rw [AUC_4]; simp only [GX6]
  · rw [AUC_5]; simp only [GX3]
  · rw [AUC_6]; simp only [GX9]
theorem AP1 {K : MC → Prop} {x : Int} (hk : 0 ≤ k ∧ k ≤ 6) : xPut 1 50 (vI x) (some (AUC r k p v kn)) K = K (AUC r k p x kn) := by
  rcases k7 hk with e | e | e | e | e | e | e <;> subst e
  · rw [AUC_0, AUC_0]; simp only [PX2]
  · rw [AUC_1, AUC_1]; simp only [PX4]
  · rw [AUC_2, AUC_2]; simp only [PX5]
  · rw [AUC_3, AUC_3]; simp only [PX8]
  · rw [AUC_4, AUC_4]; simp only [PX6]
  · rw [AUC_5, AUC_5]; simp only [PX3]
  · rw [AUC_6, AUC_6]; simp only [PX9]
theorem AP2 {K : MC → Prop} {x : Int} (hk : 0 ≤ k ∧ k ≤ 6) : xPut 2 50 (vI x) (some (AUC r k p v kn)) K = K (AUC r k p v x) := by
  rcases k7 hk with e | e | e | e | e | e | e <;> subst e
  · rw [AUC_0, AUC_0]; simp only [PX2]
  · rw [AUC_1, AUC_1]; simp only [PX4]
  · rw [AUC_2, AUC_2]; simp only [PX5]
  · rw [AUC_3, AUC_3]; simp only [PX8]
  · rw [AUC_4, AUC_4]; simp only [PX6]
  · rw [AUC_5, AUC_5]; simp only [PX3]
  · rw [AUC_6, AUC_6]; simp only [PX9]
theorem AC {y pc : Nat} {L : Loc'} {st : List V} (hk : 0 ≤ k ∧ k ≤ 6) : xTag (some (AUC r k p v kn)) (kC 50 a G d y pc L st h Q) = wp G d y pc L (vR a :: st) h Q := by
  rcases k7 hk with e | e | e | e | e | e | e <;> subst e
  · rw [AUC_0]; simp only [xt_o, KK, OKS, true_and]
  · rw [AUC_1]; simp only [xt_o, KK, OKS, true_and]
  · rw [AUC_2]; simp only [xt_o, KK, OKS, true_and]
  · rw [AUC_3]; simp only [xt_o, KK, OKS, true_and]
  · rw [AUC_4]; simp only [xt_o, KK, OKS, true_and]
  · rw [AUC_5]; simp only [xt_o, KK, OKS, true_and]
  · rw [AUC_6]; simp only [xt_o, KK, OKS, true_and]
theorem AK (hk : 0 ≤ k ∧ k ≤ 6) : xTag (some (AUC r k p v kn)) (kS 6 G (d + 1) [vR a] h Q) = Q (some (vI k)) h := by
  rcases k7 hk with e | e | e | e | e | e | e <;> subst e
  · rw [AUC_0]; simp only [xt_o, KK, VS2, e99, U99]
  · rw [AUC_1]; simp only [xt_o, KK, VS4, e107, U107]
  · rw [AUC_2]; simp only [xt_o, KK, VS5, e112, U112]
  · rw [AUC_3]; simp only [xt_o, KK, VS8, e117, U117]
  · rw [AUC_4]; simp only [xt_o, KK, VS6, e122, U122]
  · rw [AUC_5]; simp only [xt_o, KK, VS3, e127, U127]
  · rw [AUC_6]; simp only [xt_o, KK, VS9, e132, U132]
theorem c_left (ha : h.2.2 a = some (AUC r k p v kn)) (hk : 0 ≤ k ∧ k ≤ 6) {x : Int} : wpC G (d + 1) 100 [vR a, vI x] h Q = Q (some (vI (iBin 3 kn (iBin 5 x (-1))))) h := by
  rw [e100]
  simp only [U100, KK, ha, AG2 hk, true_and]
theorem AL (ha : h.2.2 a = some (AUC r k p v kn)) (hk : 0 ≤ k ∧ k ≤ 6) {x : Int} : xTag (some (AUC r k p v kn)) (kS 8 G (d + 1) [vR a, vI x] h Q) = Q (some (vI (iBin 3 kn (iBin 5 x (-1))))) h := by
  rw [← c_left (G := G) (d := d) (Q := Q) ha hk]
  rcases k7 hk with e | e | e | e | e | e | e <;> subst e
  · rw [AUC_0]; simp only [xt_o, KK, VS2]
  · rw [AUC_1]; simp only [xt_o, KK, VS4]
  · rw [AUC_2]; simp only [xt_o, KK, VS5]
  · rw [AUC_3]; simp only [xt_o, KK, VS8]
  · rw [AUC_4]; simp only [xt_o, KK, VS6]
  · rw [AUC_5]; simp only [xt_o, KK, VS3]
  · rw [AUC_6]; simp only [xt_o, KK, VS9]
end AU
section C3
variable {G : MG} {d : Nat} {Q : KQ}
variable {v tx co sh ce sb nc a r : Nat} {pl cs sn nv : Int} {C S E y : Int → Int} {k p vv kn : Int}
theorem enF_S {e : Int} {T : List Bool} {x : Int} (hx : enF e [true] = x) : enF e T = (if T.headD false = true then x else 0) := by
  have ht : ([true] : List Bool).headD false = true := rfl
  rw [← hx]
  unfold enF
  rw [if_pos ht]
theorem c_mouth_l {h : MH} (hv : h.2.2 v = some (vO' tx co sh ce sb pl cs sn nv)) (hy : h.2.2 sb = some (cArr 0 6 (ix y))) (hc : h.2.2 co = some (cArr 0 nc (ix C))) (hS : h.2.2 sh = some (cArr 0 10 (ix S))) (hE : h.2.2 ce = some (cArr 0 10 (ix E))) (hnc : nc ≤ 100) (hsn : sn ≤ 10) {a1 a2 a3 : Option V} (n3 : nlO a3 = true) : ∀ (n : Nat) (i fr acc : Int) (l : List Int), VR C S E nc n i fr l → wfM l 0 → i + n = sn → 0 ≤ i → 0 ≤ fr → -100000 + 300 * (n : Int) ≤ acc → acc ≤ 100000 - 300 * (n : Int) → wp G (d + 2) 82 73 [some (vR v), a1, a2, a3, some (vI acc), some (vI fr), some (vI i)] [] h Q = Q (some (vI (max 0 (evL y l [] acc)))) h := by
  intro n
  induction n with
  | zero =>
    intro i fr acc l hV hw hi i0 f0 b0 b1
    have hV : l = [] := hV
    rw [hV, evL, u82_73]
    simp (disch := omega) only [KK, Int.reduceEq, not_false_iff, ↓reduceIte, ↓if_pos, ↓if_neg, xt_o, true_and, nlO_i, nlO_n, nlO_r, List.length_nil, List.length_cons, Nat.reduceAdd, Nat.reduceLeDiff, Nat.zero_le, U82, hv, GX10, j_max]
  | succ n ih =>
    intro i fr acc l hV hw hi i0 f0 b0 b1
    obtain ⟨n2, e, l', hl, hEi, hfn, ⟨he, hSi⟩, hr, hV'⟩ := hV
    rw [hl] at hw ⊢
    obtain ⟨w1, w2, w3⟩ := wfM_K he _ _ hr hw
    have hH := fun (K : KQ) => c_holds (G := G) (d := d) (h := h) (Q := K) hv hy hc hnc f0 hfn hr w1
    rw [evL_stk he _ _ _ hr, enF_S hSi]
    have bS : -300 ≤ S i ∧ S i ≤ 300 := by
      rw [← hSi]; unfold enF; rw [if_pos (by rfl)]; split <;> omega
    by_cases t : (stk y (seg C fr n2) []).headD false = true
    · rw [if_pos t] at hH ⊢
      rw [← ih (i + 1) (fr + n2) (acc + S i) l' hV' w2 (by omega) (by omega) (by omega) (by omega) (by omega), u82_73]
      simp (disch := omega) only [KK, Int.reduceEq, not_false_iff, ↓reduceIte, ↓if_pos, ↓if_neg, xt_o, true_and, nlO_i, nlO_n, nlO_r, List.length_nil, List.length_cons, Nat.reduceAdd, Nat.reduceLeDiff, Nat.zero_le, U82, hv, hS, hE, hEi, hH, GX10, VS10, xa_i, n3, ar_add (a := i), ar_add (a := acc)]
    · rw [if_neg t] at hH ⊢
      rw [← ih (i + 1) (fr + n2) (acc + 0) l' hV' w2 (by omega) (by omega) (by omega) (by omega) (by omega), u82_73]
      simp (disch := omega) only [KK, Int.reduceEq, not_false_iff, ↓reduceIte, ↓if_pos, ↓if_neg, xt_o, true_and, nlO_i, nlO_n, nlO_r, List.length_nil, List.length_cons, Nat.reduceAdd, Nat.reduceLeDiff, Nat.zero_le, U82, hv, hS, hE, hEi, hH, GX10, VS10, xa_i, n3, ar_add (a := i), Int.add_zero]
theorem c_mouth {h : MH} (hv : h.2.2 v = some (vO' tx co sh ce sb pl cs sn nv)) (hy : h.2.2 sb = some (cArr 0 6 (ix y))) (hc : h.2.2 co = some (cArr 0 nc (ix C))) (hS : h.2.2 sh = some (cArr 0 10 (ix S))) (hE : h.2.2 ce = some (cArr 0 10 (ix E))) (hnc : nc ≤ 100) (hsn : 0 ≤ sn ∧ sn ≤ 10) (nco : ¬ co = sb) (ha : h.2.2 a = some (AUC r k p vv kn)) (hk : 0 ≤ k ∧ k ≤ 6) {hd dy : Int} (hhd : 0 ≤ hd ∧ hd ≤ 255) (hkn : 0 ≤ kn ∧ kn ≤ 255) (hdy : 0 ≤ dy ∧ dy ≤ 200000) {l : List Int} (hV : VR C S E nc sn.toNat 0 0 l) (hw : wfM l 0) : ∃ y' : Int → Int, ∀ Q : KQ, wpC G (d + 3) 82 [vR v, vR a, vI hd, vI dy] h Q = Q (some (vI (max 0 (evL (fun j => if j = 0 then p else if j = 1 then k else if j = 2 then vv else if j = 3 then cnt hd else if j = 4 then cnt (iBin 3 kn (iBin 5 hd (-1))) else dy % 10) l [] 1)))) (hset h sb (cArr 0 6 (ix y'))) := by
  have n1 : ¬ v = sb := ne_oa hv hy
  have n3 : ¬ sh = sb := ne_aa hS hy (by decide)
  have n4 : ¬ ce = sb := ne_aa hE hy (by decide)
  have n5 : ¬ a = sb := by
    obtain ⟨t, fs, e, -⟩ := AUC_o (r := r) (p := p) (v := vv) (kn := kn) hk
    exact ne_oa (ha.trans (congrArg some e)) hy
  refine ⟨up (up (up (up (up (up y 0 p) 1 k) 2 vv) 3 (cnt hd)) 4 (cnt (iBin 3 kn (iBin 5 hd (-1))))) 5 (dy % 10), fun Q => ?_⟩
  have hlo := and_in (a := kn) (b := iBin 5 hd (-1)) hkn.1 (by omega)
  have hb1 := fun (h : MH) (K : KQ) => j_bc (G := G) (d := d + 1) (h := h) (Q := K) (x := hd) hhd
  have hb2 := fun (h : MH) (K : KQ) => j_bc (G := G) (d := d + 1) (h := h) (Q := K) (x := iBin 3 kn (iBin 5 hd (-1))) ⟨hlo.1, by omega⟩
  have hkd := fun (c : MC) (K : KQ) => AK (G := G) (d := d + 1) (h := hset h sb c) (Q := K) (a := a) (r := r) (p := p) (v := vv) (kn := kn) hk
  have hlf := fun (c : MC) (K : KQ) => AL (G := G) (d := d + 1) (h := hset h sb c) (Q := K) (a := a) (r := r) (p := p) (v := vv) (kn := kn) ((hs_ne n5).trans ha) hk (x := hd)
  have hl := evL_congr (y := fun j => if j = 0 then p else if j = 1 then k else if j = 2 then vv else if j = 3 then cnt hd else if j = 4 then cnt (iBin 3 kn (iBin 5 hd (-1))) else dy % 10) (y' := up (up (up (up (up (up y 0 p) 1 k) 2 vv) 3 (cnt hd)) 4 (cnt (iBin 3 kn (iBin 5 hd (-1))))) 5 (dy % 10)) (fun j j0 j1 => by
    unfold up
    rcases (show j = 0 ∨ j = 1 ∨ j = 2 ∨ j = 3 ∨ j = 4 ∨ j = 5 by omega) with e | e | e | e | e | e <;> subst e <;> rfl) l [] 1 0 hw
  rw [hl, ← c_mouth_l (G := G) (d := d) (Q := Q) (y := up (up (up (up (up (up y 0 p) 1 k) 2 vv) 3 (cnt hd)) 4 (cnt (iBin 3 kn (iBin 5 hd (-1))))) 5 (dy % 10)) (h := hset h sb (cArr 0 6 (ix (up (up (up (up (up (up y 0 p) 1 k) 2 vv) 3 (cnt hd)) 4 (cnt (iBin 3 kn (iBin 5 hd (-1))))) 5 (dy % 10))))) ((hs_ne n1).trans hv) hs_eq ((hs_ne nco).trans hc) ((hs_ne n3).trans hS) ((hs_ne n4).trans hE) hnc hsn.2 (a1 := some (vR a)) (a2 := some (vI hd)) (a3 := some (vI dy)) rfl sn.toNat 0 0 1 l hV hw (by omega) (by omega) (by omega) (by omega) (by omega), e82]
  simp (disch := omega) only [KK, Int.reduceEq, not_false_iff, ↓reduceIte, ↓if_pos, ↓if_neg, xt_o, true_and, nlO_i, nlO_n, nlO_r, List.length_nil, List.length_cons, Nat.reduceAdd, Nat.reduceLeDiff, Nat.zero_le, U82, hv, ha, hy, hs_eq, hs_ne n1, hs_ne n5, hs_hs, AG0 hk, AG1 hk, hkd, hlf, hb1, hb2, GX10, xs_i, ar_rem]
end C3
