/-! nothing is told outside the row -/
def zOut (s : Int → Int) : Prop := ∀ k, (k < 0 ∨ 937 ≤ k) → s k = 0
theorem zO_up {s : Int → Int} {i v : Int} (z : zOut s) (h : 0 ≤ i ∧ i < 937) : zOut (up s i v) := fun k hk => by
  rw [up_ne (by omega)]; exact z k hk
theorem zO_cp {s t : Int → Int} (z : zOut s) (z' : zOut t) : cp t s 0 937 = s := by
  funext k
  unfold cp
  by_cases c : 0 ≤ k ∧ k < 937
  · rw [if_pos c]
  · rw [if_neg c, z k (by omega), z' k (by omega)]
theorem zO_00 : zOut s00 := by
  unfold s00
  exact zO_up (zO_up (zO_up (zO_up (zO_up (zO_up (zO_up (zO_up (zO_up (fun _ _ => rfl) (by omega)) (by omega)) (by omega)) (by omega)) (by omega)) (by omega)) (by omega)) (by omega)) (by omega)
section Z1
variable {s : Int → Int}
theorem zO_BEG (z : zOut s) {a : Int} (h : 0 ≤ a ∧ a < 5) : zOut (BEGs s a) := zO_up (zO_up (zO_up z (by omega)) (by omega)) (by omega)
theorem zO_say (ok : okP s) (z : zOut s) {x y : Int} : zOut (tSAY s x y) := by
  have o := ok.2.1
  unfold tSAY
  split
  · exact zO_up z (by omega)
  · split
    · exact zO_up (zO_up (zO_up z (by omega)) (by omega)) (by omega)
    · exact z
theorem zO_book (ok : okP s) (z : zOut s) {x y : Int} : zOut (tBOOK s x y) := by
  have o := ok.2.2.2.1
  unfold tBOOK
  split
  · exact zO_up z (by omega)
  · split
    · exact zO_up (zO_up (zO_up z (by omega)) (by omega)) (by omega)
    · exact z
theorem zO_plan (ok : okP s) (z : zOut s) {x y : Int} : zOut (tPLAN s x y) := by
  have o := ok.2.2.1
  unfold tPLAN
  split
  · exact zO_up z (by omega)
  · split
    · exact zO_up (zO_up (zO_up z (by omega)) (by omega)) (by omega)
    · exact z
theorem zO_feed (ok : okP s) (z : zOut s) {x : Int} : zOut (tFEED s x) := by
  have o := ok.2.2.2.2.1
  unfold tFEED
  split
  · exact zO_up (zO_up z (by omega)) (by omega)
  · exact z
theorem zO_weigh (z : zOut s) {f n : Int} : zOut (tWEIGH s f n) := by
  unfold tWEIGH
  split
  · rename_i c; exact zO_up z (by omega)
  · exact z
theorem zO_away (ok : okP s) (z : zOut s) {p v : Int} : zOut (tAWAY s p v) := by
  have o := ok.1.1.2.2.1
  unfold tAWAY
  split
  · rename_i c; exact zO_up z (by omega)
  · exact z
theorem zO_begin (ok : okP s) (z : zOut s) {a x : Int} : zOut (tBEGIN s a x) := by
  have o := ok.1.1.2.1
  unfold tBEGIN
  split
  · rename_i c; exact zO_up (zO_BEG z (by omega)) (by omega)
  · exact z
theorem zO_learn (ok : okP s) (z : zOut s) {p x : Int} : zOut (tLEARN s p x) := by
  have o := ok.1.1.2.2.1
  unfold tLEARN
  split
  · rename_i c; exact zO_up z (by omega)
  · exact z
theorem zO_pass (ok : okP s) (z : zOut s) {n : Int} : zOut (tPASS s n) := by
  have o0 := ok.2.2.2.2.2.2.2.2.2.2
  unfold tPASS
  split
  · exact fun k hk => by rw [GOESn_low n.toNat ok.1.1 (by omega) k (by omega)]; exact z k hk
  · exact z
theorem zO_row (ok : okP s) (z : zOut s) {p k n : Int} : zOut (tROW s p k n) := by
  have o := ok.1.1.2.2.1
  unfold tROW
  split
  · rename_i c; exact zO_up z (by omega)
  · exact z
theorem zO_aunt (ok : okP s) (z : zOut s) {k v kn : Int} : zOut (tAUNT s k v kn) := by
  have o := ok.1.1.2.2.1
  unfold tAUNT
  split
  · rename_i c
    exact zO_up (zO_up (zO_up (zO_up (zO_up (zO_up (zO_up (zO_up (zO_up z (by omega)) (by omega)) (by omega)) (by omega)) (by omega)) (by omega)) (by omega)) (by omega)) (by omega)
  · exact z
theorem zO_asker (ok : okP s) (z : zOut s) : zOut (tASKER s) := by
  have o := ok.1.1.2.1
  unfold tASKER
  split
  · exact z
  · exact zO_up (zO_BEG (zO_up z (by omega)) (by omega)) (by omega)
end Z1
