/-! classes: name, fields -/
def mFs : List (String × List (String × String × String × Bool)) := [
  ("java/util/ArrayList", [("java/util/AbstractList", "modCount", "I", false), ("java/util/ArrayList", "elementData", "[Ljava/lang/Object;", false), ("java/util/ArrayList", "size", "I", false)]),
  ("AuntsInTurn$Asker", [("AuntsInTurn$Asker", "heard", "I", false), ("AuntsInTurn$Asker", "shock", "I", false), ("AuntsInTurn$Asker", "place", "I", false), ("AuntsInTurn$Asker", "back", "Z", false)]),
  ("AuntsInTurn$Aunt", [("AuntsInTurn$Aunt", "number", "I", true), ("AuntsInTurn$Aunt", "v", "I", false), ("AuntsInTurn$Aunt", "knows", "I", false)]),
  ("AuntsInTurn$Baker", [("AuntsInTurn$Aunt", "number", "I", true), ("AuntsInTurn$Aunt", "v", "I", false), ("AuntsInTurn$Aunt", "knows", "I", false)]),
  ("AuntsInTurn$Blunt", [("AuntsInTurn$Aunt", "number", "I", true), ("AuntsInTurn$Aunt", "v", "I", false), ("AuntsInTurn$Aunt", "knows", "I", false)]),
  ("AuntsInTurn$Meek", [("AuntsInTurn$Aunt", "number", "I", true), ("AuntsInTurn$Aunt", "v", "I", false), ("AuntsInTurn$Aunt", "knows", "I", false)]),
  ("AuntsInTurn$Pious", [("AuntsInTurn$Aunt", "number", "I", true), ("AuntsInTurn$Aunt", "v", "I", false), ("AuntsInTurn$Aunt", "knows", "I", false)]),
  ("AuntsInTurn$Rows", [("AuntsInTurn$Rows", "first", "[I", true), ("AuntsInTurn$Rows", "second", "[I", true), ("AuntsInTurn$Rows", "came", "I", false)]),
  ("AuntsInTurn$Sly", [("AuntsInTurn$Aunt", "number", "I", true), ("AuntsInTurn$Aunt", "v", "I", false), ("AuntsInTurn$Aunt", "knows", "I", false)]),
  ("AuntsInTurn$Told", [("AuntsInTurn$Aunt", "number", "I", true), ("AuntsInTurn$Aunt", "v", "I", false), ("AuntsInTurn$Aunt", "knows", "I", false), ("AuntsInTurn$Told", "row", "[I", true)]),
  ("AuntsInTurn$Valley", [("AuntsInTurn$Valley", "text", "[I", true), ("AuntsInTurn$Valley", "place", "I", false), ("AuntsInTurn$Valley", "code", "[I", true), ("AuntsInTurn$Valley", "codes", "I", false), ("AuntsInTurn$Valley", "share", "[I", true), ("AuntsInTurn$Valley", "codeEnd", "[I", true), ("AuntsInTurn$Valley", "shares", "I", false), ("AuntsInTurn$Valley", "subjects", "[I", true), ("AuntsInTurn$Valley", "nerve", "I", false)]),
  ("AuntsInTurn$World", [("AuntsInTurn$World", "aunts", "Ljava/util/ArrayList;", true), ("AuntsInTurn$World", "askers", "Ljava/util/ArrayList;", true), ("AuntsInTurn$World", "valleys", "Ljava/util/ArrayList;", true), ("AuntsInTurn$World", "weights", "[I", true), ("AuntsInTurn$World", "tape", "[I", true), ("AuntsInTurn$World", "signs", "I", false), ("AuntsInTurn$World", "said", "LAuntsInTurn$Rows;", true), ("AuntsInTurn$World", "plan", "LAuntsInTurn$Rows;", true), ("AuntsInTurn$World", "book", "LAuntsInTurn$Rows;", true), ("AuntsInTurn$World", "day", "I", false), ("AuntsInTurn$World", "away", "I", false), ("AuntsInTurn$World", "noValley", "LAuntsInTurn$Valley;", true), ("AuntsInTurn$World", "climber", "LAuntsInTurn$Asker;", true)]),
  ("AuntsInTurn", [("AuntsInTurn", "now", "LAuntsInTurn$World;", true), ("AuntsInTurn", "image", "LAuntsInTurn$World;", true), ("AuntsInTurn", "trial", "LAuntsInTurn$World;", true), ("AuntsInTurn", "ran", "LAuntsInTurn$Rows;", true), ("AuntsInTurn", "imaged", "Z", false)]),
  ("AuntsInTurnModel", [("AuntsInTurnModel", "thrown", "I", false), ("AuntsInTurnModel", "s", "[I", true), ("AuntsInTurnModel", "image", "[I", true), ("AuntsInTurnModel", "frame", "[I", true), ("AuntsInTurnModel", "hasImage", "Z", false), ("AuntsInTurnModel", "act", "I", false), ("AuntsInTurnModel", "spot", "I", false), ("AuntsInTurnModel", "end", "I", false), ("AuntsInTurnModel", "isWrong", "Z", false), ("AuntsInTurnModel", "open", "I", false), ("AuntsInTurnModel", "by", "[I", true), ("AuntsInTurnModel", "truths", "[Z", true), ("AuntsInTurnModel", "climbHeard", "I", false), ("AuntsInTurnModel", "climbShock", "I", false), ("AuntsInTurnModel", "climbBack", "I", false), ("AuntsInTurnModel", "order", "[I", true), ("AuntsInTurnModel", "bestOrder", "[I", true), ("AuntsInTurnModel", "bestFacts", "I", false), ("AuntsInTurnModel", "bestShock", "I", false), ("AuntsInTurnModel", "bodies", "[I", true), ("AuntsInTurnModel", "ran", "I", false), ("AuntsInTurnModel", "kind", "I", false), ("AuntsInTurnModel", "number", "I", false), ("AuntsInTurnModel", "tellsV", "I", false)])]
def tbF (l : List (String × String × String × Bool)) : u_T := fun k => l.getD k ("", "", "", false)
def mCl : List vw_C := mFs.map (fun q => (q.1, tbF q.2, q.2.length))
def cN (t : Nat) : String := (mFs.getD t ("", [])).1
def cT (t : Nat) : u_T := tbF (mFs.getD t ("", [])).2
def cL (t : Nat) : Nat := (mFs.getD t ("", [])).2.length
def tyOf (t k : Nat) : FieldType := (parseFieldDescriptor (cT t k).2.2.1).getD .int
theorem mFs_len : mFs.length = 14 := by decide +kernel
theorem mCl_get {t : Nat} (h : t < 14) : mCl[t]? = some (cN t, cT t, cL t) := by
  have h2 : t < mFs.length := by rw [mFs_len]; exact h
  unfold mCl cN cT cL
  rw [List.getElem?_map, List.getElem?_eq_getElem h2, List.getD_eq_getElem?_getD, List.getElem?_eq_getElem h2]
  rfl
def ckLay (t : Nat) : Bool := (u_ws (cN t) (cT t) (cL t)).all (fun w => decide (w ∈ mT))
theorem g_lay0 : (List.range 14).all ckLay = true := by decide +kernel
theorem g_lay {t : Nat} (ht : t < 14) : ∀ w ∈ u_ws (cN t) (cT t) (cL t), w ∈ mT := fun w hw => of_decide_eq_true (List.all_eq_true.mp (List.all_eq_true.mp g_lay0 t (List.mem_range.mpr ht)) w hw)
def ckTy (t : Nat) : Bool := (List.range (cL t)).all (fun k => (parseFieldDescriptor (cT t k).2.2.1).isSome)
theorem g_ty0 : (List.range 14).all ckTy = true := by decide +kernel
theorem g_ty {t : Nat} (ht : t < 14) : ∀ k, k < cL t → parseFieldDescriptor (cT t k).2.2.1 = some (tyOf t k) := fun k hk => by
  have h := List.all_eq_true.mp (List.all_eq_true.mp g_ty0 t (List.mem_range.mpr ht)) k (List.mem_range.mpr hk)
  unfold tyOf
  cases hp : parseFieldDescriptor (cT t k).2.2.1 with
  | none => rw [hp] at h; cases h
  | some x => rfl
def ckNm (t : Nat) : Bool := (List.range (cL t)).all (fun a => (List.range (cL t)).all (fun b => decide (a = b) || decide ((cT t a).2.1 ≠ (cT t b).2.1)))
theorem g_nm0 : (List.range 14).all ckNm = true := by decide +kernel
theorem g_nm {t : Nat} (ht : t < 14) : ∀ a, a < cL t → ∀ b, b < cL t → a ≠ b → (cT t a).2.1 ≠ (cT t b).2.1 := fun a ha b hb hab => by
  have h := List.all_eq_true.mp (List.all_eq_true.mp (List.all_eq_true.mp g_nm0 t (List.mem_range.mpr ht)) a (List.mem_range.mpr ha)) b (List.mem_range.mpr hb)
  rcases (Bool.or_eq_true _ _).mp h with h | h
  · exact absurd (of_decide_eq_true h) hab
  · exact of_decide_eq_true h

/-- the texts: class, index, text, which constant -/
def strT : List (String × Nat × String × Nat) := [("AuntsInTurn$Valley", 48, "nerve ", 0), ("AuntsInTurn$Valley", 50, "bold ", 1), ("AuntsInTurn$Valley", 52, "shy ", 2), ("AuntsInTurn$Valley", 61, " ", 3), ("AuntsInTurn$Valley", 76, ")", 4), ("AuntsInTurn$Valley", 78, "pkvhld", 5), ("AuntsInTurn$Valley", 84, "<=>", 6), ("AuntsInTurnModel", 87, "pkvhld", 7), ("AuntsInTurnModel", 93, "<=>", 8), ("AuntsInTurnModel", 105, "nerve ", 9), ("AuntsInTurnModel", 111, "bold ", 10), ("AuntsInTurnModel", 116, "shy ", 11)]
/-- pairs of classes of which the first is not the second -/
def ncT : List (String × String) := [("AuntsInTurn$Aunt", "AuntsInTurn$Blunt"), ("AuntsInTurn$Baker", "AuntsInTurn$Blunt"), ("AuntsInTurn$Meek", "AuntsInTurn$Blunt"), ("AuntsInTurn$Sly", "AuntsInTurn$Blunt"), ("AuntsInTurn$Told", "AuntsInTurn$Blunt"), ("AuntsInTurn$Aunt", "AuntsInTurn$Meek"), ("AuntsInTurn$Blunt", "AuntsInTurn$Meek"), ("AuntsInTurn$Pious", "AuntsInTurn$Meek"), ("AuntsInTurn$Sly", "AuntsInTurn$Meek"), ("AuntsInTurn$Told", "AuntsInTurn$Meek"), ("AuntsInTurn$Aunt", "AuntsInTurn$Sly"), ("AuntsInTurn$Baker", "AuntsInTurn$Sly"), ("AuntsInTurn$Blunt", "AuntsInTurn$Sly"), ("AuntsInTurn$Meek", "AuntsInTurn$Sly"), ("AuntsInTurn$Pious", "AuntsInTurn$Sly"), ("AuntsInTurn$Aunt", "AuntsInTurn$Pious"), ("AuntsInTurn$Baker", "AuntsInTurn$Pious"), ("AuntsInTurn$Blunt", "AuntsInTurn$Pious"), ("AuntsInTurn$Meek", "AuntsInTurn$Pious"), ("AuntsInTurn$Sly", "AuntsInTurn$Pious"), ("AuntsInTurn$Told", "AuntsInTurn$Pious"), ("AuntsInTurn$Aunt", "AuntsInTurn$Baker"), ("AuntsInTurn$Blunt", "AuntsInTurn$Baker"), ("AuntsInTurn$Meek", "AuntsInTurn$Baker"), ("AuntsInTurn$Pious", "AuntsInTurn$Baker"), ("AuntsInTurn$Sly", "AuntsInTurn$Baker"), ("AuntsInTurn$Told", "AuntsInTurn$Baker"), ("AuntsInTurn$Aunt", "AuntsInTurn$Told"), ("AuntsInTurn$Baker", "AuntsInTurn$Told"), ("AuntsInTurn$Blunt", "AuntsInTurn$Told"), ("AuntsInTurn$Meek", "AuntsInTurn$Told"), ("AuntsInTurn$Pious", "AuntsInTurn$Told"), ("AuntsInTurn$Sly", "AuntsInTurn$Told")]
/-- pairs of classes of which the first is the second -/
def caT : List (String × String) := [("[I", "java/lang/Cloneable"), ("AuntsInTurn$Baker", "AuntsInTurn$Aunt"), ("AuntsInTurn$Blunt", "AuntsInTurn$Aunt"), ("AuntsInTurn$Meek", "AuntsInTurn$Aunt"), ("AuntsInTurn$Pious", "AuntsInTurn$Aunt"), ("AuntsInTurn$Sly", "AuntsInTurn$Aunt"), ("AuntsInTurn$Told", "AuntsInTurn$Aunt"), ("AuntsInTurn$Pious", "AuntsInTurn$Blunt"), ("AuntsInTurn$Baker", "AuntsInTurn$Meek"), ("AuntsInTurn$Told", "AuntsInTurn$Sly"), ("AuntsInTurn", "java/lang/Object"), ("AuntsInTurn$World", "java/lang/Object"), ("java/util/ArrayList", "java/lang/Object"), ("AuntsInTurn$Rows", "java/lang/Object"), ("AuntsInTurn$Valley", "java/lang/Object"), ("AuntsInTurn$Asker", "java/lang/Object"), ("AuntsInTurnModel", "java/lang/Object"), ("AuntsInTurn$Blunt", "java/lang/Object"), ("AuntsInTurn$Meek", "java/lang/Object"), ("AuntsInTurn$Sly", "java/lang/Object"), ("AuntsInTurn$Pious", "java/lang/Object"), ("AuntsInTurn$Baker", "java/lang/Object"), ("AuntsInTurn$Told", "java/lang/Object"), ("AuntsInTurn$Aunt", "java/lang/Object"), ("java/lang/String", "java/lang/Object"), ("[I", "java/lang/Object"), ("[Ljava/lang/Object;", "java/lang/Object"), ("[B", "java/lang/Object"), ("[Z", "java/lang/Object")]
/-- links to private members of a host's classes -/
def neT : List (String × Nat × MethodName × String) := [("AuntsInTurn$World", 67, ⟨"AuntsInTurn$Asker", "<init>", "()V"⟩, "AuntsInTurn"), ("AuntsInTurn$Valley", 92, ⟨"AuntsInTurn", "isDigit", "(I)Z"⟩, "AuntsInTurn"), ("AuntsInTurn", 156, ⟨"AuntsInTurn$Asker", "<init>", "()V"⟩, "AuntsInTurn")]
def GE : Nat := 12
/-! the methods: names, codes, what they answer -/
def mns : List MethodName := [
  ⟨"AuntsInTurn", "<init>", "()V"⟩,
  ⟨"AuntsInTurn", "feed", "(I)I"⟩,
  ⟨"AuntsInTurn", "valley", "()I"⟩,
  ⟨"AuntsInTurn", "isDigit", "(I)Z"⟩,
  ⟨"AuntsInTurn", "aunt", "(III)I"⟩,
  ⟨"AuntsInTurn", "areFacts", "(I)Z"⟩,
  ⟨"AuntsInTurn", "auntOf", "(IIII)LAuntsInTurn$Aunt;"⟩,
  ⟨"AuntsInTurn", "of", "(II)I"⟩,
  ⟨"AuntsInTurn", "says", "(III)I"⟩,
  ⟨"AuntsInTurn", "row", "(III)I"⟩,
  ⟨"AuntsInTurn", "learn", "(II)I"⟩,
  ⟨"AuntsInTurn", "away", "(IZ)I"⟩,
  ⟨"AuntsInTurn", "weigh", "(II)I"⟩,
  ⟨"AuntsInTurn", "isFact", "(I)Z"⟩,
  ⟨"AuntsInTurn", "asker", "()I"⟩,
  ⟨"AuntsInTurn", "at", "(II)I"⟩,
  ⟨"AuntsInTurn", "comes", "(I)I"⟩,
  ⟨"AuntsInTurn", "begin", "(II)I"⟩,
  ⟨"AuntsInTurn", "told", "(I)I"⟩,
  ⟨"AuntsInTurn", "pass", "(I)I"⟩,
  ⟨"AuntsInTurn", "areDays", "(I)Z"⟩,
  ⟨"AuntsInTurn", "on", "(II)I"⟩,
  ⟨"AuntsInTurn", "climb", "(III)I"⟩,
  ⟨"AuntsInTurn", "order", "(II)I"⟩,
  ⟨"AuntsInTurn", "hush", "(I)I"⟩,
  ⟨"AuntsInTurn", "whole", "(I)I"⟩,
  ⟨"AuntsInTurn", "say", "(II)I"⟩,
  ⟨"AuntsInTurn", "knew", "(II)I"⟩,
  ⟨"AuntsInTurn", "firm", "(II)I"⟩,
  ⟨"AuntsInTurn", "who", "()I"⟩,
  ⟨"AuntsInTurn", "odds", "(III)J"⟩,
  ⟨"AuntsInTurn", "lowest", "(III)J"⟩,
  ⟨"AuntsInTurn", "mean", "(I)J"⟩,
  ⟨"AuntsInTurn", "plan", "(II)I"⟩,
  ⟨"AuntsInTurn", "done", "(I)I"⟩,
  ⟨"AuntsInTurn", "book", "(II)I"⟩,
  ⟨"AuntsInTurn", "looked", "()I"⟩,
  ⟨"AuntsInTurn", "act", "(III)I"⟩,
  ⟨"AuntsInTurn", "trace", "(I)I"⟩,
  ⟨"AuntsInTurn", "as", "(II)I"⟩,
  ⟨"AuntsInTurn", "isOfKind", "(LAuntsInTurn$Aunt;I)Z"⟩,
  ⟨"AuntsInTurn", "image", "()I"⟩,
  ⟨"AuntsInTurn", "undo", "()I"⟩,
  ⟨"AuntsInTurn", "count", "(I)I"⟩,
  ⟨"AuntsInTurn$World", "<init>", "()V"⟩,
  ⟨"AuntsInTurn$World", "writes", "(I)I"⟩,
  ⟨"AuntsInTurn$World", "hasAunt", "(I)Z"⟩,
  ⟨"AuntsInTurn$World", "isAway", "(I)Z"⟩,
  ⟨"AuntsInTurn$World", "holding", "()LAuntsInTurn$Valley;"⟩,
  ⟨"AuntsInTurn$World", "speech", "(LAuntsInTurn$Aunt;I)I"⟩,
  ⟨"AuntsInTurn$World", "heaviest", "(I)I"⟩,
  ⟨"AuntsInTurn$World", "setAway", "(IZ)V"⟩,
  ⟨"AuntsInTurn$World", "hasAsker", "(I)Z"⟩,
  ⟨"AuntsInTurn$World", "take", "(LAuntsInTurn$World;)V"⟩,
  ⟨"AuntsInTurn$World", "daysGo", "(I)V"⟩,
  ⟨"AuntsInTurn$World", "visit", "(LAuntsInTurn$Asker;)V"⟩,
  ⟨"AuntsInTurn$World", "weightOf", "(I)I"⟩,
  ⟨"AuntsInTurn$World", "howManyThrough", "()I"⟩,
  ⟨"AuntsInTurn$World", "howManyBack", "()I"⟩,
  ⟨"AuntsInTurn$World", "climbs", "(ZII)LAuntsInTurn$Asker;"⟩,
  ⟨"AuntsInTurn$World", "bestOrder", "(I)I"⟩,
  ⟨"AuntsInTurn$World", "bestFrom", "(IIII)I"⟩,
  ⟨"AuntsInTurn$World", "allAunts", "()I"⟩,
  ⟨"AuntsInTurn$World", "auntInOrder", "(II)I"⟩,
  ⟨"AuntsInTurn$World", "factsByOrder", "(I)I"⟩,
  ⟨"AuntsInTurn$World", "shockByOrder", "(I)I"⟩,
  ⟨"AuntsInTurn$World", "fewestToHush", "(I)I"⟩,
  ⟨"AuntsInTurn$World", "isFewer", "(II)Z"⟩,
  ⟨"AuntsInTurn$World", "fewestWhoKnowAll", "()I"⟩,
  ⟨"AuntsInTurn$World", "knownTogether", "(I)I"⟩,
  ⟨"AuntsInTurn$World", "fitsSaid", "(LAuntsInTurn$Aunt;)Z"⟩,
  ⟨"AuntsInTurn$Valley", "<init>", "([I)V"⟩,
  ⟨"AuntsInTurn$Valley", "fault", "()I"⟩,
  ⟨"AuntsInTurn$Valley", "clause", "()Z"⟩,
  ⟨"AuntsInTurn$Valley", "here", "()I"⟩,
  ⟨"AuntsInTurn$Valley", "word", "(Ljava/lang/String;)Z"⟩,
  ⟨"AuntsInTurn$Valley", "number", "()I"⟩,
  ⟨"AuntsInTurn$Valley", "either", "(I)Z"⟩,
  ⟨"AuntsInTurn$Valley", "both", "(I)Z"⟩,
  ⟨"AuntsInTurn$Valley", "single", "(I)Z"⟩,
  ⟨"AuntsInTurn$Valley", "put", "(I)Z"⟩,
  ⟨"AuntsInTurn$Valley", "oneOf", "(Ljava/lang/String;)I"⟩,
  ⟨"AuntsInTurn$Valley", "mouth", "(LAuntsInTurn$Aunt;II)I"⟩,
  ⟨"AuntsInTurn$Valley", "holds", "(II)Z"⟩,
  ⟨"AuntsInTurn$Valley", "passes", "(I)Z"⟩,
  ⟨"AuntsInTurn$Rows", "<init>", "(I)V"⟩,
  ⟨"AuntsInTurn$Rows", "take", "(LAuntsInTurn$Rows;)V"⟩,
  ⟨"AuntsInTurn$Rows", "kept", "()I"⟩,
  ⟨"AuntsInTurn$Rows", "clear", "()I"⟩,
  ⟨"AuntsInTurn$Rows", "isFull", "()Z"⟩,
  ⟨"AuntsInTurn$Rows", "put", "(II)I"⟩,
  ⟨"AuntsInTurn$Rows", "first", "(I)I"⟩,
  ⟨"AuntsInTurn$Rows", "second", "(I)I"⟩,
  ⟨"AuntsInTurn$Rows", "came", "()I"⟩,
  ⟨"AuntsInTurn$Asker", "<init>", "()V"⟩,
  ⟨"AuntsInTurn$Asker", "twin", "()LAuntsInTurn$Asker;"⟩,
  ⟨"AuntsInTurn$Asker", "hears", "(III)V"⟩,
  ⟨"AuntsInTurn$Asker", "startAnew", "()V"⟩,
  ⟨"AuntsInTurn$Aunt", "<init>", "(III)V"⟩,
  ⟨"AuntsInTurn$Aunt", "kind", "()I"⟩,
  ⟨"AuntsInTurn$Aunt", "left", "(I)I"⟩,
  ⟨"AuntsInTurn$Aunt", "picks", "(LAuntsInTurn$World;III)I"⟩,
  ⟨"AuntsInTurn$Aunt", "twin", "()LAuntsInTurn$Aunt;"⟩,
  ⟨"AuntsInTurn$Aunt", "rings", "(LAuntsInTurn$Rows;I)I"⟩,
  ⟨"AuntsInTurn$Aunt", "asks", "(LAuntsInTurn$Rows;I)I"⟩,
  ⟨"AuntsInTurn$Aunt", "warns", "(LAuntsInTurn$Rows;I)I"⟩,
  ⟨"AuntsInTurn$Blunt", "<init>", "(III)V"⟩,
  ⟨"AuntsInTurn$Blunt", "kind", "()I"⟩,
  ⟨"AuntsInTurn$Blunt", "picks", "(LAuntsInTurn$World;III)I"⟩,
  ⟨"AuntsInTurn$Blunt", "twin", "()LAuntsInTurn$Aunt;"⟩,
  ⟨"AuntsInTurn$Blunt", "rings", "(LAuntsInTurn$Rows;I)I"⟩,
  ⟨"AuntsInTurn$Meek", "<init>", "(III)V"⟩,
  ⟨"AuntsInTurn$Meek", "kind", "()I"⟩,
  ⟨"AuntsInTurn$Meek", "picks", "(LAuntsInTurn$World;III)I"⟩,
  ⟨"AuntsInTurn$Meek", "twin", "()LAuntsInTurn$Aunt;"⟩,
  ⟨"AuntsInTurn$Meek", "asks", "(LAuntsInTurn$Rows;I)I"⟩,
  ⟨"AuntsInTurn$Sly", "<init>", "(III)V"⟩,
  ⟨"AuntsInTurn$Sly", "kind", "()I"⟩,
  ⟨"AuntsInTurn$Sly", "picks", "(LAuntsInTurn$World;III)I"⟩,
  ⟨"AuntsInTurn$Sly", "twin", "()LAuntsInTurn$Aunt;"⟩,
  ⟨"AuntsInTurn$Sly", "warns", "(LAuntsInTurn$Rows;I)I"⟩,
  ⟨"AuntsInTurn$Pious", "<init>", "(III)V"⟩,
  ⟨"AuntsInTurn$Pious", "kind", "()I"⟩,
  ⟨"AuntsInTurn$Pious", "picks", "(LAuntsInTurn$World;III)I"⟩,
  ⟨"AuntsInTurn$Pious", "twin", "()LAuntsInTurn$Aunt;"⟩,
  ⟨"AuntsInTurn$Pious", "warns", "(LAuntsInTurn$Rows;I)I"⟩,
  ⟨"AuntsInTurn$Baker", "<init>", "(III)V"⟩,
  ⟨"AuntsInTurn$Baker", "kind", "()I"⟩,
  ⟨"AuntsInTurn$Baker", "picks", "(LAuntsInTurn$World;III)I"⟩,
  ⟨"AuntsInTurn$Baker", "twin", "()LAuntsInTurn$Aunt;"⟩,
  ⟨"AuntsInTurn$Baker", "rings", "(LAuntsInTurn$Rows;I)I"⟩,
  ⟨"AuntsInTurn$Told", "<init>", "(III)V"⟩,
  ⟨"AuntsInTurn$Told", "kind", "()I"⟩,
  ⟨"AuntsInTurn$Told", "picks", "(LAuntsInTurn$World;III)I"⟩,
  ⟨"AuntsInTurn$Told", "write", "(II)I"⟩,
  ⟨"AuntsInTurn$Told", "twin", "()LAuntsInTurn$Aunt;"⟩,
  ⟨"AuntsInTurn$Told", "asks", "(LAuntsInTurn$Rows;I)I"⟩,
  ⟨"AuntsInTurnModel", "<init>", "()V"⟩,
  ⟨"AuntsInTurnModel", "feed", "(I)I"⟩,
  ⟨"AuntsInTurnModel", "in", "(III)Z"⟩,
  ⟨"AuntsInTurnModel", "valley", "()I"⟩,
  ⟨"AuntsInTurnModel", "clauseHere", "()V"⟩,
  ⟨"AuntsInTurnModel", "here", "()I"⟩,
  ⟨"AuntsInTurnModel", "tellsHere", "(ILjava/lang/String;)V"⟩,
  ⟨"AuntsInTurnModel", "spells", "(Ljava/lang/String;)V"⟩,
  ⟨"AuntsInTurnModel", "must", "(I)V"⟩,
  ⟨"AuntsInTurnModel", "figures", "()I"⟩,
  ⟨"AuntsInTurnModel", "much", "(ILjava/lang/String;)V"⟩,
  ⟨"AuntsInTurnModel", "some", "()V"⟩,
  ⟨"AuntsInTurnModel", "every", "()V"⟩,
  ⟨"AuntsInTurnModel", "factor", "()V"⟩,
  ⟨"AuntsInTurnModel", "emits", "(I)V"⟩,
  ⟨"AuntsInTurnModel", "among", "(Ljava/lang/String;)I"⟩,
  ⟨"AuntsInTurnModel", "aunt", "(III)I"⟩,
  ⟨"AuntsInTurnModel", "areFacts", "(I)Z"⟩,
  ⟨"AuntsInTurnModel", "of", "(II)I"⟩,
  ⟨"AuntsInTurnModel", "isAunt", "(I)Z"⟩,
  ⟨"AuntsInTurnModel", "says", "(III)I"⟩,
  ⟨"AuntsInTurnModel", "leftOf", "(II)I"⟩,
  ⟨"AuntsInTurnModel", "mouthOf", "(II)I"⟩,
  ⟨"AuntsInTurnModel", "countOf", "(I)I"⟩,
  ⟨"AuntsInTurnModel", "tellsOf", "(II)I"⟩,
  ⟨"AuntsInTurnModel", "saysOf", "(II)I"⟩,
  ⟨"AuntsInTurnModel", "chosen", "(III)I"⟩,
  ⟨"AuntsInTurnModel", "row", "(III)I"⟩,
  ⟨"AuntsInTurnModel", "becomes", "(II)I"⟩,
  ⟨"AuntsInTurnModel", "learn", "(II)I"⟩,
  ⟨"AuntsInTurnModel", "away", "(IZ)I"⟩,
  ⟨"AuntsInTurnModel", "weigh", "(II)I"⟩,
  ⟨"AuntsInTurnModel", "asker", "()I"⟩,
  ⟨"AuntsInTurnModel", "beginsAnew", "(I)V"⟩,
  ⟨"AuntsInTurnModel", "at", "(II)I"⟩,
  ⟨"AuntsInTurnModel", "isAsker", "(I)Z"⟩,
  ⟨"AuntsInTurnModel", "comes", "(I)I"⟩,
  ⟨"AuntsInTurnModel", "keeps", "()V"⟩,
  ⟨"AuntsInTurnModel", "goes", "()V"⟩,
  ⟨"AuntsInTurnModel", "isThrough", "(I)Z"⟩,
  ⟨"AuntsInTurnModel", "meets", "(I)V"⟩,
  ⟨"AuntsInTurnModel", "weightOf", "(I)I"⟩,
  ⟨"AuntsInTurnModel", "goesBack", "()V"⟩,
  ⟨"AuntsInTurnModel", "begin", "(II)I"⟩,
  ⟨"AuntsInTurnModel", "told", "(I)I"⟩,
  ⟨"AuntsInTurnModel", "awayOnes", "()I"⟩,
  ⟨"AuntsInTurnModel", "manyThrough", "()I"⟩,
  ⟨"AuntsInTurnModel", "manyBack", "()I"⟩,
  ⟨"AuntsInTurnModel", "pass", "(I)I"⟩,
  ⟨"AuntsInTurnModel", "goesOn", "(I)V"⟩,
  ⟨"AuntsInTurnModel", "on", "(II)I"⟩,
  ⟨"AuntsInTurnModel", "climb", "(III)I"⟩,
  ⟨"AuntsInTurnModel", "climbs", "(II)V"⟩,
  ⟨"AuntsInTurnModel", "comesTo", "(I)V"⟩,
  ⟨"AuntsInTurnModel", "order", "(II)I"⟩,
  ⟨"AuntsInTurnModel", "ordersFrom", "(IIII)V"⟩,
  ⟨"AuntsInTurnModel", "keepsOrder", "(II)V"⟩,
  ⟨"AuntsInTurnModel", "hush", "(I)I"⟩,
  ⟨"AuntsInTurnModel", "sends", "(I)V"⟩,
  ⟨"AuntsInTurnModel", "whole", "(I)I"⟩,
  ⟨"AuntsInTurnModel", "knownBy", "(I)I"⟩,
  ⟨"AuntsInTurnModel", "say", "(II)I"⟩,
  ⟨"AuntsInTurnModel", "knew", "(II)I"⟩,
  ⟨"AuntsInTurnModel", "fitting", "(IIII)I"⟩,
  ⟨"AuntsInTurnModel", "isAsSaid", "(I)Z"⟩,
  ⟨"AuntsInTurnModel", "firm", "(II)I"⟩,
  ⟨"AuntsInTurnModel", "who", "()I"⟩,
  ⟨"AuntsInTurnModel", "odds", "(III)J"⟩,
  ⟨"AuntsInTurnModel", "lowest", "(JJI)J"⟩,
  ⟨"AuntsInTurnModel", "mean", "(I)J"⟩,
  ⟨"AuntsInTurnModel", "plan", "(II)I"⟩,
  ⟨"AuntsInTurnModel", "done", "(I)I"⟩,
  ⟨"AuntsInTurnModel", "goesBy", "(II)V"⟩,
  ⟨"AuntsInTurnModel", "book", "(II)I"⟩,
  ⟨"AuntsInTurnModel", "looked", "()I"⟩,
  ⟨"AuntsInTurnModel", "act", "(III)I"⟩,
  ⟨"AuntsInTurnModel", "ringsActs", "(I)I"⟩,
  ⟨"AuntsInTurnModel", "isUnder", "(II)Z"⟩,
  ⟨"AuntsInTurnModel", "ranBody", "(I)V"⟩,
  ⟨"AuntsInTurnModel", "plainRings", "(I)I"⟩,
  ⟨"AuntsInTurnModel", "asksActs", "(I)I"⟩,
  ⟨"AuntsInTurnModel", "plainAsks", "(I)I"⟩,
  ⟨"AuntsInTurnModel", "warnsActs", "(I)I"⟩,
  ⟨"AuntsInTurnModel", "plainTelling", "(I)I"⟩,
  ⟨"AuntsInTurnModel", "trace", "(I)I"⟩,
  ⟨"AuntsInTurnModel", "as", "(II)I"⟩,
  ⟨"AuntsInTurnModel", "image", "()I"⟩,
  ⟨"AuntsInTurnModel", "undo", "()I"⟩,
  ⟨"AuntsInTurnModel", "count", "(I)I"⟩,
  ⟨"AuntsInTurnLaw", "law", "([I)Z"⟩,
  ⟨"java/util/ArrayList", "<init>", "()V"⟩,
  ⟨"java/util/ArrayList", "size", "()I"⟩,
  ⟨"java/util/ArrayList", "add", "(Ljava/lang/Object;)Z"⟩,
  ⟨"java/util/ArrayList", "add", "(Ljava/lang/Object;[Ljava/lang/Object;I)V"⟩,
  ⟨"java/util/ArrayList", "grow", "()[Ljava/lang/Object;"⟩,
  ⟨"java/util/ArrayList", "grow", "(I)[Ljava/lang/Object;"⟩,
  ⟨"java/util/ArrayList", "get", "(I)Ljava/lang/Object;"⟩,
  ⟨"java/util/ArrayList", "elementData", "(I)Ljava/lang/Object;"⟩,
  ⟨"java/util/ArrayList", "isEmpty", "()Z"⟩,
  ⟨"java/util/ArrayList", "clear", "()V"⟩,
  ⟨"java/util/AbstractList", "<init>", "()V"⟩,
  ⟨"java/util/AbstractCollection", "<init>", "()V"⟩,
  ⟨"java/lang/Math", "max", "(II)I"⟩,
  ⟨"java/lang/Math", "min", "(II)I"⟩,
  ⟨"java/lang/Math", "floorMod", "(II)I"⟩,
  ⟨"java/util/Arrays", "fill", "([II)V"⟩,
  ⟨"java/util/Arrays", "copyOf", "([II)[I"⟩,
  ⟨"java/lang/String", "length", "()I"⟩,
  ⟨"java/lang/String", "coder", "()B"⟩,
  ⟨"java/lang/String", "charAt", "(I)C"⟩,
  ⟨"java/lang/String", "isLatin1", "()Z"⟩,
  ⟨"java/lang/String", "checkIndex", "(II)V"⟩,
  ⟨"java/lang/String", "indexOf", "(I)I"⟩,
  ⟨"java/lang/String", "indexOf", "(II)I"⟩,
  ⟨"java/lang/String", "checkBoundsBeginEnd", "(III)V"⟩,
  ⟨"java/lang/StringLatin1", "charAt", "([BI)C"⟩,
  ⟨"java/lang/StringLatin1", "indexOf", "([BIII)I"⟩,
  ⟨"java/lang/StringLatin1", "canEncode", "(I)Z"⟩,
  ⟨"java/lang/StringLatin1", "indexOfChar", "([BIII)I"⟩,
  ⟨"jdk/internal/util/Preconditions", "checkIndex", "(IILjava/util/function/BiFunction;)I"⟩,
  ⟨"jdk/internal/util/Preconditions", "checkFromToIndex", "(IIILjava/util/function/BiFunction;)I"⟩,
  ⟨"java/util/Objects", "checkIndex", "(II)I"⟩,
  ⟨"java/lang/Integer", "bitCount", "(I)I"⟩]
def mcs : List ByteArray := [prog_1_method_1_code, prog_1_method_2_code, prog_1_method_3_code, prog_1_method_39_code, prog_1_method_4_code, prog_1_method_38_code, prog_1_method_41_code, prog_1_method_5_code, prog_1_method_6_code, prog_1_method_7_code, prog_1_method_8_code, prog_1_method_9_code, prog_1_method_10_code, prog_1_method_37_code, prog_1_method_11_code, prog_1_method_12_code, prog_1_method_43_code, prog_1_method_13_code, prog_1_method_14_code, prog_1_method_15_code, prog_1_method_40_code, prog_1_method_16_code, prog_1_method_17_code, prog_1_method_18_code, prog_1_method_19_code, prog_1_method_20_code, prog_1_method_21_code, prog_1_method_22_code, prog_1_method_23_code, prog_1_method_24_code, prog_1_method_25_code, prog_1_method_44_code, prog_1_method_26_code, prog_1_method_27_code, prog_1_method_28_code, prog_1_method_29_code, prog_1_method_30_code, prog_1_method_31_code, prog_1_method_32_code, prog_1_method_33_code, prog_1_method_42_code, prog_1_method_34_code, prog_1_method_35_code, prog_1_method_36_code, prog_12_method_1_code, prog_12_method_6_code, prog_12_method_3_code, prog_12_method_7_code, prog_12_method_9_code, prog_12_method_12_code, prog_12_method_11_code, prog_12_method_8_code, prog_12_method_4_code, prog_12_method_2_code, prog_12_method_13_code, prog_12_method_14_code, prog_12_method_10_code, prog_12_method_16_code, prog_12_method_15_code, prog_12_method_17_code, prog_12_method_18_code, prog_12_method_19_code, prog_12_method_5_code, prog_12_method_22_code, prog_12_method_20_code, prog_12_method_21_code, prog_12_method_23_code, prog_12_method_26_code, prog_12_method_25_code, prog_12_method_24_code, prog_12_method_27_code, prog_11_method_1_code, prog_11_method_2_code, prog_11_method_3_code, prog_11_method_10_code, prog_11_method_9_code, prog_11_method_8_code, prog_11_method_4_code, prog_11_method_5_code, prog_11_method_6_code, prog_11_method_11_code, prog_11_method_7_code, prog_11_method_12_code, prog_11_method_13_code, prog_11_method_14_code, prog_8_method_1_code, prog_8_method_9_code, prog_8_method_5_code, prog_8_method_3_code, prog_8_method_6_code, prog_8_method_2_code, prog_8_method_7_code, prog_8_method_8_code, prog_8_method_4_code, prog_2_method_1_code, prog_2_method_4_code, prog_2_method_3_code, prog_2_method_2_code, prog_3_method_1_code, prog_3_method_2_code, prog_3_method_4_code, prog_3_method_5_code, prog_3_method_3_code, prog_3_method_6_code, prog_3_method_7_code, prog_3_method_8_code, prog_5_method_1_code, prog_5_method_2_code, prog_5_method_4_code, prog_5_method_3_code, prog_5_method_5_code, prog_6_method_1_code, prog_6_method_2_code, prog_6_method_4_code, prog_6_method_3_code, prog_6_method_5_code, prog_9_method_1_code, prog_9_method_2_code, prog_9_method_4_code, prog_9_method_3_code, prog_9_method_5_code, prog_7_method_1_code, prog_7_method_2_code, prog_7_method_4_code, prog_7_method_3_code, prog_7_method_5_code, prog_4_method_1_code, prog_4_method_2_code, prog_4_method_4_code, prog_4_method_3_code, prog_4_method_5_code, prog_10_method_1_code, prog_10_method_2_code, prog_10_method_5_code, prog_10_method_4_code, prog_10_method_3_code, prog_10_method_6_code, prog_14_method_1_code, prog_14_method_10_code, prog_14_method_3_code, prog_14_method_23_code, prog_14_method_22_code, prog_14_method_11_code, prog_14_method_21_code, prog_14_method_13_code, prog_14_method_12_code, prog_14_method_14_code, prog_14_method_20_code, prog_14_method_19_code, prog_14_method_18_code, prog_14_method_17_code, prog_14_method_16_code, prog_14_method_15_code, prog_14_method_31_code, prog_14_method_4_code, prog_14_method_32_code, prog_14_method_6_code, prog_14_method_33_code, prog_14_method_25_code, prog_14_method_26_code, prog_14_method_5_code, prog_14_method_24_code, prog_14_method_28_code, prog_14_method_27_code, prog_14_method_34_code, prog_14_method_30_code, prog_14_method_35_code, prog_14_method_36_code, prog_14_method_37_code, prog_14_method_39_code, prog_14_method_38_code, prog_14_method_42_code, prog_14_method_7_code, prog_14_method_41_code, prog_14_method_8_code, prog_14_method_49_code, prog_14_method_40_code, prog_14_method_48_code, prog_14_method_29_code, prog_14_method_9_code, prog_14_method_43_code, prog_14_method_47_code, prog_14_method_46_code, prog_14_method_45_code, prog_14_method_44_code, prog_14_method_51_code, prog_14_method_50_code, prog_14_method_52_code, prog_14_method_55_code, prog_14_method_54_code, prog_14_method_53_code, prog_14_method_58_code, prog_14_method_57_code, prog_14_method_56_code, prog_14_method_60_code, prog_14_method_59_code, prog_14_method_62_code, prog_14_method_61_code, prog_14_method_63_code, prog_14_method_66_code, prog_14_method_65_code, prog_14_method_64_code, prog_14_method_67_code, prog_14_method_68_code, prog_14_method_70_code, prog_14_method_69_code, prog_14_method_71_code, prog_14_method_72_code, prog_14_method_74_code, prog_14_method_73_code, prog_14_method_75_code, prog_14_method_76_code, prog_14_method_85_code, prog_14_method_80_code, prog_14_method_78_code, prog_14_method_77_code, prog_14_method_79_code, prog_14_method_82_code, prog_14_method_81_code, prog_14_method_84_code, prog_14_method_83_code, prog_14_method_86_code, prog_14_method_87_code, prog_14_method_88_code, prog_14_method_89_code, prog_14_method_90_code, code, prog_31_method_2_code, prog_31_method_8_code, prog_31_method_25_code, prog_31_method_24_code, prog_31_method_7_code, prog_31_method_6_code, prog_31_method_20_code, prog_31_method_18_code, prog_31_method_9_code, prog_31_method_40_code, prog_30_method_1_code, prog_29_method_1_code, prog_22_method_65_code, prog_22_method_69_code, prog_22_method_50_code, prog_32_method_103_code, prog_32_method_123_code, prog_23_method_54_code, prog_23_method_152_code, prog_23_method_56_code, prog_23_method_154_code, prog_23_method_155_code, prog_23_method_79_code, prog_23_method_80_code, prog_23_method_158_code, prog_24_method_2_code, prog_24_method_22_code, prog_24_method_4_code, prog_24_method_23_code, prog_39_method_11_code, prog_39_method_12_code, prog_35_method_17_code, prog_20_method_49_code]
def mrs : List (Option FieldType) := [none, some .int, some .int, some .boolean, some .int, some .boolean, some (.object "AuntsInTurn$Aunt"), some .int, some .int, some .int, some .int, some .int, some .int, some .boolean, some .int, some .int, some .int, some .int, some .int, some .int, some .boolean, some .int, some .int, some .int, some .int, some .int, some .int, some .int, some .int, some .int, some .long, some .long, some .long, some .int, some .int, some .int, some .int, some .int, some .int, some .int, some .boolean, some .int, some .int, some .int, none, some .int, some .boolean, some .boolean, some (.object "AuntsInTurn$Valley"), some .int, some .int, none, some .boolean, none, none, none, some .int, some .int, some .int, some (.object "AuntsInTurn$Asker"), some .int, some .int, some .int, some .int, some .int, some .int, some .int, some .boolean, some .int, some .int, some .boolean, none, some .int, some .boolean, some .int, some .boolean, some .int, some .boolean, some .boolean, some .boolean, some .boolean, some .int, some .int, some .boolean, some .boolean, none, none, some .int, some .int, some .boolean, some .int, some .int, some .int, some .int, none, some (.object "AuntsInTurn$Asker"), none, none, none, some .int, some .int, some .int, some (.object "AuntsInTurn$Aunt"), some .int, some .int, some .int, none, some .int, some .int, some (.object "AuntsInTurn$Aunt"), some .int, none, some .int, some .int, some (.object "AuntsInTurn$Aunt"), some .int, none, some .int, some .int, some (.object "AuntsInTurn$Aunt"), some .int, none, some .int, some .int, some (.object "AuntsInTurn$Aunt"), some .int, none, some .int, some .int, some (.object "AuntsInTurn$Aunt"), some .int, none, some .int, some .int, some .int, some (.object "AuntsInTurn$Aunt"), some .int, none, some .int, some .boolean, some .int, none, some .int, none, none, none, some .int, none, none, none, none, none, some .int, some .int, some .boolean, some .int, some .boolean, some .int, some .int, some .int, some .int, some .int, some .int, some .int, some .int, some .int, some .int, some .int, some .int, some .int, none, some .int, some .boolean, some .int, none, none, some .boolean, none, some .int, none, some .int, some .int, some .int, some .int, some .int, some .int, none, some .int, some .int, none, none, some .int, none, none, some .int, none, some .int, some .int, some .int, some .int, some .int, some .boolean, some .int, some .int, some .long, some .long, some .long, some .int, some .int, none, some .int, some .int, some .int, some .int, some .boolean, none, some .int, some .int, some .int, some .int, some .int, some .int, some .int, some .int, some .int, some .int, some .boolean, none, some .int, some .boolean, none, some (.array (.object "java/lang/Object")), some (.array (.object "java/lang/Object")), some (.object "java/lang/Object"), some (.object "java/lang/Object"), some .boolean, none, none, none, some .int, some .int, some .int, none, some (.array .int), some .int, some .byte, some .char, some .boolean, none, some .int, some .int, none, some .char, some .int, some .boolean, some .int, some .int, some .int, some .int, some .int]
def mn (y : Nat) : MethodName := mns.getD y ⟨"", "", ""⟩
def mc (y : Nat) : ByteArray := mcs.getD y ⟨#[]⟩
def mr (y : Nat) : Option FieldType := mrs.getD y none
def ml (y : Nat) : Nat := mLs.getD y 0
def codeW (y : Nat) : Cond := .code (mn y) (mc y) (ml y) (mr y)

/-! the tables checked -/
def hnT : List (List (Nat × List Nat)) := [
  [(1, [1033, 1034, 1035]), (5, [1036]), (9, [1038]), (12, [1207]), (16, [1036]), (20, [1038]), (23, [1208]), (27, [1036]), (31, [1038]), (34, [1209]), (38, [1205]), (44, [1206]), (47, [1210]), (52, [1211])],
  [(14, [1207]), (18, [1227])],
  [(1, [1207]), (4, [1158]), (7, [1235]), (17, [1239]), (22, [1207]), (25, [1162]), (30, [1207]), (33, [1164]), (36, [2000]), (39, [2001]), (42, [2017]), (47, [1207]), (51, [1164]), (55, [2018]), (70, [1207]), (73, [1158]), (77, [2171]), (82, [1207]), (85, [1158]), (88, [1235])],
  [],
  [(13, [2229]), (20, [2230]), (30, [1207]), (33, [1154]), (36, [1235]), (52, [1207]), (55, [1154]), (63, [2233]), (66, [2171])],
  [],
  [(40, [2236]), (47, [2238]), (51, [3056]), (58, [3058]), (62, [3066]), (69, [3068]), (73, [3076]), (80, [3078]), (84, [3086]), (91, [3088]), (95, [3096]), (102, [3098]), (106, [3109]), (113, [3111])],
  [(1, [1207]), (5, [3120]), (14, [1207]), (17, [1154]), (21, [3125]), (24, [3109]), (61, [3137]), (66, [3032]), (71, [3047]), (76, [1207]), (80, [3160])],
  [(1, [1207]), (5, [3120]), (23, [2230]), (33, [1207]), (36, [1154]), (40, [3125]), (43, [3109]), (79, [3168]), (84, [1207]), (87, [3179]), (94, [1207]), (97, [1173]), (100, [3188]), (105, [1207]), (111, [3209])],
  [(1, [1207]), (5, [3120]), (23, [2229]), (33, [1207]), (36, [1154]), (40, [3125]), (47, [3096]), (55, [3096]), (64, [4015])],
  [(1, [1207]), (5, [3120]), (14, [2230]), (24, [1207]), (27, [1154]), (31, [3125]), (34, [3109]), (39, [3047]), (46, [3047])],
  [(1, [1207]), (5, [3120]), (14, [1207]), (18, [3160]), (31, [1207]), (36, [4027])],
  [(1, [4035]), (10, [2229]), (20, [1207]), (23, [1160]), (30, [1207]), (33, [1160])],
  [],
  [(1, [1207]), (4, [1156]), (7, [1235]), (20, [1207]), (23, [1156]), (26, [4042]), (33, [2171])],
  [(1, [1207]), (5, [4048]), (14, [1207]), (17, [1156]), (21, [3125]), (24, [4042]), (65, [1131]), (70, [1134]), (75, [1136]), (80, [1139]), (94, [4052])],
  [(1, [1209]), (5, [1207]), (8, [4056]), (12, [1209]), (16, [1209]), (19, [1154]), (22, [1235]), (25, [4121]), (29, [1209]), (33, [4048]), (43, [1209]), (46, [1156]), (50, [3125]), (53, [4042]), (58, [1139]), (70, [1131])],
  [(1, [1207]), (5, [4048]), (14, [2230]), (24, [1207]), (27, [1156]), (31, [3125]), (34, [4042]), (39, [1131]), (46, [1131]), (50, [4145])],
  [(10, [4035]), (17, [1207]), (20, [1160]), (65, [1207]), (68, [1173]), (73, [1207]), (76, [3179]), (79, [1104]), (84, [1207]), (87, [1175]), (92, [1207]), (95, [4153]), (100, [1207]), (103, [4157])],
  [(1, [4165]), (11, [1207]), (14, [1173]), (29, [1207]), (33, [4121]), (37, [1207]), (40, [1173])],
  [],
  [(24, [1207]), (31, [4048]), (56, [4165]), (66, [1209]), (70, [1207]), (73, [4056]), (77, [1209]), (81, [4121]), (89, [1209]), (96, [4048]), (103, [1209]), (106, [4157]), (111, [1209]), (114, [1156]), (121, [3125]), (124, [4042]), (158, [1131]), (164, [1136]), (170, [1134])],
  [(21, [2230]), (31, [1207]), (45, [1207]), (48, [1175]), (51, [4176]), (86, [1131]), (92, [1134]), (98, [1139]), (106, [1136])],
  [(41, [2230]), (51, [1207]), (55, [4185]), (76, [1207]), (79, [1154]), (82, [1235]), (91, [1207]), (94, [1154]), (97, [1235]), (104, [4200]), (119, [4203]), (127, [4206])],
  [(1, [4035]), (8, [1207]), (12, [4213])],
  [(29, [1207]), (32, [4225]), (37, [1207]), (41, [1207]), (44, [4233]), (47, [4234]), (50, [4235])],
  [(6, [1207]), (9, [1166]), (12, [5000]), (17, [2230]), (24, [2230]), (34, [1207]), (37, [1166]), (40, [5004]), (52, [1207]), (55, [1166]), (60, [5008])],
  [(1, [1207]), (5, [3120]), (23, [1207]), (26, [1154]), (30, [3125]), (33, [3109]), (36, [5016]), (60, [3047]), (64, [1207]), (68, [5017])],
  [(1, [1207]), (5, [3120]), (23, [1207]), (26, [1154]), (30, [3125]), (33, [3109]), (36, [5016]), (59, [3032]), (63, [1207]), (67, [5017])],
  [(6, [1207]), (9, [1154]), (12, [1235]), (19, [1207]), (23, [1207]), (26, [1154]), (30, [3125]), (33, [3109]), (36, [5017])],
  [(1, [1207]), (4, [1154]), (7, [1235]), (13, [2230]), (20, [4035]), (40, [5042]), (60, [1207]), (66, [1207]), (69, [1175]), (77, [4176]), (80, [1131]), (101, [5043])],
  [(62, [5042])],
  [(1, [1207]), (4, [1156]), (7, [1235]), (24, [5042]), (41, [1207]), (44, [1156]), (49, [3125]), (52, [4042]), (55, [1134]), (69, [5043])],
  [(6, [1207]), (9, [1168]), (12, [5000]), (27, [1207]), (31, [3120]), (49, [1207]), (53, [4048]), (87, [1207]), (90, [1168]), (93, [5004]), (105, [1207]), (108, [1168]), (113, [5008])],
  [(12, [1209]), (16, [1207]), (19, [4056]), (26, [1207]), (29, [1168]), (32, [5058]), (39, [1207]), (42, [1168]), (46, [5059]), (51, [1207]), (54, [1168]), (58, [5060]), (68, [1209]), (72, [4121]), (84, [1209]), (89, [4048]), (96, [1209]), (99, [1156]), (104, [3125]), (107, [4042]), (110, [4145]), (117, [1209]), (132, [4027]), (146, [1209]), (149, [4157]), (156, [1209]), (159, [4153])],
  [(6, [1207]), (9, [1170]), (12, [5000]), (17, [1207]), (21, [4048]), (30, [2230]), (40, [1207]), (43, [1170]), (46, [5004]), (58, [1207]), (61, [1170]), (66, [5008])],
  [(4, [1207]), (7, [1170]), (10, [5058]), (17, [1207]), (20, [1170]), (24, [5059]), (29, [1207]), (33, [4048]), (40, [1207]), (43, [1156]), (47, [3125]), (50, [4042]), (53, [1131]), (57, [1207]), (60, [1170]), (64, [5060])],
  [(1, [1210]), (4, [5000]), (9, [1207]), (13, [3120]), (22, [1207]), (25, [1154]), (29, [3125]), (32, [3109]), (67, [1210]), (71, [5073]), (78, [1210]), (82, [5095]), (89, [1210]), (93, [5117])],
  [(1, [1210]), (5, [5059])],
  [(1, [1207]), (5, [3120]), (24, [1207]), (27, [1154]), (31, [3125]), (34, [3109]), (40, [5151]), (47, [3032])],
  [(41, [2236]), (46, [3056]), (51, [3066]), (56, [3076]), (61, [3086]), (66, [3096])],
  [(1, [1208]), (5, [1207]), (8, [4056]), (13, [1211]), (17, [1207]), (20, [1154]), (23, [1235])],
  [(1, [1211]), (11, [1207]), (15, [1208]), (18, [4056]), (22, [1207]), (25, [1154]), (28, [1235])],
  [(49, [1207]), (52, [1154]), (55, [1235]), (60, [1207]), (63, [1156]), (66, [1235]), (71, [1207]), (74, [1158]), (77, [1235]), (82, [1207]), (85, [1166]), (88, [5166]), (93, [1207]), (96, [1168]), (99, [5166]), (104, [1207]), (107, [1170]), (110, [5166]), (115, [1207]), (118, [1164]), (123, [1210]), (126, [5166])],
  [(1, [1041, 1034, 1035]), (5, [1042]), (9, [1044]), (12, [1153]), (16, [1042]), (20, [1044]), (23, [1155]), (27, [1042]), (31, [1044]), (34, [1157]), (40, [1087]), (42, [1159]), (48, [1087]), (50, [1161]), (55, [1163]), (59, [1068]), (64, [1070]), (67, [1165]), (71, [1068]), (77, [1070]), (80, [1167]), (84, [1068]), (90, [1070]), (93, [1169]), (98, [1171]), (103, [1174]), (107, [1088]), (112, [1087]), (114, [1090]), (117, [1176]), (121, [1124]), (128, [1177]), (132, [1159]), (136, [1150])],
  [(1, [1163]), (8, [1163]), (20, [1161]), (24, [1163]), (31, [1163]), (36, [1163]), (40, [1163])],
  [(6, [1153]), (9, [3124])],
  [(1, [1174])],
  [(1, [1157]), (4, [3183]), (11, [1176]), (18, [1157]), (22, [1157]), (25, [3124]), (30, [3187]), (33, [1088])],
  [(5, [3213]), (9, [3214]), (15, [1171]), (18, [3215]), (21, [3216])],
  [(25, [1159]), (39, [1159])],
  [(10, [1174]), (19, [1174]), (26, [1174])],
  [(6, [1155]), (9, [3124])],
  [(1, [1153]), (4, [4060]), (11, [1153]), (14, [3124]), (21, [1153]), (25, [1153]), (29, [3187]), (32, [4064]), (35, [4065]), (38, [4103]), (49, [1155]), (52, [4060]), (59, [1155]), (62, [3124]), (69, [1155]), (73, [1155]), (77, [3187]), (80, [1124]), (83, [4104]), (86, [4103]), (97, [1157]), (100, [4060]), (107, [1157]), (110, [3124]), (117, [1157]), (121, [1157]), (125, [3187]), (128, [1088]), (131, [4103]), (142, [1159]), (147, [1159]), (153, [4110, 2016, 2015, 1012]), (157, [1161]), (162, [1161]), (168, [4110, 2016, 2015, 1012]), (173, [1163]), (176, [1163]), (180, [1165]), (184, [1165]), (187, [4111]), (191, [1167]), (195, [1167]), (198, [4111]), (202, [1169]), (206, [1169]), (209, [4111]), (214, [1171]), (217, [1171]), (222, [1174]), (225, [1174])],
  [(11, [1155]), (14, [3124]), (22, [1155]), (26, [3187]), (29, [1124]), (32, [4125]), (43, [1171]), (48, [1171])],
  [(1, [1140]), (9, [1137]), (12, [4129]), (21, [1137]), (24, [4130]), (32, [1153]), (36, [1137]), (39, [3187]), (42, [4064]), (46, [1132]), (49, [4131]), (57, [4132]), (61, [3214]), (64, [1103]), (67, [4136]), (71, [1140]), (79, [1137]), (84, [1137])],
  [(21, [1159])],
  [(6, [1155]), (9, [3124]), (17, [1155]), (21, [3187]), (24, [1124]), (27, [1137]), (31, [1153]), (34, [3124])],
  [(6, [1155]), (9, [3124]), (17, [1155]), (21, [3187]), (24, [1124]), (27, [1140])],
  [(1, [1177]), (4, [4180]), (8, [1177]), (12, [1132]), (16, [1153]), (19, [3124]), (37, [1177]), (40, [1140]), (73, [1153]), (78, [3187]), (81, [4064]), (85, [1177]), (88, [1132]), (91, [4131]), (97, [1177]), (102, [1137]), (106, [1177]), (114, [4132]), (118, [3214]), (121, [1103]), (124, [4136]), (134, [1177])],
  [(5, [4189])],
  [(2, [4193]), (16, [4197]), (28, [4198]), (43, [1153]), (46, [3124]), (68, [4130]), (80, [1153]), (85, [3187]), (88, [4064]), (92, [4131]), (102, [4132]), (111, [3214]), (114, [1103]), (141, [4189]), (144, [4199])],
  [(2, [1153]), (5, [3124])],
  [(0, [4198]), (3, [4198])],
  [],
  [],
  [(7, [4193]), (15, [4217]), (25, [1174]), (30, [4220]), (33, [1132])],
  [(7, [4197]), (11, [4197])],
  [(2, [4193]), (5, [4229]), (16, [4193]), (24, [4217]), (32, [4229])],
  [(6, [1153]), (9, [3124]), (26, [1153]), (30, [3187]), (33, [4064]), (36, [3048])],
  [(4, [1165]), (7, [5021]), (16, [1165]), (20, [5022]), (23, [4131]), (27, [1165]), (31, [5026])],
  [(1, [1093, 1034, 1035]), (6, [1095]), (11, [1097]), (17, [1087]), (19, [1098]), (25, [1087]), (27, [1099]), (32, [1100]), (38, [1087]), (40, [1101]), (46, [1102]), (51, [1094]), (57, [1087]), (59, [1096])],
  [(1, [2022]), (18, [2026]), (28, [1095]), (33, [1095]), (37, [2022]), (52, [1095]), (56, [1094]), (68, [1095])],
  [(1, [2026]), (30, [2033]), (37, [2085]), (60, [1102]), (68, [2033]), (76, [2093]), (83, [1100]), (94, [1098]), (98, [1100]), (115, [1099]), (119, [1100]), (123, [1097]), (129, [1100]), (134, [1100])],
  [(1, [1095]), (8, [1095]), (12, [1094]), (20, [1094]), (24, [1095])],
  [(4, [2037, 2039]), (11, [2026]), (16, [2047, 2049]), (26, [1095]), (31, [1095])],
  [(1, [2026]), (19, [1095]), (24, [1095]), (28, [2026]), (50, [1095]), (55, [1095])],
  [(2, [2097]), (19, [2026]), (29, [1095]), (34, [1095]), (39, [2097]), (48, [2105])],
  [(2, [2101]), (19, [2026]), (29, [1095]), (34, [1095]), (39, [2101]), (48, [2105])],
  [(1, [2026]), (26, [1095]), (31, [1095]), (44, [2101]), (52, [2105]), (70, [2093]), (79, [2033]), (94, [2111]), (110, [2111]), (126, [2085]), (150, [2105])],
  [(1, [1097]), (5, [1096]), (15, [1096]), (19, [1097]), (26, [1097]), (31, [1097])],
  [(1, [2026]), (16, [2115, 2117]), (28, [1095]), (33, [1095])],
  [(1, [1101]), (6, [3018]), (11, [1101]), (16, [3192]), (21, [1101]), (26, [3033]), (31, [1101]), (36, [3193]), (41, [1101]), (47, [3199]), (50, [3193]), (55, [1101]), (76, [1100]), (86, [1099]), (92, [3200]), (101, [1098]), (111, [1099]), (128, [3204])],
  [(4, [3204]), (18, [1096]), (31, [1096]), (99, [1096]), (105, [3205])],
  [(12, [1101]), (61, [1101]), (77, [1101]), (93, [1101])],
  [(1, [1073, 1034, 1035]), (6, [1079]), (11, [1074]), (17, [1087]), (19, [1077]), (24, [1087]), (26, [1078])],
  [(1, [1077]), (6, [4115]), (9, [4119]), (14, [1077]), (19, [1077]), (24, [4120, 2016, 2015, 1012]), (28, [1078]), (33, [1078]), (38, [4120, 2016, 2015, 1012]), (43, [1079]), (46, [1079])],
  [(1, [1079]), (5, [1077]), (9, [4119])],
  [(2, [1079]), (6, [1079])],
  [(1, [1079]), (5, [1077])],
  [(1, [1079]), (5, [1077]), (13, [1077]), (17, [1079]), (23, [1078]), (27, [1079]), (34, [1079]), (39, [1079]), (43, [1079])],
  [(6, [4115]), (13, [1077])],
  [(6, [4115]), (13, [1078])],
  [(1, [1079])],
  [(1, [1129, 1034, 1035]), (6, [1130]), (11, [1133]), (16, [1135]), (21, [1138])],
  [(0, [4108]), (4, [4109]), (10, [1130]), (13, [1130]), (18, [1133]), (21, [1133]), (26, [1135]), (29, [1135]), (34, [1138]), (37, [1138])],
  [(2, [1130]), (7, [1130]), (15, [1133]), (20, [4140]), (23, [1133]), (28, [1133]), (40, [1138])],
  [(2, [1135]), (7, [1133]), (12, [1138])],
  [(1, [3004, 1034, 1035]), (6, [3005]), (11, [3019]), (16, [3034])],
  [],
  [(1, [3034])],
  [],
  [(0, [4101]), (5, [3005]), (9, [3019]), (13, [3034]), (16, [4102])],
  [(3, [5094]), (9, [3005])],
  [(3, [5094]), (10, [5116]), (14, [3019])],
  [(3, [5094]), (10, [5142])],
  [(4, [3001])],
  [],
  [(32, [3231])],
  [(0, [4077]), (5, [3008, 3009]), (9, [3022, 3023]), (13, [3037, 3038]), (16, [4078])],
  [(4, [5087]), (13, [5088, 5076, 3055])],
  [(4, [3061])],
  [],
  [(1, [3226]), (5, [3024, 3025]), (21, [3227, 3219, 3065])],
  [(0, [4082]), (5, [3010, 3011]), (9, [3024, 3025]), (13, [3039, 3040]), (16, [4083])],
  [(4, [5102]), (11, [5103, 5098, 3065])],
  [(4, [3071])],
  [],
  [],
  [(0, [4092]), (5, [3014, 3015]), (9, [3028, 3029]), (13, [3043, 3044]), (16, [4093])],
  [(4, [5138]), (11, [5139, 5120, 3075])],
  [(4, [3081])],
  [],
  [(6, [3239, 7125, 3085]), (11, [3026, 3027])],
  [(0, [4087]), (5, [3012, 3013]), (9, [3026, 3027]), (13, [3041, 3042]), (16, [4088])],
  [(4, [5127]), (13, [5128, 5129, 3085, 3055]), (19, [5131])],
  [(4, [3091])],
  [],
  [(6, [3223, 7124, 3095])],
  [(0, [4072]), (5, [3006, 3007]), (9, [3020, 3021]), (13, [3035, 3036]), (16, [4073])],
  [(4, [5080]), (11, [5081, 5082, 3095, 3065]), (15, [3006, 3007])],
  [(4, [3101]), (9, [1087]), (11, [3102])],
  [],
  [(1, [3102]), (5, [1172]), (9, [4006]), (21, [4009, 7126, 3108])],
  [(12, [3102]), (19, [3102])],
  [(0, [4097]), (5, [3016, 3017]), (9, [3030, 3031]), (13, [3045, 3046]), (16, [4098]), (21, [3102]), (26, [3102]), (31, [4099, 2016, 2015, 1012])],
  [(4, [5111]), (11, [5112, 5113, 3108, 3075]), (15, [3030, 3031])],
  [(1, [5175, 1034, 1035]), (8, [1087]), (10, [5176]), (17, [1087]), (19, [5177]), (25, [1087]), (27, [5178]), (33, [1087]), (35, [5185]), (41, [6008]), (43, [5186]), (49, [1087]), (51, [5190]), (57, [1087]), (59, [5191]), (65, [1087]), (67, [5194]), (71, [5176]), (87, [5176])],
  [(4, [6013]), (14, [5176]), (29, [5176]), (35, [5176]), (45, [5176]), (56, [5176])],
  [],
  [(1, [5176]), (16, [5176]), (22, [5180]), (27, [5176]), (33, [5182]), (37, [5176]), (45, [5176]), (52, [5180]), (60, [5176]), (67, [5180]), (75, [5181]), (80, [5183]), (85, [5184]), (91, [6020]), (95, [5183]), (108, [6024]), (118, [5181]), (123, [5181]), (127, [6020]), (137, [5183]), (144, [5181]), (148, [5182]), (157, [5181]), (163, [5176]), (174, [5176]), (180, [5180]), (185, [5180])],
  [(1, [6024]), (46, [6029]), (57, [6048]), (69, [6048]), (77, [5183])],
  [(1, [5181]), (5, [5182]), (12, [5176]), (18, [5181])],
  [(2, [6033]), (6, [6043]), (11, [5183]), (18, [5176]), (23, [5180])],
  [(4, [6037, 2039]), (13, [6038, 2049]), (16, [6039])],
  [(2, [5183]), (9, [6024]), (21, [5183]), (26, [5181]), (30, [5183]), (42, [5181])],
  [(2, [5183]), (9, [6024]), (16, [6013]), (27, [5183]), (40, [5183]), (47, [6024]), (54, [6013]), (73, [6024]), (83, [5181]), (88, [5181])],
  [(2, [6033]), (6, [6043]), (13, [6039]), (17, [6052]), (24, [6064])],
  [(1, [6056]), (5, [5183]), (12, [6024]), (22, [5181]), (27, [5181]), (31, [6056]), (37, [6064])],
  [(1, [6060]), (5, [5183]), (12, [6024]), (22, [5181]), (27, [5181]), (31, [6060]), (37, [6064])],
  [(1, [5183]), (9, [6024]), (27, [5184]), (39, [5183]), (44, [5184]), (49, [5184]), (54, [5181]), (58, [5183]), (70, [5181]), (80, [6060]), (85, [6064]), (92, [6052]), (98, [6039]), (103, [5184]), (108, [5184]), (115, [6069]), (130, [5183]), (134, [5183]), (147, [6069]), (153, [5183]), (169, [5183]), (173, [6043]), (191, [6064])],
  [(1, [5183]), (8, [5176]), (18, [5180]), (24, [5176]), (31, [5180]), (40, [5176]), (47, [5180])],
  [(4, [6037, 2039]), (11, [6024]), (16, [6038, 2049]), (24, [5181]), (29, [5181])],
  [(4, [6013]), (16, [6013]), (23, [6079]), (33, [5176]), (48, [5176]), (57, [5176]), (68, [5176]), (79, [5176]), (90, [5176]), (110, [5176]), (132, [5176])],
  [(5, [6013])],
  [(2, [6086]), (41, [5176]), (51, [5176]), (61, [5176]), (71, [5176])],
  [(3, [5176]), (11, [6013])],
  [(2, [6086]), (11, [6013]), (20, [6079]), (36, [6094]), (50, [6098]), (59, [6109])],
  [(1, [5176])],
  [(1, [5185]), (8, [5185]), (13, [5176]), (23, [5185]), (28, [5176]), (38, [5185]), (43, [6102]), (48, [5185]), (55, [6094]), (58, [6102]), (63, [5185]), (68, [5176]), (84, [6105]), (96, [5176]), (124, [5176]), (138, [5185]), (166, [5186]), (238, [5186]), (246, [5186]), (277, [5186]), (292, [5186]), (304, [5186]), (322, [5186]), (334, [5186]), (356, [5186])],
  [],
  [(1, [5176]), (16, [5176]), (21, [5176])],
  [(3, [6094]), (10, [6098]), (16, [5176]), (27, [6102]), (44, [6113]), (50, [5176]), (101, [6113]), (113, [6113]), (122, [6113]), (150, [6113]), (155, [5176]), (165, [5176]), (185, [6113])],
  [(68, [5176]), (78, [5176])],
  [(2, [6086]), (11, [6013]), (23, [6013]), (33, [5176]), (56, [6121])],
  [(1, [5176]), (8, [5176])],
  [(2, [6086]), (11, [6079]), (23, [6121])],
  [(2, [6086]), (22, [6121])],
  [(4, [6013]), (16, [6013]), (28, [6121])],
  [(1, [5176]), (15, [5176]), (23, [5176]), (33, [6141]), (37, [5176])],
  [(1, [5176]), (11, [5176]), (21, [5176])],
  [(2, [6149]), (45, [5176]), (54, [5176]), (64, [5176]), (74, [5176]), (85, [6153])],
  [(3, [5176]), (11, [6013])],
  [(1, [6157]), (13, [6161]), (23, [5176]), (41, [5176]), (50, [6177])],
  [(9, [5178]), (14, [5176])],
  [(4, [5176]), (14, [5176]), (27, [6165]), (35, [6169]), (45, [5176])],
  [(1, [5176]), (10, [5176])],
  [(1, [5176]), (11, [5176]), (24, [5176]), (40, [5176]), (47, [6109]), (52, [5176]), (64, [5176]), (75, [6173]), (81, [5176]), (95, [6105]), (102, [5176]), (115, [5176])],
  [(21, [5176])],
  [(9, [5176]), (14, [5178])],
  [(2, [6149]), (11, [6079]), (22, [6141]), (30, [6121])],
  [(37, [5176]), (49, [6105]), (54, [6189]), (59, [6193]), (64, [6197]), (73, [6013]), (80, [5176])],
  [(6, [5176]), (17, [5176])],
  [(6, [5176]), (18, [6165])],
  [(6, [5176]), (17, [5176])],
  [(4, [6013]), (14, [5176]), (32, [6205]), (39, [5176]), (49, [5176]), (57, [5176]), (78, [5176]), (94, [5176])],
  [(8, [6161])],
  [(9, [6149]), (20, [6149]), (31, [6149]), (43, [6013]), (53, [6157]), (58, [6205]), (66, [6197]), (79, [5176]), (99, [5176]), (114, [5176]), (127, [6177])],
  [(3, [6013]), (12, [6013]), (21, [6079]), (33, [6217]), (41, [5187]), (53, [5188]), (60, [5189])],
  [(2, [5187]), (7, [5188]), (13, [5189]), (20, [5176]), (39, [5176]), (49, [6221])],
  [(1, [5189]), (10, [5176]), (24, [5187]), (27, [6109]), (33, [5187]), (38, [5187]), (43, [5188]), (48, [6173]), (52, [5188]), (57, [5188]), (66, [6105]), (78, [5189])],
  [(3, [6013]), (14, [6013]), (23, [6079]), (34, [5192]), (39, [5193]), (46, [5176]), (57, [6229]), (61, [5192]), (76, [5192]), (88, [5193]), (99, [5176]), (109, [5191])],
  [(8, [6233]), (18, [5176]), (38, [5176]), (59, [6109]), (69, [6173]), (76, [5190]), (84, [5176]), (105, [6105]), (129, [6229])],
  [(1, [6102]), (7, [5192]), (15, [5192]), (23, [5193]), (31, [5192]), (36, [5193]), (50, [5191]), (56, [5190])],
  [(4, [6013]), (20, [5176]), (31, [6157]), (36, [7001]), (42, [6217]), (46, [6177]), (50, [5187]), (79, [6102]), (83, [6102])],
  [(4, [5176]), (14, [5176]), (35, [5176])],
  [(3, [6013]), (18, [5176]), (30, [7009]), (36, [7009]), (60, [6102]), (64, [6102]), (93, [7009]), (96, [6102])],
  [(6, [5176]), (26, [5176])],
  [(6, [5176]), (16, [6079]), (23, [6079]), (33, [5176]), (47, [5176]), (53, [5176]), (63, [5176]), (69, [5176]), (79, [5176]), (90, [5176])],
  [(2, [6086]), (11, [6013]), (27, [7021])],
  [(1, [5176]), (24, [5176]), (33, [7025]), (74, [5176])],
  [(6, [5176]), (22, [5176]), (30, [6109]), (34, [5176])],
  [(2, [6086]), (11, [6013]), (26, [7021])],
  [(6, [5176]), (18, [7025])],
  [(1, [6079]), (11, [6013]), (20, [6013]), (27, [5176]), (36, [7041]), (49, [5176]), (59, [6157]), (63, [5176]), (76, [6217]), (80, [6177]), (86, [5187]), (106, [5176]), (114, [7042])],
  [],
  [(3, [6013]), (10, [5176]), (19, [7041]), (31, [5176]), (42, [5176]), (62, [5176]), (70, [7042])],
  [(6, [5176]), (18, [6013]), (27, [6013]), (35, [6086]), (48, [6149]), (57, [5176]), (72, [5176]), (78, [5176]), (88, [5176]), (94, [5176]), (104, [5176]), (115, [5176])],
  [(3, [6013]), (12, [6157]), (19, [5176]), (30, [5176]), (39, [5176]), (47, [7057]), (61, [6197]), (68, [6193]), (73, [6177])],
  [(5, [6161]), (18, [6141]), (25, [5176])],
  [(6, [5176]), (17, [6149]), (26, [6079]), (36, [5176]), (51, [5176]), (57, [5176]), (67, [5176]), (73, [5176]), (83, [5176]), (94, [5176])],
  [(4, [5176]), (14, [5176]), (19, [5176]), (30, [5176])],
  [(2, [5195]), (7, [6086]), (16, [6013]), (26, [5176]), (34, [5196]), (39, [5197]), (44, [5176]), (52, [5198]), (61, [7073]), (74, [7088]), (82, [7096])],
  [(1, [5196]), (5, [7077]), (14, [7080]), (21, [7084]), (26, [5196]), (36, [7080]), (41, [7084]), (45, [5197]), (52, [7084])],
  [],
  [(1, [5195]), (10, [5194]), (14, [5195]), (21, [5195]), (26, [5195])],
  [(2, [7080]), (7, [5197])],
  [(1, [5196]), (5, [7077]), (14, [7080]), (19, [7092]), (25, [5196]), (36, [7080]), (41, [7092]), (45, [5198]), (52, [7092])],
  [(2, [7080]), (7, [7073]), (11, [5198])],
  [(1, [5196]), (5, [7077]), (14, [7080]), (19, [7100]), (27, [5196]), (37, [7080]), (44, [7100]), (51, [7073]), (58, [7100])],
  [(2, [7080]), (7, [7088])],
  [(3, [5195]), (12, [5195]), (22, [6013]), (29, [5194])],
  [(2, [6086]), (12, [6013]), (21, [5176]), (30, [7077]), (37, [5176])],
  [(10, [5177]), (15, [5176]), (29, [5179]), (33, [5176])],
  [(1, [5179]), (20, [5176]), (25, [5177]), (38, [5176])],
  [(7, [5195]), (17, [6013]), (24, [5176])],
  [(0, [1028]), (4, [1030]), (8, [5170]), (12, [5172]), (194, [1223]), (203, [6009]), (212, [1231]), (216, [6016]), (240, [2225]), (259, [6075]), (278, [3116]), (292, [6082]), (316, [3164]), (335, [6090]), (359, [4011]), (378, [6117]), (397, [4019]), (411, [6125]), (438, [4023]), (460, [6129]), (479, [4031]), (493, [6133]), (502, [4038]), (506, [6137]), (525, [4044]), (539, [6145]), (558, [4141]), (572, [6181]), (586, [4149]), (595, [6185]), (609, [4161]), (618, [6201]), (637, [4168]), (651, [6209]), (675, [4172]), (694, [6213]), (713, [4181]), (727, [6225]), (741, [4209]), (750, [6237]), (764, [4221]), (773, [7005]), (792, [4236]), (806, [7013]), (825, [5012]), (839, [7017]), (858, [5030]), (872, [7029]), (881, [5034]), (885, [7033]), (909, [5038]), (928, [7037]), (943, [5046]), (952, [7045]), (972, [5050]), (986, [7049]), (1000, [5054]), (1009, [7053]), (1028, [5061]), (1042, [7061]), (1051, [5065]), (1055, [7065]), (1079, [5069]), (1098, [7069]), (1112, [5143]), (1121, [7104]), (1140, [5147]), (1154, [7108]), (1163, [5154]), (1167, [7112]), (1176, [5158]), (1180, [7116]), (1194, [5162]), (1203, [7120])],
  [(1, [1047]), (5, [1054]), (8, [1056])],
  [(1, [1057])],
  [(2, [1059, 1060]), (7, [1059, 1060]), (13, [1056]), (17, [1057]), (20, [2175])],
  [(7, [2179]), (19, [1057])],
  [(2, [1057]), (7, [2183])],
  [(1, [1056]), (11, [1056]), (14, [1054]), (33, [1056]), (41, [1056]), (49, [2222]), (52, [2223]), (56, [1056])],
  [(2, [1057]), (5, [3129]), (11, [3133])],
  [(1, [1056])],
  [(1, [1057])],
  [(2, [1059, 1060]), (7, [1059, 1060]), (11, [1056]), (16, [1057]), (23, [1057])],
  [(1, [1050]), (6, [1058])],
  [(1, [1053, 1034, 1035])],
  [],
  [],
  [],
  [],
  [(7, [2004, 2005, 2006, 2007, 2008]), (10, [2010]), (15, [1087]), (25, [2011]), (28, [2014, 2016, 2015, 1012])],
  [(1, [7158]), (6, [2041, 2043])],
  [(0, [2045]), (7, [7159])],
  [(1, [2051, 2053]), (8, [7158]), (12, [2055]), (17, [7158])],
  [(0, [2045]), (7, [7159])],
  [(2, [2061]), (5, [2063])],
  [(3, [2119, 2121])],
  [(1, [2051, 2053]), (8, [7158]), (14, [2123, 2039]), (17, [2124]), (24, [7158]), (30, [2123, 2039])],
  [(3, [2061]), (6, [2150])],
  [(3, [2058])],
  [(1, [2127]), (11, [2130]), (18, [2131]), (33, [2132])],
  [],
  [],
  [],
  [],
  [(3, [3132])],
  [(4, [3196]), (11, [3197]), (18, [3197]), (29, [3198])]]
def lkH : List (Nat × List Nat) → Nat → List Nat
  | [], _ => []
  | (p, i) :: l, q => if p = q then i else lkH l q
def hn (y pc : Nat) : List Nat := lkH ((hnT[y]?).getD []) pc
def tbL (k : Nat) : List Cond := match k with
  | 0 => k2_sels lw_privs
  | 1 => tables_1_1
  | 2 => tables_1_2
  | 3 => tables_1_3
  | 4 => tables_1_4
  | 5 => tables_1_5
  | 6 => tables_1_6
  | 7 => tables_1_7
  | _ => []
def tbW (i : Nat) : Option Cond := (tbL (i / 1000))[i % 1000]?
theorem tbL_sub (k : Nat) : ∀ w ∈ tbL k, w ∈ lw_tbl := by
  intro w h
  unfold lw_tbl tables_1
  simp only [List.mem_append]
  unfold tbL at h
  split at h <;> first | exact Or.inl h | exact Or.inr (Or.inl h) | exact Or.inr (Or.inr (Or.inl h)) | exact Or.inr (Or.inr (Or.inr (Or.inl h))) | exact Or.inr (Or.inr (Or.inr (Or.inr (Or.inl h)))) | exact Or.inr (Or.inr (Or.inr (Or.inr (Or.inr (Or.inl h))))) | exact Or.inr (Or.inr (Or.inr (Or.inr (Or.inr (Or.inr (Or.inl h)))))) | exact Or.inr (Or.inr (Or.inr (Or.inr (Or.inr (Or.inr (Or.inr h)))))) | exact absurd h List.not_mem_nil
def tb (i : Nat) (w : Cond) : Bool := decide (tbW i = some w) && goodWord w
theorem tb_in {i : Nat} {w : Cond} (h : tb i w = true) : w ∈ mT := by
  unfold tb tbW at h
  rw [Bool.and_eq_true, decide_eq_true_eq] at h
  exact List.mem_filter.mpr ⟨tbL_sub _ _ (List.mem_of_getElem? h.1), h.2⟩
def own (y : Nat) : String := (mn y).cls
/-- of a method: its code's place, its class's, 'static' or 'instance', which -/
def mhT : List (Nat × Nat × Nat × Nat) := [(1032, 1001, 1031, 0), (1226, 1001, 1224, 0), (1234, 1001, 1232, 0), (2091, 1001, 2090, 1), (2228, 1001, 2226, 0), (2232, 1001, 2231, 1), (2235, 1001, 2234, 1), (3119, 1001, 3117, 0), (3167, 1001, 3165, 0), (4014, 1001, 4012, 0), (4022, 1001, 4020, 0), (4026, 1001, 4024, 0), (4034, 1001, 4032, 0), (4037, 1001, 4036, 1), (4041, 1001, 4039, 0), (4047, 1001, 4045, 0), (4055, 1001, 4054, 0), (4144, 1001, 4142, 0), (4152, 1001, 4150, 0), (4164, 1001, 4162, 0), (4167, 1001, 4166, 1), (4171, 1001, 4169, 0), (4175, 1001, 4173, 0), (4184, 1001, 4182, 0), (4212, 1001, 4210, 0), (4224, 1001, 4222, 0), (4239, 1001, 4237, 0), (5015, 1001, 5013, 0), (5033, 1001, 5031, 0), (5037, 1001, 5035, 0), (5041, 1001, 5039, 0), (5045, 1001, 5044, 1), (5049, 1001, 5047, 0), (5053, 1001, 5051, 0), (5057, 1001, 5055, 0), (5064, 1001, 5062, 0), (5068, 1001, 5066, 0), (5072, 1001, 5070, 0), (5146, 1001, 5144, 0), (5150, 1001, 5148, 0), (5153, 1001, 5152, 1), (5157, 1001, 5155, 0), (5161, 1001, 5159, 0), (5165, 1001, 5163, 0), (1040, 1002, 1039, 0), (1230, 1002, 1228, 0), (3123, 1002, 3121, 0), (3163, 1002, 3161, 0), (3182, 1002, 3180, 0), (3212, 1002, 3210, 0), (3234, 1002, 3232, 0), (4030, 1002, 4028, 0), (4051, 1002, 4049, 0), (4059, 1002, 4057, 0), (4124, 1002, 4122, 0), (4128, 1002, 4127, 0), (4135, 1002, 4133, 0), (4156, 1002, 4154, 0), (4160, 1002, 4158, 0), (4179, 1002, 4177, 0), (4188, 1002, 4186, 0), (4192, 1002, 4191, 0), (4196, 1002, 4194, 0), (4202, 1002, 4201, 1), (4205, 1002, 4204, 1), (4208, 1002, 4207, 1), (4216, 1002, 4214, 0), (4219, 1002, 4218, 1), (4228, 1002, 4226, 0), (4232, 1002, 4230, 0), (5020, 1002, 5018, 0), (1092, 1008, 1091, 0), (2021, 1008, 2019, 0), (2025, 1008, 2024, 0), (2029, 1008, 2028, 0), (2036, 1008, 2035, 0), (2088, 1008, 2087, 0), (2096, 1008, 2095, 0), (2100, 1008, 2099, 0), (2104, 1008, 2103, 0), (2108, 1008, 2107, 0), (2114, 1008, 2113, 0), (3191, 1008, 3189, 0), (3203, 1008, 3202, 0), (3208, 1008, 3207, 0), (1072, 1006, 1071, 0), (4114, 1006, 4112, 0), (4118, 1006, 4116, 0), (5003, 1006, 5001, 0), (5007, 1006, 5005, 0), (5011, 1006, 5009, 0), (5025, 1006, 5023, 0), (5029, 1006, 5027, 0), (5169, 1006, 5167, 0), (1128, 1009, 1127, 0), (4107, 1009, 4105, 0), (4139, 1009, 4137, 0), (4148, 1009, 4146, 0), (3003, 1019, 3002, 0), (3159, 1019, 3138, 0), (3178, 1019, 3169, 0), (4010, 1019, 3217, 0), (4100, 1019, 4066, 0), (5093, 1019, 5074, 0), (5115, 1019, 5096, 0), (5141, 1019, 5118, 0), (3000, 1020, 2239, 0), (3146, 1020, 3145, 0), (3230, 1020, 3229, 0), (4076, 1020, 4075, 0), (5086, 1020, 5085, 0), (3060, 1021, 3059, 0), (3149, 1021, 3148, 0), (3225, 1021, 3224, 0), (4081, 1021, 4080, 0), (5101, 1021, 5100, 0), (3070, 1022, 3069, 0), (3155, 1022, 3154, 0), (4002, 1022, 4001, 0), (4091, 1022, 4090, 0), (5137, 1022, 5136, 0), (3080, 1023, 3079, 0), (3152, 1023, 3151, 0), (3238, 1023, 3237, 0), (4086, 1023, 4085, 0), (5126, 1023, 5125, 0), (3090, 1024, 3089, 0), (3143, 1024, 3142, 0), (3222, 1024, 3221, 0), (4071, 1024, 4070, 0), (5079, 1024, 5078, 0), (3100, 1025, 3099, 0), (3158, 1025, 3157, 0), (4005, 1025, 4004, 0), (4018, 1025, 4016, 0), (4096, 1025, 4095, 0), (5110, 1025, 5109, 0), (5174, 1011, 5173, 0), (6012, 1011, 6010, 0), (6015, 1011, 6014, 1), (6019, 1011, 6017, 0), (6023, 1011, 6022, 0), (6027, 1011, 6026, 0), (6032, 1011, 6031, 0), (6036, 1011, 6035, 0), (6042, 1011, 6041, 0), (6046, 1011, 6045, 0), (6051, 1011, 6050, 0), (6055, 1011, 6054, 0), (6059, 1011, 6058, 0), (6063, 1011, 6062, 0), (6067, 1011, 6066, 0), (6072, 1011, 6071, 0), (6078, 1011, 6076, 0), (6081, 1011, 6080, 1), (6085, 1011, 6083, 0), (6089, 1011, 6088, 0), (6093, 1011, 6091, 0), (6097, 1011, 6096, 0), (6101, 1011, 6100, 0), (6104, 1011, 6103, 1), (6108, 1011, 6107, 0), (6112, 1011, 6111, 0), (6116, 1011, 6115, 0), (6120, 1011, 6118, 0), (6124, 1011, 6123, 0), (6128, 1011, 6126, 0), (6132, 1011, 6130, 0), (6136, 1011, 6134, 0), (6140, 1011, 6138, 0), (6144, 1011, 6143, 0), (6148, 1011, 6146, 0), (6152, 1011, 6151, 0), (6156, 1011, 6155, 0), (6160, 1011, 6159, 0), (6164, 1011, 6163, 0), (6168, 1011, 6167, 0), (6172, 1011, 6171, 0), (6176, 1011, 6175, 0), (6180, 1011, 6179, 0), (6184, 1011, 6182, 0), (6188, 1011, 6186, 0), (6192, 1011, 6191, 0), (6196, 1011, 6195, 0), (6200, 1011, 6199, 0), (6204, 1011, 6202, 0), (6208, 1011, 6207, 0), (6212, 1011, 6210, 0), (6216, 1011, 6214, 0), (6220, 1011, 6219, 0), (6224, 1011, 6223, 0), (6228, 1011, 6226, 0), (6232, 1011, 6231, 0), (6236, 1011, 6235, 0), (7000, 1011, 6238, 0), (7004, 1011, 7003, 0), (7008, 1011, 7006, 0), (7012, 1011, 7011, 0), (7016, 1011, 7014, 0), (7020, 1011, 7018, 0), (7024, 1011, 7023, 0), (7028, 1011, 7027, 0), (7032, 1011, 7030, 0), (7036, 1011, 7034, 0), (7040, 1011, 7038, 0), (7044, 1011, 7043, 1), (7048, 1011, 7046, 0), (7052, 1011, 7050, 0), (7056, 1011, 7054, 0), (7060, 1011, 7059, 0), (7064, 1011, 7062, 0), (7068, 1011, 7066, 0), (7072, 1011, 7070, 0), (7076, 1011, 7075, 0), (7079, 1011, 7078, 1), (7083, 1011, 7082, 0), (7087, 1011, 7086, 0), (7091, 1011, 7090, 0), (7095, 1011, 7094, 0), (7099, 1011, 7098, 0), (7103, 1011, 7102, 0), (7107, 1011, 7105, 0), (7111, 1011, 7109, 0), (7115, 1011, 7113, 0), (7119, 1011, 7117, 0), (7123, 1011, 7121, 0), (0, 0, 0, 1), (1046, 1005, 1045, 0), (1238, 1005, 1236, 0), (2174, 1005, 2172, 0), (2178, 1005, 2177, 0), (2182, 1005, 2181, 0), (2186, 1005, 2185, 0), (3128, 1005, 3126, 0), (3136, 1005, 3134, 0), (3186, 1005, 3184, 0), (4063, 1005, 4061, 0), (1049, 1004, 1048, 0), (1052, 1003, 1051, 0), (1076, 1007, 1075, 1), (2013, 1007, 2012, 1), (4008, 1007, 4007, 1), (1152, 1010, 1151, 1), (2003, 1010, 2002, 1), (2040, 1013, 2038, 0), (2044, 1013, 2042, 0), (2050, 1013, 2048, 0), (2054, 1013, 2052, 0), (2060, 1013, 2059, 1), (2118, 1013, 2116, 0), (2122, 1013, 2120, 0), (2149, 1013, 2148, 1), (2057, 1014, 2056, 1), (2126, 1014, 2125, 1), (2129, 1014, 2128, 1), (2134, 1014, 2133, 1), (2065, 1015, 2064, 1), (2152, 1015, 2151, 1), (3131, 1026, 3130, 1), (3195, 1027, 3194, 1)]
def naT : List Nat := [0, 1, 0, 1, 3, 1, 4, 2, 3, 3, 2, 2, 2, 1, 0, 2, 1, 2, 1, 1, 1, 2, 3, 2, 1, 1, 2, 2, 2, 0, 3, 3, 1, 2, 1, 2, 0, 3, 1, 2, 2, 0, 0, 1, 0, 1, 1, 1, 0, 2, 1, 2, 1, 1, 1, 1, 1, 0, 0, 3, 1, 4, 0, 2, 1, 1, 1, 2, 0, 1, 1, 1, 0, 0, 0, 1, 0, 1, 1, 1, 1, 1, 3, 2, 1, 1, 1, 0, 0, 0, 2, 1, 1, 0, 0, 0, 3, 0, 3, 0, 1, 4, 0, 2, 2, 2, 3, 0, 4, 0, 2, 3, 0, 4, 0, 2, 3, 0, 4, 0, 2, 3, 0, 4, 0, 2, 3, 0, 4, 0, 2, 3, 0, 4, 2, 0, 2, 0, 1, 3, 0, 0, 0, 2, 1, 1, 0, 2, 0, 0, 0, 1, 1, 3, 1, 2, 1, 3, 2, 2, 1, 2, 2, 3, 3, 2, 2, 2, 2, 0, 1, 2, 1, 1, 0, 0, 1, 1, 1, 0, 2, 1, 0, 0, 0, 1, 1, 2, 3, 2, 1, 2, 4, 2, 1, 1, 1, 1, 2, 2, 4, 1, 2, 0, 3, 3, 1, 2, 1, 2, 2, 0, 3, 1, 2, 1, 1, 1, 1, 1, 1, 1, 2, 0, 0, 1, 1, 0, 0, 1, 3, 0, 1, 1, 1, 0, 0, 0, 0, 2, 2, 2, 2, 2, 0, 0, 1, 0, 2, 1, 2, 3, 2, 4, 1, 4, 3, 4, 2, 1]
def lawY : Nat := 226
def mN : Nat := 260
def nas (y : Nat) : Nat := naT.getD y 0
def isSt (y : Nat) : Bool := (mhT.getD y (0, 0, 0, 0)).2.2.2 == 1
def noMH (s : String) : Bool := decide (s ≠ "java/lang/invoke/MethodHandle") && decide (s ≠ "java/lang/invoke/VarHandle")
def prm (d : String) (n : Nat) : Bool := decide ((parseMethodDescriptor d).map (fun d => d.parameters.length) = some n)
def ckM (y : Nat) : Bool := match mhT.getD y (0, 0, 0, 0) with
  | (a, b, c, k) => tb a (codeW y) && tb b (.initialized (mn y).cls) && (if k = 1 then tb c (.static (mn y)) else tb c (.instanceMethod (mn y))) && plainFor (mn y) && noMH (mn y).cls && prm (mn y).desc (nas y) && decide (ml y ≤ 45)

theorem ckM_0 : (List.range 20).all (fun i => decide (0 + i = lawY) || ckM (0 + i)) = true := by decide +kernel
theorem ckM_1 : (List.range 20).all (fun i => decide (20 + i = lawY) || ckM (20 + i)) = true := by decide +kernel
theorem ckM_2 : (List.range 20).all (fun i => decide (40 + i = lawY) || ckM (40 + i)) = true := by decide +kernel
theorem ckM_3 : (List.range 20).all (fun i => decide (60 + i = lawY) || ckM (60 + i)) = true := by decide +kernel
theorem ckM_4 : (List.range 20).all (fun i => decide (80 + i = lawY) || ckM (80 + i)) = true := by decide +kernel
theorem ckM_5 : (List.range 20).all (fun i => decide (100 + i = lawY) || ckM (100 + i)) = true := by decide +kernel
theorem ckM_6 : (List.range 20).all (fun i => decide (120 + i = lawY) || ckM (120 + i)) = true := by decide +kernel
theorem ckM_7 : (List.range 20).all (fun i => decide (140 + i = lawY) || ckM (140 + i)) = true := by decide +kernel
theorem ckM_8 : (List.range 20).all (fun i => decide (160 + i = lawY) || ckM (160 + i)) = true := by decide +kernel
theorem ckM_9 : (List.range 20).all (fun i => decide (180 + i = lawY) || ckM (180 + i)) = true := by decide +kernel
theorem ckM_10 : (List.range 20).all (fun i => decide (200 + i = lawY) || ckM (200 + i)) = true := by decide +kernel
theorem ckM_11 : (List.range 20).all (fun i => decide (220 + i = lawY) || ckM (220 + i)) = true := by decide +kernel
theorem ckM_12 : (List.range 20).all (fun i => decide (240 + i = lawY) || ckM (240 + i)) = true := by decide +kernel
theorem ckM_all {y : Nat} (h : y < mN) (hl : y ≠ lawY) : ckM y = true := by
  unfold mN at h
  by_cases h0 : y < 20
  · have z := List.all_eq_true.mp ckM_0 (y - 0) (List.mem_range.mpr (by omega))
    rw [show 0 + (y - 0) = y by omega, Bool.or_eq_true, decide_eq_true_eq] at z
    exact z.resolve_left hl
  by_cases h20 : y < 40
  · have z := List.all_eq_true.mp ckM_1 (y - 20) (List.mem_range.mpr (by omega))
    rw [show 20 + (y - 20) = y by omega, Bool.or_eq_true, decide_eq_true_eq] at z
    exact z.resolve_left hl
  by_cases h40 : y < 60
  · have z := List.all_eq_true.mp ckM_2 (y - 40) (List.mem_range.mpr (by omega))
    rw [show 40 + (y - 40) = y by omega, Bool.or_eq_true, decide_eq_true_eq] at z
    exact z.resolve_left hl
  by_cases h60 : y < 80
  · have z := List.all_eq_true.mp ckM_3 (y - 60) (List.mem_range.mpr (by omega))
    rw [show 60 + (y - 60) = y by omega, Bool.or_eq_true, decide_eq_true_eq] at z
    exact z.resolve_left hl
  by_cases h80 : y < 100
  · have z := List.all_eq_true.mp ckM_4 (y - 80) (List.mem_range.mpr (by omega))
    rw [show 80 + (y - 80) = y by omega, Bool.or_eq_true, decide_eq_true_eq] at z
    exact z.resolve_left hl
  by_cases h100 : y < 120
  · have z := List.all_eq_true.mp ckM_5 (y - 100) (List.mem_range.mpr (by omega))
    rw [show 100 + (y - 100) = y by omega, Bool.or_eq_true, decide_eq_true_eq] at z
    exact z.resolve_left hl
  by_cases h120 : y < 140
  · have z := List.all_eq_true.mp ckM_6 (y - 120) (List.mem_range.mpr (by omega))
    rw [show 120 + (y - 120) = y by omega, Bool.or_eq_true, decide_eq_true_eq] at z
    exact z.resolve_left hl
  by_cases h140 : y < 160
  · have z := List.all_eq_true.mp ckM_7 (y - 140) (List.mem_range.mpr (by omega))
    rw [show 140 + (y - 140) = y by omega, Bool.or_eq_true, decide_eq_true_eq] at z
    exact z.resolve_left hl
  by_cases h160 : y < 180
  · have z := List.all_eq_true.mp ckM_8 (y - 160) (List.mem_range.mpr (by omega))
    rw [show 160 + (y - 160) = y by omega, Bool.or_eq_true, decide_eq_true_eq] at z
    exact z.resolve_left hl
  by_cases h180 : y < 200
  · have z := List.all_eq_true.mp ckM_9 (y - 180) (List.mem_range.mpr (by omega))
    rw [show 180 + (y - 180) = y by omega, Bool.or_eq_true, decide_eq_true_eq] at z
    exact z.resolve_left hl
  by_cases h200 : y < 220
  · have z := List.all_eq_true.mp ckM_10 (y - 200) (List.mem_range.mpr (by omega))
    rw [show 200 + (y - 200) = y by omega, Bool.or_eq_true, decide_eq_true_eq] at z
    exact z.resolve_left hl
  by_cases h220 : y < 240
  · have z := List.all_eq_true.mp ckM_11 (y - 220) (List.mem_range.mpr (by omega))
    rw [show 220 + (y - 220) = y by omega, Bool.or_eq_true, decide_eq_true_eq] at z
    exact z.resolve_left hl
  by_cases h240 : y < 260
  · have z := List.all_eq_true.mp ckM_12 (y - 240) (List.mem_range.mpr (by omega))
    rw [show 240 + (y - 240) = y by omega, Bool.or_eq_true, decide_eq_true_eq] at z
    exact z.resolve_left hl
  omega
def xns : List MethodName := [
  ⟨"AuntsInTurn$World", "writes", "(I)I"⟩,
  ⟨"java/util/ArrayList", "size", "()I"⟩,
  ⟨"AuntsInTurn$Valley", "fault", "()I"⟩,
  ⟨"java/util/ArrayList", "add", "(Ljava/lang/Object;)Z"⟩,
  ⟨"AuntsInTurn$World", "hasAunt", "(I)Z"⟩,
  ⟨"java/util/ArrayList", "get", "(I)Ljava/lang/Object;"⟩,
  ⟨"AuntsInTurn$Aunt", "kind", "()I"⟩,
  ⟨"AuntsInTurn$World", "isAway", "(I)Z"⟩,
  ⟨"AuntsInTurn$Aunt", "left", "(I)I"⟩,
  ⟨"AuntsInTurn$World", "holding", "()LAuntsInTurn$Valley;"⟩,
  ⟨"AuntsInTurn$Valley", "mouth", "(LAuntsInTurn$Aunt;II)I"⟩,
  ⟨"AuntsInTurn$World", "speech", "(LAuntsInTurn$Aunt;I)I"⟩,
  ⟨"AuntsInTurn$Told", "write", "(II)I"⟩,
  ⟨"AuntsInTurn$World", "setAway", "(IZ)V"⟩,
  ⟨"AuntsInTurn$World", "hasAsker", "(I)Z"⟩,
  ⟨"AuntsInTurn", "comes", "(I)I"⟩,
  ⟨"AuntsInTurn$World", "take", "(LAuntsInTurn$World;)V"⟩,
  ⟨"AuntsInTurn$World", "daysGo", "(I)V"⟩,
  ⟨"AuntsInTurn$Asker", "startAnew", "()V"⟩,
  ⟨"AuntsInTurn$World", "howManyThrough", "()I"⟩,
  ⟨"AuntsInTurn$World", "howManyBack", "()I"⟩,
  ⟨"AuntsInTurn$World", "climbs", "(ZII)LAuntsInTurn$Asker;"⟩,
  ⟨"AuntsInTurn$World", "bestOrder", "(I)I"⟩,
  ⟨"AuntsInTurn$World", "fewestToHush", "(I)I"⟩,
  ⟨"AuntsInTurn$World", "fewestWhoKnowAll", "()I"⟩,
  ⟨"AuntsInTurn$World", "allAunts", "()I"⟩,
  ⟨"AuntsInTurn$World", "knownTogether", "(I)I"⟩,
  ⟨"AuntsInTurn$Rows", "clear", "()I"⟩,
  ⟨"AuntsInTurn$Rows", "isFull", "()Z"⟩,
  ⟨"AuntsInTurn$Rows", "put", "(II)I"⟩,
  ⟨"AuntsInTurn$Aunt", "twin", "()LAuntsInTurn$Aunt;"⟩,
  ⟨"AuntsInTurn$World", "fitsSaid", "(LAuntsInTurn$Aunt;)Z"⟩,
  ⟨"AuntsInTurn$Rows", "kept", "()I"⟩,
  ⟨"AuntsInTurn$Rows", "first", "(I)I"⟩,
  ⟨"AuntsInTurn$Rows", "second", "(I)I"⟩,
  ⟨"AuntsInTurn$Aunt", "rings", "(LAuntsInTurn$Rows;I)I"⟩,
  ⟨"AuntsInTurn$Aunt", "asks", "(LAuntsInTurn$Rows;I)I"⟩,
  ⟨"AuntsInTurn$Aunt", "warns", "(LAuntsInTurn$Rows;I)I"⟩,
  ⟨"AuntsInTurn$Rows", "came", "()I"⟩,
  ⟨"java/util/ArrayList", "isEmpty", "()Z"⟩,
  ⟨"AuntsInTurn$Aunt", "picks", "(LAuntsInTurn$World;III)I"⟩,
  ⟨"java/util/ArrayList", "clear", "()V"⟩,
  ⟨"AuntsInTurn$Asker", "twin", "()LAuntsInTurn$Asker;"⟩,
  ⟨"AuntsInTurn$Rows", "take", "(LAuntsInTurn$Rows;)V"⟩,
  ⟨"AuntsInTurn$World", "visit", "(LAuntsInTurn$Asker;)V"⟩,
  ⟨"AuntsInTurn$World", "weightOf", "(I)I"⟩,
  ⟨"AuntsInTurn$Asker", "hears", "(III)V"⟩,
  ⟨"AuntsInTurn$World", "bestFrom", "(IIII)I"⟩,
  ⟨"AuntsInTurn$Valley", "clause", "()Z"⟩,
  ⟨"AuntsInTurn$Valley", "here", "()I"⟩,
  ⟨"AuntsInTurn$Valley", "word", "(Ljava/lang/String;)Z"⟩,
  ⟨"AuntsInTurn$Valley", "number", "()I"⟩,
  ⟨"AuntsInTurn$Valley", "either", "(I)Z"⟩,
  ⟨"AuntsInTurn$Valley", "both", "(I)Z"⟩,
  ⟨"AuntsInTurn$Valley", "put", "(I)Z"⟩,
  ⟨"AuntsInTurn$Valley", "single", "(I)Z"⟩,
  ⟨"AuntsInTurn$Valley", "oneOf", "(Ljava/lang/String;)I"⟩,
  ⟨"AuntsInTurn$Valley", "holds", "(II)Z"⟩,
  ⟨"AuntsInTurn$Valley", "passes", "(I)Z"⟩,
  ⟨"AuntsInTurn$World", "heaviest", "(I)I"⟩,
  ⟨"AuntsInTurn$Pious", "rings", "(LAuntsInTurn$Rows;I)I"⟩,
  ⟨"AuntsInTurnModel", "clauseHere", "()V"⟩,
  ⟨"AuntsInTurnModel", "here", "()I"⟩,
  ⟨"AuntsInTurnModel", "tellsHere", "(ILjava/lang/String;)V"⟩,
  ⟨"AuntsInTurnModel", "much", "(ILjava/lang/String;)V"⟩,
  ⟨"AuntsInTurnModel", "spells", "(Ljava/lang/String;)V"⟩,
  ⟨"AuntsInTurnModel", "figures", "()I"⟩,
  ⟨"AuntsInTurnModel", "must", "(I)V"⟩,
  ⟨"AuntsInTurnModel", "some", "()V"⟩,
  ⟨"AuntsInTurnModel", "emits", "(I)V"⟩,
  ⟨"AuntsInTurnModel", "every", "()V"⟩,
  ⟨"AuntsInTurnModel", "factor", "()V"⟩,
  ⟨"AuntsInTurnModel", "among", "(Ljava/lang/String;)I"⟩,
  ⟨"AuntsInTurnModel", "isAunt", "(I)Z"⟩,
  ⟨"AuntsInTurnModel", "leftOf", "(II)I"⟩,
  ⟨"AuntsInTurnModel", "mouthOf", "(II)I"⟩,
  ⟨"AuntsInTurnModel", "saysOf", "(II)I"⟩,
  ⟨"AuntsInTurnModel", "tellsOf", "(II)I"⟩,
  ⟨"AuntsInTurnModel", "chosen", "(III)I"⟩,
  ⟨"AuntsInTurnModel", "becomes", "(II)I"⟩,
  ⟨"AuntsInTurnModel", "beginsAnew", "(I)V"⟩,
  ⟨"AuntsInTurnModel", "isAsker", "(I)Z"⟩,
  ⟨"AuntsInTurnModel", "comes", "(I)I"⟩,
  ⟨"AuntsInTurnModel", "keeps", "()V"⟩,
  ⟨"AuntsInTurnModel", "goes", "()V"⟩,
  ⟨"AuntsInTurnModel", "goesBack", "()V"⟩,
  ⟨"AuntsInTurnModel", "isThrough", "(I)Z"⟩,
  ⟨"AuntsInTurnModel", "meets", "(I)V"⟩,
  ⟨"AuntsInTurnModel", "weightOf", "(I)I"⟩,
  ⟨"AuntsInTurnModel", "awayOnes", "()I"⟩,
  ⟨"AuntsInTurnModel", "manyThrough", "()I"⟩,
  ⟨"AuntsInTurnModel", "manyBack", "()I"⟩,
  ⟨"AuntsInTurnModel", "goesOn", "(I)V"⟩,
  ⟨"AuntsInTurnModel", "climbs", "(II)V"⟩,
  ⟨"AuntsInTurnModel", "comesTo", "(I)V"⟩,
  ⟨"AuntsInTurnModel", "ordersFrom", "(IIII)V"⟩,
  ⟨"AuntsInTurnModel", "keepsOrder", "(II)V"⟩,
  ⟨"AuntsInTurnModel", "sends", "(I)V"⟩,
  ⟨"AuntsInTurnModel", "knownBy", "(I)I"⟩,
  ⟨"AuntsInTurnModel", "fitting", "(IIII)I"⟩,
  ⟨"AuntsInTurnModel", "isAsSaid", "(I)Z"⟩,
  ⟨"AuntsInTurnModel", "goesBy", "(II)V"⟩,
  ⟨"AuntsInTurnModel", "ringsActs", "(I)I"⟩,
  ⟨"AuntsInTurnModel", "asksActs", "(I)I"⟩,
  ⟨"AuntsInTurnModel", "warnsActs", "(I)I"⟩,
  ⟨"AuntsInTurnModel", "ranBody", "(I)V"⟩,
  ⟨"AuntsInTurnModel", "plainRings", "(I)I"⟩,
  ⟨"AuntsInTurnModel", "plainAsks", "(I)I"⟩,
  ⟨"AuntsInTurnModel", "plainTelling", "(I)I"⟩,
  ⟨"AuntsInTurn", "feed", "(I)I"⟩,
  ⟨"AuntsInTurnModel", "feed", "(I)I"⟩,
  ⟨"AuntsInTurn", "valley", "()I"⟩,
  ⟨"AuntsInTurnModel", "valley", "()I"⟩,
  ⟨"AuntsInTurn", "aunt", "(III)I"⟩,
  ⟨"AuntsInTurnModel", "aunt", "(III)I"⟩,
  ⟨"AuntsInTurn", "of", "(II)I"⟩,
  ⟨"AuntsInTurnModel", "of", "(II)I"⟩,
  ⟨"AuntsInTurn", "says", "(III)I"⟩,
  ⟨"AuntsInTurnModel", "says", "(III)I"⟩,
  ⟨"AuntsInTurn", "row", "(III)I"⟩,
  ⟨"AuntsInTurnModel", "row", "(III)I"⟩,
  ⟨"AuntsInTurn", "learn", "(II)I"⟩,
  ⟨"AuntsInTurnModel", "learn", "(II)I"⟩,
  ⟨"AuntsInTurn", "away", "(IZ)I"⟩,
  ⟨"AuntsInTurnModel", "away", "(IZ)I"⟩,
  ⟨"AuntsInTurn", "weigh", "(II)I"⟩,
  ⟨"AuntsInTurnModel", "weigh", "(II)I"⟩,
  ⟨"AuntsInTurn", "asker", "()I"⟩,
  ⟨"AuntsInTurnModel", "asker", "()I"⟩,
  ⟨"AuntsInTurn", "at", "(II)I"⟩,
  ⟨"AuntsInTurnModel", "at", "(II)I"⟩,
  ⟨"AuntsInTurn", "begin", "(II)I"⟩,
  ⟨"AuntsInTurnModel", "begin", "(II)I"⟩,
  ⟨"AuntsInTurn", "told", "(I)I"⟩,
  ⟨"AuntsInTurnModel", "told", "(I)I"⟩,
  ⟨"AuntsInTurn", "pass", "(I)I"⟩,
  ⟨"AuntsInTurnModel", "pass", "(I)I"⟩,
  ⟨"AuntsInTurn", "on", "(II)I"⟩,
  ⟨"AuntsInTurnModel", "on", "(II)I"⟩,
  ⟨"AuntsInTurn", "climb", "(III)I"⟩,
  ⟨"AuntsInTurnModel", "climb", "(III)I"⟩,
  ⟨"AuntsInTurn", "order", "(II)I"⟩,
  ⟨"AuntsInTurnModel", "order", "(II)I"⟩,
  ⟨"AuntsInTurn", "hush", "(I)I"⟩,
  ⟨"AuntsInTurnModel", "hush", "(I)I"⟩,
  ⟨"AuntsInTurn", "whole", "(I)I"⟩,
  ⟨"AuntsInTurnModel", "whole", "(I)I"⟩,
  ⟨"AuntsInTurn", "say", "(II)I"⟩,
  ⟨"AuntsInTurnModel", "say", "(II)I"⟩,
  ⟨"AuntsInTurn", "knew", "(II)I"⟩,
  ⟨"AuntsInTurnModel", "knew", "(II)I"⟩,
  ⟨"AuntsInTurn", "firm", "(II)I"⟩,
  ⟨"AuntsInTurnModel", "firm", "(II)I"⟩,
  ⟨"AuntsInTurn", "who", "()I"⟩,
  ⟨"AuntsInTurnModel", "who", "()I"⟩,
  ⟨"AuntsInTurn", "odds", "(III)J"⟩,
  ⟨"AuntsInTurnModel", "odds", "(III)J"⟩,
  ⟨"AuntsInTurn", "mean", "(I)J"⟩,
  ⟨"AuntsInTurnModel", "mean", "(I)J"⟩,
  ⟨"AuntsInTurn", "plan", "(II)I"⟩,
  ⟨"AuntsInTurnModel", "plan", "(II)I"⟩,
  ⟨"AuntsInTurn", "done", "(I)I"⟩,
  ⟨"AuntsInTurnModel", "done", "(I)I"⟩,
  ⟨"AuntsInTurn", "book", "(II)I"⟩,
  ⟨"AuntsInTurnModel", "book", "(II)I"⟩,
  ⟨"AuntsInTurn", "looked", "()I"⟩,
  ⟨"AuntsInTurnModel", "looked", "()I"⟩,
  ⟨"AuntsInTurn", "act", "(III)I"⟩,
  ⟨"AuntsInTurnModel", "act", "(III)I"⟩,
  ⟨"AuntsInTurn", "trace", "(I)I"⟩,
  ⟨"AuntsInTurnModel", "trace", "(I)I"⟩,
  ⟨"AuntsInTurn", "as", "(II)I"⟩,
  ⟨"AuntsInTurnModel", "as", "(II)I"⟩,
  ⟨"AuntsInTurn", "image", "()I"⟩,
  ⟨"AuntsInTurnModel", "image", "()I"⟩,
  ⟨"AuntsInTurn", "undo", "()I"⟩,
  ⟨"AuntsInTurnModel", "undo", "()I"⟩,
  ⟨"AuntsInTurn", "count", "(I)I"⟩,
  ⟨"AuntsInTurnModel", "count", "(I)I"⟩,
  ⟨"java/util/ArrayList", "add", "(Ljava/lang/Object;[Ljava/lang/Object;I)V"⟩,
  ⟨"java/util/ArrayList", "grow", "()[Ljava/lang/Object;"⟩,
  ⟨"java/util/ArrayList", "grow", "(I)[Ljava/lang/Object;"⟩,
  ⟨"java/util/ArrayList", "elementData", "(I)Ljava/lang/Object;"⟩]
def xsT : List (List Nat) := [[1229], [1237], [2020], [2173], [3122], [3127], [3139, 3141, 3144, 3147, 3150, 3153, 3156], [3162], [3170, 3172, 3173, 3174, 3175, 3176, 3177], [3181], [3190], [3211], [4017], [4029], [4050], [14], [4058], [4123], [4147], [4155], [4159], [4178], [4187], [4215], [4227], [4195], [4231], [5002], [5006], [5010], [4067, 4069, 4074, 4079, 4084, 4089, 4094], [5019], [4117], [5024], [5028], [5075, 5077, 5084, 5089, 5090, 5091, 5092], [5097, 5099, 5104, 5105, 5106, 5107, 5108], [5119, 5121, 5122, 5123, 5124, 5135, 5140], [5168], [3185], [3218, 3220, 3228, 3235, 3236, 4000, 4003], [4062], [4106], [4113], [15], [4134], [4138], [16], [0], [1], [2], [3], [4], [5], [7], [6], [8], [12], [13], [3233], [5134], [17], [18], [19], [23], [20], [22], [21], [24], [27], [25], [26], [28], [29], [30], [31], [33], [32], [34], [35], [36], [37], [38], [39], [40], [44], [41], [42], [43], [45], [46], [47], [48], [49], [50], [51], [52], [53], [54], [55], [56], [57], [58], [61], [63], [59], [60], [62], [64], [1225], [6011], [1233], [6018], [2227], [6077], [3118], [6084], [3166], [6092], [4013], [6119], [4021], [6127], [4025], [6131], [4033], [6135], [4040], [6139], [4046], [6147], [4143], [6183], [4151], [6187], [4163], [6203], [4170], [6211], [4174], [6215], [4183], [6227], [4211], [6239], [4223], [7007], [4238], [7015], [5014], [7019], [5032], [7031], [5036], [7035], [5040], [7039], [5048], [7047], [5052], [7051], [5056], [7055], [5063], [7063], [5067], [7067], [5071], [7071], [5145], [7106], [5149], [7110], [5156], [7114], [5160], [7118], [5164], [7122], [9], [10], [11], [3135]]
def xmT : List (Nat × Nat) := [(0, 0), (0, 0), (0, 0), (0, 0), (0, 0), (0, 0), (3140, 99), (0, 0), (0, 0), (0, 0), (0, 0), (0, 0), (0, 0), (0, 0), (0, 0), (0, 0), (0, 0), (0, 0), (0, 0), (0, 0), (0, 0), (0, 0), (0, 0), (0, 0), (0, 0), (0, 0), (0, 0), (0, 0), (0, 0), (0, 0), (4068, 102), (0, 0), (0, 0), (0, 0), (0, 0), (5076, 103), (5098, 104), (5120, 105), (0, 0), (0, 0), (3219, 101), (0, 0), (0, 0), (0, 0), (0, 0), (0, 0), (0, 0), (0, 0), (0, 0), (0, 0), (0, 0), (0, 0), (0, 0), (0, 0), (0, 0), (0, 0), (0, 0), (0, 0), (0, 0), (0, 0), (5132, 110), (0, 0), (0, 0), (0, 0), (0, 0), (0, 0), (0, 0), (0, 0), (0, 0), (0, 0), (0, 0), (0, 0), (0, 0), (0, 0), (0, 0), (0, 0), (0, 0), (0, 0), (0, 0), (0, 0), (0, 0), (0, 0), (0, 0), (0, 0), (0, 0), (0, 0), (0, 0), (0, 0), (0, 0), (0, 0), (0, 0), (0, 0), (0, 0), (0, 0), (0, 0), (0, 0), (0, 0), (0, 0), (0, 0), (0, 0), (0, 0), (0, 0), (0, 0), (0, 0), (0, 0), (0, 0), (0, 0), (0, 0), (0, 0), (0, 0), (0, 0), (0, 0), (0, 0), (0, 0), (0, 0), (0, 0), (0, 0), (0, 0), (0, 0), (0, 0), (0, 0), (0, 0), (0, 0), (0, 0), (0, 0), (0, 0), (0, 0), (0, 0), (0, 0), (0, 0), (0, 0), (0, 0), (0, 0), (0, 0), (0, 0), (0, 0), (0, 0), (0, 0), (0, 0), (0, 0), (0, 0), (0, 0), (0, 0), (0, 0), (0, 0), (0, 0), (0, 0), (0, 0), (0, 0), (0, 0), (0, 0), (0, 0), (0, 0), (0, 0), (0, 0), (0, 0), (0, 0), (0, 0), (0, 0), (0, 0), (0, 0), (0, 0), (0, 0), (0, 0), (0, 0), (0, 0), (0, 0), (0, 0), (0, 0), (0, 0), (0, 0), (0, 0), (0, 0), (0, 0), (0, 0), (0, 0), (0, 0), (0, 0), (0, 0), (0, 0), (0, 0), (0, 0), (0, 0)]
def xn (x : Nat) : MethodName := xns.getD x ⟨"", "", ""⟩
def ckS (x n t y i : Nat) : Bool := decide (t < 14) && decide (y < mN) && decide (y ≠ lawY) && !isSt y && decide (nas y = n) && tb i (.selects (cN t) (xn x) (mn y)) &&
  (decide (xn x = mn y) || (match xmT.getD x (0, 0) with
    | (j, z) => tb j (.sameMethod (xn x).cls (mn z).cls (xn x).name (xn x).desc) && decide ((⟨(mn z).cls, (xn x).name, (xn x).desc⟩ : MethodName) = mn z) && decide (z < mN) && decide (z ≠ lawY) && !isSt z))
def ckX (x n : Nat) : Bool := prm (xn x).desc n && (((vselT[x]?).getD []).zip (xsT.getD x [])).all (fun q => ckS x n q.1.1 q.1.2 q.2) && decide (((vselT[x]?).getD []).length ≤ (xsT.getD x []).length)
def rInt (v : Int) : Bool := decide (-2147483648 ≤ v) && decide (v < 2147483648)
def rLong (v : Int) : Bool := decide (-9223372036854775808 ≤ v) && decide (v < 9223372036854775808)
def ckF (own' : String) (ini : Bool) (put : Bool) (y ix k w ty : Nat) (h : List Nat) : Bool := match tbW (h.getD 0 0) with
  | some (.fieldLink o2 i2 ref name desc) => decide (o2 = own y) && decide (i2 = ix) && tb (h.getD 0 0) (.fieldLink o2 i2 ref name desc) &&
    (List.range 14).all (fun t => !okSet w t || (decide (k < cL t) && decide ((cT t k).2.1 = name) && decide ((cT t k).2.2.1 = desc) && (decide ((cT t k).1 = ref) || tb (h.getD 1 0) (.sameField ref (cT t k).1 name desc)) && (!put || ((decide ((cT t k).2.2.2 = false) || (ini && decide ((cT t k).1 = own')))
      && ((decide (ty = 0) && decide (desc = "I")) || (decide (ty = 1) && decide (desc = "Z")) || (decide (ty = 2) && (match parseFieldDescriptor desc with
        | some ft => ft.isReference
        | none => false)))))))
  | _ => false
def ckI (y pc : Nat) (ins : Instr) (v : Int) (o h : List Nat) : Bool := match ins with
  | .ifCond _ f => decide (0 ≤ (pc : Int) + f)
  | .if_icmp _ f => decide (0 ≤ (pc : Int) + f)
  | .ifnull f => decide (0 ≤ (pc : Int) + f)
  | .ifnonnull f => decide (0 ≤ (pc : Int) + f)
  | .if_acmp _ f => decide (0 ≤ (pc : Int) + f)
  | .goto f => decide (0 ≤ (pc : Int) + f)
  | .tableswitch d lo hi fs => decide (0 ≤ (pc : Int) + d) && decide (hi - lo + 1 = fs.size) && fs.toList.all (fun x => decide (0 ≤ (pc : Int) + x))
  | .lookupswitch d ps => (ps.toList.zip (ps.toList.drop 1)).all (fun (a, next) => a.1 < next.1) && decide (0 ≤ (pc : Int) + d) && ps.toList.all (fun q => decide (0 ≤ (pc : Int) + q.2))
  | .ldc ix => match o with
    | [] => rInt v && tb (h.getD 0 0) (.constant (own y) ix (Int32.ofInt v))
    | k :: _ => strT.any (fun q => decide (q.1 = own y) && decide (q.2.1 = ix) && decide (q.2.2.2 = k))
  | .ldc_w ix => rInt v && tb (h.getD 0 0) (.constant (own y) ix (Int32.ofInt v))
  | .ldc2_w ix => rLong v && tb (h.getD 0 0) (.constantLong (own y) ix (Int64.ofInt v))
  | .getfield ix => match o with
    | [k] => (match tbW (h.getD 0 0) with
      | some (.fieldLink o2 i2 ref name desc) => decide (o2 = own y) && decide (i2 = ix) && tb (h.getD 0 0) (.fieldLink o2 i2 ref name desc) && decide (ref = "java/lang/String") && ((decide (k = 0) && decide (name = "value") && decide (desc = "[B")) || (decide (k = 1) && decide (name = "coder") && decide (desc = "B")))
      | _ => false)
    | _ => ckF (own y) false false y ix (nOp o 0) (nOp o 1) 0 h
  | .putfield ix => ckF (own y) (decide ((mn y).name = "<init>")) true y ix (nOp o 0) (nOp o 1) (nOp o 2) h
  | .getstatic ix => match o with
    | [] => decide (v = 1) && tb (h.getD 0 0) (.fieldLink (own y) ix "java/lang/String" "COMPACT_STRINGS" "Z")
    | [k] => decide (k = GE) && tb (h.getD 0 0) (.fieldLink (own y) ix "java/util/ArrayList" "DEFAULTCAPACITY_EMPTY_ELEMENTDATA" "[Ljava/lang/Object;")
    | _ => tb (h.getD 0 0) (.fieldLink (own y) ix "jdk/internal/util/Preconditions" "SIOOBE_FORMATTER" "Ljava/util/function/BiFunction;")
  | .new ix => decide (nOp o 0 < 14) && tb (h.getD 0 0) (.classLink (own y) ix (cN (nOp o 0)))
  | .newarray .int => tb (h.getD 0 0) (.arrayClass .int)
  | .newarray .boolean => tb (h.getD 0 0) (.arrayClass .boolean)
  | .anewarray ix => tb (h.getD 0 0) (.classLink (own y) ix "java/lang/Object")
  | .checkcast ix => match o with
    | [] => tb (h.getD 0 0) (.classLink (own y) ix "[I")
    | w :: _ => match tbW (h.getD 0 0) with
      | some (.classLink o2 i2 nm) => decide (o2 = own y) && decide (i2 = ix) && tb (h.getD 0 0) (.classLink o2 i2 nm) && (List.range 14).all (fun t => !okSet w t || decide (cN t = nm) || decide ((cN t, nm) ∈ caT))
      | _ => false
  | .instanceof ix => match tbW (h.getD 0 0) with
    | some (.classLink o2 i2 nm) => decide (o2 = own y) && decide (i2 = ix) && tb (h.getD 0 0) (.classLink o2 i2 nm) && (List.range 14).all (fun t => !auntT t || (if okSet (nOp o 0) t then (decide (cN t = nm) || decide ((cN t, nm) ∈ caT)) else decide ((cN t, nm) ∈ ncT)))
    | _ => false
  | .invokevirtual ix => match o with
    | [] => tb (h.getD 0 0) (.methodLink (own y) ix ⟨"[I", "clone", "()Ljava/lang/Object;"⟩) && tb (h.getD 1 0) (.sameMethod "[I" "java/lang/Object" "clone" "()Ljava/lang/Object;") && tb (h.getD 2 0) (.native ⟨"java/lang/Object", "clone", "()Ljava/lang/Object;"⟩) && tb (h.getD 3 0) (.instanceMethod ⟨"java/lang/Object", "clone", "()Ljava/lang/Object;"⟩) && tb (h.getD 4 0) (.selects "[I" ⟨"[I", "clone", "()Ljava/lang/Object;"⟩ ⟨"java/lang/Object", "clone", "()Ljava/lang/Object;"⟩)
    | x :: l => (match l with
      | [n] => tb (h.getD 0 0) (.methodLink (own y) ix (xn x)) && ckX x n
      | _ => decide (x < mN) && decide (x ≠ lawY) && !isSt x && decide (nOp l 0 = nas x) && tb (h.getD 0 0) (.methodLink (own y) ix (mn x)) && tb (h.getD 1 0) (.selects "java/lang/String" (mn x) (mn x)))
  | .invokestatic ix => match o with
    | [] => tb (h.getD 0 0) (.methodLink (own y) ix arraycopyName) && tb (h.getD 1 0) (.native arraycopyName) && tb (h.getD 2 0) (.static arraycopyName) && tb (h.getD 3 0) (.initialized "java/lang/System")
    | z :: l => decide (z < mN) && decide (z ≠ lawY) && isSt z && decide (nOp l 0 = nas z) && (tb (h.getD 0 0) (.methodLink (own y) ix (mn z)) || neT.any (fun q => decide (q.1 = own y) && decide (q.2.1 = ix) && decide (q.2.2.1 = mn z)))
  | .invokespecial ix => match o with
    | [] => tb (h.getD 0 0) (.methodLink (own y) ix Lib.objectInit) && tb (h.getD 1 0) (.instanceMethod Lib.objectInit) && tb (h.getD 2 0) (.code Lib.objectInit ⟨#[0xb1]⟩ 1 none)
    | z :: l => decide (z < mN) && decide (z ≠ lawY) && !isSt z && decide (nOp l 0 = nas z) && (if (mn z).name = "<init>" then decide (mr z = none) && (tb (h.getD 0 0) (.methodLink (own y) ix (mn z)) || neT.any (fun q => decide (q.1 = own y) && decide (q.2.1 = ix) && decide (q.2.2.1 = mn z)))
      else match tbW (h.getD 0 0) with
        | some (.methodLink o2 i2 x) => decide (o2 = own y) && decide (i2 = ix) && tb (h.getD 0 0) (.methodLink o2 i2 x) && tb (h.getD 1 0) (.sameMethod x.cls (mn z).cls x.name x.desc) && decide (x.name = (mn z).name) && decide (x.desc = (mn z).desc) && tb (h.getD 2 0) (.superclass (own y) x.cls) && (decide (x.cls = (mn z).cls) || tb (h.getD 3 0) (.superclass x.cls (mn z).cls))
        | _ => false)
  | .ireturn => (decide (nOp o 0 = 0) && decide (mr y = some .int)) || (decide (nOp o 0 = 1) && decide (mr y = some .boolean)) || (decide (nOp o 0 = 2) && decide (mr y = some .char)) || (decide (nOp o 0 = 3) && decide (mr y = some .byte))
  | .lreturn => decide (mr y = some .long)
  | .areturn => match mr y with
    | some (.object _) => true
    | some (.array _) => true
    | _ => false
  | .return_ => decide (mr y = none)
  | _ => true
def lenI (pc nx : Nat) (ins : Instr) : Nat := match ins with
  | .bipush _ | .ldc _ | .iload _ | .lload _ | .aload _ | .istore _ | .lstore _ | .astore _ | .newarray _ => 2
  | .sipush _ | .ldc_w _ | .ldc2_w _ | .iinc _ _ | .ifCond _ _ | .if_icmp _ _ | .ifnull _ | .ifnonnull _ | .if_acmp _ _ | .goto _ | .getfield _ | .putfield _ | .getstatic _ | .new _ | .anewarray _ | .checkcast _ | .instanceof _ | .invokevirtual _ | .invokestatic _ | .invokespecial _ => 3
  | .tableswitch _ _ _ _ | .lookupswitch _ _ => nx - pc
  | _ => 1
def ckE (y : Nat) (q : Nat × Nat × Instr × Int × List Nat) : Bool := match q with
  | (pc, nx, ins, v, o) => decide (decode (mc y) pc = .ok (ins, lenI pc nx ins)) && decide (nx = pc + lenI pc nx ins) && ckI y pc ins v o (hn y pc)
def ckY (y : Nat) : Bool := ((codes[y]?).getD []).all (ckE y)
