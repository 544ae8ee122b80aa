/-! classes: name, fields -/
def mFs : List (String × List (String × String × String × Bool)) := [
  ("java/util/ArrayList", [("java/util/AbstractList", "modCount", "I", false), ("java/util/ArrayList", "elementData", "[Ljava/lang/Object;", false), ("java/util/ArrayList", "size", "I", false)]),
  ("AuntsInTurn$Asker", [("AuntsInTurn$Asker", "heard", "I", false), ("AuntsInTurn$Asker", "shock", "I", false), ("AuntsInTurn$Asker", "place", "I", false), ("AuntsInTurn$Asker", "back", "Z", false)]),
  ("AuntsInTurn$Aunt", [("AuntsInTurn$Aunt", "number", "I", true), ("AuntsInTurn$Aunt", "v", "I", false), ("AuntsInTurn$Aunt", "knows", "I", false)]),
  ("AuntsInTurn$Baker", [("AuntsInTurn$Aunt", "number", "I", true), ("AuntsInTurn$Aunt", "v", "I", false), ("AuntsInTurn$Aunt", "knows", "I", false)]),
  ("AuntsInTurn$Blunt", [("AuntsInTurn$Aunt", "number", "I", true), ("AuntsInTurn$Aunt", "v", "I", false), ("AuntsInTurn$Aunt", "knows", "I", false)]),
  ("AuntsInTurn$Meek", [("AuntsInTurn$Aunt", "number", "I", true), ("AuntsInTurn$Aunt", "v", "I", false), ("AuntsInTurn$Aunt", "knows", "I", false)]),
  ("AuntsInTurn$Pious", [("AuntsInTurn$Aunt", "number", "I", true), ("AuntsInTurn$Aunt", "v", "I", false), ("AuntsInTurn$Aunt", "knows", "I", false)]),
  ("AuntsInTurn$Rows", [("AuntsInTurn$Rows", "first", "[I", true), ("AuntsInTurn$Rows", "second", "[I", true), ("AuntsInTurn$Rows", "came", "I", false)]),
  ("AuntsInTurn$Sly", [("AuntsInTurn$Aunt", "number", "I", true), ("AuntsInTurn$Aunt", "v", "I", false), ("AuntsInTurn$Aunt", "knows", "I", false)]),
  ("AuntsInTurn$Told", [("AuntsInTurn$Aunt", "number", "I", true), ("AuntsInTurn$Aunt", "v", "I", false), ("AuntsInTurn$Aunt", "knows", "I", false), ("AuntsInTurn$Told", "row", "[I", true)]),
  ("AuntsInTurn$Valley", [("AuntsInTurn$Valley", "text", "[I", true), ("AuntsInTurn$Valley", "place", "I", false), ("AuntsInTurn$Valley", "code", "[I", true), ("AuntsInTurn$Valley", "codes", "I", false), ("AuntsInTurn$Valley", "share", "[I", true), ("AuntsInTurn$Valley", "codeEnd", "[I", true), ("AuntsInTurn$Valley", "shares", "I", false), ("AuntsInTurn$Valley", "subjects", "[I", true), ("AuntsInTurn$Valley", "nerve", "I", false)]),
  ("AuntsInTurn$World", [("AuntsInTurn$World", "aunts", "Ljava/util/ArrayList;", true), ("AuntsInTurn$World", "askers", "Ljava/util/ArrayList;", true), ("AuntsInTurn$World", "valleys", "Ljava/util/ArrayList;", true), ("AuntsInTurn$World", "weights", "[I", true), ("AuntsInTurn$World", "tape", "[I", true), ("AuntsInTurn$World", "signs", "I", false), ("AuntsInTurn$World", "said", "LAuntsInTurn$Rows;", true), ("AuntsInTurn$World", "plan", "LAuntsInTurn$Rows;", true), ("AuntsInTurn$World", "book", "LAuntsInTurn$Rows;", true), ("AuntsInTurn$World", "day", "I", false), ("AuntsInTurn$World", "away", "I", false), ("AuntsInTurn$World", "noValley", "LAuntsInTurn$Valley;", true), ("AuntsInTurn$World", "climber", "LAuntsInTurn$Asker;", true)]),
  ("AuntsInTurn", [("AuntsInTurn", "now", "LAuntsInTurn$World;", true), ("AuntsInTurn", "image", "LAuntsInTurn$World;", true), ("AuntsInTurn", "trial", "LAuntsInTurn$World;", true), ("AuntsInTurn", "ran", "LAuntsInTurn$Rows;", true), ("AuntsInTurn", "imaged", "Z", false)]),
  ("AuntsInTurnModel", [("AuntsInTurnModel", "thrown", "I", false), ("AuntsInTurnModel", "s", "[I", true), ("AuntsInTurnModel", "image", "[I", true), ("AuntsInTurnModel", "frame", "[I", true), ("AuntsInTurnModel", "hasImage", "Z", false), ("AuntsInTurnModel", "act", "I", false), ("AuntsInTurnModel", "spot", "I", false), ("AuntsInTurnModel", "end", "I", false), ("AuntsInTurnModel", "isWrong", "Z", false), ("AuntsInTurnModel", "open", "I", false), ("AuntsInTurnModel", "by", "[I", true), ("AuntsInTurnModel", "truths", "[Z", true), ("AuntsInTurnModel", "climbHeard", "I", false), ("AuntsInTurnModel", "climbShock", "I", false), ("AuntsInTurnModel", "climbBack", "I", false), ("AuntsInTurnModel", "order", "[I", true), ("AuntsInTurnModel", "bestOrder", "[I", true), ("AuntsInTurnModel", "bestFacts", "I", false), ("AuntsInTurnModel", "bestShock", "I", false), ("AuntsInTurnModel", "bodies", "[I", true), ("AuntsInTurnModel", "ran", "I", false), ("AuntsInTurnModel", "kind", "I", false), ("AuntsInTurnModel", "number", "I", false), ("AuntsInTurnModel", "tellsV", "I", false)])]
def tbF (l : List (String × String × String × Bool)) : u_T := fun k => l.getD k ("", "", "", false)
def mCl : List vw_C := mFs.map (fun q => (q.1, tbF q.2, q.2.length))
def cN (t : Nat) : String := (mFs.getD t ("", [])).1
def cT (t : Nat) : u_T := tbF (mFs.getD t ("", [])).2
def cL (t : Nat) : Nat := (mFs.getD t ("", [])).2.length
def tyOf (t k : Nat) : FieldType := (parseFieldDescriptor (cT t k).2.2.1).getD .int
theorem mFs_len : mFs.length = 14 := by decide +kernel
theorem mCl_get {t : Nat} (h : t < 14) : mCl[t]? = some (cN t, cT t, cL t) := by
  have h2 : t < mFs.length := by rw [mFs_len]; exact h
  unfold mCl cN cT cL
  rw [List.getElem?_map, List.getElem?_eq_getElem h2, List.getD_eq_getElem?_getD, List.getElem?_eq_getElem h2]
  rfl
def ckLay (t : Nat) : Bool := (u_ws (cN t) (cT t) (cL t)).all (fun w => decide (w ∈ mT))
theorem g_lay0 : (List.range 14).all ckLay = true := by decide +kernel
theorem g_lay {t : Nat} (ht : t < 14) : ∀ w ∈ u_ws (cN t) (cT t) (cL t), w ∈ mT := fun w hw => of_decide_eq_true (List.all_eq_true.mp (List.all_eq_true.mp g_lay0 t (List.mem_range.mpr ht)) w hw)
def ckTy (t : Nat) : Bool := (List.range (cL t)).all (fun k => (parseFieldDescriptor (cT t k).2.2.1).isSome)
theorem g_ty0 : (List.range 14).all ckTy = true := by decide +kernel
theorem g_ty {t : Nat} (ht : t < 14) : ∀ k, k < cL t → parseFieldDescriptor (cT t k).2.2.1 = some (tyOf t k) := fun k hk => by
  have h := List.all_eq_true.mp (List.all_eq_true.mp g_ty0 t (List.mem_range.mpr ht)) k (List.mem_range.mpr hk)
  unfold tyOf
  cases hp : parseFieldDescriptor (cT t k).2.2.1 with
  | none => rw [hp] at h; cases h
  | some x => rfl
def ckNm (t : Nat) : Bool := (List.range (cL t)).all (fun a => (List.range (cL t)).all (fun b => decide (a = b) || decide ((cT t a).2.1 ≠ (cT t b).2.1)))
theorem g_nm0 : (List.range 14).all ckNm = true := by decide +kernel
theorem g_nm {t : Nat} (ht : t < 14) : ∀ a, a < cL t → ∀ b, b < cL t → a ≠ b → (cT t a).2.1 ≠ (cT t b).2.1 := fun a ha b hb hab => by
  have h := List.all_eq_true.mp (List.all_eq_true.mp (List.all_eq_true.mp g_nm0 t (List.mem_range.mpr ht)) a (List.mem_range.mpr ha)) b (List.mem_range.mpr hb)
  rcases (Bool.or_eq_true _ _).mp h with h | h
  · exact absurd (of_decide_eq_true h) hab
  · exact of_decide_eq_true h

/-- the texts: class, index, text, which constant -/
def strT : List (String × Nat × String × Nat) := [("AuntsInTurn$Valley", 48, "nerve ", 0), ("AuntsInTurn$Valley", 50, "bold ", 1), ("AuntsInTurn$Valley", 52, "shy ", 2), ("AuntsInTurn$Valley", 61, " ", 3), ("AuntsInTurn$Valley", 76, ")", 4), ("AuntsInTurn$Valley", 78, "pkvhld", 5), ("AuntsInTurn$Valley", 84, "<=>", 6), ("AuntsInTurnModel", 87, "pkvhld", 7), ("AuntsInTurnModel", 93, "<=>", 8), ("AuntsInTurnModel", 105, "nerve ", 9), ("AuntsInTurnModel", 111, "bold ", 10), ("AuntsInTurnModel", 116, "shy ", 11)]
/-- pairs of classes of which the first is not the second -/
def ncT : List (String × String) := [("AuntsInTurn$Aunt", "AuntsInTurn$Blunt"), ("AuntsInTurn$Baker", "AuntsInTurn$Blunt"), ("AuntsInTurn$Meek", "AuntsInTurn$Blunt"), ("AuntsInTurn$Sly", "AuntsInTurn$Blunt"), ("AuntsInTurn$Told", "AuntsInTurn$Blunt"), ("AuntsInTurn$Aunt", "AuntsInTurn$Meek"), ("AuntsInTurn$Blunt", "AuntsInTurn$Meek"), ("AuntsInTurn$Pious", "AuntsInTurn$Meek"), ("AuntsInTurn$Sly", "AuntsInTurn$Meek"), ("AuntsInTurn$Told", "AuntsInTurn$Meek"), ("AuntsInTurn$Aunt", "AuntsInTurn$Sly"), ("AuntsInTurn$Baker", "AuntsInTurn$Sly"), ("AuntsInTurn$Blunt", "AuntsInTurn$Sly"), ("AuntsInTurn$Meek", "AuntsInTurn$Sly"), ("AuntsInTurn$Pious", "AuntsInTurn$Sly"), ("AuntsInTurn$Aunt", "AuntsInTurn$Pious"), ("AuntsInTurn$Baker", "AuntsInTurn$Pious"), ("AuntsInTurn$Blunt", "AuntsInTurn$Pious"), ("AuntsInTurn$Meek", "AuntsInTurn$Pious"), ("AuntsInTurn$Sly", "AuntsInTurn$Pious"), ("AuntsInTurn$Told", "AuntsInTurn$Pious"), ("AuntsInTurn$Aunt", "AuntsInTurn$Baker"), ("AuntsInTurn$Blunt", "AuntsInTurn$Baker"), ("AuntsInTurn$Meek", "AuntsInTurn$Baker"), ("AuntsInTurn$Pious", "AuntsInTurn$Baker"), ("AuntsInTurn$Sly", "AuntsInTurn$Baker"), ("AuntsInTurn$Told", "AuntsInTurn$Baker"), ("AuntsInTurn$Aunt", "AuntsInTurn$Told"), ("AuntsInTurn$Baker", "AuntsInTurn$Told"), ("AuntsInTurn$Blunt", "AuntsInTurn$Told"), ("AuntsInTurn$Meek", "AuntsInTurn$Told"), ("AuntsInTurn$Pious", "AuntsInTurn$Told"), ("AuntsInTurn$Sly", "AuntsInTurn$Told")]
/-- pairs of classes of which the first is the second -/
def caT : List (String × String) := [("[I", "java/lang/Cloneable"), ("AuntsInTurn$Baker", "AuntsInTurn$Aunt"), ("AuntsInTurn$Blunt", "AuntsInTurn$Aunt"), ("AuntsInTurn$Meek", "AuntsInTurn$Aunt"), ("AuntsInTurn$Pious", "AuntsInTurn$Aunt"), ("AuntsInTurn$Sly", "AuntsInTurn$Aunt"), ("AuntsInTurn$Told", "AuntsInTurn$Aunt"), ("AuntsInTurn$Pious", "AuntsInTurn$Blunt"), ("AuntsInTurn$Baker", "AuntsInTurn$Meek"), ("AuntsInTurn$Told", "AuntsInTurn$Sly"), ("AuntsInTurn", "java/lang/Object"), ("AuntsInTurn$World", "java/lang/Object"), ("java/util/ArrayList", "java/lang/Object"), ("AuntsInTurn$Rows", "java/lang/Object"), ("AuntsInTurn$Valley", "java/lang/Object"), ("AuntsInTurn$Asker", "java/lang/Object"), ("AuntsInTurnModel", "java/lang/Object"), ("AuntsInTurn$Blunt", "java/lang/Object"), ("AuntsInTurn$Meek", "java/lang/Object"), ("AuntsInTurn$Sly", "java/lang/Object"), ("AuntsInTurn$Pious", "java/lang/Object"), ("AuntsInTurn$Baker", "java/lang/Object"), ("AuntsInTurn$Told", "java/lang/Object"), ("AuntsInTurn$Aunt", "java/lang/Object"), ("java/lang/String", "java/lang/Object"), ("[I", "java/lang/Object"), ("[Ljava/lang/Object;", "java/lang/Object"), ("[B", "java/lang/Object"), ("[Z", "java/lang/Object")]
/-- links to private members of a host's classes -/
def neT : List (String × Nat × MethodName × String) := [("AuntsInTurn$World", 67, ⟨"AuntsInTurn$Asker", "<init>", "()V"⟩, "AuntsInTurn"), ("AuntsInTurn$Valley", 92, ⟨"AuntsInTurn", "isDigit", "(I)Z"⟩, "AuntsInTurn"), ("AuntsInTurn", 151, ⟨"AuntsInTurn$Asker", "<init>", "()V"⟩, "AuntsInTurn")]
def GE : Nat := 12
/-! the methods: names, codes, what they answer -/
def mns : List MethodName := [
  ⟨"AuntsInTurn", "<init>", "()V"⟩,
  ⟨"AuntsInTurn", "feed", "(I)I"⟩,
  ⟨"AuntsInTurn", "valley", "()I"⟩,
  ⟨"AuntsInTurn", "isDigit", "(I)Z"⟩,
  ⟨"AuntsInTurn", "aunt", "(III)I"⟩,
  ⟨"AuntsInTurn", "areFacts", "(I)Z"⟩,
  ⟨"AuntsInTurn", "auntOf", "(IIII)LAuntsInTurn$Aunt;"⟩,
  ⟨"AuntsInTurn", "of", "(II)I"⟩,
  ⟨"AuntsInTurn", "says", "(III)I"⟩,
  ⟨"AuntsInTurn", "row", "(III)I"⟩,
  ⟨"AuntsInTurn", "learn", "(II)I"⟩,
  ⟨"AuntsInTurn", "away", "(IZ)I"⟩,
  ⟨"AuntsInTurn", "weigh", "(II)I"⟩,
  ⟨"AuntsInTurn", "isFact", "(I)Z"⟩,
  ⟨"AuntsInTurn", "asker", "()I"⟩,
  ⟨"AuntsInTurn", "at", "(II)I"⟩,
  ⟨"AuntsInTurn", "comes", "(I)I"⟩,
  ⟨"AuntsInTurn", "begin", "(II)I"⟩,
  ⟨"AuntsInTurn", "told", "(I)I"⟩,
  ⟨"AuntsInTurn", "pass", "(I)I"⟩,
  ⟨"AuntsInTurn", "areDays", "(I)Z"⟩,
  ⟨"AuntsInTurn", "on", "(II)I"⟩,
  ⟨"AuntsInTurn", "climb", "(III)I"⟩,
  ⟨"AuntsInTurn", "order", "(II)I"⟩,
  ⟨"AuntsInTurn", "hush", "(I)I"⟩,
  ⟨"AuntsInTurn", "whole", "(I)I"⟩,
  ⟨"AuntsInTurn", "say", "(II)I"⟩,
  ⟨"AuntsInTurn", "knew", "(II)I"⟩,
  ⟨"AuntsInTurn", "firm", "(II)I"⟩,
  ⟨"AuntsInTurn", "who", "()I"⟩,
  ⟨"AuntsInTurn", "odds", "(III)J"⟩,
  ⟨"AuntsInTurn", "lowest", "(III)J"⟩,
  ⟨"AuntsInTurn", "mean", "(I)J"⟩,
  ⟨"AuntsInTurn", "plan", "(II)I"⟩,
  ⟨"AuntsInTurn", "done", "(I)I"⟩,
  ⟨"AuntsInTurn", "book", "(II)I"⟩,
  ⟨"AuntsInTurn", "looked", "()I"⟩,
  ⟨"AuntsInTurn", "act", "(III)I"⟩,
  ⟨"AuntsInTurn", "trace", "(I)I"⟩,
  ⟨"AuntsInTurn", "as", "(II)I"⟩,
  ⟨"AuntsInTurn", "isOfKind", "(LAuntsInTurn$Aunt;I)Z"⟩,
  ⟨"AuntsInTurn", "image", "()I"⟩,
  ⟨"AuntsInTurn", "undo", "()I"⟩,
  ⟨"AuntsInTurn", "count", "(I)I"⟩,
  ⟨"AuntsInTurn$World", "<init>", "()V"⟩,
  ⟨"AuntsInTurn$World", "writes", "(I)I"⟩,
  ⟨"AuntsInTurn$World", "hasAunt", "(I)Z"⟩,
  ⟨"AuntsInTurn$World", "isAway", "(I)Z"⟩,
  ⟨"AuntsInTurn$World", "holding", "()LAuntsInTurn$Valley;"⟩,
  ⟨"AuntsInTurn$World", "speech", "(LAuntsInTurn$Aunt;I)I"⟩,
  ⟨"AuntsInTurn$World", "heaviest", "(I)I"⟩,
  ⟨"AuntsInTurn$World", "setAway", "(IZ)V"⟩,
  ⟨"AuntsInTurn$World", "hasAsker", "(I)Z"⟩,
  ⟨"AuntsInTurn$World", "take", "(LAuntsInTurn$World;)V"⟩,
  ⟨"AuntsInTurn$World", "daysGo", "(I)V"⟩,
  ⟨"AuntsInTurn$World", "visit", "(LAuntsInTurn$Asker;)V"⟩,
  ⟨"AuntsInTurn$World", "weightOf", "(I)I"⟩,
  ⟨"AuntsInTurn$World", "howManyThrough", "()I"⟩,
  ⟨"AuntsInTurn$World", "howManyBack", "()I"⟩,
  ⟨"AuntsInTurn$World", "climbs", "(ZII)LAuntsInTurn$Asker;"⟩,
  ⟨"AuntsInTurn$World", "bestOrder", "(I)I"⟩,
  ⟨"AuntsInTurn$World", "bestFrom", "(IIII)I"⟩,
  ⟨"AuntsInTurn$World", "allAunts", "()I"⟩,
  ⟨"AuntsInTurn$World", "auntInOrder", "(II)I"⟩,
  ⟨"AuntsInTurn$World", "factsByOrder", "(I)I"⟩,
  ⟨"AuntsInTurn$World", "shockByOrder", "(I)I"⟩,
  ⟨"AuntsInTurn$World", "fewestToHush", "(I)I"⟩,
  ⟨"AuntsInTurn$World", "isFewer", "(II)Z"⟩,
  ⟨"AuntsInTurn$World", "fewestWhoKnowAll", "()I"⟩,
  ⟨"AuntsInTurn$World", "knownTogether", "(I)I"⟩,
  ⟨"AuntsInTurn$World", "fitsSaid", "(LAuntsInTurn$Aunt;)Z"⟩,
  ⟨"AuntsInTurn$Valley", "<init>", "([I)V"⟩,
  ⟨"AuntsInTurn$Valley", "fault", "()I"⟩,
  ⟨"AuntsInTurn$Valley", "clause", "()Z"⟩,
  ⟨"AuntsInTurn$Valley", "here", "()I"⟩,
  ⟨"AuntsInTurn$Valley", "word", "(Ljava/lang/String;)Z"⟩,
  ⟨"AuntsInTurn$Valley", "number", "()I"⟩,
  ⟨"AuntsInTurn$Valley", "either", "(I)Z"⟩,
  ⟨"AuntsInTurn$Valley", "both", "(I)Z"⟩,
  ⟨"AuntsInTurn$Valley", "single", "(I)Z"⟩,
  ⟨"AuntsInTurn$Valley", "put", "(I)Z"⟩,
  ⟨"AuntsInTurn$Valley", "oneOf", "(Ljava/lang/String;)I"⟩,
  ⟨"AuntsInTurn$Valley", "mouth", "(LAuntsInTurn$Aunt;II)I"⟩,
  ⟨"AuntsInTurn$Valley", "holds", "(II)Z"⟩,
  ⟨"AuntsInTurn$Valley", "passes", "(I)Z"⟩,
  ⟨"AuntsInTurn$Rows", "<init>", "(I)V"⟩,
  ⟨"AuntsInTurn$Rows", "take", "(LAuntsInTurn$Rows;)V"⟩,
  ⟨"AuntsInTurn$Rows", "kept", "()I"⟩,
  ⟨"AuntsInTurn$Rows", "clear", "()I"⟩,
  ⟨"AuntsInTurn$Rows", "isFull", "()Z"⟩,
  ⟨"AuntsInTurn$Rows", "put", "(II)I"⟩,
  ⟨"AuntsInTurn$Rows", "first", "(I)I"⟩,
  ⟨"AuntsInTurn$Rows", "second", "(I)I"⟩,
  ⟨"AuntsInTurn$Rows", "came", "()I"⟩,
  ⟨"AuntsInTurn$Asker", "<init>", "()V"⟩,
  ⟨"AuntsInTurn$Asker", "twin", "()LAuntsInTurn$Asker;"⟩,
  ⟨"AuntsInTurn$Asker", "hears", "(III)V"⟩,
  ⟨"AuntsInTurn$Asker", "startAnew", "()V"⟩,
  ⟨"AuntsInTurn$Aunt", "<init>", "(III)V"⟩,
  ⟨"AuntsInTurn$Aunt", "kind", "()I"⟩,
  ⟨"AuntsInTurn$Aunt", "left", "(I)I"⟩,
  ⟨"AuntsInTurn$Aunt", "picks", "(LAuntsInTurn$World;III)I"⟩,
  ⟨"AuntsInTurn$Aunt", "twin", "()LAuntsInTurn$Aunt;"⟩,
  ⟨"AuntsInTurn$Aunt", "rings", "(LAuntsInTurn$Rows;I)I"⟩,
  ⟨"AuntsInTurn$Aunt", "asks", "(LAuntsInTurn$Rows;I)I"⟩,
  ⟨"AuntsInTurn$Aunt", "warns", "(LAuntsInTurn$Rows;I)I"⟩,
  ⟨"AuntsInTurn$Blunt", "<init>", "(III)V"⟩,
  ⟨"AuntsInTurn$Blunt", "kind", "()I"⟩,
  ⟨"AuntsInTurn$Blunt", "picks", "(LAuntsInTurn$World;III)I"⟩,
  ⟨"AuntsInTurn$Blunt", "twin", "()LAuntsInTurn$Aunt;"⟩,
  ⟨"AuntsInTurn$Blunt", "rings", "(LAuntsInTurn$Rows;I)I"⟩,
  ⟨"AuntsInTurn$Meek", "<init>", "(III)V"⟩,
  ⟨"AuntsInTurn$Meek", "kind", "()I"⟩,
  ⟨"AuntsInTurn$Meek", "picks", "(LAuntsInTurn$World;III)I"⟩,
  ⟨"AuntsInTurn$Meek", "twin", "()LAuntsInTurn$Aunt;"⟩,
  ⟨"AuntsInTurn$Meek", "asks", "(LAuntsInTurn$Rows;I)I"⟩,
  ⟨"AuntsInTurn$Sly", "<init>", "(III)V"⟩,
  ⟨"AuntsInTurn$Sly", "kind", "()I"⟩,
  ⟨"AuntsInTurn$Sly", "picks", "(LAuntsInTurn$World;III)I"⟩,
  ⟨"AuntsInTurn$Sly", "twin", "()LAuntsInTurn$Aunt;"⟩,
  ⟨"AuntsInTurn$Sly", "warns", "(LAuntsInTurn$Rows;I)I"⟩,
  ⟨"AuntsInTurn$Pious", "<init>", "(III)V"⟩,
  ⟨"AuntsInTurn$Pious", "kind", "()I"⟩,
  ⟨"AuntsInTurn$Pious", "picks", "(LAuntsInTurn$World;III)I"⟩,
  ⟨"AuntsInTurn$Pious", "twin", "()LAuntsInTurn$Aunt;"⟩,
  ⟨"AuntsInTurn$Pious", "warns", "(LAuntsInTurn$Rows;I)I"⟩,
  ⟨"AuntsInTurn$Baker", "<init>", "(III)V"⟩,
  ⟨"AuntsInTurn$Baker", "kind", "()I"⟩,
  ⟨"AuntsInTurn$Baker", "picks", "(LAuntsInTurn$World;III)I"⟩,
  ⟨"AuntsInTurn$Baker", "twin", "()LAuntsInTurn$Aunt;"⟩,
  ⟨"AuntsInTurn$Baker", "rings", "(LAuntsInTurn$Rows;I)I"⟩,
  ⟨"AuntsInTurn$Told", "<init>", "(III)V"⟩,
  ⟨"AuntsInTurn$Told", "kind", "()I"⟩,
  ⟨"AuntsInTurn$Told", "picks", "(LAuntsInTurn$World;III)I"⟩,
  ⟨"AuntsInTurn$Told", "write", "(II)I"⟩,
  ⟨"AuntsInTurn$Told", "twin", "()LAuntsInTurn$Aunt;"⟩,
  ⟨"AuntsInTurn$Told", "asks", "(LAuntsInTurn$Rows;I)I"⟩,
  ⟨"AuntsInTurnModel", "<init>", "()V"⟩,
  ⟨"AuntsInTurnModel", "feed", "(I)I"⟩,
  ⟨"AuntsInTurnModel", "in", "(III)Z"⟩,
  ⟨"AuntsInTurnModel", "valley", "()I"⟩,
  ⟨"AuntsInTurnModel", "clauseHere", "()V"⟩,
  ⟨"AuntsInTurnModel", "here", "()I"⟩,
  ⟨"AuntsInTurnModel", "tellsHere", "(ILjava/lang/String;)V"⟩,
  ⟨"AuntsInTurnModel", "spells", "(Ljava/lang/String;)V"⟩,
  ⟨"AuntsInTurnModel", "must", "(I)V"⟩,
  ⟨"AuntsInTurnModel", "figures", "()I"⟩,
  ⟨"AuntsInTurnModel", "much", "(ILjava/lang/String;)V"⟩,
  ⟨"AuntsInTurnModel", "some", "()V"⟩,
  ⟨"AuntsInTurnModel", "every", "()V"⟩,
  ⟨"AuntsInTurnModel", "factor", "()V"⟩,
  ⟨"AuntsInTurnModel", "emits", "(I)V"⟩,
  ⟨"AuntsInTurnModel", "among", "(Ljava/lang/String;)I"⟩,
  ⟨"AuntsInTurnModel", "aunt", "(III)I"⟩,
  ⟨"AuntsInTurnModel", "areFacts", "(I)Z"⟩,
  ⟨"AuntsInTurnModel", "of", "(II)I"⟩,
  ⟨"AuntsInTurnModel", "isAunt", "(I)Z"⟩,
  ⟨"AuntsInTurnModel", "says", "(III)I"⟩,
  ⟨"AuntsInTurnModel", "leftOf", "(II)I"⟩,
  ⟨"AuntsInTurnModel", "mouthOf", "(II)I"⟩,
  ⟨"AuntsInTurnModel", "countOf", "(I)I"⟩,
  ⟨"AuntsInTurnModel", "tellsOf", "(II)I"⟩,
  ⟨"AuntsInTurnModel", "saysOf", "(II)I"⟩,
  ⟨"AuntsInTurnModel", "chosen", "(III)I"⟩,
  ⟨"AuntsInTurnModel", "row", "(III)I"⟩,
  ⟨"AuntsInTurnModel", "becomes", "(II)I"⟩,
  ⟨"AuntsInTurnModel", "learn", "(II)I"⟩,
  ⟨"AuntsInTurnModel", "away", "(IZ)I"⟩,
  ⟨"AuntsInTurnModel", "weigh", "(II)I"⟩,
  ⟨"AuntsInTurnModel", "asker", "()I"⟩,
  ⟨"AuntsInTurnModel", "beginsAnew", "(I)V"⟩,
  ⟨"AuntsInTurnModel", "at", "(II)I"⟩,
  ⟨"AuntsInTurnModel", "isAsker", "(I)Z"⟩,
  ⟨"AuntsInTurnModel", "comes", "(I)I"⟩,
  ⟨"AuntsInTurnModel", "keeps", "()V"⟩,
  ⟨"AuntsInTurnModel", "goes", "()V"⟩,
  ⟨"AuntsInTurnModel", "isThrough", "(I)Z"⟩,
  ⟨"AuntsInTurnModel", "meets", "(I)V"⟩,
  ⟨"AuntsInTurnModel", "weightOf", "(I)I"⟩,
  ⟨"AuntsInTurnModel", "goesBack", "()V"⟩,
  ⟨"AuntsInTurnModel", "begin", "(II)I"⟩,
  ⟨"AuntsInTurnModel", "told", "(I)I"⟩,
  ⟨"AuntsInTurnModel", "awayOnes", "()I"⟩,
  ⟨"AuntsInTurnModel", "manyThrough", "()I"⟩,
  ⟨"AuntsInTurnModel", "manyBack", "()I"⟩,
  ⟨"AuntsInTurnModel", "pass", "(I)I"⟩,
  ⟨"AuntsInTurnModel", "goesOn", "(I)V"⟩,
  ⟨"AuntsInTurnModel", "on", "(II)I"⟩,
  ⟨"AuntsInTurnModel", "climb", "(III)I"⟩,
  ⟨"AuntsInTurnModel", "climbs", "(II)V"⟩,
  ⟨"AuntsInTurnModel", "comesTo", "(I)V"⟩,
  ⟨"AuntsInTurnModel", "order", "(II)I"⟩,
  ⟨"AuntsInTurnModel", "ordersFrom", "(IIII)V"⟩,
  ⟨"AuntsInTurnModel", "keepsOrder", "(II)V"⟩,
  ⟨"AuntsInTurnModel", "hush", "(I)I"⟩,
  ⟨"AuntsInTurnModel", "sends", "(I)V"⟩,
  ⟨"AuntsInTurnModel", "whole", "(I)I"⟩,
  ⟨"AuntsInTurnModel", "knownBy", "(I)I"⟩,
  ⟨"AuntsInTurnModel", "say", "(II)I"⟩,
  ⟨"AuntsInTurnModel", "knew", "(II)I"⟩,
  ⟨"AuntsInTurnModel", "fitting", "(IIII)I"⟩,
  ⟨"AuntsInTurnModel", "isAsSaid", "(I)Z"⟩,
  ⟨"AuntsInTurnModel", "firm", "(II)I"⟩,
  ⟨"AuntsInTurnModel", "who", "()I"⟩,
  ⟨"AuntsInTurnModel", "odds", "(III)J"⟩,
  ⟨"AuntsInTurnModel", "lowest", "(JJI)J"⟩,
  ⟨"AuntsInTurnModel", "mean", "(I)J"⟩,
  ⟨"AuntsInTurnModel", "plan", "(II)I"⟩,
  ⟨"AuntsInTurnModel", "done", "(I)I"⟩,
  ⟨"AuntsInTurnModel", "goesBy", "(II)V"⟩,
  ⟨"AuntsInTurnModel", "book", "(II)I"⟩,
  ⟨"AuntsInTurnModel", "looked", "()I"⟩,
  ⟨"AuntsInTurnModel", "act", "(III)I"⟩,
  ⟨"AuntsInTurnModel", "ringsActs", "(I)I"⟩,
  ⟨"AuntsInTurnModel", "isUnder", "(II)Z"⟩,
  ⟨"AuntsInTurnModel", "ranBody", "(I)V"⟩,
  ⟨"AuntsInTurnModel", "plainRings", "(I)I"⟩,
  ⟨"AuntsInTurnModel", "asksActs", "(I)I"⟩,
  ⟨"AuntsInTurnModel", "plainAsks", "(I)I"⟩,
  ⟨"AuntsInTurnModel", "warnsActs", "(I)I"⟩,
  ⟨"AuntsInTurnModel", "plainTelling", "(I)I"⟩,
  ⟨"AuntsInTurnModel", "trace", "(I)I"⟩,
  ⟨"AuntsInTurnModel", "as", "(II)I"⟩,
  ⟨"AuntsInTurnModel", "image", "()I"⟩,
  ⟨"AuntsInTurnModel", "undo", "()I"⟩,
  ⟨"AuntsInTurnModel", "count", "(I)I"⟩,
  ⟨"AuntsInTurnLaw", "law", "([I)Z"⟩,
  ⟨"java/util/ArrayList", "<init>", "()V"⟩,
  ⟨"java/util/ArrayList", "size", "()I"⟩,
  ⟨"java/util/ArrayList", "add", "(Ljava/lang/Object;)Z"⟩,
  ⟨"java/util/ArrayList", "add", "(Ljava/lang/Object;[Ljava/lang/Object;I)V"⟩,
  ⟨"java/util/ArrayList", "grow", "()[Ljava/lang/Object;"⟩,
  ⟨"java/util/ArrayList", "grow", "(I)[Ljava/lang/Object;"⟩,
  ⟨"java/util/ArrayList", "get", "(I)Ljava/lang/Object;"⟩,
  ⟨"java/util/ArrayList", "elementData", "(I)Ljava/lang/Object;"⟩,
  ⟨"java/util/ArrayList", "isEmpty", "()Z"⟩,
  ⟨"java/util/ArrayList", "clear", "()V"⟩,
  ⟨"java/util/AbstractList", "<init>", "()V"⟩,
  ⟨"java/util/AbstractCollection", "<init>", "()V"⟩,
  ⟨"java/lang/Math", "max", "(II)I"⟩,
  ⟨"java/lang/Math", "min", "(II)I"⟩,
  ⟨"java/lang/Math", "floorMod", "(II)I"⟩,
  ⟨"java/util/Arrays", "fill", "([II)V"⟩,
  ⟨"java/util/Arrays", "copyOf", "([II)[I"⟩,
  ⟨"java/lang/String", "length", "()I"⟩,
  ⟨"java/lang/String", "coder", "()B"⟩,
  ⟨"java/lang/String", "charAt", "(I)C"⟩,
  ⟨"java/lang/String", "isLatin1", "()Z"⟩,
  ⟨"java/lang/String", "checkIndex", "(II)V"⟩,
  ⟨"java/lang/String", "indexOf", "(I)I"⟩,
  ⟨"java/lang/String", "indexOf", "(II)I"⟩,
  ⟨"java/lang/String", "checkBoundsBeginEnd", "(III)V"⟩,
  ⟨"java/lang/StringLatin1", "charAt", "([BI)C"⟩,
  ⟨"java/lang/StringLatin1", "indexOf", "([BIII)I"⟩,
  ⟨"java/lang/StringLatin1", "canEncode", "(I)Z"⟩,
  ⟨"java/lang/StringLatin1", "indexOfChar", "([BIII)I"⟩,
  ⟨"jdk/internal/util/Preconditions", "checkIndex", "(IILjava/util/function/BiFunction;)I"⟩,
  ⟨"jdk/internal/util/Preconditions", "checkFromToIndex", "(IIILjava/util/function/BiFunction;)I"⟩,
  ⟨"java/util/Objects", "checkIndex", "(II)I"⟩,
  ⟨"java/lang/Integer", "bitCount", "(I)I"⟩]
def mcs : List ByteArray := [prog_1_method_1_code, prog_1_method_2_code, prog_1_method_3_code, prog_1_method_39_code, prog_1_method_4_code, prog_1_method_38_code, prog_1_method_41_code, prog_1_method_5_code, prog_1_method_6_code, prog_1_method_7_code, prog_1_method_8_code, prog_1_method_9_code, prog_1_method_10_code, prog_1_method_37_code, prog_1_method_11_code, prog_1_method_12_code, prog_1_method_43_code, prog_1_method_13_code, prog_1_method_14_code, prog_1_method_15_code, prog_1_method_40_code, prog_1_method_16_code, prog_1_method_17_code, prog_1_method_18_code, prog_1_method_19_code, prog_1_method_20_code, prog_1_method_21_code, prog_1_method_22_code, prog_1_method_23_code, prog_1_method_24_code, prog_1_method_25_code, prog_1_method_44_code, prog_1_method_26_code, prog_1_method_27_code, prog_1_method_28_code, prog_1_method_29_code, prog_1_method_30_code, prog_1_method_31_code, prog_1_method_32_code, prog_1_method_33_code, prog_1_method_42_code, prog_1_method_34_code, prog_1_method_35_code, prog_1_method_36_code, prog_12_method_1_code, prog_12_method_6_code, prog_12_method_3_code, prog_12_method_7_code, prog_12_method_9_code, prog_12_method_12_code, prog_12_method_11_code, prog_12_method_8_code, prog_12_method_4_code, prog_12_method_2_code, prog_12_method_13_code, prog_12_method_14_code, prog_12_method_10_code, prog_12_method_16_code, prog_12_method_15_code, prog_12_method_17_code, prog_12_method_18_code, prog_12_method_19_code, prog_12_method_5_code, prog_12_method_22_code, prog_12_method_20_code, prog_12_method_21_code, prog_12_method_23_code, prog_12_method_26_code, prog_12_method_25_code, prog_12_method_24_code, prog_12_method_27_code, prog_11_method_1_code, prog_11_method_2_code, prog_11_method_3_code, prog_11_method_10_code, prog_11_method_9_code, prog_11_method_8_code, prog_11_method_4_code, prog_11_method_5_code, prog_11_method_6_code, prog_11_method_11_code, prog_11_method_7_code, prog_11_method_12_code, prog_11_method_13_code, prog_11_method_14_code, prog_8_method_1_code, prog_8_method_9_code, prog_8_method_5_code, prog_8_method_3_code, prog_8_method_6_code, prog_8_method_2_code, prog_8_method_7_code, prog_8_method_8_code, prog_8_method_4_code, prog_2_method_1_code, prog_2_method_4_code, prog_2_method_3_code, prog_2_method_2_code, prog_3_method_1_code, prog_3_method_2_code, prog_3_method_4_code, prog_3_method_5_code, prog_3_method_3_code, prog_3_method_6_code, prog_3_method_7_code, prog_3_method_8_code, prog_5_method_1_code, prog_5_method_2_code, prog_5_method_4_code, prog_5_method_3_code, prog_5_method_5_code, prog_6_method_1_code, prog_6_method_2_code, prog_6_method_4_code, prog_6_method_3_code, prog_6_method_5_code, prog_9_method_1_code, prog_9_method_2_code, prog_9_method_4_code, prog_9_method_3_code, prog_9_method_5_code, prog_7_method_1_code, prog_7_method_2_code, prog_7_method_4_code, prog_7_method_3_code, prog_7_method_5_code, prog_4_method_1_code, prog_4_method_2_code, prog_4_method_4_code, prog_4_method_3_code, prog_4_method_5_code, prog_10_method_1_code, prog_10_method_2_code, prog_10_method_5_code, prog_10_method_4_code, prog_10_method_3_code, prog_10_method_6_code, prog_14_method_1_code, prog_14_method_10_code, prog_14_method_3_code, prog_14_method_23_code, prog_14_method_22_code, prog_14_method_11_code, prog_14_method_21_code, prog_14_method_13_code, prog_14_method_12_code, prog_14_method_14_code, prog_14_method_20_code, prog_14_method_19_code, prog_14_method_18_code, prog_14_method_17_code, prog_14_method_16_code, prog_14_method_15_code, prog_14_method_31_code, prog_14_method_4_code, prog_14_method_32_code, prog_14_method_6_code, prog_14_method_33_code, prog_14_method_25_code, prog_14_method_26_code, prog_14_method_5_code, prog_14_method_24_code, prog_14_method_28_code, prog_14_method_27_code, prog_14_method_34_code, prog_14_method_30_code, prog_14_method_35_code, prog_14_method_36_code, prog_14_method_37_code, prog_14_method_39_code, prog_14_method_38_code, prog_14_method_42_code, prog_14_method_7_code, prog_14_method_41_code, prog_14_method_8_code, prog_14_method_49_code, prog_14_method_40_code, prog_14_method_48_code, prog_14_method_29_code, prog_14_method_9_code, prog_14_method_43_code, prog_14_method_47_code, prog_14_method_46_code, prog_14_method_45_code, prog_14_method_44_code, prog_14_method_51_code, prog_14_method_50_code, prog_14_method_52_code, prog_14_method_55_code, prog_14_method_54_code, prog_14_method_53_code, prog_14_method_58_code, prog_14_method_57_code, prog_14_method_56_code, prog_14_method_60_code, prog_14_method_59_code, prog_14_method_62_code, prog_14_method_61_code, prog_14_method_63_code, prog_14_method_66_code, prog_14_method_65_code, prog_14_method_64_code, prog_14_method_67_code, prog_14_method_68_code, prog_14_method_70_code, prog_14_method_69_code, prog_14_method_71_code, prog_14_method_72_code, prog_14_method_74_code, prog_14_method_73_code, prog_14_method_75_code, prog_14_method_76_code, prog_14_method_85_code, prog_14_method_80_code, prog_14_method_78_code, prog_14_method_77_code, prog_14_method_79_code, prog_14_method_82_code, prog_14_method_81_code, prog_14_method_84_code, prog_14_method_83_code, prog_14_method_86_code, prog_14_method_87_code, prog_14_method_88_code, prog_14_method_89_code, prog_14_method_90_code, code, prog_31_method_2_code, prog_31_method_8_code, prog_31_method_25_code, prog_31_method_24_code, prog_31_method_7_code, prog_31_method_6_code, prog_31_method_20_code, prog_31_method_18_code, prog_31_method_9_code, prog_31_method_40_code, prog_30_method_1_code, prog_29_method_1_code, prog_22_method_65_code, prog_22_method_69_code, prog_22_method_50_code, prog_32_method_103_code, prog_32_method_123_code, prog_23_method_54_code, prog_23_method_152_code, prog_23_method_56_code, prog_23_method_154_code, prog_23_method_155_code, prog_23_method_79_code, prog_23_method_80_code, prog_23_method_158_code, prog_24_method_2_code, prog_24_method_22_code, prog_24_method_4_code, prog_24_method_23_code, prog_39_method_11_code, prog_39_method_12_code, prog_35_method_17_code, prog_20_method_49_code]
def mrs : List (Option FieldType) := [none, some .int, some .int, some .boolean, some .int, some .boolean, some (.object "AuntsInTurn$Aunt"), some .int, some .int, some .int, some .int, some .int, some .int, some .boolean, some .int, some .int, some .int, some .int, some .int, some .int, some .boolean, some .int, some .int, some .int, some .int, some .int, some .int, some .int, some .int, some .int, some .long, some .long, some .long, some .int, some .int, some .int, some .int, some .int, some .int, some .int, some .boolean, some .int, some .int, some .int, none, some .int, some .boolean, some .boolean, some (.object "AuntsInTurn$Valley"), some .int, some .int, none, some .boolean, none, none, none, some .int, some .int, some .int, some (.object "AuntsInTurn$Asker"), some .int, some .int, some .int, some .int, some .int, some .int, some .int, some .boolean, some .int, some .int, some .boolean, none, some .int, some .boolean, some .int, some .boolean, some .int, some .boolean, some .boolean, some .boolean, some .boolean, some .int, some .int, some .boolean, some .boolean, none, none, some .int, some .int, some .boolean, some .int, some .int, some .int, some .int, none, some (.object "AuntsInTurn$Asker"), none, none, none, some .int, some .int, some .int, some (.object "AuntsInTurn$Aunt"), some .int, some .int, some .int, none, some .int, some .int, some (.object "AuntsInTurn$Aunt"), some .int, none, some .int, some .int, some (.object "AuntsInTurn$Aunt"), some .int, none, some .int, some .int, some (.object "AuntsInTurn$Aunt"), some .int, none, some .int, some .int, some (.object "AuntsInTurn$Aunt"), some .int, none, some .int, some .int, some (.object "AuntsInTurn$Aunt"), some .int, none, some .int, some .int, some .int, some (.object "AuntsInTurn$Aunt"), some .int, none, some .int, some .boolean, some .int, none, some .int, none, none, none, some .int, none, none, none, none, none, some .int, some .int, some .boolean, some .int, some .boolean, some .int, some .int, some .int, some .int, some .int, some .int, some .int, some .int, some .int, some .int, some .int, some .int, some .int, none, some .int, some .boolean, some .int, none, none, some .boolean, none, some .int, none, some .int, some .int, some .int, some .int, some .int, some .int, none, some .int, some .int, none, none, some .int, none, none, some .int, none, some .int, some .int, some .int, some .int, some .int, some .boolean, some .int, some .int, some .long, some .long, some .long, some .int, some .int, none, some .int, some .int, some .int, some .int, some .boolean, none, some .int, some .int, some .int, some .int, some .int, some .int, some .int, some .int, some .int, some .int, some .boolean, none, some .int, some .boolean, none, some (.array (.object "java/lang/Object")), some (.array (.object "java/lang/Object")), some (.object "java/lang/Object"), some (.object "java/lang/Object"), some .boolean, none, none, none, some .int, some .int, some .int, none, some (.array .int), some .int, some .byte, some .char, some .boolean, none, some .int, some .int, none, some .char, some .int, some .boolean, some .int, some .int, some .int, some .int, some .int]
def mn (y : Nat) : MethodName := mns.getD y ⟨"", "", ""⟩
def mc (y : Nat) : ByteArray := mcs.getD y ⟨#[]⟩
def mr (y : Nat) : Option FieldType := mrs.getD y none
def ml (y : Nat) : Nat := mLs.getD y 0
def codeW (y : Nat) : Cond := .code (mn y) (mc y) (ml y) (mr y)

/-! the tables checked -/
def hnT : List (List (Nat × List Nat)) := [
  [(1, [1033, 1034, 1035]), (5, [1036]), (9, [1038]), (12, [1207]), (16, [1036]), (20, [1038]), (23, [1208]), (27, [1036]), (31, [1038]), (34, [1209]), (38, [1205]), (44, [1206]), (47, [1210]), (52, [1211])],
  [(14, [1207]), (18, [1227])],
  [(1, [1207]), (4, [1158]), (7, [1235]), (17, [1239]), (22, [1207]), (25, [1162]), (29, [1207]), (32, [1164]), (35, [2000]), (38, [2016]), (43, [1207]), (47, [1164]), (51, [2017]), (66, [1207]), (69, [1158]), (73, [2170]), (78, [1207]), (81, [1158]), (84, [1235])],
  [],
  [(13, [2228]), (20, [2229]), (30, [1207]), (33, [1154]), (36, [1235]), (52, [1207]), (55, [1154]), (63, [2232]), (66, [2170])],
  [],
  [(40, [2235]), (47, [2237]), (51, [3055]), (58, [3057]), (62, [3065]), (69, [3067]), (73, [3075]), (80, [3077]), (84, [3085]), (91, [3087]), (95, [3095]), (102, [3097]), (106, [3108]), (113, [3110])],
  [(1, [1207]), (5, [3119]), (14, [1207]), (17, [1154]), (21, [3124]), (24, [3108]), (61, [3136]), (66, [3031]), (71, [3046]), (76, [1207]), (80, [3159])],
  [(1, [1207]), (5, [3119]), (23, [2229]), (33, [1207]), (36, [1154]), (40, [3124]), (43, [3108]), (79, [3167]), (84, [1207]), (87, [3178]), (94, [1207]), (97, [1173]), (100, [3187]), (105, [1207]), (111, [3208])],
  [(1, [1207]), (5, [3119]), (23, [2228]), (33, [1207]), (36, [1154]), (40, [3124]), (47, [3095]), (55, [3095]), (64, [4014])],
  [(1, [1207]), (5, [3119]), (14, [2229]), (24, [1207]), (27, [1154]), (31, [3124]), (34, [3108]), (39, [3046]), (46, [3046])],
  [(1, [1207]), (5, [3119]), (14, [1207]), (18, [3159]), (31, [1207]), (36, [4026])],
  [(1, [4034]), (10, [2228]), (20, [1207]), (23, [1160]), (30, [1207]), (33, [1160])],
  [],
  [(1, [1207]), (4, [1156]), (7, [1235]), (20, [1207]), (23, [1156]), (26, [4041]), (33, [2170])],
  [(1, [1207]), (5, [4047]), (14, [1207]), (17, [1156]), (21, [3124]), (24, [4041]), (65, [1131]), (70, [1134]), (75, [1136]), (80, [1139]), (94, [4051])],
  [(1, [1209]), (5, [1207]), (8, [4055]), (12, [1209]), (16, [1209]), (19, [1154]), (22, [1235]), (25, [4120]), (29, [1209]), (33, [4047]), (43, [1209]), (46, [1156]), (50, [3124]), (53, [4041]), (58, [1139]), (70, [1131])],
  [(1, [1207]), (5, [4047]), (14, [2229]), (24, [1207]), (27, [1156]), (31, [3124]), (34, [4041]), (39, [1131]), (46, [1131]), (50, [4144])],
  [(10, [4034]), (17, [1207]), (20, [1160]), (65, [1207]), (68, [1173]), (73, [1207]), (76, [3178]), (79, [1104]), (84, [1207]), (87, [1175]), (92, [1207]), (95, [4152]), (100, [1207]), (103, [4156])],
  [(1, [4164]), (11, [1207]), (14, [1173]), (29, [1207]), (33, [4120]), (37, [1207]), (40, [1173])],
  [],
  [(24, [1207]), (31, [4047]), (56, [4164]), (66, [1209]), (70, [1207]), (73, [4055]), (77, [1209]), (81, [4120]), (89, [1209]), (96, [4047]), (103, [1209]), (106, [4156]), (111, [1209]), (114, [1156]), (121, [3124]), (124, [4041]), (158, [1131]), (164, [1136]), (170, [1134])],
  [(21, [2229]), (31, [1207]), (45, [1207]), (48, [1175]), (51, [4175]), (86, [1131]), (92, [1134]), (98, [1139]), (106, [1136])],
  [(41, [2229]), (51, [1207]), (55, [4184]), (76, [1207]), (79, [1154]), (82, [1235]), (91, [1207]), (94, [1154]), (97, [1235]), (104, [4199]), (119, [4202]), (127, [4205])],
  [(1, [4034]), (8, [1207]), (12, [4212])],
  [(29, [1207]), (32, [4224]), (37, [1207]), (41, [1207]), (44, [4232]), (47, [4233]), (50, [4234])],
  [(6, [1207]), (9, [1166]), (12, [4239]), (17, [2229]), (24, [2229]), (34, [1207]), (37, [1166]), (40, [5003]), (52, [1207]), (55, [1166]), (60, [5007])],
  [(1, [1207]), (5, [3119]), (23, [1207]), (26, [1154]), (30, [3124]), (33, [3108]), (36, [5015]), (60, [3046]), (64, [1207]), (68, [5016])],
  [(1, [1207]), (5, [3119]), (23, [1207]), (26, [1154]), (30, [3124]), (33, [3108]), (36, [5015]), (59, [3031]), (63, [1207]), (67, [5016])],
  [(6, [1207]), (9, [1154]), (12, [1235]), (19, [1207]), (23, [1207]), (26, [1154]), (30, [3124]), (33, [3108]), (36, [5016])],
  [(1, [1207]), (4, [1154]), (7, [1235]), (13, [2229]), (20, [4034]), (40, [5041]), (60, [1207]), (66, [1207]), (69, [1175]), (77, [4175]), (80, [1131]), (101, [5042])],
  [(62, [5041])],
  [(1, [1207]), (4, [1156]), (7, [1235]), (24, [5041]), (41, [1207]), (44, [1156]), (49, [3124]), (52, [4041]), (55, [1134]), (69, [5042])],
  [(6, [1207]), (9, [1168]), (12, [4239]), (27, [1207]), (31, [3119]), (49, [1207]), (53, [4047]), (87, [1207]), (90, [1168]), (93, [5003]), (105, [1207]), (108, [1168]), (113, [5007])],
  [(12, [1209]), (16, [1207]), (19, [4055]), (26, [1207]), (29, [1168]), (32, [5057]), (39, [1207]), (42, [1168]), (46, [5058]), (51, [1207]), (54, [1168]), (58, [5059]), (68, [1209]), (72, [4120]), (84, [1209]), (89, [4047]), (96, [1209]), (99, [1156]), (104, [3124]), (107, [4041]), (110, [4144]), (117, [1209]), (132, [4026]), (146, [1209]), (149, [4156]), (156, [1209]), (159, [4152])],
  [(6, [1207]), (9, [1170]), (12, [4239]), (17, [1207]), (21, [4047]), (30, [2229]), (40, [1207]), (43, [1170]), (46, [5003]), (58, [1207]), (61, [1170]), (66, [5007])],
  [(4, [1207]), (7, [1170]), (10, [5057]), (17, [1207]), (20, [1170]), (24, [5058]), (29, [1207]), (33, [4047]), (40, [1207]), (43, [1156]), (47, [3124]), (50, [4041]), (53, [1131]), (57, [1207]), (60, [1170]), (64, [5059])],
  [(1, [1210]), (4, [4239]), (9, [1207]), (13, [3119]), (22, [1207]), (25, [1154]), (29, [3124]), (32, [3108]), (67, [1210]), (71, [5072]), (78, [1210]), (82, [5094]), (89, [1210]), (93, [5116])],
  [(1, [1210]), (5, [5058])],
  [(1, [1207]), (5, [3119]), (24, [1207]), (27, [1154]), (31, [3124]), (34, [3108]), (40, [5150]), (47, [3031])],
  [(41, [2235]), (46, [3055]), (51, [3065]), (56, [3075]), (61, [3085]), (66, [3095])],
  [(1, [1208]), (5, [1207]), (8, [4055]), (13, [1211]), (17, [1207]), (20, [1154]), (23, [1235])],
  [(1, [1211]), (11, [1207]), (15, [1208]), (18, [4055]), (22, [1207]), (25, [1154]), (28, [1235])],
  [(49, [1207]), (52, [1154]), (55, [1235]), (60, [1207]), (63, [1156]), (66, [1235]), (71, [1207]), (74, [1158]), (77, [1235]), (82, [1207]), (85, [1166]), (88, [5165]), (93, [1207]), (96, [1168]), (99, [5165]), (104, [1207]), (107, [1170]), (110, [5165]), (115, [1207]), (118, [1164]), (123, [1210]), (126, [5165])],
  [(1, [1041, 1034, 1035]), (5, [1042]), (9, [1044]), (12, [1153]), (16, [1042]), (20, [1044]), (23, [1155]), (27, [1042]), (31, [1044]), (34, [1157]), (40, [1087]), (42, [1159]), (48, [1087]), (50, [1161]), (55, [1163]), (59, [1068]), (64, [1070]), (67, [1165]), (71, [1068]), (77, [1070]), (80, [1167]), (84, [1068]), (90, [1070]), (93, [1169]), (98, [1171]), (103, [1174]), (107, [1088]), (112, [1087]), (114, [1090]), (117, [1176]), (121, [1124]), (128, [1177]), (132, [1159]), (136, [1150])],
  [(1, [1163]), (8, [1163]), (20, [1161]), (24, [1163]), (31, [1163]), (36, [1163]), (40, [1163])],
  [(6, [1153]), (9, [3123])],
  [(1, [1174])],
  [(1, [1157]), (4, [3182]), (11, [1176]), (18, [1157]), (22, [1157]), (25, [3123]), (30, [3186]), (33, [1088])],
  [(5, [3212]), (9, [3213]), (15, [1171]), (18, [3214]), (21, [3215])],
  [(25, [1159]), (39, [1159])],
  [(10, [1174]), (19, [1174]), (26, [1174])],
  [(6, [1155]), (9, [3123])],
  [(1, [1153]), (4, [4059]), (11, [1153]), (14, [3123]), (21, [1153]), (25, [1153]), (29, [3186]), (32, [4063]), (35, [4064]), (38, [4102]), (49, [1155]), (52, [4059]), (59, [1155]), (62, [3123]), (69, [1155]), (73, [1155]), (77, [3186]), (80, [1124]), (83, [4103]), (86, [4102]), (97, [1157]), (100, [4059]), (107, [1157]), (110, [3123]), (117, [1157]), (121, [1157]), (125, [3186]), (128, [1088]), (131, [4102]), (142, [1159]), (147, [1159]), (153, [4109, 2015, 2014, 1012]), (157, [1161]), (162, [1161]), (168, [4109, 2015, 2014, 1012]), (173, [1163]), (176, [1163]), (180, [1165]), (184, [1165]), (187, [4110]), (191, [1167]), (195, [1167]), (198, [4110]), (202, [1169]), (206, [1169]), (209, [4110]), (214, [1171]), (217, [1171]), (222, [1174]), (225, [1174])],
  [(11, [1155]), (14, [3123]), (22, [1155]), (26, [3186]), (29, [1124]), (32, [4124]), (43, [1171]), (48, [1171])],
  [(1, [1140]), (9, [1137]), (12, [4128]), (21, [1137]), (24, [4129]), (32, [1153]), (36, [1137]), (39, [3186]), (42, [4063]), (46, [1132]), (49, [4130]), (57, [4131]), (61, [3213]), (64, [1103]), (67, [4135]), (71, [1140]), (79, [1137]), (84, [1137])],
  [(21, [1159])],
  [(6, [1155]), (9, [3123]), (17, [1155]), (21, [3186]), (24, [1124]), (27, [1137]), (31, [1153]), (34, [3123])],
  [(6, [1155]), (9, [3123]), (17, [1155]), (21, [3186]), (24, [1124]), (27, [1140])],
  [(1, [1177]), (4, [4179]), (8, [1177]), (12, [1132]), (16, [1153]), (19, [3123]), (37, [1177]), (40, [1140]), (73, [1153]), (78, [3186]), (81, [4063]), (85, [1177]), (88, [1132]), (91, [4130]), (97, [1177]), (102, [1137]), (106, [1177]), (114, [4131]), (118, [3213]), (121, [1103]), (124, [4135]), (134, [1177])],
  [(5, [4188])],
  [(2, [4192]), (16, [4196]), (28, [4197]), (43, [1153]), (46, [3123]), (68, [4129]), (80, [1153]), (85, [3186]), (88, [4063]), (92, [4130]), (102, [4131]), (111, [3213]), (114, [1103]), (141, [4188]), (144, [4198])],
  [(2, [1153]), (5, [3123])],
  [(0, [4197]), (3, [4197])],
  [],
  [],
  [(7, [4192]), (15, [4216]), (25, [1174]), (30, [4219]), (33, [1132])],
  [(7, [4196]), (11, [4196])],
  [(2, [4192]), (5, [4228]), (16, [4192]), (24, [4216]), (32, [4228])],
  [(6, [1153]), (9, [3123]), (26, [1153]), (30, [3186]), (33, [4063]), (36, [3047])],
  [(4, [1165]), (7, [5020]), (16, [1165]), (20, [5021]), (23, [4130]), (27, [1165]), (31, [5025])],
  [(1, [1093, 1034, 1035]), (6, [1095]), (11, [1097]), (17, [1087]), (19, [1098]), (25, [1087]), (27, [1099]), (32, [1100]), (38, [1087]), (40, [1101]), (46, [1102]), (51, [1094]), (57, [1087]), (59, [1096])],
  [(1, [2021]), (18, [2025]), (28, [1095]), (33, [1095]), (37, [2021]), (52, [1095]), (56, [1094]), (68, [1095])],
  [(1, [2025]), (30, [2032]), (37, [2084]), (60, [1102]), (68, [2032]), (76, [2092]), (83, [1100]), (94, [1098]), (98, [1100]), (115, [1099]), (119, [1100]), (123, [1097]), (129, [1100]), (134, [1100])],
  [(1, [1095]), (8, [1095]), (12, [1094]), (20, [1094]), (24, [1095])],
  [(4, [2036, 2038]), (11, [2025]), (16, [2046, 2048]), (26, [1095]), (31, [1095])],
  [(1, [2025]), (19, [1095]), (24, [1095]), (28, [2025]), (50, [1095]), (55, [1095])],
  [(2, [2096]), (19, [2025]), (29, [1095]), (34, [1095]), (39, [2096]), (48, [2104])],
  [(2, [2100]), (19, [2025]), (29, [1095]), (34, [1095]), (39, [2100]), (48, [2104])],
  [(1, [2025]), (26, [1095]), (31, [1095]), (44, [2100]), (52, [2104]), (70, [2092]), (79, [2032]), (94, [2110]), (110, [2110]), (126, [2084]), (150, [2104])],
  [(1, [1097]), (5, [1096]), (15, [1096]), (19, [1097]), (26, [1097]), (31, [1097])],
  [(1, [2025]), (16, [2114, 2116]), (28, [1095]), (33, [1095])],
  [(1, [1101]), (6, [3017]), (11, [1101]), (16, [3191]), (21, [1101]), (26, [3032]), (31, [1101]), (36, [3192]), (41, [1101]), (47, [3198]), (50, [3192]), (55, [1101]), (76, [1100]), (86, [1099]), (92, [3199]), (101, [1098]), (111, [1099]), (128, [3203])],
  [(4, [3203]), (18, [1096]), (31, [1096]), (99, [1096]), (105, [3204])],
  [(12, [1101]), (61, [1101]), (77, [1101]), (93, [1101])],
  [(1, [1073, 1034, 1035]), (6, [1079]), (11, [1074]), (17, [1087]), (19, [1077]), (24, [1087]), (26, [1078])],
  [(1, [1077]), (6, [4114]), (9, [4118]), (14, [1077]), (19, [1077]), (24, [4119, 2015, 2014, 1012]), (28, [1078]), (33, [1078]), (38, [4119, 2015, 2014, 1012]), (43, [1079]), (46, [1079])],
  [(1, [1079]), (5, [1077]), (9, [4118])],
  [(2, [1079]), (6, [1079])],
  [(1, [1079]), (5, [1077])],
  [(1, [1079]), (5, [1077]), (13, [1077]), (17, [1079]), (23, [1078]), (27, [1079]), (34, [1079]), (39, [1079]), (43, [1079])],
  [(6, [4114]), (13, [1077])],
  [(6, [4114]), (13, [1078])],
  [(1, [1079])],
  [(1, [1129, 1034, 1035]), (6, [1130]), (11, [1133]), (16, [1135]), (21, [1138])],
  [(0, [4107]), (4, [4108]), (10, [1130]), (13, [1130]), (18, [1133]), (21, [1133]), (26, [1135]), (29, [1135]), (34, [1138]), (37, [1138])],
  [(2, [1130]), (7, [1130]), (15, [1133]), (20, [4139]), (23, [1133]), (28, [1133]), (40, [1138])],
  [(2, [1135]), (7, [1133]), (12, [1138])],
  [(1, [3003, 1034, 1035]), (6, [3004]), (11, [3018]), (16, [3033])],
  [],
  [(1, [3033])],
  [],
  [(0, [4100]), (5, [3004]), (9, [3018]), (13, [3033]), (16, [4101])],
  [(3, [5093]), (9, [3004])],
  [(3, [5093]), (10, [5115]), (14, [3018])],
  [(3, [5093]), (10, [5141])],
  [(4, [3000])],
  [],
  [(32, [3230])],
  [(0, [4076]), (5, [3007, 3008]), (9, [3021, 3022]), (13, [3036, 3037]), (16, [4077])],
  [(4, [5086]), (13, [5087, 5075, 3054])],
  [(4, [3060])],
  [],
  [(1, [3225]), (5, [3023, 3024]), (21, [3226, 3218, 3064])],
  [(0, [4081]), (5, [3009, 3010]), (9, [3023, 3024]), (13, [3038, 3039]), (16, [4082])],
  [(4, [5101]), (11, [5102, 5097, 3064])],
  [(4, [3070])],
  [],
  [],
  [(0, [4091]), (5, [3013, 3014]), (9, [3027, 3028]), (13, [3042, 3043]), (16, [4092])],
  [(4, [5137]), (11, [5138, 5119, 3074])],
  [(4, [3080])],
  [],
  [(6, [3238, 7124, 3084]), (11, [3025, 3026])],
  [(0, [4086]), (5, [3011, 3012]), (9, [3025, 3026]), (13, [3040, 3041]), (16, [4087])],
  [(4, [5126]), (13, [5127, 5128, 3084, 3054]), (19, [5130])],
  [(4, [3090])],
  [],
  [(6, [3222, 7123, 3094])],
  [(0, [4071]), (5, [3005, 3006]), (9, [3019, 3020]), (13, [3034, 3035]), (16, [4072])],
  [(4, [5079]), (11, [5080, 5081, 3094, 3064]), (15, [3005, 3006])],
  [(4, [3100]), (9, [1087]), (11, [3101])],
  [],
  [(1, [3101]), (5, [1172]), (9, [4005]), (21, [4008, 7125, 3107])],
  [(12, [3101]), (19, [3101])],
  [(0, [4096]), (5, [3015, 3016]), (9, [3029, 3030]), (13, [3044, 3045]), (16, [4097]), (21, [3101]), (26, [3101]), (31, [4098, 2015, 2014, 1012])],
  [(4, [5110]), (11, [5111, 5112, 3107, 3074]), (15, [3029, 3030])],
  [(1, [5174, 1034, 1035]), (8, [1087]), (10, [5175]), (17, [1087]), (19, [5176]), (25, [1087]), (27, [5177]), (33, [1087]), (35, [5184]), (41, [6007]), (43, [5185]), (49, [1087]), (51, [5189]), (57, [1087]), (59, [5190]), (65, [1087]), (67, [5193]), (71, [5175]), (87, [5175])],
  [(4, [6012]), (14, [5175]), (29, [5175]), (35, [5175]), (45, [5175]), (56, [5175])],
  [],
  [(1, [5175]), (16, [5175]), (22, [5179]), (27, [5175]), (33, [5181]), (37, [5175]), (45, [5175]), (52, [5179]), (60, [5175]), (67, [5179]), (75, [5180]), (80, [5182]), (85, [5183]), (91, [6019]), (95, [5182]), (108, [6023]), (118, [5180]), (123, [5180]), (127, [6019]), (137, [5182]), (144, [5180]), (148, [5181]), (157, [5180]), (163, [5175]), (174, [5175]), (180, [5179]), (185, [5179])],
  [(1, [6023]), (46, [6028]), (57, [6047]), (69, [6047]), (77, [5182])],
  [(1, [5180]), (5, [5181]), (12, [5175]), (18, [5180])],
  [(2, [6032]), (6, [6042]), (11, [5182]), (18, [5175]), (23, [5179])],
  [(4, [6036, 2038]), (13, [6037, 2048]), (16, [6038])],
  [(2, [5182]), (9, [6023]), (21, [5182]), (26, [5180]), (30, [5182]), (42, [5180])],
  [(2, [5182]), (9, [6023]), (16, [6012]), (27, [5182]), (40, [5182]), (47, [6023]), (54, [6012]), (73, [6023]), (83, [5180]), (88, [5180])],
  [(2, [6032]), (6, [6042]), (13, [6038]), (17, [6051]), (24, [6063])],
  [(1, [6055]), (5, [5182]), (12, [6023]), (22, [5180]), (27, [5180]), (31, [6055]), (37, [6063])],
  [(1, [6059]), (5, [5182]), (12, [6023]), (22, [5180]), (27, [5180]), (31, [6059]), (37, [6063])],
  [(1, [5182]), (9, [6023]), (27, [5183]), (39, [5182]), (44, [5183]), (49, [5183]), (54, [5180]), (58, [5182]), (70, [5180]), (80, [6059]), (85, [6063]), (92, [6051]), (98, [6038]), (103, [5183]), (108, [5183]), (115, [6068]), (130, [5182]), (134, [5182]), (147, [6068]), (153, [5182]), (169, [5182]), (173, [6042]), (191, [6063])],
  [(1, [5182]), (8, [5175]), (18, [5179]), (24, [5175]), (31, [5179]), (40, [5175]), (47, [5179])],
  [(4, [6036, 2038]), (11, [6023]), (16, [6037, 2048]), (24, [5180]), (29, [5180])],
  [(4, [6012]), (16, [6012]), (23, [6078]), (33, [5175]), (48, [5175]), (57, [5175]), (68, [5175]), (79, [5175]), (90, [5175]), (110, [5175]), (132, [5175])],
  [(5, [6012])],
  [(2, [6085]), (41, [5175]), (51, [5175]), (61, [5175]), (71, [5175])],
  [(3, [5175]), (11, [6012])],
  [(2, [6085]), (11, [6012]), (20, [6078]), (36, [6093]), (50, [6097]), (59, [6108])],
  [(1, [5175])],
  [(1, [5184]), (8, [5184]), (13, [5175]), (23, [5184]), (28, [5175]), (38, [5184]), (43, [6101]), (48, [5184]), (55, [6093]), (58, [6101]), (63, [5184]), (68, [5175]), (84, [6104]), (96, [5175]), (124, [5175]), (138, [5184]), (166, [5185]), (238, [5185]), (246, [5185]), (277, [5185]), (292, [5185]), (304, [5185]), (322, [5185]), (334, [5185]), (356, [5185])],
  [],
  [(1, [5175]), (16, [5175]), (21, [5175])],
  [(3, [6093]), (10, [6097]), (16, [5175]), (27, [6101]), (44, [6112]), (50, [5175]), (101, [6112]), (113, [6112]), (122, [6112]), (150, [6112]), (155, [5175]), (165, [5175]), (185, [6112])],
  [(68, [5175]), (78, [5175])],
  [(2, [6085]), (11, [6012]), (23, [6012]), (33, [5175]), (56, [6120])],
  [(1, [5175]), (8, [5175])],
  [(2, [6085]), (11, [6078]), (23, [6120])],
  [(2, [6085]), (22, [6120])],
  [(4, [6012]), (16, [6012]), (28, [6120])],
  [(1, [5175]), (15, [5175]), (23, [5175]), (33, [6140]), (37, [5175])],
  [(1, [5175]), (11, [5175]), (21, [5175])],
  [(2, [6148]), (45, [5175]), (54, [5175]), (64, [5175]), (74, [5175]), (85, [6152])],
  [(3, [5175]), (11, [6012])],
  [(1, [6156]), (13, [6160]), (23, [5175]), (41, [5175]), (50, [6176])],
  [(9, [5177]), (14, [5175])],
  [(4, [5175]), (14, [5175]), (27, [6164]), (35, [6168]), (45, [5175])],
  [(1, [5175]), (10, [5175])],
  [(1, [5175]), (11, [5175]), (24, [5175]), (40, [5175]), (47, [6108]), (52, [5175]), (64, [5175]), (75, [6172]), (81, [5175]), (95, [6104]), (102, [5175]), (115, [5175])],
  [(21, [5175])],
  [(9, [5175]), (14, [5177])],
  [(2, [6148]), (11, [6078]), (22, [6140]), (30, [6120])],
  [(37, [5175]), (49, [6104]), (54, [6188]), (59, [6192]), (64, [6196]), (73, [6012]), (80, [5175])],
  [(6, [5175]), (17, [5175])],
  [(6, [5175]), (18, [6164])],
  [(6, [5175]), (17, [5175])],
  [(4, [6012]), (14, [5175]), (32, [6204]), (39, [5175]), (49, [5175]), (57, [5175]), (78, [5175]), (94, [5175])],
  [(8, [6160])],
  [(9, [6148]), (20, [6148]), (31, [6148]), (43, [6012]), (53, [6156]), (58, [6204]), (66, [6196]), (79, [5175]), (99, [5175]), (114, [5175]), (127, [6176])],
  [(3, [6012]), (12, [6012]), (21, [6078]), (33, [6216]), (41, [5186]), (53, [5187]), (60, [5188])],
  [(2, [5186]), (7, [5187]), (13, [5188]), (20, [5175]), (39, [5175]), (49, [6220])],
  [(1, [5188]), (10, [5175]), (24, [5186]), (27, [6108]), (33, [5186]), (38, [5186]), (43, [5187]), (48, [6172]), (52, [5187]), (57, [5187]), (66, [6104]), (78, [5188])],
  [(3, [6012]), (14, [6012]), (23, [6078]), (34, [5191]), (39, [5192]), (46, [5175]), (57, [6228]), (61, [5191]), (76, [5191]), (88, [5192]), (99, [5175]), (109, [5190])],
  [(8, [6232]), (18, [5175]), (38, [5175]), (59, [6108]), (69, [6172]), (76, [5189]), (84, [5175]), (105, [6104]), (129, [6228])],
  [(1, [6101]), (7, [5191]), (15, [5191]), (23, [5192]), (31, [5191]), (36, [5192]), (50, [5190]), (56, [5189])],
  [(4, [6012]), (20, [5175]), (31, [6156]), (36, [7000]), (42, [6216]), (46, [6176]), (50, [5186]), (79, [6101]), (83, [6101])],
  [(4, [5175]), (14, [5175]), (35, [5175])],
  [(3, [6012]), (18, [5175]), (30, [7008]), (36, [7008]), (60, [6101]), (64, [6101]), (93, [7008]), (96, [6101])],
  [(6, [5175]), (26, [5175])],
  [(6, [5175]), (16, [6078]), (23, [6078]), (33, [5175]), (47, [5175]), (53, [5175]), (63, [5175]), (69, [5175]), (79, [5175]), (90, [5175])],
  [(2, [6085]), (11, [6012]), (27, [7020])],
  [(1, [5175]), (24, [5175]), (33, [7024]), (74, [5175])],
  [(6, [5175]), (22, [5175]), (30, [6108]), (34, [5175])],
  [(2, [6085]), (11, [6012]), (26, [7020])],
  [(6, [5175]), (18, [7024])],
  [(1, [6078]), (11, [6012]), (20, [6012]), (27, [5175]), (36, [7040]), (49, [5175]), (59, [6156]), (63, [5175]), (76, [6216]), (80, [6176]), (86, [5186]), (106, [5175]), (114, [7041])],
  [],
  [(3, [6012]), (10, [5175]), (19, [7040]), (31, [5175]), (42, [5175]), (62, [5175]), (70, [7041])],
  [(6, [5175]), (18, [6012]), (27, [6012]), (35, [6085]), (48, [6148]), (57, [5175]), (72, [5175]), (78, [5175]), (88, [5175]), (94, [5175]), (104, [5175]), (115, [5175])],
  [(3, [6012]), (12, [6156]), (19, [5175]), (30, [5175]), (39, [5175]), (47, [7056]), (61, [6196]), (68, [6192]), (73, [6176])],
  [(5, [6160]), (18, [6140]), (25, [5175])],
  [(6, [5175]), (17, [6148]), (26, [6078]), (36, [5175]), (51, [5175]), (57, [5175]), (67, [5175]), (73, [5175]), (83, [5175]), (94, [5175])],
  [(4, [5175]), (14, [5175]), (19, [5175]), (30, [5175])],
  [(2, [5194]), (7, [6085]), (16, [6012]), (26, [5175]), (34, [5195]), (39, [5196]), (44, [5175]), (52, [5197]), (61, [7072]), (74, [7087]), (82, [7095])],
  [(1, [5195]), (5, [7076]), (14, [7079]), (21, [7083]), (26, [5195]), (36, [7079]), (41, [7083]), (45, [5196]), (52, [7083])],
  [],
  [(1, [5194]), (10, [5193]), (14, [5194]), (21, [5194]), (26, [5194])],
  [(2, [7079]), (7, [5196])],
  [(1, [5195]), (5, [7076]), (14, [7079]), (19, [7091]), (25, [5195]), (36, [7079]), (41, [7091]), (45, [5197]), (52, [7091])],
  [(2, [7079]), (7, [7072]), (11, [5197])],
  [(1, [5195]), (5, [7076]), (14, [7079]), (19, [7099]), (27, [5195]), (37, [7079]), (44, [7099]), (51, [7072]), (58, [7099])],
  [(2, [7079]), (7, [7087])],
  [(3, [5194]), (12, [5194]), (22, [6012]), (29, [5193])],
  [(2, [6085]), (12, [6012]), (21, [5175]), (30, [7076]), (37, [5175])],
  [(10, [5176]), (15, [5175]), (29, [5178]), (33, [5175])],
  [(1, [5178]), (20, [5175]), (25, [5176]), (38, [5175])],
  [(7, [5194]), (17, [6012]), (24, [5175])],
  [(0, [1028]), (4, [1030]), (8, [5169]), (12, [5171]), (194, [1223]), (203, [6008]), (212, [1231]), (216, [6015]), (240, [2224]), (259, [6074]), (278, [3115]), (292, [6081]), (316, [3163]), (335, [6089]), (359, [4010]), (378, [6116]), (397, [4018]), (411, [6124]), (438, [4022]), (460, [6128]), (479, [4030]), (493, [6132]), (502, [4037]), (506, [6136]), (525, [4043]), (539, [6144]), (558, [4140]), (572, [6180]), (586, [4148]), (595, [6184]), (609, [4160]), (618, [6200]), (637, [4167]), (651, [6208]), (675, [4171]), (694, [6212]), (713, [4180]), (727, [6224]), (741, [4208]), (750, [6236]), (764, [4220]), (773, [7004]), (792, [4235]), (806, [7012]), (825, [5011]), (839, [7016]), (858, [5029]), (872, [7028]), (881, [5033]), (885, [7032]), (909, [5037]), (928, [7036]), (943, [5045]), (952, [7044]), (972, [5049]), (986, [7048]), (1000, [5053]), (1009, [7052]), (1028, [5060]), (1042, [7060]), (1051, [5064]), (1055, [7064]), (1079, [5068]), (1098, [7068]), (1112, [5142]), (1121, [7103]), (1140, [5146]), (1154, [7107]), (1163, [5153]), (1167, [7111]), (1176, [5157]), (1180, [7115]), (1194, [5161]), (1203, [7119])],
  [(1, [1047]), (5, [1054]), (8, [1056])],
  [(1, [1057])],
  [(2, [1059, 1060]), (7, [1059, 1060]), (13, [1056]), (17, [1057]), (20, [2174])],
  [(7, [2178]), (19, [1057])],
  [(2, [1057]), (7, [2182])],
  [(1, [1056]), (11, [1056]), (14, [1054]), (33, [1056]), (41, [1056]), (49, [2221]), (52, [2222]), (56, [1056])],
  [(2, [1057]), (5, [3128]), (11, [3132])],
  [(1, [1056])],
  [(1, [1057])],
  [(2, [1059, 1060]), (7, [1059, 1060]), (11, [1056]), (16, [1057]), (23, [1057])],
  [(1, [1050]), (6, [1058])],
  [(1, [1053, 1034, 1035])],
  [],
  [],
  [],
  [],
  [(7, [2003, 2004, 2005, 2006, 2007]), (10, [2009]), (15, [1087]), (25, [2010]), (28, [2013, 2015, 2014, 1012])],
  [(1, [7157]), (6, [2040, 2042])],
  [(0, [2044]), (7, [7158])],
  [(1, [2050, 2052]), (8, [7157]), (12, [2054]), (17, [7157])],
  [(0, [2044]), (7, [7158])],
  [(2, [2060]), (5, [2062])],
  [(3, [2118, 2120])],
  [(1, [2050, 2052]), (8, [7157]), (14, [2122, 2038]), (17, [2123]), (24, [7157]), (30, [2122, 2038])],
  [(3, [2060]), (6, [2149])],
  [(3, [2057])],
  [(1, [2126]), (11, [2129]), (18, [2130]), (33, [2131])],
  [],
  [],
  [],
  [],
  [(3, [3131])],
  [(4, [3195]), (11, [3196]), (18, [3196]), (29, [3197])]]
def lkH : List (Nat × List Nat) → Nat → List Nat
  | [], _ => []
  | (p, i) :: l, q => if p = q then i else lkH l q
def hn (y pc : Nat) : List Nat := lkH ((hnT[y]?).getD []) pc
def tbL (k : Nat) : List Cond := match k with
  | 0 => k2_sels lw_privs
  | 1 => tables_1_1
  | 2 => tables_1_2
  | 3 => tables_1_3
  | 4 => tables_1_4
  | 5 => tables_1_5
  | 6 => tables_1_6
  | 7 => tables_1_7
  | _ => []
def tbW (i : Nat) : Option Cond := (tbL (i / 1000))[i % 1000]?
theorem tbL_sub (k : Nat) : ∀ w ∈ tbL k, w ∈ lw_tbl := by
  intro w h
  unfold lw_tbl tables_1
  simp only [List.mem_append]
  unfold tbL at h
  split at h <;> first | exact Or.inl h | exact Or.inr (Or.inl h) | exact Or.inr (Or.inr (Or.inl h)) | exact Or.inr (Or.inr (Or.inr (Or.inl h))) | exact Or.inr (Or.inr (Or.inr (Or.inr (Or.inl h)))) | exact Or.inr (Or.inr (Or.inr (Or.inr (Or.inr (Or.inl h))))) | exact Or.inr (Or.inr (Or.inr (Or.inr (Or.inr (Or.inr (Or.inl h)))))) | exact Or.inr (Or.inr (Or.inr (Or.inr (Or.inr (Or.inr (Or.inr h)))))) | exact absurd h List.not_mem_nil
def tb (i : Nat) (w : Cond) : Bool := decide (tbW i = some w) && goodWord w
theorem tb_in {i : Nat} {w : Cond} (h : tb i w = true) : w ∈ mT := by
  unfold tb tbW at h
  rw [Bool.and_eq_true, decide_eq_true_eq] at h
  exact List.mem_filter.mpr ⟨tbL_sub _ _ (List.mem_of_getElem? h.1), h.2⟩
def own (y : Nat) : String := (mn y).cls
/-- of a method: its code's place, its class's, 'static' or 'instance', which -/
def mhT : List (Nat × Nat × Nat × Nat) := [(1032, 1001, 1031, 0), (1226, 1001, 1224, 0), (1234, 1001, 1232, 0), (2090, 1001, 2089, 1), (2227, 1001, 2225, 0), (2231, 1001, 2230, 1), (2234, 1001, 2233, 1), (3118, 1001, 3116, 0), (3166, 1001, 3164, 0), (4013, 1001, 4011, 0), (4021, 1001, 4019, 0), (4025, 1001, 4023, 0), (4033, 1001, 4031, 0), (4036, 1001, 4035, 1), (4040, 1001, 4038, 0), (4046, 1001, 4044, 0), (4054, 1001, 4053, 0), (4143, 1001, 4141, 0), (4151, 1001, 4149, 0), (4163, 1001, 4161, 0), (4166, 1001, 4165, 1), (4170, 1001, 4168, 0), (4174, 1001, 4172, 0), (4183, 1001, 4181, 0), (4211, 1001, 4209, 0), (4223, 1001, 4221, 0), (4238, 1001, 4236, 0), (5014, 1001, 5012, 0), (5032, 1001, 5030, 0), (5036, 1001, 5034, 0), (5040, 1001, 5038, 0), (5044, 1001, 5043, 1), (5048, 1001, 5046, 0), (5052, 1001, 5050, 0), (5056, 1001, 5054, 0), (5063, 1001, 5061, 0), (5067, 1001, 5065, 0), (5071, 1001, 5069, 0), (5145, 1001, 5143, 0), (5149, 1001, 5147, 0), (5152, 1001, 5151, 1), (5156, 1001, 5154, 0), (5160, 1001, 5158, 0), (5164, 1001, 5162, 0), (1040, 1002, 1039, 0), (1230, 1002, 1228, 0), (3122, 1002, 3120, 0), (3162, 1002, 3160, 0), (3181, 1002, 3179, 0), (3211, 1002, 3209, 0), (3233, 1002, 3231, 0), (4029, 1002, 4027, 0), (4050, 1002, 4048, 0), (4058, 1002, 4056, 0), (4123, 1002, 4121, 0), (4127, 1002, 4126, 0), (4134, 1002, 4132, 0), (4155, 1002, 4153, 0), (4159, 1002, 4157, 0), (4178, 1002, 4176, 0), (4187, 1002, 4185, 0), (4191, 1002, 4190, 0), (4195, 1002, 4193, 0), (4201, 1002, 4200, 1), (4204, 1002, 4203, 1), (4207, 1002, 4206, 1), (4215, 1002, 4213, 0), (4218, 1002, 4217, 1), (4227, 1002, 4225, 0), (4231, 1002, 4229, 0), (5019, 1002, 5017, 0), (1092, 1008, 1091, 0), (2020, 1008, 2018, 0), (2024, 1008, 2023, 0), (2028, 1008, 2027, 0), (2035, 1008, 2034, 0), (2087, 1008, 2086, 0), (2095, 1008, 2094, 0), (2099, 1008, 2098, 0), (2103, 1008, 2102, 0), (2107, 1008, 2106, 0), (2113, 1008, 2112, 0), (3190, 1008, 3188, 0), (3202, 1008, 3201, 0), (3207, 1008, 3206, 0), (1072, 1006, 1071, 0), (4113, 1006, 4111, 0), (4117, 1006, 4115, 0), (5002, 1006, 5000, 0), (5006, 1006, 5004, 0), (5010, 1006, 5008, 0), (5024, 1006, 5022, 0), (5028, 1006, 5026, 0), (5168, 1006, 5166, 0), (1128, 1009, 1127, 0), (4106, 1009, 4104, 0), (4138, 1009, 4136, 0), (4147, 1009, 4145, 0), (3002, 1019, 3001, 0), (3158, 1019, 3137, 0), (3177, 1019, 3168, 0), (4009, 1019, 3216, 0), (4099, 1019, 4065, 0), (5092, 1019, 5073, 0), (5114, 1019, 5095, 0), (5140, 1019, 5117, 0), (2239, 1020, 2238, 0), (3145, 1020, 3144, 0), (3229, 1020, 3228, 0), (4075, 1020, 4074, 0), (5085, 1020, 5084, 0), (3059, 1021, 3058, 0), (3148, 1021, 3147, 0), (3224, 1021, 3223, 0), (4080, 1021, 4079, 0), (5100, 1021, 5099, 0), (3069, 1022, 3068, 0), (3154, 1022, 3153, 0), (4001, 1022, 4000, 0), (4090, 1022, 4089, 0), (5136, 1022, 5135, 0), (3079, 1023, 3078, 0), (3151, 1023, 3150, 0), (3237, 1023, 3236, 0), (4085, 1023, 4084, 0), (5125, 1023, 5124, 0), (3089, 1024, 3088, 0), (3142, 1024, 3141, 0), (3221, 1024, 3220, 0), (4070, 1024, 4069, 0), (5078, 1024, 5077, 0), (3099, 1025, 3098, 0), (3157, 1025, 3156, 0), (4004, 1025, 4003, 0), (4017, 1025, 4015, 0), (4095, 1025, 4094, 0), (5109, 1025, 5108, 0), (5173, 1011, 5172, 0), (6011, 1011, 6009, 0), (6014, 1011, 6013, 1), (6018, 1011, 6016, 0), (6022, 1011, 6021, 0), (6026, 1011, 6025, 0), (6031, 1011, 6030, 0), (6035, 1011, 6034, 0), (6041, 1011, 6040, 0), (6045, 1011, 6044, 0), (6050, 1011, 6049, 0), (6054, 1011, 6053, 0), (6058, 1011, 6057, 0), (6062, 1011, 6061, 0), (6066, 1011, 6065, 0), (6071, 1011, 6070, 0), (6077, 1011, 6075, 0), (6080, 1011, 6079, 1), (6084, 1011, 6082, 0), (6088, 1011, 6087, 0), (6092, 1011, 6090, 0), (6096, 1011, 6095, 0), (6100, 1011, 6099, 0), (6103, 1011, 6102, 1), (6107, 1011, 6106, 0), (6111, 1011, 6110, 0), (6115, 1011, 6114, 0), (6119, 1011, 6117, 0), (6123, 1011, 6122, 0), (6127, 1011, 6125, 0), (6131, 1011, 6129, 0), (6135, 1011, 6133, 0), (6139, 1011, 6137, 0), (6143, 1011, 6142, 0), (6147, 1011, 6145, 0), (6151, 1011, 6150, 0), (6155, 1011, 6154, 0), (6159, 1011, 6158, 0), (6163, 1011, 6162, 0), (6167, 1011, 6166, 0), (6171, 1011, 6170, 0), (6175, 1011, 6174, 0), (6179, 1011, 6178, 0), (6183, 1011, 6181, 0), (6187, 1011, 6185, 0), (6191, 1011, 6190, 0), (6195, 1011, 6194, 0), (6199, 1011, 6198, 0), (6203, 1011, 6201, 0), (6207, 1011, 6206, 0), (6211, 1011, 6209, 0), (6215, 1011, 6213, 0), (6219, 1011, 6218, 0), (6223, 1011, 6222, 0), (6227, 1011, 6225, 0), (6231, 1011, 6230, 0), (6235, 1011, 6234, 0), (6239, 1011, 6237, 0), (7003, 1011, 7002, 0), (7007, 1011, 7005, 0), (7011, 1011, 7010, 0), (7015, 1011, 7013, 0), (7019, 1011, 7017, 0), (7023, 1011, 7022, 0), (7027, 1011, 7026, 0), (7031, 1011, 7029, 0), (7035, 1011, 7033, 0), (7039, 1011, 7037, 0), (7043, 1011, 7042, 1), (7047, 1011, 7045, 0), (7051, 1011, 7049, 0), (7055, 1011, 7053, 0), (7059, 1011, 7058, 0), (7063, 1011, 7061, 0), (7067, 1011, 7065, 0), (7071, 1011, 7069, 0), (7075, 1011, 7074, 0), (7078, 1011, 7077, 1), (7082, 1011, 7081, 0), (7086, 1011, 7085, 0), (7090, 1011, 7089, 0), (7094, 1011, 7093, 0), (7098, 1011, 7097, 0), (7102, 1011, 7101, 0), (7106, 1011, 7104, 0), (7110, 1011, 7108, 0), (7114, 1011, 7112, 0), (7118, 1011, 7116, 0), (7122, 1011, 7120, 0), (0, 0, 0, 1), (1046, 1005, 1045, 0), (1238, 1005, 1236, 0), (2173, 1005, 2171, 0), (2177, 1005, 2176, 0), (2181, 1005, 2180, 0), (2185, 1005, 2184, 0), (3127, 1005, 3125, 0), (3135, 1005, 3133, 0), (3185, 1005, 3183, 0), (4062, 1005, 4060, 0), (1049, 1004, 1048, 0), (1052, 1003, 1051, 0), (1076, 1007, 1075, 1), (2012, 1007, 2011, 1), (4007, 1007, 4006, 1), (1152, 1010, 1151, 1), (2002, 1010, 2001, 1), (2039, 1013, 2037, 0), (2043, 1013, 2041, 0), (2049, 1013, 2047, 0), (2053, 1013, 2051, 0), (2059, 1013, 2058, 1), (2117, 1013, 2115, 0), (2121, 1013, 2119, 0), (2148, 1013, 2147, 1), (2056, 1014, 2055, 1), (2125, 1014, 2124, 1), (2128, 1014, 2127, 1), (2133, 1014, 2132, 1), (2064, 1015, 2063, 1), (2151, 1015, 2150, 1), (3130, 1026, 3129, 1), (3194, 1027, 3193, 1)]
def naT : List Nat := [0, 1, 0, 1, 3, 1, 4, 2, 3, 3, 2, 2, 2, 1, 0, 2, 1, 2, 1, 1, 1, 2, 3, 2, 1, 1, 2, 2, 2, 0, 3, 3, 1, 2, 1, 2, 0, 3, 1, 2, 2, 0, 0, 1, 0, 1, 1, 1, 0, 2, 1, 2, 1, 1, 1, 1, 1, 0, 0, 3, 1, 4, 0, 2, 1, 1, 1, 2, 0, 1, 1, 1, 0, 0, 0, 1, 0, 1, 1, 1, 1, 1, 3, 2, 1, 1, 1, 0, 0, 0, 2, 1, 1, 0, 0, 0, 3, 0, 3, 0, 1, 4, 0, 2, 2, 2, 3, 0, 4, 0, 2, 3, 0, 4, 0, 2, 3, 0, 4, 0, 2, 3, 0, 4, 0, 2, 3, 0, 4, 0, 2, 3, 0, 4, 2, 0, 2, 0, 1, 3, 0, 0, 0, 2, 1, 1, 0, 2, 0, 0, 0, 1, 1, 3, 1, 2, 1, 3, 2, 2, 1, 2, 2, 3, 3, 2, 2, 2, 2, 0, 1, 2, 1, 1, 0, 0, 1, 1, 1, 0, 2, 1, 0, 0, 0, 1, 1, 2, 3, 2, 1, 2, 4, 2, 1, 1, 1, 1, 2, 2, 4, 1, 2, 0, 3, 3, 1, 2, 1, 2, 2, 0, 3, 1, 2, 1, 1, 1, 1, 1, 1, 1, 2, 0, 0, 1, 1, 0, 0, 1, 3, 0, 1, 1, 1, 0, 0, 0, 0, 2, 2, 2, 2, 2, 0, 0, 1, 0, 2, 1, 2, 3, 2, 4, 1, 4, 3, 4, 2, 1]
def lawY : Nat := 226
def mN : Nat := 260
def nas (y : Nat) : Nat := naT.getD y 0
def isSt (y : Nat) : Bool := (mhT.getD y (0, 0, 0, 0)).2.2.2 == 1
def noMH (s : String) : Bool := decide (s ≠ "java/lang/invoke/MethodHandle") && decide (s ≠ "java/lang/invoke/VarHandle")
def prm (d : String) (n : Nat) : Bool := decide ((parseMethodDescriptor d).map (fun d => d.parameters.length) = some n)
def ckM (y : Nat) : Bool := match mhT.getD y (0, 0, 0, 0) with
  | (a, b, c, k) => tb a (codeW y) && tb b (.initialized (mn y).cls) && (if k = 1 then tb c (.static (mn y)) else tb c (.instanceMethod (mn y))) && plainFor (mn y) && noMH (mn y).cls && prm (mn y).desc (nas y) && decide (ml y ≤ 45)

theorem ckM_0 : (List.range 20).all (fun i => decide (0 + i = lawY) || ckM (0 + i)) = true := by decide +kernel
theorem ckM_1 : (List.range 20).all (fun i => decide (20 + i = lawY) || ckM (20 + i)) = true := by decide +kernel
theorem ckM_2 : (List.range 20).all (fun i => decide (40 + i = lawY) || ckM (40 + i)) = true := by decide +kernel
theorem ckM_3 : (List.range 20).all (fun i => decide (60 + i = lawY) || ckM (60 + i)) = true := by decide +kernel
theorem ckM_4 : (List.range 20).all (fun i => decide (80 + i = lawY) || ckM (80 + i)) = true := by decide +kernel
theorem ckM_5 : (List.range 20).all (fun i => decide (100 + i = lawY) || ckM (100 + i)) = true := by decide +kernel
theorem ckM_6 : (List.range 20).all (fun i => decide (120 + i = lawY) || ckM (120 + i)) = true := by decide +kernel
theorem ckM_7 : (List.range 20).all (fun i => decide (140 + i = lawY) || ckM (140 + i)) = true := by decide +kernel
theorem ckM_8 : (List.range 20).all (fun i => decide (160 + i = lawY) || ckM (160 + i)) = true := by decide +kernel
theorem ckM_9 : (List.range 20).all (fun i => decide (180 + i = lawY) || ckM (180 + i)) = true := by decide +kernel
theorem ckM_10 : (List.range 20).all (fun i => decide (200 + i = lawY) || ckM (200 + i)) = true := by decide +kernel
theorem ckM_11 : (List.range 20).all (fun i => decide (220 + i = lawY) || ckM (220 + i)) = true := by decide +kernel
theorem ckM_12 : (List.range 20).all (fun i => decide (240 + i = lawY) || ckM (240 + i)) = true := by decide +kernel
theorem ckM_all {y : Nat} (h : y < mN) (hl : y ≠ lawY) : ckM y = true := by
  unfold mN at h
  by_cases h0 : y < 20
  · have z := List.all_eq_true.mp ckM_0 (y - 0) (List.mem_range.mpr (by omega))
    rw [show 0 + (y - 0) = y by omega, Bool.or_eq_true, decide_eq_true_eq] at z
    exact z.resolve_left hl
  by_cases h20 : y < 40
  · have z := List.all_eq_true.mp ckM_1 (y - 20) (List.mem_range.mpr (by omega))
    rw [show 20 + (y - 20) = y by omega, Bool.or_eq_true, decide_eq_true_eq] at z
    exact z.resolve_left hl
  by_cases h40 : y < 60
  · have z := List.all_eq_true.mp ckM_2 (y - 40) (List.mem_range.mpr (by omega))
    rw [show 40 + (y - 40) = y by omega, Bool.or_eq_true, decide_eq_true_eq] at z
    exact z.resolve_left hl
  by_cases h60 : y < 80
  · have z := List.all_eq_true.mp ckM_3 (y - 60) (List.mem_range.mpr (by omega))
    rw [show 60 + (y - 60) = y by omega, Bool.or_eq_true, decide_eq_true_eq] at z
    exact z.resolve_left hl
  by_cases h80 : y < 100
  · have z := List.all_eq_true.mp ckM_4 (y - 80) (List.mem_range.mpr (by omega))
    rw [show 80 + (y - 80) = y by omega, Bool.or_eq_true, decide_eq_true_eq] at z
    exact z.resolve_left hl
  by_cases h100 : y < 120
  · have z := List.all_eq_true.mp ckM_5 (y - 100) (List.mem_range.mpr (by omega))
    rw [show 100 + (y - 100) = y by omega, Bool.or_eq_true, decide_eq_true_eq] at z
    exact z.resolve_left hl
  by_cases h120 : y < 140
  · have z := List.all_eq_true.mp ckM_6 (y - 120) (List.mem_range.mpr (by omega))
    rw [show 120 + (y - 120) = y by omega, Bool.or_eq_true, decide_eq_true_eq] at z
    exact z.resolve_left hl
  by_cases h140 : y < 160
  · have z := List.all_eq_true.mp ckM_7 (y - 140) (List.mem_range.mpr (by omega))
    rw [show 140 + (y - 140) = y by omega, Bool.or_eq_true, decide_eq_true_eq] at z
    exact z.resolve_left hl
  by_cases h160 : y < 180
  · have z := List.all_eq_true.mp ckM_8 (y - 160) (List.mem_range.mpr (by omega))
    rw [show 160 + (y - 160) = y by omega, Bool.or_eq_true, decide_eq_true_eq] at z
    exact z.resolve_left hl
  by_cases h180 : y < 200
  · have z := List.all_eq_true.mp ckM_9 (y - 180) (List.mem_range.mpr (by omega))
    rw [show 180 + (y - 180) = y by omega, Bool.or_eq_true, decide_eq_true_eq] at z
    exact z.resolve_left hl
  by_cases h200 : y < 220
  · have z := List.all_eq_true.mp ckM_10 (y - 200) (List.mem_range.mpr (by omega))
    rw [show 200 + (y - 200) = y by omega, Bool.or_eq_true, decide_eq_true_eq] at z
    exact z.resolve_left hl
  by_cases h220 : y < 240
  · have z := List.all_eq_true.mp ckM_11 (y - 220) (List.mem_range.mpr (by omega))
    rw [show 220 + (y - 220) = y by omega, Bool.or_eq_true, decide_eq_true_eq] at z
    exact z.resolve_left hl
  by_cases h240 : y < 260
  · have z := List.all_eq_true.mp ckM_12 (y - 240) (List.mem_range.mpr (by omega))
    rw [show 240 + (y - 240) = y by omega, Bool.or_eq_true, decide_eq_true_eq] at z
    exact z.resolve_left hl
  omega
def xns : List MethodName := [
  ⟨"AuntsInTurn$World", "writes", "(I)I"⟩,
  ⟨"java/util/ArrayList", "size", "()I"⟩,
  ⟨"AuntsInTurn$Valley", "fault", "()I"⟩,
  ⟨"java/util/ArrayList", "add", "(Ljava/lang/Object;)Z"⟩,
  ⟨"AuntsInTurn$World", "hasAunt", "(I)Z"⟩,
  ⟨"java/util/ArrayList", "get", "(I)Ljava/lang/Object;"⟩,
  ⟨"AuntsInTurn$Aunt", "kind", "()I"⟩,
  ⟨"AuntsInTurn$World", "isAway", "(I)Z"⟩,
  ⟨"AuntsInTurn$Aunt", "left", "(I)I"⟩,
  ⟨"AuntsInTurn$World", "holding", "()LAuntsInTurn$Valley;"⟩,
  ⟨"AuntsInTurn$Valley", "mouth", "(LAuntsInTurn$Aunt;II)I"⟩,
  ⟨"AuntsInTurn$World", "speech", "(LAuntsInTurn$Aunt;I)I"⟩,
  ⟨"AuntsInTurn$Told", "write", "(II)I"⟩,
  ⟨"AuntsInTurn$World", "setAway", "(IZ)V"⟩,
  ⟨"AuntsInTurn$World", "hasAsker", "(I)Z"⟩,
  ⟨"AuntsInTurn", "comes", "(I)I"⟩,
  ⟨"AuntsInTurn$World", "take", "(LAuntsInTurn$World;)V"⟩,
  ⟨"AuntsInTurn$World", "daysGo", "(I)V"⟩,
  ⟨"AuntsInTurn$Asker", "startAnew", "()V"⟩,
  ⟨"AuntsInTurn$World", "howManyThrough", "()I"⟩,
  ⟨"AuntsInTurn$World", "howManyBack", "()I"⟩,
  ⟨"AuntsInTurn$World", "climbs", "(ZII)LAuntsInTurn$Asker;"⟩,
  ⟨"AuntsInTurn$World", "bestOrder", "(I)I"⟩,
  ⟨"AuntsInTurn$World", "fewestToHush", "(I)I"⟩,
  ⟨"AuntsInTurn$World", "fewestWhoKnowAll", "()I"⟩,
  ⟨"AuntsInTurn$World", "allAunts", "()I"⟩,
  ⟨"AuntsInTurn$World", "knownTogether", "(I)I"⟩,
  ⟨"AuntsInTurn$Rows", "clear", "()I"⟩,
  ⟨"AuntsInTurn$Rows", "isFull", "()Z"⟩,
  ⟨"AuntsInTurn$Rows", "put", "(II)I"⟩,
  ⟨"AuntsInTurn$Aunt", "twin", "()LAuntsInTurn$Aunt;"⟩,
  ⟨"AuntsInTurn$World", "fitsSaid", "(LAuntsInTurn$Aunt;)Z"⟩,
  ⟨"AuntsInTurn$Rows", "kept", "()I"⟩,
  ⟨"AuntsInTurn$Rows", "first", "(I)I"⟩,
  ⟨"AuntsInTurn$Rows", "second", "(I)I"⟩,
  ⟨"AuntsInTurn$Aunt", "rings", "(LAuntsInTurn$Rows;I)I"⟩,
  ⟨"AuntsInTurn$Aunt", "asks", "(LAuntsInTurn$Rows;I)I"⟩,
  ⟨"AuntsInTurn$Aunt", "warns", "(LAuntsInTurn$Rows;I)I"⟩,
  ⟨"AuntsInTurn$Rows", "came", "()I"⟩,
  ⟨"java/util/ArrayList", "isEmpty", "()Z"⟩,
  ⟨"AuntsInTurn$Aunt", "picks", "(LAuntsInTurn$World;III)I"⟩,
  ⟨"java/util/ArrayList", "clear", "()V"⟩,
  ⟨"AuntsInTurn$Asker", "twin", "()LAuntsInTurn$Asker;"⟩,
  ⟨"AuntsInTurn$Rows", "take", "(LAuntsInTurn$Rows;)V"⟩,
  ⟨"AuntsInTurn$World", "visit", "(LAuntsInTurn$Asker;)V"⟩,
  ⟨"AuntsInTurn$World", "weightOf", "(I)I"⟩,
  ⟨"AuntsInTurn$Asker", "hears", "(III)V"⟩,
  ⟨"AuntsInTurn$World", "bestFrom", "(IIII)I"⟩,
  ⟨"AuntsInTurn$Valley", "clause", "()Z"⟩,
  ⟨"AuntsInTurn$Valley", "here", "()I"⟩,
  ⟨"AuntsInTurn$Valley", "word", "(Ljava/lang/String;)Z"⟩,
  ⟨"AuntsInTurn$Valley", "number", "()I"⟩,
  ⟨"AuntsInTurn$Valley", "either", "(I)Z"⟩,
  ⟨"AuntsInTurn$Valley", "both", "(I)Z"⟩,
  ⟨"AuntsInTurn$Valley", "put", "(I)Z"⟩,
  ⟨"AuntsInTurn$Valley", "single", "(I)Z"⟩,
  ⟨"AuntsInTurn$Valley", "oneOf", "(Ljava/lang/String;)I"⟩,
  ⟨"AuntsInTurn$Valley", "holds", "(II)Z"⟩,
  ⟨"AuntsInTurn$Valley", "passes", "(I)Z"⟩,
  ⟨"AuntsInTurn$World", "heaviest", "(I)I"⟩,
  ⟨"AuntsInTurn$Pious", "rings", "(LAuntsInTurn$Rows;I)I"⟩,
  ⟨"AuntsInTurnModel", "clauseHere", "()V"⟩,
  ⟨"AuntsInTurnModel", "here", "()I"⟩,
  ⟨"AuntsInTurnModel", "tellsHere", "(ILjava/lang/String;)V"⟩,
  ⟨"AuntsInTurnModel", "much", "(ILjava/lang/String;)V"⟩,
  ⟨"AuntsInTurnModel", "spells", "(Ljava/lang/String;)V"⟩,
  ⟨"AuntsInTurnModel", "figures", "()I"⟩,
  ⟨"AuntsInTurnModel", "must", "(I)V"⟩,
  ⟨"AuntsInTurnModel", "some", "()V"⟩,
  ⟨"AuntsInTurnModel", "emits", "(I)V"⟩,
  ⟨"AuntsInTurnModel", "every", "()V"⟩,
  ⟨"AuntsInTurnModel", "factor", "()V"⟩,
  ⟨"AuntsInTurnModel", "among", "(Ljava/lang/String;)I"⟩,
  ⟨"AuntsInTurnModel", "isAunt", "(I)Z"⟩,
  ⟨"AuntsInTurnModel", "leftOf", "(II)I"⟩,
  ⟨"AuntsInTurnModel", "mouthOf", "(II)I"⟩,
  ⟨"AuntsInTurnModel", "saysOf", "(II)I"⟩,
  ⟨"AuntsInTurnModel", "tellsOf", "(II)I"⟩,
  ⟨"AuntsInTurnModel", "chosen", "(III)I"⟩,
  ⟨"AuntsInTurnModel", "becomes", "(II)I"⟩,
  ⟨"AuntsInTurnModel", "beginsAnew", "(I)V"⟩,
  ⟨"AuntsInTurnModel", "isAsker", "(I)Z"⟩,
  ⟨"AuntsInTurnModel", "comes", "(I)I"⟩,
  ⟨"AuntsInTurnModel", "keeps", "()V"⟩,
  ⟨"AuntsInTurnModel", "goes", "()V"⟩,
  ⟨"AuntsInTurnModel", "goesBack", "()V"⟩,
  ⟨"AuntsInTurnModel", "isThrough", "(I)Z"⟩,
  ⟨"AuntsInTurnModel", "meets", "(I)V"⟩,
  ⟨"AuntsInTurnModel", "weightOf", "(I)I"⟩,
  ⟨"AuntsInTurnModel", "awayOnes", "()I"⟩,
  ⟨"AuntsInTurnModel", "manyThrough", "()I"⟩,
  ⟨"AuntsInTurnModel", "manyBack", "()I"⟩,
  ⟨"AuntsInTurnModel", "goesOn", "(I)V"⟩,
  ⟨"AuntsInTurnModel", "climbs", "(II)V"⟩,
  ⟨"AuntsInTurnModel", "comesTo", "(I)V"⟩,
  ⟨"AuntsInTurnModel", "ordersFrom", "(IIII)V"⟩,
  ⟨"AuntsInTurnModel", "keepsOrder", "(II)V"⟩,
  ⟨"AuntsInTurnModel", "sends", "(I)V"⟩,
  ⟨"AuntsInTurnModel", "knownBy", "(I)I"⟩,
  ⟨"AuntsInTurnModel", "fitting", "(IIII)I"⟩,
  ⟨"AuntsInTurnModel", "isAsSaid", "(I)Z"⟩,
  ⟨"AuntsInTurnModel", "goesBy", "(II)V"⟩,
  ⟨"AuntsInTurnModel", "ringsActs", "(I)I"⟩,
  ⟨"AuntsInTurnModel", "asksActs", "(I)I"⟩,
  ⟨"AuntsInTurnModel", "warnsActs", "(I)I"⟩,
  ⟨"AuntsInTurnModel", "ranBody", "(I)V"⟩,
  ⟨"AuntsInTurnModel", "plainRings", "(I)I"⟩,
  ⟨"AuntsInTurnModel", "plainAsks", "(I)I"⟩,
  ⟨"AuntsInTurnModel", "plainTelling", "(I)I"⟩,
  ⟨"AuntsInTurn", "feed", "(I)I"⟩,
  ⟨"AuntsInTurnModel", "feed", "(I)I"⟩,
  ⟨"AuntsInTurn", "valley", "()I"⟩,
  ⟨"AuntsInTurnModel", "valley", "()I"⟩,
  ⟨"AuntsInTurn", "aunt", "(III)I"⟩,
  ⟨"AuntsInTurnModel", "aunt", "(III)I"⟩,
  ⟨"AuntsInTurn", "of", "(II)I"⟩,
  ⟨"AuntsInTurnModel", "of", "(II)I"⟩,
  ⟨"AuntsInTurn", "says", "(III)I"⟩,
  ⟨"AuntsInTurnModel", "says", "(III)I"⟩,
  ⟨"AuntsInTurn", "row", "(III)I"⟩,
  ⟨"AuntsInTurnModel", "row", "(III)I"⟩,
  ⟨"AuntsInTurn", "learn", "(II)I"⟩,
  ⟨"AuntsInTurnModel", "learn", "(II)I"⟩,
  ⟨"AuntsInTurn", "away", "(IZ)I"⟩,
  ⟨"AuntsInTurnModel", "away", "(IZ)I"⟩,
  ⟨"AuntsInTurn", "weigh", "(II)I"⟩,
  ⟨"AuntsInTurnModel", "weigh", "(II)I"⟩,
  ⟨"AuntsInTurn", "asker", "()I"⟩,
  ⟨"AuntsInTurnModel", "asker", "()I"⟩,
  ⟨"AuntsInTurn", "at", "(II)I"⟩,
  ⟨"AuntsInTurnModel", "at", "(II)I"⟩,
  ⟨"AuntsInTurn", "begin", "(II)I"⟩,
  ⟨"AuntsInTurnModel", "begin", "(II)I"⟩,
  ⟨"AuntsInTurn", "told", "(I)I"⟩,
  ⟨"AuntsInTurnModel", "told", "(I)I"⟩,
  ⟨"AuntsInTurn", "pass", "(I)I"⟩,
  ⟨"AuntsInTurnModel", "pass", "(I)I"⟩,
  ⟨"AuntsInTurn", "on", "(II)I"⟩,
  ⟨"AuntsInTurnModel", "on", "(II)I"⟩,
  ⟨"AuntsInTurn", "climb", "(III)I"⟩,
  ⟨"AuntsInTurnModel", "climb", "(III)I"⟩,
  ⟨"AuntsInTurn", "order", "(II)I"⟩,
  ⟨"AuntsInTurnModel", "order", "(II)I"⟩,
  ⟨"AuntsInTurn", "hush", "(I)I"⟩,
  ⟨"AuntsInTurnModel", "hush", "(I)I"⟩,
  ⟨"AuntsInTurn", "whole", "(I)I"⟩,
  ⟨"AuntsInTurnModel", "whole", "(I)I"⟩,
  ⟨"AuntsInTurn", "say", "(II)I"⟩,
  ⟨"AuntsInTurnModel", "say", "(II)I"⟩,
  ⟨"AuntsInTurn", "knew", "(II)I"⟩,
  ⟨"AuntsInTurnModel", "knew", "(II)I"⟩,
  ⟨"AuntsInTurn", "firm", "(II)I"⟩,
  ⟨"AuntsInTurnModel", "firm", "(II)I"⟩,
  ⟨"AuntsInTurn", "who", "()I"⟩,
  ⟨"AuntsInTurnModel", "who", "()I"⟩,
  ⟨"AuntsInTurn", "odds", "(III)J"⟩,
  ⟨"AuntsInTurnModel", "odds", "(III)J"⟩,
  ⟨"AuntsInTurn", "mean", "(I)J"⟩,
  ⟨"AuntsInTurnModel", "mean", "(I)J"⟩,
  ⟨"AuntsInTurn", "plan", "(II)I"⟩,
  ⟨"AuntsInTurnModel", "plan", "(II)I"⟩,
  ⟨"AuntsInTurn", "done", "(I)I"⟩,
  ⟨"AuntsInTurnModel", "done", "(I)I"⟩,
  ⟨"AuntsInTurn", "book", "(II)I"⟩,
  ⟨"AuntsInTurnModel", "book", "(II)I"⟩,
  ⟨"AuntsInTurn", "looked", "()I"⟩,
  ⟨"AuntsInTurnModel", "looked", "()I"⟩,
  ⟨"AuntsInTurn", "act", "(III)I"⟩,
  ⟨"AuntsInTurnModel", "act", "(III)I"⟩,
  ⟨"AuntsInTurn", "trace", "(I)I"⟩,
  ⟨"AuntsInTurnModel", "trace", "(I)I"⟩,
  ⟨"AuntsInTurn", "as", "(II)I"⟩,
  ⟨"AuntsInTurnModel", "as", "(II)I"⟩,
  ⟨"AuntsInTurn", "image", "()I"⟩,
  ⟨"AuntsInTurnModel", "image", "()I"⟩,
  ⟨"AuntsInTurn", "undo", "()I"⟩,
  ⟨"AuntsInTurnModel", "undo", "()I"⟩,
  ⟨"AuntsInTurn", "count", "(I)I"⟩,
  ⟨"AuntsInTurnModel", "count", "(I)I"⟩,
  ⟨"java/util/ArrayList", "add", "(Ljava/lang/Object;[Ljava/lang/Object;I)V"⟩,
  ⟨"java/util/ArrayList", "grow", "()[Ljava/lang/Object;"⟩,
  ⟨"java/util/ArrayList", "grow", "(I)[Ljava/lang/Object;"⟩,
  ⟨"java/util/ArrayList", "elementData", "(I)Ljava/lang/Object;"⟩]
def xsT : List (List Nat) := [[1229], [1237], [2019], [2172], [3121], [3126], [3138, 3140, 3143, 3146, 3149, 3152, 3155], [3161], [3169, 3171, 3172, 3173, 3174, 3175, 3176], [3180], [3189], [3210], [4016], [4028], [4049], [14], [4057], [4122], [4146], [4154], [4158], [4177], [4186], [4214], [4226], [4194], [4230], [5001], [5005], [5009], [4066, 4068, 4073, 4078, 4083, 4088, 4093], [5018], [4116], [5023], [5027], [5074, 5076, 5083, 5088, 5089, 5090, 5091], [5096, 5098, 5103, 5104, 5105, 5106, 5107], [5118, 5120, 5121, 5122, 5123, 5134, 5139], [5167], [3184], [3217, 3219, 3227, 3234, 3235, 3239, 4002], [4061], [4105], [4112], [15], [4133], [4137], [16], [0], [1], [2], [3], [4], [5], [7], [6], [8], [12], [13], [3232], [5133], [17], [18], [19], [23], [20], [22], [21], [24], [27], [25], [26], [28], [29], [30], [31], [33], [32], [34], [35], [36], [37], [38], [39], [40], [44], [41], [42], [43], [45], [46], [47], [48], [49], [50], [51], [52], [53], [54], [55], [56], [57], [58], [61], [63], [59], [60], [62], [64], [1225], [6010], [1233], [6017], [2226], [6076], [3117], [6083], [3165], [6091], [4012], [6118], [4020], [6126], [4024], [6130], [4032], [6134], [4039], [6138], [4045], [6146], [4142], [6182], [4150], [6186], [4162], [6202], [4169], [6210], [4173], [6214], [4182], [6226], [4210], [6238], [4222], [7006], [4237], [7014], [5013], [7018], [5031], [7030], [5035], [7034], [5039], [7038], [5047], [7046], [5051], [7050], [5055], [7054], [5062], [7062], [5066], [7066], [5070], [7070], [5144], [7105], [5148], [7109], [5155], [7113], [5159], [7117], [5163], [7121], [9], [10], [11], [3134]]
def xmT : List (Nat × Nat) := [(0, 0), (0, 0), (0, 0), (0, 0), (0, 0), (0, 0), (3139, 99), (0, 0), (0, 0), (0, 0), (0, 0), (0, 0), (0, 0), (0, 0), (0, 0), (0, 0), (0, 0), (0, 0), (0, 0), (0, 0), (0, 0), (0, 0), (0, 0), (0, 0), (0, 0), (0, 0), (0, 0), (0, 0), (0, 0), (0, 0), (4067, 102), (0, 0), (0, 0), (0, 0), (0, 0), (5075, 103), (5097, 104), (5119, 105), (0, 0), (0, 0), (3218, 101), (0, 0), (0, 0), (0, 0), (0, 0), (0, 0), (0, 0), (0, 0), (0, 0), (0, 0), (0, 0), (0, 0), (0, 0), (0, 0), (0, 0), (0, 0), (0, 0), (0, 0), (0, 0), (0, 0), (5131, 110), (0, 0), (0, 0), (0, 0), (0, 0), (0, 0), (0, 0), (0, 0), (0, 0), (0, 0), (0, 0), (0, 0), (0, 0), (0, 0), (0, 0), (0, 0), (0, 0), (0, 0), (0, 0), (0, 0), (0, 0), (0, 0), (0, 0), (0, 0), (0, 0), (0, 0), (0, 0), (0, 0), (0, 0), (0, 0), (0, 0), (0, 0), (0, 0), (0, 0), (0, 0), (0, 0), (0, 0), (0, 0), (0, 0), (0, 0), (0, 0), (0, 0), (0, 0), (0, 0), (0, 0), (0, 0), (0, 0), (0, 0), (0, 0), (0, 0), (0, 0), (0, 0), (0, 0), (0, 0), (0, 0), (0, 0), (0, 0), (0, 0), (0, 0), (0, 0), (0, 0), (0, 0), (0, 0), (0, 0), (0, 0), (0, 0), (0, 0), (0, 0), (0, 0), (0, 0), (0, 0), (0, 0), (0, 0), (0, 0), (0, 0), (0, 0), (0, 0), (0, 0), (0, 0), (0, 0), (0, 0), (0, 0), (0, 0), (0, 0), (0, 0), (0, 0), (0, 0), (0, 0), (0, 0), (0, 0), (0, 0), (0, 0), (0, 0), (0, 0), (0, 0), (0, 0), (0, 0), (0, 0), (0, 0), (0, 0), (0, 0), (0, 0), (0, 0), (0, 0), (0, 0), (0, 0), (0, 0), (0, 0), (0, 0), (0, 0), (0, 0), (0, 0), (0, 0), (0, 0), (0, 0), (0, 0), (0, 0), (0, 0), (0, 0), (0, 0), (0, 0), (0, 0), (0, 0)]
def xn (x : Nat) : MethodName := xns.getD x ⟨"", "", ""⟩
def ckS (x n t y i : Nat) : Bool := decide (t < 14) && decide (y < mN) && decide (y ≠ lawY) && !isSt y && decide (nas y = n) && tb i (.selects (cN t) (xn x) (mn y)) &&
  (decide (xn x = mn y) || (match xmT.getD x (0, 0) with
    | (j, z) => tb j (.sameMethod (xn x).cls (mn z).cls (xn x).name (xn x).desc) && decide ((⟨(mn z).cls, (xn x).name, (xn x).desc⟩ : MethodName) = mn z) && decide (z < mN) && decide (z ≠ lawY) && !isSt z))
def ckX (x n : Nat) : Bool := prm (xn x).desc n && (((vselT[x]?).getD []).zip (xsT.getD x [])).all (fun q => ckS x n q.1.1 q.1.2 q.2) && decide (((vselT[x]?).getD []).length ≤ (xsT.getD x []).length)
def rInt (v : Int) : Bool := decide (-2147483648 ≤ v) && decide (v < 2147483648)
def rLong (v : Int) : Bool := decide (-9223372036854775808 ≤ v) && decide (v < 9223372036854775808)
def ckF (own' : String) (ini : Bool) (put : Bool) (y ix k w ty : Nat) (h : List Nat) : Bool := match tbW (h.getD 0 0) with
  | some (.fieldLink o2 i2 ref name desc) => decide (o2 = own y) && decide (i2 = ix) && tb (h.getD 0 0) (.fieldLink o2 i2 ref name desc) &&
    (List.range 14).all (fun t => !okSet w t || (decide (k < cL t) && decide ((cT t k).2.1 = name) && decide ((cT t k).2.2.1 = desc) && (decide ((cT t k).1 = ref) || tb (h.getD 1 0) (.sameField ref (cT t k).1 name desc)) && (!put || ((decide ((cT t k).2.2.2 = false) || (ini && decide ((cT t k).1 = own')))
      && ((decide (ty = 0) && decide (desc = "I")) || (decide (ty = 1) && decide (desc = "Z")) || (decide (ty = 2) && (match parseFieldDescriptor desc with
        | some ft => ft.isReference
        | none => false)))))))
  | _ => false
def ckI (y pc : Nat) (ins : Instr) (v : Int) (o h : List Nat) : Bool := match ins with
  | .ifCond _ f => decide (0 ≤ (pc : Int) + f)
  | .if_icmp _ f => decide (0 ≤ (pc : Int) + f)
  | .ifnull f => decide (0 ≤ (pc : Int) + f)
  | .ifnonnull f => decide (0 ≤ (pc : Int) + f)
  | .if_acmp _ f => decide (0 ≤ (pc : Int) + f)
  | .goto f => decide (0 ≤ (pc : Int) + f)
  | .tableswitch d lo hi fs => decide (0 ≤ (pc : Int) + d) && decide (hi - lo + 1 = fs.size) && fs.toList.all (fun x => decide (0 ≤ (pc : Int) + x))
  | .lookupswitch d ps => (ps.toList.zip (ps.toList.drop 1)).all (fun (a, next) => a.1 < next.1) && decide (0 ≤ (pc : Int) + d) && ps.toList.all (fun q => decide (0 ≤ (pc : Int) + q.2))
  | .ldc ix => match o with
    | [] => rInt v && tb (h.getD 0 0) (.constant (own y) ix (Int32.ofInt v))
    | k :: _ => strT.any (fun q => decide (q.1 = own y) && decide (q.2.1 = ix) && decide (q.2.2.2 = k))
  | .ldc_w ix => rInt v && tb (h.getD 0 0) (.constant (own y) ix (Int32.ofInt v))
  | .ldc2_w ix => rLong v && tb (h.getD 0 0) (.constantLong (own y) ix (Int64.ofInt v))
  | .getfield ix => match o with
    | [k] => (match tbW (h.getD 0 0) with
      | some (.fieldLink o2 i2 ref name desc) => decide (o2 = own y) && decide (i2 = ix) && tb (h.getD 0 0) (.fieldLink o2 i2 ref name desc) && decide (ref = "java/lang/String") && ((decide (k = 0) && decide (name = "value") && decide (desc = "[B")) || (decide (k = 1) && decide (name = "coder") && decide (desc = "B")))
      | _ => false)
    | _ => ckF (own y) false false y ix (nOp o 0) (nOp o 1) 0 h
  | .putfield ix => ckF (own y) (decide ((mn y).name = "<init>")) true y ix (nOp o 0) (nOp o 1) (nOp o 2) h
  | .getstatic ix => match o with
    | [] => decide (v = 1) && tb (h.getD 0 0) (.fieldLink (own y) ix "java/lang/String" "COMPACT_STRINGS" "Z")
    | [k] => decide (k = GE) && tb (h.getD 0 0) (.fieldLink (own y) ix "java/util/ArrayList" "DEFAULTCAPACITY_EMPTY_ELEMENTDATA" "[Ljava/lang/Object;")
    | _ => tb (h.getD 0 0) (.fieldLink (own y) ix "jdk/internal/util/Preconditions" "SIOOBE_FORMATTER" "Ljava/util/function/BiFunction;")
  | .new ix => decide (nOp o 0 < 14) && tb (h.getD 0 0) (.classLink (own y) ix (cN (nOp o 0)))
  | .newarray .int => tb (h.getD 0 0) (.arrayClass .int)
  | .newarray .boolean => tb (h.getD 0 0) (.arrayClass .boolean)
  | .anewarray ix => tb (h.getD 0 0) (.classLink (own y) ix "java/lang/Object")
  | .checkcast ix => match o with
    | [] => tb (h.getD 0 0) (.classLink (own y) ix "[I")
    | w :: _ => match tbW (h.getD 0 0) with
      | some (.classLink o2 i2 nm) => decide (o2 = own y) && decide (i2 = ix) && tb (h.getD 0 0) (.classLink o2 i2 nm) && (List.range 14).all (fun t => !okSet w t || decide (cN t = nm) || decide ((cN t, nm) ∈ caT))
      | _ => false
  | .instanceof ix => match tbW (h.getD 0 0) with
    | some (.classLink o2 i2 nm) => decide (o2 = own y) && decide (i2 = ix) && tb (h.getD 0 0) (.classLink o2 i2 nm) && (List.range 14).all (fun t => !auntT t || (if okSet (nOp o 0) t then (decide (cN t = nm) || decide ((cN t, nm) ∈ caT)) else decide ((cN t, nm) ∈ ncT)))
    | _ => false
  | .invokevirtual ix => match o with
    | [] => tb (h.getD 0 0) (.methodLink (own y) ix ⟨"[I", "clone", "()Ljava/lang/Object;"⟩) && tb (h.getD 1 0) (.sameMethod "[I" "java/lang/Object" "clone" "()Ljava/lang/Object;") && tb (h.getD 2 0) (.native ⟨"java/lang/Object", "clone", "()Ljava/lang/Object;"⟩) && tb (h.getD 3 0) (.instanceMethod ⟨"java/lang/Object", "clone", "()Ljava/lang/Object;"⟩) && tb (h.getD 4 0) (.selects "[I" ⟨"[I", "clone", "()Ljava/lang/Object;"⟩ ⟨"java/lang/Object", "clone", "()Ljava/lang/Object;"⟩)
    | x :: l => (match l with
      | [n] => tb (h.getD 0 0) (.methodLink (own y) ix (xn x)) && ckX x n
      | _ => decide (x < mN) && decide (x ≠ lawY) && !isSt x && decide (nOp l 0 = nas x) && tb (h.getD 0 0) (.methodLink (own y) ix (mn x)) && tb (h.getD 1 0) (.selects "java/lang/String" (mn x) (mn x)))
  | .invokestatic ix => match o with
    | [] => tb (h.getD 0 0) (.methodLink (own y) ix arraycopyName) && tb (h.getD 1 0) (.native arraycopyName) && tb (h.getD 2 0) (.static arraycopyName) && tb (h.getD 3 0) (.initialized "java/lang/System")
    | z :: l => decide (z < mN) && decide (z ≠ lawY) && isSt z && decide (nOp l 0 = nas z) && (tb (h.getD 0 0) (.methodLink (own y) ix (mn z)) || neT.any (fun q => decide (q.1 = own y) && decide (q.2.1 = ix) && decide (q.2.2.1 = mn z)))
  | .invokespecial ix => match o with
    | [] => tb (h.getD 0 0) (.methodLink (own y) ix Lib.objectInit) && tb (h.getD 1 0) (.instanceMethod Lib.objectInit) && tb (h.getD 2 0) (.code Lib.objectInit ⟨#[0xb1]⟩ 1 none)
    | z :: l => decide (z < mN) && decide (z ≠ lawY) && !isSt z && decide (nOp l 0 = nas z) && (if (mn z).name = "<init>" then decide (mr z = none) && (tb (h.getD 0 0) (.methodLink (own y) ix (mn z)) || neT.any (fun q => decide (q.1 = own y) && decide (q.2.1 = ix) && decide (q.2.2.1 = mn z)))
      else match tbW (h.getD 0 0) with
        | some (.methodLink o2 i2 x) => decide (o2 = own y) && decide (i2 = ix) && tb (h.getD 0 0) (.methodLink o2 i2 x) && tb (h.getD 1 0) (.sameMethod x.cls (mn z).cls x.name x.desc) && decide (x.name = (mn z).name) && decide (x.desc = (mn z).desc) && tb (h.getD 2 0) (.superclass (own y) x.cls) && (decide (x.cls = (mn z).cls) || tb (h.getD 3 0) (.superclass x.cls (mn z).cls))
        | _ => false)
  | .ireturn => (decide (nOp o 0 = 0) && decide (mr y = some .int)) || (decide (nOp o 0 = 1) && decide (mr y = some .boolean)) || (decide (nOp o 0 = 2) && decide (mr y = some .char)) || (decide (nOp o 0 = 3) && decide (mr y = some .byte))
  | .lreturn => decide (mr y = some .long)
  | .areturn => match mr y with
    | some (.object _) => true
    | some (.array _) => true
    | _ => false
  | .return_ => decide (mr y = none)
  | _ => true
def lenI (pc nx : Nat) (ins : Instr) : Nat := match ins with
  | .bipush _ | .ldc _ | .iload _ | .lload _ | .aload _ | .istore _ | .lstore _ | .astore _ | .newarray _ => 2
  | .sipush _ | .ldc_w _ | .ldc2_w _ | .iinc _ _ | .ifCond _ _ | .if_icmp _ _ | .ifnull _ | .ifnonnull _ | .if_acmp _ _ | .goto _ | .getfield _ | .putfield _ | .getstatic _ | .new _ | .anewarray _ | .checkcast _ | .instanceof _ | .invokevirtual _ | .invokestatic _ | .invokespecial _ => 3
  | .tableswitch _ _ _ _ | .lookupswitch _ _ => nx - pc
  | _ => 1
def ckE (y : Nat) (q : Nat × Nat × Instr × Int × List Nat) : Bool := match q with
  | (pc, nx, ins, v, o) => decide (decode (mc y) pc = .ok (ins, lenI pc nx ins)) && decide (nx = pc + lenI pc nx ins) && ckI y pc ins v o (hn y pc)
def ckY (y : Nat) : Bool := ((codes[y]?).getD []).all (ckE y)
