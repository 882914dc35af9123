abbrev CL : List vw_C := [(RX9, TX9, 12), (RX2, TX2, 3), (RX4, TX4, 12), (RX5, TX5, 6), (RX6, TX6, 7), (RX7, TX7, 9), (RX8, TX8, 6), (RJ0, TJ0, 4), (RJ4, TJ4, 4)]
/-- of each kind of object its fields: 0 a number, 1 a reference, 2 a long -/
def fc (ci : Nat) : List Nat := match ci with
  | 0 => [1, 1, 1, 1, 1, 1, 1, 0, 0, 0, 0, 0]
  | 1 => [1, 0, 0]
  | 2 => [0, 0, 0, 0, 0, 1, 1, 1, 1, 1, 1, 1]
  | 3 => [1, 0, 1, 1, 0, 0]
  | 4 => [0, 1, 1, 1, 0, 0, 0]
  | 5 => [1, 1, 1, 0, 0, 0, 0, 0, 2]
  | 6 => [0, 0, 0, 0, 0, 0]
  | 7 => [1, 0, 0, 0]
  | 8 => [1, 0, 0, 0]
  | 19 => [1, 0]
  | 20 => [1, 0]
  | _ => []
/-- the component types of the arrays -/
def ty_ (t : Nat) : FieldType := match t with
  | 0 => .int
  | 1 => .long
  | 2 => .byte
  | 3 => .byte
  | 4 => .char
  | 5 => .object RX7
  | 6 => .object RX8
  | 7 => .object RX1
  | _ => .array .int
/-- objects that were there before the run: their names, and which fields are read -/
def sNm (k : Nat) : String := if k = 20 then RJ0 else RX1
def sFd (k : Nat) : List (String × String × String) := if k = 20 then [("java/lang/String", "value", "[B"), ("java/lang/String", "coder", "B")] else [("InterlockingBox$Command", "form", "Ljava/lang/String;"), ("java/lang/Enum", "ordinal", "I")]
def zsl : List (String × String × String × Nat × Int32 × Nat) := [("InterlockingBox", "COMMANDS", "[LInterlockingBox$Command;", 1, 0, 1), ("InterlockingBox$1", "$SwitchMap$InterlockingBox$Command", "[I", 1, 0, 13), ("InterlockingBox$Command", "WAIT", "LInterlockingBox$Command;", 1, 0, 11), ("java/lang/String", "COMPACT_STRINGS", "Z", 0, 1, 0), ("java/lang/Integer", "DigitTens", "[B", 1, 0, 14), ("java/lang/Integer", "DigitOnes", "[B", 1, 0, 15)]
/-- the String constants that are loaded: class, entry, text, cell -/
def stl : List (String × Nat × String × Nat) := [("InterlockingBoxLaw", 278, "wait ", 38), ("InterlockingBoxLaw", 287, ";set ", 40), ("InterlockingBoxLaw", 293, ";free ", 42), ("InterlockingBoxLaw", 295, ";shut ", 44), ("InterlockingBoxLaw", 297, ";", 46)]
/-- the texts of exceptions -/
def mgl : List (String × Nat × String) := [("InterlockingBox", 390, "no such block"), ("InterlockingBox", 163, "there is no route"), ("InterlockingBox", 381, "no such train"), ("InterlockingBox", 397, "the train has no set route"), ("InterlockingBox", 227, "the queue has no such position"), ("InterlockingBox", 261, "no route was refused"), ("InterlockingBox", 263, "no route was refused for a block"), ("InterlockingBox", 377, "no such block or point"), ("InterlockingBox", 379, "out of range, or not different"), ("InterlockingBox", 383, "the route cannot be set"), ("InterlockingBox", 385, "not in this state"), ("InterlockingBox", 326, "the program buffer is full"), ("InterlockingBox", 340, "not a program"), ("InterlockingBox", 353, "a command failed"), ("InterlockingBox", 133, "no train occupies or has reserved the block"), ("InterlockingBox", 395, "no such point"), ("InterlockingBox", 148, "the point is not locked"), ("InterlockingBox", 246, "a train and itself"), ("InterlockingBox", 168, "the route has no such position"), ("InterlockingBox", 277, "no train has come"), ("InterlockingBox", 280, "there are no blocks"), ("InterlockingBox", 363, "no change can be undone"), ("InterlockingBox", 366, "no state was saved")]
/-- accesses between nest mates: the words of the tables that are kept by their own laws -/
def nfl : List (String × Nat × String × String × String × String) := [("InterlockingBox", 114, "InterlockingBox$Line", "blocks", "I", "InterlockingBox"), ("InterlockingBox", 173, "InterlockingBox$State", "present", "I", "InterlockingBox"), ("InterlockingBox", 183, "InterlockingBox$Train", "block", "I", "InterlockingBox"), ("InterlockingBox", 188, "InterlockingBox$Train", "destination", "I", "InterlockingBox"), ("InterlockingBox", 202, "InterlockingBox$Train", "nextMinute", "I", "InterlockingBox"), ("InterlockingBox", 205, "InterlockingBox$State", "time", "I", "InterlockingBox"), ("InterlockingBox", 212, "InterlockingBox$Train", "number", "I", "InterlockingBox"), ("InterlockingBox", 221, "InterlockingBox$Train", "delay", "I", "InterlockingBox"), ("InterlockingBox", 265, "InterlockingBox$State", "gone", "I", "InterlockingBox"), ("InterlockingBox", 268, "InterlockingBox$State", "allDelays", "J", "InterlockingBox"), ("InterlockingBox", 272, "InterlockingBox$State", "come", "I", "InterlockingBox"), ("InterlockingBox", 329, "InterlockingBox$Program", "length", "I", "InterlockingBox"), ("InterlockingBox", 337, "InterlockingBox$Program", "stop", "I", "InterlockingBox"), ("InterlockingBox", 342, "InterlockingBox$Program", "count", "I", "InterlockingBox"), ("InterlockingBox", 365, "InterlockingBox$History", "count", "I", "InterlockingBox"), ("InterlockingBox", 72, "InterlockingBox$State", "line", "LInterlockingBox$Line;", "InterlockingBox"), ("InterlockingBox$Invariants", 100, "InterlockingBox$State", "gone", "I", "InterlockingBox"), ("InterlockingBox$Invariants", 103, "InterlockingBox$State", "allDelays", "J", "InterlockingBox"), ("InterlockingBox$Invariants", 107, "InterlockingBox$Train", "reserved", "I", "InterlockingBox"), ("InterlockingBox$Invariants", 114, "InterlockingBox$Train", "nextMinute", "I", "InterlockingBox"), ("InterlockingBox$Invariants", 117, "InterlockingBox$State", "time", "I", "InterlockingBox"), ("InterlockingBox$Invariants", 131, "InterlockingBox$State", "waiting", "I", "InterlockingBox"), ("InterlockingBox$Invariants", 34, "InterlockingBox$Line", "blocks", "I", "InterlockingBox"), ("InterlockingBox$Invariants", 52, "InterlockingBox$Line", "points", "I", "InterlockingBox"), ("InterlockingBox$Invariants", 64, "InterlockingBox$Line", "links", "I", "InterlockingBox"), ("InterlockingBox$Invariants", 67, "InterlockingBox$Line", "stemsToRight", "I", "InterlockingBox"), ("InterlockingBox$Invariants", 70, "InterlockingBox$Line", "shut", "I", "InterlockingBox"), ("InterlockingBox$Invariants", 73, "InterlockingBox$State", "present", "I", "InterlockingBox"), ("InterlockingBox$Invariants", 76, "InterlockingBox$State", "trains", "[LInterlockingBox$Train;", "InterlockingBox"), ("InterlockingBox$Invariants", 80, "InterlockingBox$Train", "block", "I", "InterlockingBox"), ("InterlockingBox$Invariants", 88, "InterlockingBox$Train", "destination", "I", "InterlockingBox"), ("InterlockingBox$Invariants", 9, "InterlockingBox$State", "line", "LInterlockingBox$Line;", "InterlockingBox"), ("InterlockingBox$Invariants", 91, "InterlockingBox$Train", "number", "I", "InterlockingBox"), ("InterlockingBox$Invariants", 94, "InterlockingBox$Train", "delay", "I", "InterlockingBox"), ("InterlockingBox$Invariants", 97, "InterlockingBox$State", "come", "I", "InterlockingBox"), ("InterlockingBox$Program", 44, "InterlockingBox", "COMMANDS", "[LInterlockingBox$Command;", "InterlockingBox"), ("InterlockingBox$Program", 47, "InterlockingBox$Command", "form", "Ljava/lang/String;", "InterlockingBox"), ("InterlockingBox$State", 119, "InterlockingBox$Train", "block", "I", "InterlockingBox"), ("InterlockingBox$State", 122, "InterlockingBox$Train", "destination", "I", "InterlockingBox"), ("InterlockingBox$State", 163, "InterlockingBox$Train", "nextMinute", "I", "InterlockingBox"), ("InterlockingBox$State", 178, "InterlockingBox$Train", "delay", "I", "InterlockingBox"), ("InterlockingBox$State", 62, "InterlockingBox$Train", "number", "I", "InterlockingBox"), ("InterlockingBox$State", 81, "InterlockingBox$Train", "reserved", "I", "InterlockingBox"), ("InterlockingBox$State", 84, "InterlockingBox$Line", "shut", "I", "InterlockingBox")]
def nml : List (String × Nat × MethodName × String) := [("InterlockingBox", 31, ⟨"InterlockingBox$Relation", "<init>", "()V"⟩, "InterlockingBox"), ("InterlockingBox$Invariants", 61, ⟨"InterlockingBox", "contains", "(II)Z"⟩, "InterlockingBox"), ("InterlockingBox$Line", 68, ⟨"InterlockingBox", "contains", "(II)Z"⟩, "InterlockingBox"), ("InterlockingBox$Relation", 57, ⟨"InterlockingBox", "contains", "(II)Z"⟩, "InterlockingBox"), ("InterlockingBox$State", 11, ⟨"InterlockingBox$Line", "<init>", "()V"⟩, "InterlockingBox"), ("InterlockingBox$State", 48, ⟨"InterlockingBox$Train", "<init>", "()V"⟩, "InterlockingBox"), ("InterlockingBox$State", 69, ⟨"InterlockingBox", "contains", "(II)Z"⟩, "InterlockingBox"), ("InterlockingBox$Train", 36, ⟨"InterlockingBox", "contains", "(II)Z"⟩, "InterlockingBox")]
def cal : List (String × String) := [("java/lang/ArithmeticException", "java/lang/ArithmeticException"), ("java/lang/ArrayIndexOutOfBoundsException", "java/lang/ArrayIndexOutOfBoundsException"), ("java/lang/ArrayIndexOutOfBoundsException", "java/lang/IndexOutOfBoundsException"), ("java/lang/IllegalArgumentException", "java/lang/IllegalArgumentException"), ("java/lang/IllegalStateException", "java/lang/IllegalStateException"), ("java/lang/IndexOutOfBoundsException", "java/lang/IndexOutOfBoundsException"), ("java/lang/StringIndexOutOfBoundsException", "java/lang/IndexOutOfBoundsException"), ("java/lang/UnsupportedOperationException", "java/lang/UnsupportedOperationException"), ("java/util/NoSuchElementException", "java/util/NoSuchElementException")]
/-- kinds of exceptions that are not of one another -/
def ncl : List (String × String) := [("java/lang/ArithmeticException", "java/lang/IllegalArgumentException"), ("java/lang/ArithmeticException", "java/lang/IllegalStateException"), ("java/lang/ArithmeticException", "java/lang/IndexOutOfBoundsException"), ("java/lang/ArithmeticException", "java/lang/UnsupportedOperationException"), ("java/lang/ArithmeticException", "java/util/NoSuchElementException"), ("java/lang/IllegalArgumentException", "java/lang/ArithmeticException"), ("java/lang/IllegalArgumentException", "java/lang/IllegalStateException"), ("java/lang/IllegalArgumentException", "java/lang/IndexOutOfBoundsException"), ("java/lang/IllegalArgumentException", "java/lang/UnsupportedOperationException"), ("java/lang/IllegalArgumentException", "java/util/NoSuchElementException"), ("java/lang/IllegalStateException", "java/lang/ArithmeticException"), ("java/lang/IllegalStateException", "java/lang/IllegalArgumentException"), ("java/lang/IllegalStateException", "java/lang/IndexOutOfBoundsException"), ("java/lang/IllegalStateException", "java/lang/UnsupportedOperationException"), ("java/lang/IllegalStateException", "java/util/NoSuchElementException"), ("java/lang/IndexOutOfBoundsException", "java/lang/ArithmeticException"), ("java/lang/IndexOutOfBoundsException", "java/lang/IllegalArgumentException"), ("java/lang/IndexOutOfBoundsException", "java/lang/IllegalStateException"), ("java/lang/IndexOutOfBoundsException", "java/lang/UnsupportedOperationException"), ("java/lang/IndexOutOfBoundsException", "java/util/NoSuchElementException"), ("java/lang/UnsupportedOperationException", "java/lang/ArithmeticException"), ("java/lang/UnsupportedOperationException", "java/lang/IllegalArgumentException"), ("java/lang/UnsupportedOperationException", "java/lang/IllegalStateException"), ("java/lang/UnsupportedOperationException", "java/lang/IndexOutOfBoundsException"), ("java/lang/UnsupportedOperationException", "java/util/NoSuchElementException"), ("java/util/NoSuchElementException", "java/lang/ArithmeticException"), ("java/util/NoSuchElementException", "java/lang/IllegalArgumentException"), ("java/util/NoSuchElementException", "java/lang/IllegalStateException"), ("java/util/NoSuchElementException", "java/lang/IndexOutOfBoundsException"), ("java/util/NoSuchElementException", "java/lang/UnsupportedOperationException")]
/-- methods of exceptions that declare what they declare (kept by a law of their own) -/
def dcl : List MethodName := [⟨"java/lang/Enum", "ordinal", "()I"⟩, ⟨"java/lang/Exception", "<init>", "()V"⟩, ⟨"java/lang/Exception", "<init>", "(Ljava/lang/String;)V"⟩, ⟨"java/lang/IndexOutOfBoundsException", "<init>", "()V"⟩, ⟨"java/lang/IndexOutOfBoundsException", "<init>", "(Ljava/lang/String;)V"⟩, ⟨"java/lang/RuntimeException", "<init>", "()V"⟩, ⟨"java/lang/RuntimeException", "<init>", "(Ljava/lang/String;)V"⟩, ⟨"java/lang/Throwable", "<init>", "()V"⟩, ⟨"java/lang/Throwable", "<init>", "(Ljava/lang/String;)V"⟩]
def aol : List FieldType := [.object RX7, .object RX8, .object RX1, .array .int]
/-! THE ABSTRACT HEAP: flat, typed: shapes, numbers, references, longs by (cell, place). Cells 1 .. nZ - 1 were there before the run (read alone), from nZ on those that the run has made. A reference is a cell's number; 0 is null. Shape (c + 1, 0): an object of CL's c-th kind; (20, 0) a String, (21, 0) a Command; (100 + t, n): an array of n places of type ty_ t. -/
abbrev AH : Type := (Nat → Nat × Nat) × (Nat → Nat → Int32) × (Nat → Nat → Nat) × (Nat → Nat → Int64) × Nat
def mS (h : AH) (a : Nat) : Nat × Nat := h.1 a
def mI (h : AH) (a j : Nat) : Int32 := h.2.1 a j
def mR (h : AH) (a j : Nat) : Nat := h.2.2.1 a j
def mL (h : AH) (a j : Nat) : Int64 := h.2.2.2.1 a j
def mN (h : AH) : Nat := h.2.2.2.2
def up2 {α : Type} (f : Nat → Nat → α) (a j : Nat) (v : α) : Nat → Nat → α := fun b i => if b = a ∧ i = j then v else f b i
def uI (h : AH) (a j : Nat) (v : Int32) : AH := (h.1, up2 h.2.1 a j v, h.2.2)
def uR (h : AH) (a j : Nat) (v : Nat) : AH := (h.1, h.2.1, up2 h.2.2.1 a j v, h.2.2.2)
def uL (h : AH) (a j : Nat) (v : Int64) : AH := (h.1, h.2.1, h.2.2.1, up2 h.2.2.2.1 a j v, h.2.2.2.2)
def nw (h : AH) (k n : Nat) : AH := (fun a => if a = mN h then (k, n) else h.1 a, fun a j => if a = mN h then 0 else h.2.1 a j, fun a j => if a = mN h then 0 else h.2.2.1 a j, fun a j => if a = mN h then 0 else h.2.2.2.1 a j, mN h + 1)
abbrev nZ : Nat := 64
theorem mS_uI (h : AH) (a j : Nat) (v : Int32) : mS (uI h a j v) = mS h := rfl
theorem mS_uR (h : AH) (a j : Nat) (v : Nat) : mS (uR h a j v) = mS h := rfl
theorem mS_uL (h : AH) (a j : Nat) (v : Int64) : mS (uL h a j v) = mS h := rfl
theorem mN_uI (h : AH) (a j : Nat) (v : Int32) : mN (uI h a j v) = mN h := rfl
theorem mN_uR (h : AH) (a j : Nat) (v : Nat) : mN (uR h a j v) = mN h := rfl
theorem mN_uL (h : AH) (a j : Nat) (v : Int64) : mN (uL h a j v) = mN h := rfl
theorem mI_uR (h : AH) (a j : Nat) (v : Nat) : mI (uR h a j v) = mI h := rfl
theorem mI_uL (h : AH) (a j : Nat) (v : Int64) : mI (uL h a j v) = mI h := rfl
theorem mR_uI (h : AH) (a j : Nat) (v : Int32) : mR (uI h a j v) = mR h := rfl
theorem mR_uL (h : AH) (a j : Nat) (v : Int64) : mR (uL h a j v) = mR h := rfl
theorem mL_uI (h : AH) (a j : Nat) (v : Int32) : mL (uI h a j v) = mL h := rfl
theorem mL_uR (h : AH) (a j : Nat) (v : Nat) : mL (uR h a j v) = mL h := rfl
theorem mI_uI (h : AH) (a j : Nat) (v : Int32) (b i : Nat) : mI (uI h a j v) b i = if b = a ∧ i = j then v else mI h b i := rfl
theorem mR_uR (h : AH) (a j : Nat) (v : Nat) (b i : Nat) : mR (uR h a j v) b i = if b = a ∧ i = j then v else mR h b i := rfl
theorem mL_uL (h : AH) (a j : Nat) (v : Int64) (b i : Nat) : mL (uL h a j v) b i = if b = a ∧ i = j then v else mL h b i := rfl
theorem mS_nw (h : AH) (k n b : Nat) : mS (nw h k n) b = if b = mN h then (k, n) else mS h b := rfl
theorem mI_nw (h : AH) (k n b i : Nat) : mI (nw h k n) b i = if b = mN h then 0 else mI h b i := rfl
theorem mR_nw (h : AH) (k n b i : Nat) : mR (nw h k n) b i = if b = mN h then 0 else mR h b i := rfl
theorem mL_nw (h : AH) (k n b i : Nat) : mL (nw h k n) b i = if b = mN h then 0 else mL h b i := rfl
theorem mN_nw (h : AH) (k n : Nat) : mN (nw h k n) = mN h + 1 := rfl
/-- an abstract value as the machine has it -/
def cv (ad : Nat → Nat) (v : Value) : Value := match v with
  | .ref a => if a = 0 then .null else .ref (ad a)
  | w => w
def rf (ad : Nat → Nat) (k : Nat) : Option Nat := if k = 0 then none else some (ad k)
theorem cv_rf (ad : Nat → Nat) (k : Nat) : cv ad (.ref k) = va_rf (rf ad k) := by
  unfold cv rf
  by_cases h : k = 0 <;> simp [h, va_rf]
theorem cv_cat (ad : Nat → Nat) (v : Value) : (cv ad v).category = v.category := by
  cases v <;> simp only [cv] <;> (try split) <;> simp [Value.category]
def vok (h : AH) (v : Value) : Prop := match v with
  | .ref a => a < mN h
  | .null => False
  | _ => True
def fv (ad : Nat → Nat) (h : AH) (a j c : Nat) : Value := match c with
  | 0 => .int (mI h a j)
  | 1 => cv ad (.ref (mR h a j))
  | _ => .long (mL h a j)
def fs_ (ad : Nat → Nat) (h : AH) (a ci : Nat) : List Value := (fc ci).mapIdx (fun j c => fv ad h a j c)
def ar_ (ad : Nat → Nat) (h : AH) (a t n : Nat) : vp_A := (n, if t = 1 then .inr (.inl (mL h a)) else if t = 2 then .inr (.inr (.inr (.inl (fun i => (mL h a i).toUInt64)))) else if 5 ≤ t then .inr (.inr (.inr (.inr (fun i => rf ad (mR h a i))))) else .inl (mI h a))
def ce_ (tc : Nat → ClassId) (ad : Nat → Nat) (h : AH) (a : Nat) : va_E := if (mS h a).1 < 100 then .inr ((mS h a).1 - 1, fs_ ad h a ((mS h a).1 - 1)) else .inl (tc ((mS h a).1 - 100), ar_ ad h a ((mS h a).1 - 100) (mS h a).2)
def dyn (tc : Nat → ClassId) (ad : Nat → Nat) (h : AH) : va_W := (List.range (mN h - nZ)).map (fun i => (ad (nZ + i), ce_ tc ad h (nZ + i)))
def tys (tc : Nat → ClassId) : List (ClassId × FieldType) := (List.range 9).map (fun t => (tc t, ty_ t))
/-- places of a static array -/
def ev (ad : Nat → Nat) (h : AH) (a t j : Nat) : Value := if t = 1 then .long (mL h a j) else if 5 ≤ t then cv ad (.ref (mR h a j)) else .int (mI h a j)
def sOk (ad : Nat → Nat) (h : AH) (A : Nat → Prop) (U : State) (H : Heap) (k : Nat) : Prop :=
  ((mS h k).1 = 20 ∨ (mS h k).1 = 21 → va_O (sNm (mS h k).1) (ad k) A U H ∧ ∀ (j : Nat) (q : String × String × String), (sFd (mS h k).1)[j]? = some q → va_OF q.1 q.2.1 q.2.2 (fv ad h k j ((fc ((mS h k).1 - 1)).getD j 0)) (ad k) A U H) ∧
  (100 ≤ (mS h k).1 → va_T (ty_ ((mS h k).1 - 100)) (ad k) (mS h k).2 (ev ad h k ((mS h k).1 - 100)) A U H)
/-- the class of arrays of arrays of numbers -/
def va_GA (U : State) : Prop := ∃ (comp cA : ClassId) (kA : Class), U.vm.findClass "[I" = some comp ∧ U.vm.findClass "[[I" = some cA ∧ U.vm.classes[cA]? = some kA ∧ kA.kind = .array comp (.array .int)
theorem va_GA.moved {u U : State} (hvm : u.vm.Alike U.vm) (h : va_GA u) : va_GA U := by
  obtain ⟨comp, cA, kA, h1, h2, h3, h4⟩ := h
  obtain ⟨k', hk', he⟩ := hvm.2.2 _ _ h3
  exact ⟨comp, cA, k', by rw [hvm.findClass]; exact h1, by rw [hvm.findClass]; exact h2, hk', by rw [he]; exact h4⟩
/-- what the start has and nobody writes -/
def Sf (ad : Nat → Nat) (h : AH) (A : Nat → Prop) (U : State) (H : Heap) : Prop :=
  (∀ k, k < nZ → sOk ad h A U H k) ∧ vx_Zq Bundle.tN "UNASSIGNED_STACK" Bundle.steD A U H ∧ vx_Zq Bundle.tN "SUPPRESSED_SENTINEL" Bundle.listD A U H ∧
  (∀ q ∈ zsl, va_Z q.1 q.2.1 q.2.2.1 (if q.2.2.2.1 = 0 then .int q.2.2.2.2.1 else .ref (ad q.2.2.2.2.2)) A U H) ∧
  (∀ q ∈ stl, vk_R q.1 q.2.1 q.2.2.1 (ad q.2.2.2) U) ∧ (∀ q ∈ mgl, ∃ sa, vk_R q.1 q.2.1 q.2.2 sa U) ∧
  (∀ q ∈ nfl, va_Nw (.fieldLinkNest q.1 q.2.1 q.2.2.1 q.2.2.2.1 q.2.2.2.2.1 q.2.2.2.2.2) U) ∧ (∀ q ∈ nml, va_Nw (.methodLinkNest q.1 q.2.1 q.2.2.1 q.2.2.2) U) ∧
  (∀ q ∈ cal, va_Nw (.castable q.1 q.2) U) ∧ (∀ C ∈ [RX7, RX8, RX1], va_AO C U) ∧ (∀ q ∈ ncl, va_Nc q.1 q.2 U) ∧ (∀ y ∈ dcl, va_Nw (.declares y) U) ∧ va_GA U ∧ ∃ k, (k = 0 ∨ k = 62) ∧ va_Z "jdk/internal/util/Preconditions" "SIOOBE_FORMATTER" "Ljava/util/function/BiFunction;" (cv ad (.ref k)) A U H
