def mq_f0 : u_T := fun k => match k with
  | 0 => ("RanOut$Acts", "sort", "[I", true)
  | 1 => ("RanOut$Acts", "day", "[I", true)
  | 2 => ("RanOut$Acts", "cost", "[I", true)
  | _ => ("RanOut$Acts", "claim", "[I", true)
def mq_t0 : Nat → FieldType := fun k => match k with
  | 0 => (.array .int)
  | 1 => (.array .int)
  | 2 => (.array .int)
  | _ => (.array .int)
def mq_f1 : u_T := fun k => match k with
  | 0 => ("RanOut$Book", "today", "I", false)
  | 1 => ("RanOut$Book", "places", "LRanOut$Places;", true)
  | 2 => ("RanOut$Book", "claims", "LRanOut$Claims;", true)
  | _ => ("RanOut$Book", "acts", "LRanOut$Acts;", true)
def mq_t1 : Nat → FieldType := fun k => match k with
  | 0 => .int
  | 1 => (.object "RanOut$Places")
  | 2 => (.object "RanOut$Claims")
  | _ => (.object "RanOut$Acts")
def mq_f2 : u_T := fun k => match k with
  | 0 => ("RanOut$Case", "book", "LRanOut$Book;", true)
  | 1 => ("RanOut$Case", "claim", "I", false)
  | 2 => ("RanOut$Case", "kind", "I", false)
  | 3 => ("RanOut$Case", "sum", "I", false)
  | 4 => ("RanOut$Case", "place", "I", false)
  | 5 => ("RanOut$Case", "starts", "[I", true)
  | 6 => ("RanOut$Case", "factCount", "I", false)
  | 7 => ("RanOut$Case", "sort", "[I", true)
  | 8 => ("RanOut$Case", "from", "[I", true)
  | 9 => ("RanOut$Case", "to", "[I", true)
  | 10 => ("RanOut$Case", "lawCount", "I", false)
  | 11 => ("RanOut$Case", "lawFrom", "[I", true)
  | _ => ("RanOut$Case", "lawIs", "[I", true)
def mq_t2 : Nat → FieldType := fun k => match k with
  | 0 => (.object "RanOut$Book")
  | 1 => .int
  | 2 => .int
  | 3 => .int
  | 4 => .int
  | 5 => (.array .int)
  | 6 => .int
  | 7 => (.array .int)
  | 8 => (.array .int)
  | 9 => (.array .int)
  | 10 => .int
  | 11 => (.array .int)
  | _ => (.array .int)
def mq_f3 : u_T := fun k => match k with
  | 0 => ("RanOut$Claims", "count", "I", false)
  | 1 => ("RanOut$Claims", "place", "[I", true)
  | 2 => ("RanOut$Claims", "kind", "[I", true)
  | 3 => ("RanOut$Claims", "sum", "[I", true)
  | 4 => ("RanOut$Claims", "done", "[I", true)
  | 5 => ("RanOut$Claims", "known", "[I", true)
  | 6 => ("RanOut$Claims", "due", "[I", true)
  | 7 => ("RanOut$Claims", "wanted", "[Z", true)
  | 8 => ("RanOut$Claims", "factCount", "[I", true)
  | 9 => ("RanOut$Claims", "factSort", "[I", true)
  | 10 => ("RanOut$Claims", "factFrom", "[I", true)
  | 11 => ("RanOut$Claims", "factTo", "[I", true)
  | _ => ("RanOut$Claims", "factDoubt", "[I", true)
def mq_t3 : Nat → FieldType := fun k => match k with
  | 0 => .int
  | 1 => (.array .int)
  | 2 => (.array .int)
  | 3 => (.array .int)
  | 4 => (.array .int)
  | 5 => (.array .int)
  | 6 => (.array .int)
  | 7 => (.array .boolean)
  | 8 => (.array .int)
  | 9 => (.array .int)
  | 10 => (.array .int)
  | 11 => (.array .int)
  | _ => (.array .int)
def mq_f4 : u_T := fun k => match k with
  | 0 => ("RanOut$Clock", "loaded", "LRanOut$Case;", true)
  | 1 => ("RanOut$Clock", "book", "LRanOut$Book;", true)
  | 2 => ("RanOut$Clock", "ran", "I", false)
  | 3 => ("RanOut$Clock", "term", "I", false)
  | 4 => ("RanOut$Clock", "law", "I", false)
  | 5 => ("RanOut$Clock", "how", "I", false)
  | 6 => ("RanOut$Clock", "termStart", "I", false)
  | 7 => ("RanOut$Clock", "next", "I", false)
  | 8 => ("RanOut$Clock", "over", "Z", false)
  | 9 => ("RanOut$Clock", "ranAhead", "I", false)
  | 10 => ("RanOut$Clock", "askedRan", "Z", false)
  | 11 => ("RanOut$Clock", "stack", "[I", true)
  | 12 => ("RanOut$Clock", "markedNext", "I", false)
  | 13 => ("RanOut$Clock", "markedRan", "I", false)
  | 14 => ("RanOut$Clock", "markedHow", "I", false)
  | _ => ("RanOut$Clock", "markedOver", "Z", false)
def mq_t4 : Nat → FieldType := fun k => match k with
  | 0 => (.object "RanOut$Case")
  | 1 => (.object "RanOut$Book")
  | 2 => .int
  | 3 => .int
  | 4 => .int
  | 5 => .int
  | 6 => .int
  | 7 => .int
  | 8 => .boolean
  | 9 => .int
  | 10 => .boolean
  | 11 => (.array .int)
  | 12 => .int
  | 13 => .int
  | 14 => .int
  | _ => .boolean
def mq_f5 : u_T := fun k => match k with
  | 0 => ("RanOut$LastDays", "earliest", "[I", true)
  | 1 => ("RanOut$LastDays", "latest", "[I", true)
  | 2 => ("RanOut$LastDays", "hangs", "[I", true)
  | 3 => ("RanOut$LastDays", "lasts", "[I", true)
  | 4 => ("RanOut$LastDays", "book", "LRanOut$Book;", true)
  | _ => ("RanOut$LastDays", "clock", "LRanOut$Clock;", true)
def mq_t5 : Nat → FieldType := fun k => match k with
  | 0 => (.array .int)
  | 1 => (.array .int)
  | 2 => (.array .int)
  | 3 => (.array .int)
  | 4 => (.object "RanOut$Book")
  | _ => (.object "RanOut$Clock")
def mq_f6 : u_T := fun k => match k with
  | 0 => ("RanOut$Law", "lines", "[LRanOut$Line;", true)
  | _ => ("RanOut$Law", "rolls", "Z", true)
def mq_t6 : Nat → FieldType := fun k => match k with
  | 0 => (.array (.object "RanOut$Line"))
  | _ => .boolean
def mq_f7 : u_T := fun k => match k with
  | 0 => ("RanOut$Line", "kind", "I", true)
  | 1 => ("RanOut$Line", "days", "I", true)
  | 2 => ("RanOut$Line", "start", "I", true)
  | 3 => ("RanOut$Line", "sort", "I", true)
  | 4 => ("RanOut$Line", "condition", "[I", true)
  | _ => ("RanOut$Line", "asksRan", "Z", true)
def mq_t7 : Nat → FieldType := fun k => match k with
  | 0 => .int
  | 1 => .int
  | 2 => .int
  | 3 => .int
  | 4 => (.array .int)
  | _ => .boolean
def mq_f8 : u_T := fun k => match k with
  | 0 => ("RanOut$Places", "holidays", "[I", true)
  | 1 => ("RanOut$Places", "holidayCount", "I", false)
  | 2 => ("RanOut$Places", "firstLaw", "[I", true)
  | 3 => ("RanOut$Places", "changeCount", "[I", true)
  | 4 => ("RanOut$Places", "changeDay", "[I", true)
  | 5 => ("RanOut$Places", "changeLaw", "[I", true)
  | 6 => ("RanOut$Places", "changeAll", "[Z", true)
  | _ => ("RanOut$Places", "laws", "[LRanOut$Law;", true)
def mq_t8 : Nat → FieldType := fun k => match k with
  | 0 => (.array .int)
  | 1 => .int
  | 2 => (.array .int)
  | 3 => (.array .int)
  | 4 => (.array .int)
  | 5 => (.array .int)
  | 6 => (.array .boolean)
  | _ => (.array (.object "RanOut$Law"))
def mq_f9 : u_T := fun k => match k with
  | 0 => ("RanOut$Plan", "dearestCost", "I", false)
  | 1 => ("RanOut$Plan", "dearestFirst", "I", false)
  | 2 => ("RanOut$Plan", "dearestSecond", "I", false)
  | 3 => ("RanOut$Plan", "book", "LRanOut$Book;", true)
  | 4 => ("RanOut$Plan", "clock", "LRanOut$Clock;", true)
  | 5 => ("RanOut$Plan", "lastDays", "LRanOut$LastDays;", true)
  | 6 => ("RanOut$Plan", "alive", "[J", true)
  | 7 => ("RanOut$Plan", "contested", "[I", true)
  | 8 => ("RanOut$Plan", "without", "[J", true)
  | 9 => ("RanOut$Plan", "withoutBoth", "[J", true)
  | _ => ("RanOut$Plan", "contestedCount", "I", false)
def mq_t9 : Nat → FieldType := fun k => match k with
  | 0 => .int
  | 1 => .int
  | 2 => .int
  | 3 => (.object "RanOut$Book")
  | 4 => (.object "RanOut$Clock")
  | 5 => (.object "RanOut$LastDays")
  | 6 => (.array .long)
  | 7 => (.array .int)
  | 8 => (.array .long)
  | 9 => (.array .long)
  | _ => .int
def mq_f10 : u_T := fun k => match k with
  | 0 => ("RanOut$Reader", "tape", "[B", true)
  | 1 => ("RanOut$Reader", "length", "I", false)
  | 2 => ("RanOut$Reader", "faultKind", "I", false)
  | 3 => ("RanOut$Reader", "faultPlace", "I", false)
  | 4 => ("RanOut$Reader", "token", "I", false)
  | 5 => ("RanOut$Reader", "number", "I", false)
  | 6 => ("RanOut$Reader", "tokenPlace", "I", false)
  | 7 => ("RanOut$Reader", "nextPlace", "I", false)
  | 8 => ("RanOut$Reader", "lines", "[LRanOut$Line;", true)
  | 9 => ("RanOut$Reader", "lineCount", "I", false)
  | 10 => ("RanOut$Reader", "condition", "[I", true)
  | 11 => ("RanOut$Reader", "conditionLength", "I", false)
  | 12 => ("RanOut$Reader", "asksRan", "Z", false)
  | 13 => ("RanOut$Reader", "waiting", "[I", true)
  | 14 => ("RanOut$Reader", "waitingCount", "I", false)
  | 15 => ("RanOut$Reader", "openCount", "I", false)
  | 16 => ("RanOut$Reader", "bracketCount", "I", false)
  | _ => ("RanOut$Reader", "right", "Z", false)
def mq_t10 : Nat → FieldType := fun k => match k with
  | 0 => (.array .byte)
  | 1 => .int
  | 2 => .int
  | 3 => .int
  | 4 => .int
  | 5 => .int
  | 6 => .int
  | 7 => .int
  | 8 => (.array (.object "RanOut$Line"))
  | 9 => .int
  | 10 => (.array .int)
  | 11 => .int
  | 12 => .boolean
  | 13 => (.array .int)
  | 14 => .int
  | 15 => .int
  | 16 => .int
  | _ => .boolean
def mq_f11 : u_T := fun k => match k with
  | 0 => ("RanOut", "book", "LRanOut$Book;", true)
  | 1 => ("RanOut", "reader", "LRanOut$Reader;", true)
  | 2 => ("RanOut", "clock", "LRanOut$Clock;", true)
  | 3 => ("RanOut", "lastDays", "LRanOut$LastDays;", true)
  | 4 => ("RanOut", "plan", "LRanOut$Plan;", true)
  | _ => ("RanOut", "saved", "LRanOut$Book;", false)
def mq_t11 : Nat → FieldType := fun k => match k with
  | 0 => (.object "RanOut$Book")
  | 1 => (.object "RanOut$Reader")
  | 2 => (.object "RanOut$Clock")
  | 3 => (.object "RanOut$LastDays")
  | 4 => (.object "RanOut$Plan")
  | _ => (.object "RanOut$Book")
def mq_f12 : u_T := fun k => match k with
  | 0 => ("RanOutModel", "told", "I", false)
  | 1 => ("RanOutModel", "today", "I", false)
  | 2 => ("RanOutModel", "holidays", "I", false)
  | 3 => ("RanOutModel", "holiday", "[I", true)
  | 4 => ("RanOutModel", "lawOf", "[I", true)
  | 5 => ("RanOutModel", "changes", "[I", true)
  | 6 => ("RanOutModel", "changeDay", "[I", true)
  | 7 => ("RanOutModel", "changeLaw", "[I", true)
  | 8 => ("RanOutModel", "changeAll", "[I", true)
  | 9 => ("RanOutModel", "claims", "I", false)
  | 10 => ("RanOutModel", "placeOf", "[I", true)
  | 11 => ("RanOutModel", "kindOf", "[I", true)
  | 12 => ("RanOutModel", "sumOf", "[I", true)
  | 13 => ("RanOutModel", "dayOf", "[I", true)
  | 14 => ("RanOutModel", "wanted", "[I", true)
  | 15 => ("RanOutModel", "facts", "[I", true)
  | 16 => ("RanOutModel", "factSort", "[I", true)
  | 17 => ("RanOutModel", "factFrom", "[I", true)
  | 18 => ("RanOutModel", "factTo", "[I", true)
  | 19 => ("RanOutModel", "factDoubt", "[I", true)
  | 20 => ("RanOutModel", "actSort", "[I", true)
  | 21 => ("RanOutModel", "actDay", "[I", true)
  | 22 => ("RanOutModel", "actCost", "[I", true)
  | 23 => ("RanOutModel", "actClaim", "[I", true)
  | 24 => ("RanOutModel", "tape", "[I", true)
  | 25 => ("RanOutModel", "taped", "I", false)
  | 26 => ("RanOutModel", "spot", "I", false)
  | 27 => ("RanOutModel", "from", "I", false)
  | 28 => ("RanOutModel", "token", "I", false)
  | 29 => ("RanOutModel", "value", "I", false)
  | 30 => ("RanOutModel", "words", "[I", true)
  | 31 => ("RanOutModel", "lineMany", "[I", true)
  | 32 => ("RanOutModel", "lineWord", "[I", true)
  | 33 => ("RanOutModel", "lineDays", "[I", true)
  | 34 => ("RanOutModel", "lineDay", "[I", true)
  | 35 => ("RanOutModel", "lineFrom", "[I", true)
  | 36 => ("RanOutModel", "lineTo", "[I", true)
  | 37 => ("RanOutModel", "op", "[I", true)
  | 38 => ("RanOutModel", "arg", "[I", true)
  | 39 => ("RanOutModel", "codes", "I", false)
  | 40 => ("RanOutModel", "open", "I", false)
  | 41 => ("RanOutModel", "pending", "[I", true)
  | 42 => ("RanOutModel", "pendings", "I", false)
  | 43 => ("RanOutModel", "readFault", "I", false)
  | 44 => ("RanOutModel", "readPlace", "I", false)
  | 45 => ("RanOutModel", "faultKind", "I", false)
  | 46 => ("RanOutModel", "faultPlace", "I", false)
  | 47 => ("RanOutModel", "asked", "[I", true)
  | 48 => ("RanOutModel", "stack", "[I", true)
  | 49 => ("RanOutModel", "runSort", "[I", true)
  | 50 => ("RanOutModel", "runFrom", "[I", true)
  | 51 => ("RanOutModel", "runTo", "[I", true)
  | 52 => ("RanOutModel", "runs", "I", false)
  | 53 => ("RanOutModel", "without", "[I", true)
  | 54 => ("RanOutModel", "noLastOf", "I", false)
  | 55 => ("RanOutModel", "lawGone", "I", false)
  | 56 => ("RanOutModel", "lawInstead", "I", false)
  | 57 => ("RanOutModel", "stepRan", "I", false)
  | 58 => ("RanOutModel", "stepTerm", "I", false)
  | 59 => ("RanOutModel", "stepLaw", "I", false)
  | 60 => ("RanOutModel", "stepStands", "I", false)
  | 61 => ("RanOutModel", "earliest", "I", false)
  | 62 => ("RanOutModel", "latest", "I", false)
  | 63 => ("RanOutModel", "isAliveBy", "[I", true)
  | 64 => ("RanOutModel", "disputes", "I", false)
  | 65 => ("RanOutModel", "disputeOf", "[I", true)
  | 66 => ("RanOutModel", "contestSet", "I", false)
  | 67 => ("RanOutModel", "contestCost", "I", false)
  | 68 => ("RanOutModel", "isTaking", "Z", false)
  | 69 => ("RanOutModel", "hasImage", "Z", false)
  | 70 => ("RanOutModel", "at", "I", false)
  | _ => ("RanOutModel", "images", "[I", true)
def mq_t12 : Nat → FieldType := fun k => match k with
  | 0 => .int
  | 1 => .int
  | 2 => .int
  | 3 => (.array .int)
  | 4 => (.array .int)
  | 5 => (.array .int)
  | 6 => (.array .int)
  | 7 => (.array .int)
  | 8 => (.array .int)
  | 9 => .int
  | 10 => (.array .int)
  | 11 => (.array .int)
  | 12 => (.array .int)
  | 13 => (.array .int)
  | 14 => (.array .int)
  | 15 => (.array .int)
  | 16 => (.array .int)
  | 17 => (.array .int)
  | 18 => (.array .int)
  | 19 => (.array .int)
  | 20 => (.array .int)
  | 21 => (.array .int)
  | 22 => (.array .int)
  | 23 => (.array .int)
  | 24 => (.array .int)
  | 25 => .int
  | 26 => .int
  | 27 => .int
  | 28 => .int
  | 29 => .int
  | 30 => (.array .int)
  | 31 => (.array .int)
  | 32 => (.array .int)
  | 33 => (.array .int)
  | 34 => (.array .int)
  | 35 => (.array .int)
  | 36 => (.array .int)
  | 37 => (.array .int)
  | 38 => (.array .int)
  | 39 => .int
  | 40 => .int
  | 41 => (.array .int)
  | 42 => .int
  | 43 => .int
  | 44 => .int
  | 45 => .int
  | 46 => .int
  | 47 => (.array .int)
  | 48 => (.array .int)
  | 49 => (.array .int)
  | 50 => (.array .int)
  | 51 => (.array .int)
  | 52 => .int
  | 53 => (.array .int)
  | 54 => .int
  | 55 => .int
  | 56 => .int
  | 57 => .int
  | 58 => .int
  | 59 => .int
  | 60 => .int
  | 61 => .int
  | 62 => .int
  | 63 => (.array .int)
  | 64 => .int
  | 65 => (.array .int)
  | 66 => .int
  | 67 => .int
  | 68 => .boolean
  | 69 => .boolean
  | 70 => .int
  | _ => (.array .int)
def mq_cl : List vw_C := [("RanOut$Acts", mq_f0, 4), ("RanOut$Book", mq_f1, 4), ("RanOut$Case", mq_f2, 13), ("RanOut$Claims", mq_f3, 13), ("RanOut$Clock", mq_f4, 16), ("RanOut$LastDays", mq_f5, 6), ("RanOut$Law", mq_f6, 2), ("RanOut$Line", mq_f7, 6), ("RanOut$Places", mq_f8, 8), ("RanOut$Plan", mq_f9, 11), ("RanOut$Reader", mq_f10, 18), ("RanOut", mq_f11, 6), ("RanOutModel", mq_f12, 72)]
def mq_fty (ci : Nat) : Nat → FieldType := match ci with
  | 0 => mq_t0
  | 1 => mq_t1
  | 2 => mq_t2
  | 3 => mq_t3
  | 4 => mq_t4
  | 5 => mq_t5
  | 6 => mq_t6
  | 7 => mq_t7
  | 8 => mq_t8
  | 9 => mq_t9
  | 10 => mq_t10
  | 11 => mq_t11
  | _ => mq_t12
theorem mq_tok0 : ∀ k, k < 4 → parseFieldDescriptor (mq_f0 k).2.2.1 = some (mq_t0 k) := by decide +kernel
theorem mq_nm0 : ∀ a, a < 4 → ∀ b, b < 4 → a ≠ b → (mq_f0 a).2.1 ≠ (mq_f0 b).2.1 := by decide +kernel
theorem mq_tok1 : ∀ k, k < 4 → parseFieldDescriptor (mq_f1 k).2.2.1 = some (mq_t1 k) := by decide +kernel
theorem mq_nm1 : ∀ a, a < 4 → ∀ b, b < 4 → a ≠ b → (mq_f1 a).2.1 ≠ (mq_f1 b).2.1 := by decide +kernel
theorem mq_tok2 : ∀ k, k < 13 → parseFieldDescriptor (mq_f2 k).2.2.1 = some (mq_t2 k) := by decide +kernel
theorem mq_nm2 : ∀ a, a < 13 → ∀ b, b < 13 → a ≠ b → (mq_f2 a).2.1 ≠ (mq_f2 b).2.1 := by decide +kernel
theorem mq_tok3 : ∀ k, k < 13 → parseFieldDescriptor (mq_f3 k).2.2.1 = some (mq_t3 k) := by decide +kernel
theorem mq_nm3 : ∀ a, a < 13 → ∀ b, b < 13 → a ≠ b → (mq_f3 a).2.1 ≠ (mq_f3 b).2.1 := by decide +kernel
theorem mq_tok4 : ∀ k, k < 16 → parseFieldDescriptor (mq_f4 k).2.2.1 = some (mq_t4 k) := by decide +kernel
theorem mq_nm4 : ∀ a, a < 16 → ∀ b, b < 16 → a ≠ b → (mq_f4 a).2.1 ≠ (mq_f4 b).2.1 := by decide +kernel
theorem mq_tok5 : ∀ k, k < 6 → parseFieldDescriptor (mq_f5 k).2.2.1 = some (mq_t5 k) := by decide +kernel
theorem mq_nm5 : ∀ a, a < 6 → ∀ b, b < 6 → a ≠ b → (mq_f5 a).2.1 ≠ (mq_f5 b).2.1 := by decide +kernel
theorem mq_tok6 : ∀ k, k < 2 → parseFieldDescriptor (mq_f6 k).2.2.1 = some (mq_t6 k) := by decide +kernel
theorem mq_nm6 : ∀ a, a < 2 → ∀ b, b < 2 → a ≠ b → (mq_f6 a).2.1 ≠ (mq_f6 b).2.1 := by decide +kernel
theorem mq_tok7 : ∀ k, k < 6 → parseFieldDescriptor (mq_f7 k).2.2.1 = some (mq_t7 k) := by decide +kernel
theorem mq_nm7 : ∀ a, a < 6 → ∀ b, b < 6 → a ≠ b → (mq_f7 a).2.1 ≠ (mq_f7 b).2.1 := by decide +kernel
theorem mq_tok8 : ∀ k, k < 8 → parseFieldDescriptor (mq_f8 k).2.2.1 = some (mq_t8 k) := by decide +kernel
theorem mq_nm8 : ∀ a, a < 8 → ∀ b, b < 8 → a ≠ b → (mq_f8 a).2.1 ≠ (mq_f8 b).2.1 := by decide +kernel
theorem mq_tok9 : ∀ k, k < 11 → parseFieldDescriptor (mq_f9 k).2.2.1 = some (mq_t9 k) := by decide +kernel
theorem mq_nm9 : ∀ a, a < 11 → ∀ b, b < 11 → a ≠ b → (mq_f9 a).2.1 ≠ (mq_f9 b).2.1 := by decide +kernel
theorem mq_tok10 : ∀ k, k < 18 → parseFieldDescriptor (mq_f10 k).2.2.1 = some (mq_t10 k) := by decide +kernel
theorem mq_nm10 : ∀ a, a < 18 → ∀ b, b < 18 → a ≠ b → (mq_f10 a).2.1 ≠ (mq_f10 b).2.1 := by decide +kernel
theorem mq_tok11 : ∀ k, k < 6 → parseFieldDescriptor (mq_f11 k).2.2.1 = some (mq_t11 k) := by decide +kernel
theorem mq_nm11 : ∀ a, a < 6 → ∀ b, b < 6 → a ≠ b → (mq_f11 a).2.1 ≠ (mq_f11 b).2.1 := by decide +kernel
theorem mq_tok12 : ∀ k, k < 72 → parseFieldDescriptor (mq_f12 k).2.2.1 = some (mq_t12 k) := by decide +kernel
theorem mq_nm12 : ∀ a, a < 72 → ∀ b, b < 72 → a ≠ b → (mq_f12 a).2.1 ≠ (mq_f12 b).2.1 := by decide +kernel
theorem mq_in0 : ∀ w ∈ u_ws "RanOut$Acts" mq_f0 4, w ∈ lw_tbl := by
  have h : u_ws "RanOut$Acts" mq_f0 4 = ([304, 306, 308, 310] : List Nat).filterMap (fun i => lw_tbl[i]?) := by decide +kernel
  rw [h]; intro w hw; obtain ⟨i, -, hi⟩ := List.mem_filterMap.mp hw; exact List.mem_of_getElem? hi
theorem mq_in1 : ∀ w ∈ u_ws "RanOut$Book" mq_f1 4, w ∈ lw_tbl := by
  have h : u_ws "RanOut$Book" mq_f1 4 = ([330, 332, 334, 336] : List Nat).filterMap (fun i => lw_tbl[i]?) := by decide +kernel
  rw [h]; intro w hw; obtain ⟨i, -, hi⟩ := List.mem_filterMap.mp hw; exact List.mem_of_getElem? hi
theorem mq_in2 : ∀ w ∈ u_ws "RanOut$Case" mq_f2 13, w ∈ lw_tbl := by
  have h : u_ws "RanOut$Case" mq_f2 13 = ([434, 436, 438, 440, 442, 444, 446, 448, 450, 452, 454, 456, 458] : List Nat).filterMap (fun i => lw_tbl[i]?) := by decide +kernel
  rw [h]; intro w hw; obtain ⟨i, -, hi⟩ := List.mem_filterMap.mp hw; exact List.mem_of_getElem? hi
theorem mq_in3 : ∀ w ∈ u_ws "RanOut$Claims" mq_f3 13, w ∈ lw_tbl := by
  have h : u_ws "RanOut$Claims" mq_f3 13 = ([258, 260, 262, 264, 266, 268, 270, 272, 274, 276, 278, 280, 282] : List Nat).filterMap (fun i => lw_tbl[i]?) := by decide +kernel
  rw [h]; intro w hw; obtain ⟨i, -, hi⟩ := List.mem_filterMap.mp hw; exact List.mem_of_getElem? hi
theorem mq_in4 : ∀ w ∈ u_ws "RanOut$Clock" mq_f4 16, w ∈ lw_tbl := by
  have h : u_ws "RanOut$Clock" mq_f4 16 = ([484, 486, 488, 490, 492, 494, 496, 498, 500, 502, 504, 506, 508, 510, 512, 514] : List Nat).filterMap (fun i => lw_tbl[i]?) := by decide +kernel
  rw [h]; intro w hw; obtain ⟨i, -, hi⟩ := List.mem_filterMap.mp hw; exact List.mem_of_getElem? hi
theorem mq_in5 : ∀ w ∈ u_ws "RanOut$LastDays" mq_f5 6, w ∈ lw_tbl := by
  have h : u_ws "RanOut$LastDays" mq_f5 6 = ([537, 539, 541, 543, 545, 547] : List Nat).filterMap (fun i => lw_tbl[i]?) := by decide +kernel
  rw [h]; intro w hw; obtain ⟨i, -, hi⟩ := List.mem_filterMap.mp hw; exact List.mem_of_getElem? hi
theorem mq_in6 : ∀ w ∈ u_ws "RanOut$Law" mq_f6 2, w ∈ lw_tbl := by
  have h : u_ws "RanOut$Law" mq_f6 2 = ([168, 170] : List Nat).filterMap (fun i => lw_tbl[i]?) := by decide +kernel
  rw [h]; intro w hw; obtain ⟨i, -, hi⟩ := List.mem_filterMap.mp hw; exact List.mem_of_getElem? hi
theorem mq_in7 : ∀ w ∈ u_ws "RanOut$Line" mq_f7 6, w ∈ lw_tbl := by
  have h : u_ws "RanOut$Line" mq_f7 6 = ([835, 837, 839, 841, 843, 845] : List Nat).filterMap (fun i => lw_tbl[i]?) := by decide +kernel
  rw [h]; intro w hw; obtain ⟨i, -, hi⟩ := List.mem_filterMap.mp hw; exact List.mem_of_getElem? hi
theorem mq_in8 : ∀ w ∈ u_ws "RanOut$Places" mq_f8 8, w ∈ lw_tbl := by
  have h : u_ws "RanOut$Places" mq_f8 8 = ([193, 195, 197, 199, 201, 203, 205, 207] : List Nat).filterMap (fun i => lw_tbl[i]?) := by decide +kernel
  rw [h]; intro w hw; obtain ⟨i, -, hi⟩ := List.mem_filterMap.mp hw; exact List.mem_of_getElem? hi
theorem mq_in9 : ∀ w ∈ u_ws "RanOut$Plan" mq_f9 11, w ∈ lw_tbl := by
  have h : u_ws "RanOut$Plan" mq_f9 11 = ([570, 572, 574, 576, 578, 580, 582, 584, 586, 588, 590] : List Nat).filterMap (fun i => lw_tbl[i]?) := by decide +kernel
  rw [h]; intro w hw; obtain ⟨i, -, hi⟩ := List.mem_filterMap.mp hw; exact List.mem_of_getElem? hi
theorem mq_in10 : ∀ w ∈ u_ws "RanOut$Reader" mq_f10 18, w ∈ lw_tbl := by
  have h : u_ws "RanOut$Reader" mq_f10 18 = ([367, 369, 371, 373, 375, 377, 379, 381, 383, 385, 387, 389, 391, 393, 395, 397, 399, 401] : List Nat).filterMap (fun i => lw_tbl[i]?) := by decide +kernel
  rw [h]; intro w hw; obtain ⟨i, -, hi⟩ := List.mem_filterMap.mp hw; exact List.mem_of_getElem? hi
theorem mq_in11 : ∀ w ∈ u_ws "RanOut" mq_f11 6, w ∈ lw_tbl := by
  have h : u_ws "RanOut" mq_f11 6 = ([600, 602, 604, 606, 608, 610] : List Nat).filterMap (fun i => lw_tbl[i]?) := by decide +kernel
  rw [h]; intro w hw; obtain ⟨i, -, hi⟩ := List.mem_filterMap.mp hw; exact List.mem_of_getElem? hi
theorem mq_in12 : ∀ w ∈ u_ws "RanOutModel" mq_f12 72, w ∈ lw_tbl := by
  have h : u_ws "RanOutModel" mq_f12 72 = ([1311, 1313, 1315, 1317, 1319, 1321, 1323, 1325, 1327, 1329, 1331, 1333, 1335, 1337, 1339, 1341, 1343, 1345, 1347, 1349, 1351, 1353, 1355, 1357, 1359, 1361, 1363, 1365, 1367, 1369, 1371, 1373, 1375, 1377, 1379, 1381, 1383, 1385, 1387, 1389, 1391, 1393, 1395, 1397, 1399, 1401, 1403, 1405, 1407, 1409, 1411, 1413, 1415, 1417, 1419, 1421, 1423, 1425, 1427, 1429, 1431, 1433, 1435, 1437, 1439, 1441, 1443, 1445, 1447, 1449, 1451, 1453] : List Nat).filterMap (fun i => lw_tbl[i]?) := by decide +kernel
  rw [h]; intro w hw; obtain ⟨i, -, hi⟩ := List.mem_filterMap.mp hw; exact List.mem_of_getElem? hi
