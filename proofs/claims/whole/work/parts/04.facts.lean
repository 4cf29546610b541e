/-! What the tables' words say of the code: by their places in lw_tbl, decided by the kernel (made by a program). -/
def cnTab : List String := ["SlotKeeper$Acts", "SlotKeeper$Board", "SlotKeeper$Day", "SlotKeeper$Reader", "SlotKeeper$Runway", "SlotKeeper$Saying", "SlotKeeper$Search", "SlotKeeper$Timetable", "SlotKeeper", "SlotKeeperModel", "SlotKeeperLaw", "java/util/Arrays"]
def cn (i : Nat) : String := cnTab.getD i ""
def fdTab : List (List (String × String × String × Bool)) := [[("SlotKeeper$Acts", "before", "[LSlotKeeper$Board;", true), ("SlotKeeper$Acts", "first", "I", false), ("SlotKeeper$Acts", "kept", "I", false)],
  [("SlotKeeper$Board", "craftCount", "I", false), ("SlotKeeper$Board", "sort", "[I", true), ("SlotKeeper$Board", "ready", "[I", true), ("SlotKeeper$Board", "latest", "[I", true), ("SlotKeeper$Board", "weight", "[I", true), ("SlotKeeper$Board", "hurried", "[I", true), ("SlotKeeper$Board", "order", "[I", true), ("SlotKeeper$Board", "gaps", "[I", true), ("SlotKeeper$Board", "spanCount", "I", false), ("SlotKeeper$Board", "spanFrom", "[I", true), ("SlotKeeper$Board", "spanTo", "[I", true), ("SlotKeeper$Board", "shift", "I", false), ("SlotKeeper$Board", "freeze", "I", false), ("SlotKeeper$Board", "now", "I", false), ("SlotKeeper$Board", "doneCount", "I", false), ("SlotKeeper$Board", "doneSort", "[I", true), ("SlotKeeper$Board", "doneSlot", "[I", true), ("SlotKeeper$Board", "doneWait", "[I", true)],
  [("SlotKeeper$Day", "runway", "LSlotKeeper$Runway;", true), ("SlotKeeper$Day", "drawn", "I", false), ("SlotKeeper$Day", "waitsTimesWeights", "I", false), ("SlotKeeper$Day", "latestSlot", "I", false), ("SlotKeeper$Day", "longestWait", "I", false)],
  [("SlotKeeper$Reader", "text", "[B", true), ("SlotKeeper$Reader", "board", "LSlotKeeper$Board;", true), ("SlotKeeper$Reader", "length", "I", false), ("SlotKeeper$Reader", "next", "I", false), ("SlotKeeper$Reader", "token", "I", false), ("SlotKeeper$Reader", "start", "I", false), ("SlotKeeper$Reader", "value", "I", false), ("SlotKeeper$Reader", "fault", "I", false), ("SlotKeeper$Reader", "place", "I", false)],
  [("SlotKeeper$Runway", "board", "LSlotKeeper$Board;", true), ("SlotKeeper$Runway", "search", "LSlotKeeper$Search;", true), ("SlotKeeper$Runway", "table", "LSlotKeeper$Timetable;", true), ("SlotKeeper$Runway", "tried", "[I", true)],
  [("SlotKeeper$Saying", "text", "[B", true), ("SlotKeeper$Saying", "length", "I", false)],
  [("SlotKeeper$Search", "board", "LSlotKeeper$Board;", true), ("SlotKeeper$Search", "table", "LSlotKeeper$Timetable;", true), ("SlotKeeper$Search", "rank", "[I", true), ("SlotKeeper$Search", "craftOfRank", "[I", true), ("SlotKeeper$Search", "found", "[I", true), ("SlotKeeper$Search", "by", "I", false), ("SlotKeeper$Search", "leastCost", "I", false), ("SlotKeeper$Search", "holding", "Z", false)],
  [("SlotKeeper$Timetable", "board", "LSlotKeeper$Board;", true), ("SlotKeeper$Timetable", "craftAt", "[I", true), ("SlotKeeper$Timetable", "slotAt", "[I", true), ("SlotKeeper$Timetable", "leastTimes", "[I", true)],
  [("SlotKeeper", "live", "LSlotKeeper$Runway;", true), ("SlotKeeper", "paper", "LSlotKeeper$Runway;", true), ("SlotKeeper", "dayOnPaper", "LSlotKeeper$Day;", true), ("SlotKeeper", "reader", "LSlotKeeper$Reader;", true), ("SlotKeeper", "acts", "LSlotKeeper$Acts;", true), ("SlotKeeper", "saying", "LSlotKeeper$Saying;", true), ("SlotKeeper", "tape", "[B", true), ("SlotKeeper", "tapeLength", "I", false), ("SlotKeeper", "faultPlace", "I", false), ("SlotKeeper", "toldOrder", "[I", true)],
  [("SlotKeeperModel", "thrown", "I", false), ("SlotKeeperModel", "row", "[I", true), ("SlotKeeperModel", "read", "[I", true), ("SlotKeeperModel", "aside", "[I", true), ("SlotKeeperModel", "kept", "[I", true), ("SlotKeeperModel", "acts", "I", false), ("SlotKeeperModel", "tape", "[B", true), ("SlotKeeperModel", "taped", "I", false), ("SlotKeeperModel", "size", "I", false), ("SlotKeeperModel", "at", "I", false), ("SlotKeeperModel", "place", "I", false), ("SlotKeeperModel", "token", "I", false), ("SlotKeeperModel", "value", "I", false), ("SlotKeeperModel", "letters", "I", false), ("SlotKeeperModel", "word", "J", false), ("SlotKeeperModel", "fault", "I", false), ("SlotKeeperModel", "faultPlace", "I", false), ("SlotKeeperModel", "order", "[I", true), ("SlotKeeperModel", "slots", "[I", true), ("SlotKeeperModel", "bestOrder", "[I", true), ("SlotKeeperModel", "bestCost", "I", false), ("SlotKeeperModel", "counted", "I", false), ("SlotKeeperModel", "isHolding", "Z", false), ("SlotKeeperModel", "by", "I", false), ("SlotKeeperModel", "nearness", "I", false), ("SlotKeeperModel", "doneCost", "I", false), ("SlotKeeperModel", "doneLast", "I", false), ("SlotKeeperModel", "doneWait", "I", false), ("SlotKeeperModel", "said", "[B", true), ("SlotKeeperModel", "saidMany", "I", false), ("SlotKeeperModel", "drawn", "I", false)]]
def TT (c : Nat) : u_T := fun k => (fdTab.getD c []).getD k ("", "", "", false)
def nfTab : List Nat := [3, 18, 5, 9, 4, 2, 8, 4, 10, 31]
def nf (c : Nat) : Nat := nfTab.getD c 0
def tyTab : List (List FieldType) := [[.array (.object "SlotKeeper$Board"), .int, .int],
  [.int, .array .int, .array .int, .array .int, .array .int, .array .int, .array .int, .array .int, .int, .array .int, .array .int, .int, .int, .int, .int, .array .int, .array .int, .array .int],
  [.object "SlotKeeper$Runway", .int, .int, .int, .int],
  [.array .byte, .object "SlotKeeper$Board", .int, .int, .int, .int, .int, .int, .int],
  [.object "SlotKeeper$Board", .object "SlotKeeper$Search", .object "SlotKeeper$Timetable", .array .int],
  [.array .byte, .int],
  [.object "SlotKeeper$Board", .object "SlotKeeper$Timetable", .array .int, .array .int, .array .int, .int, .int, .boolean],
  [.object "SlotKeeper$Board", .array .int, .array .int, .array .int],
  [.object "SlotKeeper$Runway", .object "SlotKeeper$Runway", .object "SlotKeeper$Day", .object "SlotKeeper$Reader", .object "SlotKeeper$Acts", .object "SlotKeeper$Saying", .array .byte, .int, .int, .array .int],
  [.int, .array .int, .array .int, .array .int, .array .int, .int, .array .byte, .int, .int, .int, .int, .int, .int, .int, .long, .int, .int, .array .int, .array .int, .array .int, .int, .int, .boolean, .int, .int, .int, .int, .int, .array .byte, .int, .int]]
def tyT (c k : Nat) : FieldType := (tyTab.getD c []).getD k .int
def yTab : List MethodName := [⟨"SlotKeeper", "<init>", "()V"⟩,
  ⟨"SlotKeeper$Runway", "<init>", "()V"⟩,
  ⟨"SlotKeeper$Board", "<init>", "()V"⟩,
  ⟨"SlotKeeper$Board", "makeNew", "()V"⟩,
  ⟨"SlotKeeper$Board", "clearAway", "()V"⟩,
  ⟨"java/util/Arrays", "fill", "([II)V"⟩,
  ⟨"SlotKeeper$Search", "<init>", "(LSlotKeeper$Board;)V"⟩,
  ⟨"SlotKeeper$Timetable", "<init>", "(LSlotKeeper$Board;)V"⟩,
  ⟨"SlotKeeper$Day", "<init>", "(LSlotKeeper$Runway;)V"⟩,
  ⟨"SlotKeeper$Reader", "<init>", "([BLSlotKeeper$Board;)V"⟩,
  ⟨"SlotKeeper$Acts", "<init>", "()V"⟩,
  ⟨"SlotKeeper$Saying", "<init>", "()V"⟩,
  ⟨"SlotKeeper", "feed", "(IIIII)I"⟩,
  ⟨"SlotKeeper", "feedNumber", "(I)V"⟩,
  ⟨"SlotKeeper", "fault", "()I"⟩,
  ⟨"SlotKeeper", "ways", "(Z)I"⟩,
  ⟨"SlotKeeper$Runway", "frozen", "()I"⟩,
  ⟨"SlotKeeper$Timetable", "lay", "([I)LSlotKeeper$Timetable;"⟩,
  ⟨"SlotKeeper$Timetable", "begin", "()V"⟩,
  ⟨"SlotKeeper$Board", "gapOf", "(II)I"⟩,
  ⟨"SlotKeeper$Timetable", "put", "(II)I"⟩,
  ⟨"SlotKeeper$Timetable", "soonest", "(II)I"⟩,
  ⟨"SlotKeeper$Board", "openFrom", "(I)I"⟩,
  ⟨"SlotKeeper$Timetable", "dueBy", "(I)I"⟩,
  ⟨"SlotKeeper$Search", "countOrders", "(IZ)I"⟩,
  ⟨"SlotKeeper$Search", "begin", "()V"⟩,
  ⟨"SlotKeeper$Board", "rankOf", "(I)I"⟩,
  ⟨"SlotKeeper$Board", "isAhead", "(II)Z"⟩,
  ⟨"SlotKeeper$Search", "mayStand", "(II)Z"⟩,
  ⟨"SlotKeeper$Search", "isAnyOverdue", "(II)Z"⟩,
  ⟨"SlotKeeper", "isIn", "(II)Z"⟩,
  ⟨"SlotKeeper$Search", "countDeeper", "(II)I"⟩,
  ⟨"SlotKeeper$Search", "pressedAt", "(II)I"⟩,
  ⟨"SlotKeeper$Search", "isNear", "(III)Z"⟩,
  ⟨"SlotKeeper", "byRanks", "()I"⟩,
  ⟨"SlotKeeper$Acts", "keep", "(LSlotKeeper$Board;)V"⟩,
  ⟨"SlotKeeper$Board", "copyFrom", "(LSlotKeeper$Board;)V"⟩,
  ⟨"SlotKeeper$Board", "copyRow", "([I[I)V"⟩,
  ⟨"SlotKeeper$Runway", "orderByRanks", "()V"⟩,
  ⟨"SlotKeeper$Runway", "lastByRank", "(II)I"⟩,
  ⟨"SlotKeeper$Board", "moveTo", "(II)V"⟩,
  ⟨"SlotKeeper$Board", "placeOf", "(I)I"⟩,
  ⟨"SlotKeeper$Board", "swapWithNext", "(I)V"⟩,
  ⟨"SlotKeeper$Runway", "layPlan", "()LSlotKeeper$Timetable;"⟩,
  ⟨"SlotKeeper$Timetable", "cost", "(I)I"⟩,
  ⟨"SlotKeeper$Timetable", "costWith", "(IIII)I"⟩,
  ⟨"SlotKeeper", "trade", "()I"⟩,
  ⟨"SlotKeeper$Runway", "placeToTrade", "()I"⟩,
  ⟨"SlotKeeper$Runway", "tryPlace", "(II)V"⟩,
  ⟨"SlotKeeper$Timetable", "holds", "()Z"⟩,
  ⟨"SlotKeeper$Timetable", "isLate", "(I)Z"⟩,
  ⟨"SlotKeeper$Runway", "isAllowed", "([II)Z"⟩,
  ⟨"SlotKeeper$Board", "beginsAlike", "([II)Z"⟩,
  ⟨"SlotKeeper", "undo", "()I"⟩,
  ⟨"SlotKeeper$Acts", "takeBack", "(LSlotKeeper$Board;)Z"⟩,
  ⟨"SlotKeeper", "say", "()I"⟩,
  ⟨"SlotKeeper$Saying", "tellPlan", "(LSlotKeeper$Board;LSlotKeeper$Timetable;)V"⟩,
  ⟨"SlotKeeper$Saying", "add", "(C)V"⟩,
  ⟨"SlotKeeper$Board", "leaves", "(I)Z"⟩,
  ⟨"SlotKeeper$Saying", "addNumber", "(I)V"⟩,
  ⟨"SlotKeeper", "said", "(I)I"⟩,
  ⟨"SlotKeeperLaw", "board", "(LSlotKeeper;I[J)I"⟩,
  ⟨"SlotKeeper", "board", "(I)I"⟩,
  ⟨"SlotKeeper", "checkArgument", "(III)V"⟩,
  ⟨"SlotKeeper$Reader", "read", "(I)I"⟩,
  ⟨"SlotKeeper$Reader", "step", "()V"⟩,
  ⟨"SlotKeeper$Reader", "tokenOf", "(B)I"⟩,
  ⟨"SlotKeeper$Reader", "readLine", "()V"⟩,
  ⟨"SlotKeeper$Reader", "isWord", "(Ljava/lang/String;)Z"⟩,
  ⟨"SlotKeeper$Reader", "readGap", "()V"⟩,
  ⟨"SlotKeeper$Reader", "readSort", "()I"⟩,
  ⟨"SlotKeeper$Reader", "stepOver", "(Z)V"⟩,
  ⟨"SlotKeeper$Reader", "refuse", "(I)V"⟩,
  ⟨"SlotKeeper$Reader", "readNumber", "(II)I"⟩,
  ⟨"SlotKeeper", "bit", "(Z)I"⟩,
  ⟨"SlotKeeper$Reader", "readCraft", "()V"⟩,
  ⟨"SlotKeeper$Board", "isFull", "()Z"⟩,
  ⟨"SlotKeeper$Board", "addCraft", "(IIII)V"⟩,
  ⟨"SlotKeeper$Reader", "readClosed", "()V"⟩,
  ⟨"SlotKeeper$Board", "addSpan", "(II)V"⟩,
  ⟨"SlotKeeper$Acts", "forget", "()V"⟩,
  ⟨"SlotKeeperLaw", "count", "(LSlotKeeper;I[J)I"⟩,
  ⟨"SlotKeeper", "count", "(I)I"⟩,
  ⟨"SlotKeeper", "checkElement", "(II)V"⟩,
  ⟨"SlotKeeper$Board", "crookedRows", "()I"⟩,
  ⟨"SlotKeeper$Board", "isCrooked", "(I)Z"⟩,
  ⟨"SlotKeeper$Board", "firstCrooked", "()I"⟩,
  ⟨"SlotKeeper$Board", "turnedCouples", "()I"⟩,
  ⟨"SlotKeeperLaw", "craft", "(LSlotKeeper;II[J)I"⟩,
  ⟨"SlotKeeper", "craft", "(II)I"⟩,
  ⟨"SlotKeeper$Runway", "slotOf", "(I)I"⟩,
  ⟨"SlotKeeper$Runway", "heldBy", "(I)I"⟩,
  ⟨"SlotKeeper$Board", "isClosed", "(I)Z"⟩,
  ⟨"SlotKeeper", "copyToPaper", "()LSlotKeeper$Runway;"⟩,
  ⟨"SlotKeeper$Runway", "useUpSlack", "(I)I"⟩,
  ⟨"SlotKeeperLaw", "planned", "(LSlotKeeper;I[J)I"⟩,
  ⟨"SlotKeeper", "planned", "(I)I"⟩,
  ⟨"SlotKeeperLaw", "gap", "(LSlotKeeper;II[J)I"⟩,
  ⟨"SlotKeeper", "gap", "(II)I"⟩,
  ⟨"SlotKeeperLaw", "closed", "(LSlotKeeper;IZ[J)I"⟩,
  ⟨"SlotKeeper", "closed", "(IZ)I"⟩,
  ⟨"SlotKeeperLaw", "come", "(LSlotKeeper;IIII[J)I"⟩,
  ⟨"SlotKeeper", "come", "(IIII)I"⟩,
  ⟨"SlotKeeperLaw", "go", "(LSlotKeeper;I[J)I"⟩,
  ⟨"SlotKeeper", "go", "(I)I"⟩,
  ⟨"SlotKeeper$Board", "removeCraft", "(I)V"⟩,
  ⟨"SlotKeeper$Board", "takeOut", "([III)V"⟩,
  ⟨"SlotKeeperLaw", "change", "(LSlotKeeper;III[J)I"⟩,
  ⟨"SlotKeeper", "change", "(III)I"⟩,
  ⟨"SlotKeeper", "changeReady", "(II)I"⟩,
  ⟨"SlotKeeper", "changeCell", "([III)I"⟩,
  ⟨"SlotKeeperLaw", "part", "(LSlotKeeper;III[J)I"⟩,
  ⟨"SlotKeeper", "part", "(III)I"⟩,
  ⟨"SlotKeeperLaw", "rule", "(LSlotKeeper;ZI[J)I"⟩,
  ⟨"SlotKeeper", "rule", "(ZI)I"⟩,
  ⟨"SlotKeeperLaw", "hurry", "(LSlotKeeper;II[J)I"⟩,
  ⟨"SlotKeeper", "hurry", "(II)I"⟩,
  ⟨"SlotKeeperLaw", "close", "(LSlotKeeper;II[J)I"⟩,
  ⟨"SlotKeeper", "close", "(II)I"⟩,
  ⟨"SlotKeeperLaw", "open", "(LSlotKeeper;I[J)I"⟩,
  ⟨"SlotKeeper", "open", "(I)I"⟩,
  ⟨"SlotKeeper$Board", "removeSpan", "(I)V"⟩,
  ⟨"SlotKeeperLaw", "loss", "(LSlotKeeper;II[J)I"⟩,
  ⟨"SlotKeeper", "loss", "(II)I"⟩,
  ⟨"SlotKeeper$Runway", "bestCost", "(I)I"⟩,
  ⟨"SlotKeeper$Search", "findBest", "(II)I"⟩,
  ⟨"SlotKeeper$Search", "goDeeper", "(III)V"⟩,
  ⟨"SlotKeeper$Search", "atLeast", "(III)I"⟩,
  ⟨"SlotKeeper$Runway", "sendAround", "(II)V"⟩,
  ⟨"SlotKeeperLaw", "day", "(LSlotKeeper;IIII[J)I"⟩,
  ⟨"SlotKeeper", "day", "(IIII)I"⟩,
  ⟨"SlotKeeper$Day", "run", "(III)V"⟩,
  ⟨"SlotKeeper$Day", "draw", "(I)I"⟩,
  ⟨"SlotKeeper$Day", "passTo", "(I)V"⟩,
  ⟨"SlotKeeper$Timetable", "waitAt", "(I)I"⟩,
  ⟨"SlotKeeper$Runway", "passTime", "(I)I"⟩,
  ⟨"SlotKeeper$Board", "finishFirst", "(I)V"⟩,
  ⟨"SlotKeeper$Day", "arrange", "(I)V"⟩,
  ⟨"SlotKeeper$Board", "setOrder", "([I)V"⟩,
  ⟨"SlotKeeper$Runway", "placeToPutIn", "(I)I"⟩,
  ⟨"SlotKeeperLaw", "best", "(LSlotKeeper;I[J)I"⟩,
  ⟨"SlotKeeper", "best", "(I)I"⟩,
  ⟨"SlotKeeperLaw", "bestAt", "(LSlotKeeper;II[J)I"⟩,
  ⟨"SlotKeeper", "bestAt", "(II)I"⟩,
  ⟨"SlotKeeperLaw", "worth", "(LSlotKeeper;I[J)I"⟩,
  ⟨"SlotKeeper", "worth", "(I)I"⟩,
  ⟨"SlotKeeperLaw", "plan", "(LSlotKeeper;I[J)I"⟩,
  ⟨"SlotKeeper", "plan", "(I)I"⟩,
  ⟨"SlotKeeperLaw", "told", "(LSlotKeeper;JI[J)I"⟩,
  ⟨"SlotKeeper", "told", "(JI)I"⟩,
  ⟨"SlotKeeper", "checkOrder", "(J)V"⟩,
  ⟨"SlotKeeperLaw", "tell", "(LSlotKeeper;J[J)I"⟩,
  ⟨"SlotKeeper", "tell", "(J)Z"⟩,
  ⟨"SlotKeeperLaw", "putIn", "(LSlotKeeper;I[J)I"⟩,
  ⟨"SlotKeeper", "putIn", "(I)I"⟩,
  ⟨"SlotKeeperLaw", "around", "(LSlotKeeper;II[J)I"⟩,
  ⟨"SlotKeeper", "around", "(II)I"⟩,
  ⟨"SlotKeeperLaw", "goOn", "(LSlotKeeper;I[J)I"⟩,
  ⟨"SlotKeeper", "goOn", "(I)I"⟩,
  ⟨"SlotKeeperLaw", "done", "(LSlotKeeper;II[J)I"⟩,
  ⟨"SlotKeeper", "done", "(II)I"⟩,
  ⟨"SlotKeeperLaw", "hole", "(LSlotKeeper;II[J)I"⟩,
  ⟨"SlotKeeper", "hole", "(II)I"⟩,
  ⟨"SlotKeeper$Runway", "holeFor", "(II)I"⟩,
  ⟨"SlotKeeper$Runway", "pushed", "(II)I"⟩,
  ⟨"SlotKeeper$Runway", "pushedBy", "(IIII)I"⟩,
  ⟨"SlotKeeperLaw", "sorted", "(LSlotKeeper;II[J)I"⟩,
  ⟨"SlotKeeper", "sorted", "(II)I"⟩,
  ⟨"SlotKeeper$Board", "countOf", "(I)I"⟩,
  ⟨"SlotKeeper$Board", "isOf", "(II)Z"⟩,
  ⟨"SlotKeeper$Runway", "waitsOf", "(I)I"⟩,
  ⟨"SlotKeeper$Runway", "longestWaitOf", "(I)I"⟩,
  ⟨"SlotKeeperModel", "thrown", "()I"⟩,
  ⟨"SlotKeeperModel", "<init>", "()V"⟩,
  ⟨"SlotKeeperModel", "clears", "([I)V"⟩,
  ⟨"SlotKeeperModel", "isIn", "(JJJ)Z"⟩,
  ⟨"SlotKeeperModel", "undo", "()I"⟩,
  ⟨"SlotKeeperModel", "feed", "(IIIII)I"⟩,
  ⟨"SlotKeeperModel", "comes", "(I)V"⟩,
  ⟨"SlotKeeperModel", "board", "(I)I"⟩,
  ⟨"SlotKeeperModel", "right", "(ZI)Z"⟩,
  ⟨"SlotKeeperModel", "goes", "()V"⟩,
  ⟨"SlotKeeperModel", "byteAt", "(I)I"⟩,
  ⟨"SlotKeeperModel", "isLetter", "(I)Z"⟩,
  ⟨"SlotKeeperModel", "isFigure", "(I)Z"⟩,
  ⟨"SlotKeeperModel", "fine", "()Z"⟩,
  ⟨"SlotKeeperModel", "readsLine", "()V"⟩,
  ⟨"SlotKeeperModel", "isWord", "(Ljava/lang/String;)Z"⟩,
  ⟨"SlotKeeperModel", "spelled", "(Ljava/lang/String;)J"⟩,
  ⟨"SlotKeeperModel", "sort", "()I"⟩,
  ⟨"SlotKeeperModel", "check", "(ZI)Z"⟩,
  ⟨"SlotKeeperModel", "number", "(II)I"⟩,
  ⟨"SlotKeeperModel", "readsCraft", "()V"⟩,
  ⟨"SlotKeeperModel", "fault", "()I"⟩,
  ⟨"SlotKeeperModel", "count", "(I)I"⟩,
  ⟨"SlotKeeperModel", "frozenNow", "()I"⟩,
  ⟨"SlotKeeperModel", "laysPlan", "()V"⟩,
  ⟨"SlotKeeperModel", "laysSlots", "()V"⟩,
  ⟨"SlotKeeperModel", "slotAt", "(I)I"⟩,
  ⟨"SlotKeeperModel", "ofCraft", "(II)I"⟩,
  ⟨"SlotKeeperModel", "gapOf", "(II)I"⟩,
  ⟨"SlotKeeperModel", "openFrom", "(I)I"⟩,
  ⟨"SlotKeeperModel", "frozen", "()I"⟩,
  ⟨"SlotKeeperModel", "holds", "()Z"⟩,
  ⟨"SlotKeeperModel", "isAllowed", "(I)Z"⟩,
  ⟨"SlotKeeperModel", "isNear", "(III)Z"⟩,
  ⟨"SlotKeeperModel", "rankOf", "(I)I"⟩,
  ⟨"SlotKeeperModel", "isHurried", "(I)I"⟩,
  ⟨"SlotKeeperModel", "costOf", "(I)I"⟩,
  ⟨"SlotKeeperModel", "waitAt", "(I)I"⟩,
  ⟨"SlotKeeperModel", "crooked", "(Z)I"⟩,
  ⟨"SlotKeeperModel", "turned", "()I"⟩,
  ⟨"SlotKeeperModel", "craft", "(II)I"⟩,
  ⟨"SlotKeeperModel", "isCraft", "(I)Z"⟩,
  ⟨"SlotKeeperModel", "placeOf", "(I)I"⟩,
  ⟨"SlotKeeperModel", "heldBy", "(I)I"⟩,
  ⟨"SlotKeeperModel", "isClosed", "(I)Z"⟩,
  ⟨"SlotKeeperModel", "slackOf", "(II)I"⟩,
  ⟨"SlotKeeperModel", "planned", "(I)I"⟩,
  ⟨"SlotKeeperModel", "gap", "(II)I"⟩,
  ⟨"SlotKeeperModel", "isSort", "(I)Z"⟩,
  ⟨"SlotKeeperModel", "closed", "(IZ)I"⟩,
  ⟨"SlotKeeperModel", "come", "(IIII)I"⟩,
  ⟨"SlotKeeperModel", "keeps", "()V"⟩,
  ⟨"SlotKeeperModel", "go", "(I)I"⟩,
  ⟨"SlotKeeperModel", "takesOut", "(I)V"⟩,
  ⟨"SlotKeeperModel", "change", "(III)I"⟩,
  ⟨"SlotKeeperModel", "part", "(III)I"⟩,
  ⟨"SlotKeeperModel", "rule", "(ZI)I"⟩,
  ⟨"SlotKeeperModel", "best", "(I)I"⟩,
  ⟨"SlotKeeperModel", "isCost", "(I)Z"⟩,
  ⟨"SlotKeeperModel", "finds", "(IIZ)V"⟩,
  ⟨"SlotKeeperModel", "tries", "(IIII)V"⟩,
  ⟨"SlotKeeperModel", "told", "()I"⟩,
  ⟨"SlotKeeperModel", "bestAt", "(II)I"⟩,
  ⟨"SlotKeeperModel", "ways", "(Z)I"⟩,
  ⟨"SlotKeeperModel", "worth", "(I)I"⟩,
  ⟨"SlotKeeperModel", "plan", "(I)I"⟩,
  ⟨"SlotKeeperModel", "byRanks", "()I"⟩,
  ⟨"SlotKeeperModel", "told", "(JI)I"⟩,
  ⟨"SlotKeeperModel", "laysTold", "(J)Z"⟩,
  ⟨"SlotKeeperModel", "tell", "(J)Z"⟩,
  ⟨"SlotKeeperModel", "putIn", "(I)I"⟩,
  ⟨"SlotKeeperModel", "bestPlace", "(II)I"⟩,
  ⟨"SlotKeeperModel", "laysWith", "(II)V"⟩,
  ⟨"SlotKeeperModel", "takesOrder", "()V"⟩,
  ⟨"SlotKeeperModel", "trade", "()I"⟩,
  ⟨"SlotKeeperModel", "bestTrade", "()I"⟩,
  ⟨"SlotKeeperModel", "laysTraded", "(I)V"⟩,
  ⟨"SlotKeeperModel", "around", "(II)I"⟩,
  ⟨"SlotKeeperModel", "goesAround", "(II)V"⟩,
  ⟨"SlotKeeperModel", "goOn", "(I)I"⟩,
  ⟨"SlotKeeperModel", "passesTo", "(I)I"⟩,
  ⟨"SlotKeeperModel", "isDone", "(III)V"⟩,
  ⟨"SlotKeeperModel", "done", "(II)I"⟩,
  ⟨"SlotKeeperModel", "hole", "(II)I"⟩,
  ⟨"SlotKeeperModel", "isHole", "(II)Z"⟩,
  ⟨"SlotKeeperModel", "isApart", "(IIII)Z"⟩,
  ⟨"SlotKeeperModel", "sorted", "(II)I"⟩,
  ⟨"SlotKeeperModel", "say", "()I"⟩,
  ⟨"SlotKeeperModel", "says", "(I)V"⟩,
  ⟨"SlotKeeperModel", "saysNumber", "(I)V"⟩,
  ⟨"SlotKeeperModel", "said", "(I)I"⟩,
  ⟨"SlotKeeperModel", "hurry", "(II)I"⟩,
  ⟨"SlotKeeperModel", "close", "(II)I"⟩,
  ⟨"SlotKeeperModel", "open", "(I)I"⟩,
  ⟨"SlotKeeperModel", "loss", "(II)I"⟩,
  ⟨"SlotKeeperModel", "laysAside", "()V"⟩,
  ⟨"SlotKeeperModel", "comesBack", "()V"⟩,
  ⟨"SlotKeeperModel", "day", "(IIII)I"⟩,
  ⟨"SlotKeeperModel", "beginsDay", "(I)V"⟩,
  ⟨"SlotKeeperModel", "draw", "(I)I"⟩,
  ⟨"SlotKeeperModel", "places", "(I)V"⟩,
  ⟨"SlotKeeperLaw", "law", "([I)Z"⟩]
def yOf (j : Nat) : MethodName := yTab.getD j ⟨"", "", ""⟩
noncomputable def ccTab : List ByteArray := [prog_1_method_1_code, prog_6_method_1_code, prog_3_method_1_code, prog_3_method_2_code, prog_3_method_3_code, prog_26_method_103_code, prog_8_method_1_code, prog_9_method_1_code, prog_4_method_1_code, prog_5_method_1_code, prog_2_method_1_code, prog_7_method_1_code, prog_1_method_2_code, prog_1_method_3_code, prog_1_method_5_code, prog_1_method_25_code, prog_6_method_4_code, prog_9_method_2_code, prog_9_method_3_code, prog_3_method_9_code, prog_9_method_4_code, prog_9_method_5_code, prog_3_method_16_code, prog_9_method_6_code, prog_8_method_9_code, prog_8_method_3_code, prog_3_method_18_code, prog_3_method_19_code, prog_8_method_10_code, prog_8_method_7_code, prog_1_method_46_code, prog_8_method_11_code, prog_8_method_8_code, prog_8_method_6_code, prog_1_method_28_code, prog_2_method_2_code, prog_3_method_4_code, prog_3_method_5_code, prog_6_method_7_code, prog_6_method_8_code, prog_3_method_28_code, prog_3_method_17_code, prog_3_method_29_code, prog_6_method_2_code, prog_9_method_10_code, prog_9_method_11_code, prog_1_method_33_code, prog_6_method_11_code, prog_6_method_10_code, prog_9_method_7_code, prog_9_method_8_code, prog_6_method_6_code, prog_3_method_27_code, prog_1_method_39_code, prog_2_method_3_code, prog_1_method_40_code, prog_7_method_2_code, prog_7_method_4_code, prog_3_method_8_code, prog_7_method_3_code, prog_1_method_41_code, method_3_code, prog_1_method_4_code, prog_1_method_44_code, prog_5_method_2_code, prog_5_method_11_code, prog_5_method_12_code, prog_5_method_3_code, prog_5_method_13_code, prog_5_method_4_code, prog_5_method_7_code, prog_5_method_9_code, prog_5_method_10_code, prog_5_method_8_code, prog_1_method_45_code, prog_5_method_5_code, prog_3_method_7_code, prog_3_method_10_code, prog_5_method_6_code, prog_3_method_13_code, prog_2_method_4_code, method_4_code, prog_1_method_6_code, prog_1_method_43_code, prog_3_method_24_code, prog_3_method_23_code, prog_3_method_25_code, prog_3_method_22_code, method_5_code, prog_1_method_7_code, prog_6_method_3_code, prog_6_method_14_code, prog_3_method_15_code, prog_1_method_42_code, prog_6_method_15_code, method_6_code, prog_1_method_8_code, method_7_code, prog_1_method_9_code, method_8_code, prog_1_method_10_code, method_9_code, prog_1_method_11_code, method_10_code, prog_1_method_12_code, prog_3_method_11_code, prog_3_method_6_code, method_11_code, prog_1_method_13_code, prog_1_method_14_code, prog_1_method_15_code, method_12_code, prog_1_method_16_code, method_13_code, prog_1_method_17_code, method_14_code, prog_1_method_18_code, method_15_code, prog_1_method_19_code, method_16_code, prog_1_method_20_code, prog_3_method_14_code, method_17_code, prog_1_method_21_code, prog_6_method_5_code, prog_8_method_2_code, prog_8_method_4_code, prog_8_method_5_code, prog_6_method_12_code, method_18_code, prog_1_method_22_code, prog_4_method_2_code, prog_4_method_3_code, prog_4_method_5_code, prog_9_method_9_code, prog_6_method_13_code, prog_3_method_12_code, prog_4_method_4_code, prog_3_method_26_code, prog_6_method_9_code, method_19_code, prog_1_method_23_code, method_20_code, prog_1_method_24_code, method_21_code, prog_1_method_26_code, method_22_code, prog_1_method_27_code, method_23_code, prog_1_method_29_code, prog_1_method_31_code, method_24_code, prog_1_method_30_code, method_25_code, prog_1_method_32_code, method_26_code, prog_1_method_34_code, method_27_code, prog_1_method_35_code, method_28_code, prog_1_method_36_code, method_29_code, prog_1_method_37_code, prog_6_method_16_code, prog_6_method_17_code, prog_6_method_18_code, method_30_code, prog_1_method_38_code, prog_3_method_20_code, prog_3_method_21_code, prog_6_method_19_code, prog_6_method_20_code, prog_11_method_1_code, prog_11_method_5_code, prog_11_method_4_code, prog_11_method_3_code, prog_11_method_7_code, prog_11_method_12_code, prog_11_method_11_code, prog_11_method_25_code, prog_11_method_2_code, prog_11_method_17_code, prog_11_method_13_code, prog_11_method_14_code, prog_11_method_15_code, prog_11_method_18_code, prog_11_method_23_code, prog_11_method_20_code, prog_11_method_16_code, prog_11_method_22_code, prog_11_method_19_code, prog_11_method_21_code, prog_11_method_24_code, prog_11_method_26_code, prog_11_method_41_code, prog_11_method_35_code, prog_11_method_29_code, prog_11_method_30_code, prog_11_method_28_code, prog_11_method_8_code, prog_11_method_10_code, prog_11_method_27_code, prog_11_method_34_code, prog_11_method_33_code, prog_11_method_39_code, prog_11_method_38_code, prog_11_method_37_code, prog_11_method_36_code, prog_11_method_32_code, prog_11_method_31_code, prog_11_method_42_code, prog_11_method_43_code, prog_11_method_44_code, prog_11_method_9_code, prog_11_method_40_code, prog_11_method_46_code, prog_11_method_45_code, prog_11_method_47_code, prog_11_method_48_code, prog_11_method_50_code, prog_11_method_49_code, prog_11_method_51_code, prog_11_method_52_code, prog_11_method_6_code, prog_11_method_54_code, prog_11_method_53_code, prog_11_method_55_code, prog_11_method_56_code, prog_11_method_57_code, prog_11_method_62_code, prog_11_method_60_code, prog_11_method_59_code, prog_11_method_58_code, prog_11_method_61_code, prog_11_method_63_code, prog_11_method_64_code, prog_11_method_65_code, prog_11_method_66_code, prog_11_method_67_code, prog_11_method_69_code, prog_11_method_68_code, prog_11_method_70_code, prog_11_method_72_code, prog_11_method_73_code, prog_11_method_71_code, prog_11_method_74_code, prog_11_method_76_code, prog_11_method_77_code, prog_11_method_75_code, prog_11_method_78_code, prog_11_method_79_code, prog_11_method_81_code, prog_11_method_82_code, prog_11_method_80_code, prog_11_method_83_code, prog_11_method_86_code, prog_11_method_85_code, prog_11_method_84_code, prog_11_method_87_code, prog_11_method_90_code, prog_11_method_88_code, prog_11_method_89_code, prog_11_method_91_code, prog_11_method_92_code, prog_11_method_93_code, prog_11_method_94_code, prog_11_method_97_code, prog_11_method_95_code, prog_11_method_96_code, prog_11_method_101_code, prog_11_method_99_code, prog_11_method_98_code, prog_11_method_100_code, code]
noncomputable def ccOf (j : Nat) : ByteArray := ccTab.getD j ByteArray.empty
def retTab : List (Option FieldType) := [none, none, none, none, none, none, none, none, none, none, none, none, some .int, none, some .int, some .int, some .int, some (.object "SlotKeeper$Timetable"), none, some .int, some .int, some .int, some .int, some .int, some .int, none, some .int, some .boolean, some .boolean, some .boolean, some .boolean, some .int, some .int, some .boolean, some .int, none, none, none, none, some .int, none, some .int, none, some (.object "SlotKeeper$Timetable"), some .int, some .int, some .int, some .int, none, some .boolean, some .boolean, some .boolean, some .boolean, some .int, some .boolean, some .int, none, none, some .boolean, none, some .int, some .int, some .int, none, some .int, none, some .int, none, some .boolean, none, some .int, none, none, some .int, some .int, none, some .boolean, none, none, none, none, some .int, some .int, none, some .int, some .boolean, some .int, some .int, some .int, some .int, some .int, some .int, some .boolean, some (.object "SlotKeeper$Runway"), some .int, some .int, some .int, some .int, some .int, some .int, some .int, some .int, some .int, some .int, some .int, none, none, some .int, some .int, some .int, some .int, some .int, some .int, some .int, some .int, some .int, some .int, some .int, some .int, some .int, some .int, none, some .int, some .int, some .int, some .int, none, some .int, none, some .int, some .int, none, some .int, none, some .int, some .int, none, none, none, some .int, some .int, some .int, some .int, some .int, some .int, some .int, some .int, some .int, some .int, some .int, none, some .int, some .boolean, some .int, some .int, some .int, some .int, some .int, some .int, some .int, some .int, some .int, some .int, some .int, some .int, some .int, some .int, some .int, some .int, some .boolean, some .int, some .int, some .int, none, none, some .boolean, some .int, some .int, none, some .int, some .boolean, none, some .int, some .boolean, some .boolean, some .boolean, none, some .boolean, some .long, some .int, some .boolean, some .int, none, some .int, some .int, some .int, none, none, some .int, some .int, some .int, some .int, some .int, some .boolean, some .boolean, some .boolean, some .int, some .int, some .int, some .int, some .int, some .int, some .int, some .boolean, some .int, some .int, some .boolean, some .int, some .int, some .int, some .boolean, some .int, some .int, none, some .int, none, some .int, some .int, some .int, some .int, some .boolean, none, none, some .int, some .int, some .int, some .int, some .int, some .int, some .int, some .boolean, some .boolean, some .int, some .int, none, none, some .int, some .int, none, some .int, none, some .int, some .int, none, some .int, some .int, some .boolean, some .boolean, some .int, some .int, none, none, some .int, some .int, some .int, some .int, some .int, none, none, some .int, none, some .int, none, some .boolean]
def retOf (j : Nat) : Option FieldType := retTab.getD j none
def clTab : List Nat := [8, 4, 1, 1, 1, 11, 6, 7, 2, 3, 0, 5, 8, 8, 8, 8, 4, 7, 7, 1, 7, 7, 1, 7, 6, 6, 1, 1, 6, 6, 8, 6, 6, 6, 8, 0, 1, 1, 4, 4, 1, 1, 1, 4, 7, 7, 8, 4, 4, 7, 7, 4, 1, 8, 0, 8, 5, 5, 1, 5, 8, 10, 8, 8, 3, 3, 3, 3, 3, 3, 3, 3, 3, 3, 8, 3, 1, 1, 3, 1, 0, 10, 8, 8, 1, 1, 1, 1, 10, 8, 4, 4, 1, 8, 4, 10, 8, 10, 8, 10, 8, 10, 8, 10, 8, 1, 1, 10, 8, 8, 8, 10, 8, 10, 8, 10, 8, 10, 8, 10, 8, 1, 10, 8, 4, 6, 6, 6, 4, 10, 8, 2, 2, 2, 7, 4, 1, 2, 1, 4, 10, 8, 10, 8, 10, 8, 10, 8, 10, 8, 8, 10, 8, 10, 8, 10, 8, 10, 8, 10, 8, 10, 8, 4, 4, 4, 10, 8, 1, 1, 4, 4, 9, 9, 9, 9, 9, 9, 9, 9, 9, 9, 9, 9, 9, 9, 9, 9, 9, 9, 9, 9, 9, 9, 9, 9, 9, 9, 9, 9, 9, 9, 9, 9, 9, 9, 9, 9, 9, 9, 9, 9, 9, 9, 9, 9, 9, 9, 9, 9, 9, 9, 9, 9, 9, 9, 9, 9, 9, 9, 9, 9, 9, 9, 9, 9, 9, 9, 9, 9, 9, 9, 9, 9, 9, 9, 9, 9, 9, 9, 9, 9, 9, 9, 9, 9, 9, 9, 9, 9, 9, 9, 9, 9, 9, 9, 9, 9, 9, 9, 9, 9, 9, 10]
def clOf (j : Nat) : Nat := clTab.getD j 0
/-- the words that stay true: every method's -/
def GW : List Cond := lw_tbl.filter goodWord
theorem gw_at {w : Cond} (i : Nat) (h : lw_tbl[i]? = some w) (hg : goodWord w = true) : w ∈ GW := List.mem_filter.mpr ⟨List.mem_of_getElem? h, hg⟩
theorem gw_tab {α : Type} (t : List (α × Nat)) (f : α → Cond) (h : t.all (fun z => decide (lw_tbl[z.2]? = some (f z.1)) && goodWord (f z.1)) = true) {q : α} (hq : q ∈ t.map Prod.fst) : f q ∈ GW := by
  obtain ⟨z, hz, rfl⟩ := List.mem_map.mp hq
  have h1 := List.all_eq_true.mp h z hz
  simp only [Bool.and_eq_true, decide_eq_true_eq] at h1
  exact gw_at z.2 h1.1 h1.2
theorem gw_good : ∀ w ∈ GW, goodWord w = true := fun _ h => (List.mem_filter.mp h).2
def tabI : List ((Nat × Nat × Int) × Nat) := [((2, 77, 1103515245), 1101), ((3, 131, 100000), 757), ((4, 103, 2147483647), 1138), ((6, 38, 2147483647), 1067), ((8, 235, (-1000000)), 1058), ((9, 120, 1000000), 1421), ((9, 296, 1000000000), 1627), ((9, 367, (-1000000)), 1770), ((9, 377, 1103515245), 1792)]
set_option maxRecDepth 100000 in
theorem tabI_ok : ∀ q ∈ tabI.map Prod.fst, Cond.constant (cn q.1) q.2.1 (Int32.ofInt q.2.2) ∈ GW := fun q hq => gw_tab tabI (fun q => Cond.constant (cn q.1) q.2.1 (Int32.ofInt q.2.2)) (by decide +kernel) hq
def tabJ : List ((Nat × Nat × Nat) × Nat) := [((8, 289, 10), 1183), ((9, 7, 56), 1283), ((9, 9, 119), 1284), ((9, 70, 97), 1413), ((9, 72, 122), 1414), ((9, 74, 48), 1419), ((9, 76, 57), 1420), ((9, 84, 32), 1415), ((9, 215, 16), 1471), ((9, 239, 13), 1549), ((9, 253, 7), 1577), ((9, 258, 999), 1586), ((9, 260, 1999), 1587), ((9, 262, 20), 1588), ((9, 270, 2), 1605), ((9, 272, 99), 1610), ((9, 274, 3), 1615), ((9, 307, 10), 1664), ((9, 365, 1998), 1761), ((9, 378, 40), 1783), ((10, 199, 4294967295), 1797)]
set_option maxRecDepth 100000 in
theorem tabJ_ok : ∀ q ∈ tabJ.map Prod.fst, Cond.constantLong (cn q.1) q.2.1 (Int64.ofNat q.2.2) ∈ GW := fun q hq => gw_tab tabJ (fun q => Cond.constantLong (cn q.1) q.2.1 (Int64.ofNat q.2.2)) (by decide +kernel) hq
def tabF : List ((Nat × Nat × Nat × Nat) × Nat) := [((0, 11, 0, 0), 400), ((0, 18, 0, 2), 402), ((0, 22, 0, 1), 401), ((1, 9, 1, 1), 151), ((1, 15, 1, 2), 156), ((1, 18, 1, 3), 160), ((1, 21, 1, 4), 165), ((1, 24, 1, 5), 169), ((1, 27, 1, 6), 171), ((1, 30, 1, 7), 177), ((1, 33, 1, 9), 184), ((1, 36, 1, 10), 186), ((1, 39, 1, 15), 206), ((1, 42, 1, 16), 210), ((1, 45, 1, 17), 214), ((1, 54, 1, 8), 181), ((1, 58, 1, 11), 188), ((1, 61, 1, 12), 193), ((1, 70, 1, 0), 146), ((1, 73, 1, 14), 202), ((1, 76, 1, 13), 198), ((2, 9, 2, 0), 336), ((2, 15, 4, 0), 314), ((2, 26, 2, 1), 337), ((2, 30, 2, 2), 338), ((2, 33, 2, 3), 340), ((2, 36, 2, 4), 342), ((2, 43, 1, 13), 197), ((2, 54, 1, 6), 175), ((2, 81, 4, 1), 316), ((2, 85, 6, 4), 288), ((2, 94, 1, 0), 148), ((2, 114, 7, 2), 272), ((2, 120, 1, 4), 166), ((3, 9, 3, 0), 361), ((3, 15, 3, 1), 362), ((3, 25, 3, 2), 363), ((3, 29, 3, 3), 364), ((3, 32, 3, 7), 368), ((3, 43, 3, 4), 365), ((3, 73, 1, 11), 189), ((3, 77, 1, 12), 194), ((3, 91, 1, 7), 178), ((3, 103, 1, 8), 182), ((3, 118, 3, 6), 367), ((3, 121, 3, 5), 366), ((3, 124, 3, 8), 370), ((4, 9, 4, 3), 320), ((4, 18, 4, 0), 312), ((4, 27, 4, 1), 315), ((4, 34, 4, 2), 318), ((4, 38, 1, 6), 172), ((4, 49, 7, 2), 271), ((4, 56, 1, 13), 200), ((4, 60, 1, 12), 195), ((4, 78, 1, 0), 149), ((4, 89, 1, 11), 191), ((4, 123, 1, 2), 159), ((4, 126, 1, 3), 164), ((4, 136, 1, 1), 155), ((4, 143, 1, 14), 205), ((4, 146, 1, 16), 212), ((4, 149, 1, 15), 208), ((5, 11, 5, 0), 417), ((5, 15, 5, 1), 419), ((5, 19, 1, 0), 144), ((5, 24, 1, 6), 173), ((5, 36, 1, 1), 152), ((5, 43, 7, 2), 270), ((6, 9, 6, 2), 285), ((6, 15, 6, 3), 286), ((6, 18, 6, 4), 287), ((6, 21, 6, 0), 283), ((6, 30, 6, 1), 284), ((6, 34, 6, 5), 290), ((6, 39, 6, 6), 291), ((6, 45, 1, 6), 174), ((6, 54, 1, 3), 161), ((6, 69, 1, 0), 147), ((6, 81, 7, 1), 268), ((6, 103, 1, 11), 190), ((6, 106, 6, 7), 292), ((7, 9, 7, 1), 267), ((7, 15, 7, 2), 269), ((7, 18, 7, 3), 273), ((7, 21, 7, 0), 266), ((7, 28, 1, 0), 145), ((7, 38, 1, 13), 199), ((7, 41, 1, 14), 203), ((7, 44, 1, 16), 211), ((7, 47, 1, 15), 207), ((7, 65, 1, 1), 153), ((7, 68, 1, 7), 179), ((7, 71, 1, 2), 157), ((7, 78, 1, 3), 163), ((7, 85, 1, 4), 168), ((8, 10, 8, 0), 426), ((8, 16, 8, 1), 427), ((8, 24, 8, 2), 428), ((8, 28, 8, 6), 432), ((8, 34, 4, 0), 313), ((8, 41, 8, 3), 429), ((8, 48, 8, 4), 430), ((8, 55, 8, 5), 431), ((8, 59, 8, 9), 435), ((8, 63, 8, 8), 434), ((8, 67, 8, 7), 433), ((8, 82, 3, 8), 369), ((8, 98, 1, 0), 150), ((8, 101, 1, 13), 201), ((8, 104, 1, 11), 192), ((8, 107, 1, 12), 196), ((8, 114, 1, 14), 204), ((8, 117, 1, 8), 183), ((8, 120, 0, 2), 403), ((8, 137, 1, 6), 176), ((8, 156, 1, 1), 154), ((8, 159, 1, 2), 158), ((8, 162, 1, 3), 162), ((8, 165, 1, 4), 167), ((8, 183, 1, 5), 170), ((8, 196, 1, 7), 180), ((8, 199, 1, 10), 187), ((8, 202, 1, 9), 185), ((8, 245, 2, 2), 339), ((8, 248, 2, 3), 341), ((8, 251, 2, 4), 343), ((8, 254, 4, 1), 317), ((8, 258, 6, 4), 289), ((8, 278, 4, 2), 319), ((8, 313, 1, 15), 209), ((8, 316, 1, 16), 213), ((8, 319, 1, 17), 215), ((8, 342, 5, 1), 420), ((8, 345, 5, 0), 418), ((9, 1, 9, 0), 1288), ((9, 21, 9, 1), 1289), ((9, 25, 9, 2), 1290), ((9, 28, 9, 3), 1291), ((9, 31, 9, 4), 1292), ((9, 34, 9, 6), 1294), ((9, 38, 9, 16), 1304), ((9, 41, 9, 17), 1305), ((9, 44, 9, 18), 1306), ((9, 47, 9, 19), 1307), ((9, 50, 9, 28), 1316), ((9, 57, 9, 5), 1293), ((9, 60, 9, 7), 1295), ((9, 67, 9, 8), 1296), ((9, 90, 9, 9), 1297), ((9, 97, 9, 10), 1298), ((9, 100, 9, 11), 1299), ((9, 107, 9, 14), 1302), ((9, 111, 9, 13), 1301), ((9, 117, 9, 12), 1300), ((9, 127, 9, 15), 1303), ((9, 276, 9, 21), 1309), ((9, 279, 9, 22), 1310), ((9, 283, 9, 20), 1308), ((9, 286, 9, 24), 1312), ((9, 289, 9, 23), 1311), ((9, 335, 9, 25), 1313), ((9, 338, 9, 26), 1314), ((9, 341, 9, 27), 1315), ((9, 356, 9, 29), 1317), ((9, 374, 9, 30), 1318)]
set_option maxRecDepth 100000 in
theorem tabF_ok : ∀ q ∈ tabF.map Prod.fst, Cond.fieldLink (cn q.1) q.2.1 (cn q.2.2.1) (TT q.2.2.1 q.2.2.2).2.1 (TT q.2.2.1 q.2.2.2).2.2.1 ∈ GW := fun q hq => gw_tab tabF (fun q => Cond.fieldLink (cn q.1) q.2.1 (cn q.2.2.1) (TT q.2.2.1 q.2.2.2).2.1 (TT q.2.2.1 q.2.2.2).2.2.1) (by decide +kernel) hq
def tabM : List ((Nat × Nat × Nat) × Nat) := [((0, 17, 2), 399), ((0, 25, 36), 557), ((1, 48, 3), 133), ((1, 51, 4), 137), ((1, 64, 5), 141), ((1, 79, 37), 561), ((1, 95, 76), 853), ((1, 99, 41), 584), ((1, 103, 106), 992), ((1, 107, 105), 1121), ((1, 111, 22), 940), ((1, 114, 27), 520), ((1, 118, 169), 1256), ((1, 121, 19), 907), ((1, 124, 85), 903), ((1, 128, 42), 588), ((2, 21, 4), 1096), ((2, 39, 132), 1097), ((2, 46, 133), 1102), ((2, 50, 76), 1122), ((2, 58, 90), 1123), ((2, 61, 77), 1124), ((2, 65, 137), 1125), ((2, 68, 43), 1106), ((2, 72, 44), 1142), ((2, 78, 124), 1129), ((2, 90, 138), 1130), ((2, 97, 139), 1134), ((2, 100, 40), 1139), ((2, 104, 47), 1140), ((2, 108, 42), 1141), ((2, 111, 23), 1107), ((2, 117, 134), 1108), ((2, 129, 135), 1113), ((3, 35, 3), 749), ((3, 40, 65), 750), ((3, 46, 67), 758), ((3, 51, 68), 763), ((3, 55, 69), 815), ((3, 60, 75), 841), ((3, 65, 78), 855), ((3, 70, 73), 833), ((3, 79, 72), 829), ((3, 83, 71), 825), ((3, 87, 70), 819), ((3, 95, 76), 845), ((3, 99, 77), 849), ((3, 106, 79), 859), ((3, 127, 66), 754), ((4, 17, 2), 129), ((4, 24, 6), 256), ((4, 33, 7), 311), ((4, 41, 17), 477), ((4, 45, 43), 929), ((4, 52, 41), 930), ((4, 63, 23), 504), ((4, 66, 16), 574), ((4, 70, 125), 1063), ((4, 74, 52), 629), ((4, 81, 26), 633), ((4, 92, 39), 575), ((4, 95, 40), 580), ((4, 99, 27), 579), ((4, 104, 48), 613), ((4, 107, 44), 612), ((4, 110, 49), 617), ((4, 114, 51), 625), ((4, 117, 90), 950), ((4, 132, 136), 1117), ((4, 139, 92), 936), ((4, 152, 19), 941), ((4, 155, 164), 1236), ((4, 158, 22), 1240), ((4, 161, 165), 1241), ((4, 165, 169), 1264), ((4, 168, 134), 1265), ((5, 28, 57), 654), ((5, 32, 58), 658), ((5, 39, 59), 662), ((5, 48, 50), 666), ((6, 27, 7), 262), ((6, 42, 25), 512), ((6, 50, 20), 529), ((6, 57, 45), 1068), ((6, 61, 29), 530), ((6, 65, 126), 1069), ((6, 72, 26), 516), ((6, 76, 18), 524), ((6, 77, 127), 1073), ((6, 90, 32), 541), ((6, 96, 33), 545), ((6, 100, 21), 1077), ((6, 110, 28), 525), ((6, 113, 31), 537), ((7, 25, 18), 481), ((7, 34, 20), 492), ((7, 50, 19), 485), ((7, 58, 21), 496), ((7, 61, 22), 500), ((7, 74, 50), 621), ((7, 81, 45), 600), ((8, 9, 1), 123), ((8, 21, 8), 332), ((8, 38, 9), 357), ((8, 47, 10), 393), ((8, 70, 13), 461), ((8, 74, 63), 679), ((8, 78, 64), 744), ((8, 85, 36), 865), ((8, 91, 80), 866), ((8, 94, 83), 878), ((8, 110, 16), 473), ((8, 123, 43), 592), ((8, 127, 49), 896), ((8, 133, 74), 897), ((8, 140, 51), 898), ((8, 144, 44), 596), ((8, 147, 84), 899), ((8, 150, 86), 908), ((8, 153, 87), 912), ((8, 168, 26), 923), ((8, 171, 41), 924), ((8, 174, 90), 925), ((8, 186, 91), 932), ((8, 189, 93), 942), ((8, 193, 94), 946), ((8, 205, 76), 979), ((8, 208, 35), 553), ((8, 211, 77), 980), ((8, 215, 105), 988), ((8, 218, 109), 1002), ((8, 221, 110), 1006), ((8, 225, 79), 1038), ((8, 228, 121), 1046), ((8, 231, 58), 1057), ((8, 236, 124), 1059), ((8, 239, 128), 1079), ((8, 242, 131), 1092), ((8, 263, 24), 508), ((8, 267, 138), 1171), ((8, 271, 38), 570), ((8, 274, 150), 1179), ((8, 282, 17), 1185), ((8, 286, 52), 1193), ((8, 291, 30), 1184), ((8, 298, 139), 1201), ((8, 301, 40), 1202), ((8, 304, 47), 608), ((8, 307, 42), 637), ((8, 310, 135), 1217), ((8, 322, 163), 1232), ((8, 325, 168), 1252), ((8, 328, 170), 1260), ((8, 331, 171), 1266), ((8, 334, 54), 642), ((8, 338, 56), 650), ((9, 11, 175), 1285), ((9, 53, 174), 1280), ((9, 63, 178), 1390), ((9, 93, 182), 1406), ((9, 103, 183), 1410), ((9, 114, 184), 1416), ((9, 130, 185), 1423), ((9, 134, 188), 1437), ((9, 138, 190), 1447), ((9, 142, 181), 1402), ((9, 147, 187), 1432), ((9, 153, 191), 1451), ((9, 158, 189), 1441), ((9, 163, 192), 1456), ((9, 172, 180), 1398), ((9, 175, 186), 1427), ((9, 178, 199), 1488), ((9, 184, 200), 1493), ((9, 187, 201), 1497), ((9, 190, 197), 1480), ((9, 193, 198), 1484), ((9, 196, 209), 1529), ((9, 199, 196), 1476), ((9, 202, 202), 1501), ((9, 205, 207), 1521), ((9, 208, 206), 1517), ((9, 211, 205), 1513), ((9, 217, 195), 1472), ((9, 220, 203), 1505), ((9, 223, 204), 1509), ((9, 226, 208), 1525), ((9, 229, 210), 1533), ((9, 233, 211), 1537), ((9, 236, 213), 1545), ((9, 241, 214), 1550), ((9, 244, 215), 1554), ((9, 247, 217), 1562), ((9, 250, 216), 1558), ((9, 255, 220), 1574), ((9, 264, 223), 1589), ((9, 267, 225), 1597), ((9, 292, 232), 1628), ((9, 297, 230), 1620), ((9, 300, 231), 1623), ((9, 304, 233), 1632), ((9, 309, 240), 1660), ((9, 313, 243), 1673), ((9, 316, 244), 1677), ((9, 320, 245), 1681), ((9, 323, 247), 1689), ((9, 326, 248), 1693), ((9, 329, 250), 1701), ((9, 332, 252), 1709), ((9, 344, 253), 1713), ((9, 348, 257), 1729), ((9, 352, 256), 1725), ((9, 359, 261), 1745), ((9, 362, 260), 1741), ((9, 368, 267), 1771), ((9, 371, 268), 1775), ((9, 380, 270), 1784), ((9, 383, 271), 1788), ((9, 386, 272), 1793), ((10, 7, 62), 675), ((10, 15, 82), 874), ((10, 20, 89), 919), ((10, 24, 96), 954), ((10, 27, 98), 961), ((10, 30, 100), 968), ((10, 34, 102), 975), ((10, 38, 104), 984), ((10, 41, 108), 998), ((10, 45, 112), 1013), ((10, 48, 114), 1020), ((10, 52, 116), 1027), ((10, 55, 118), 1034), ((10, 58, 120), 1042), ((10, 61, 123), 1053), ((10, 64, 130), 1088), ((10, 67, 141), 1146), ((10, 70, 143), 1153), ((10, 73, 145), 1160), ((10, 76, 147), 1167), ((10, 79, 149), 1175), ((10, 83, 152), 1189), ((10, 87, 154), 1197), ((10, 90, 156), 1206), ((10, 93, 158), 1213), ((10, 96, 160), 1221), ((10, 99, 162), 1228), ((10, 102, 167), 1248), ((10, 105, 0), 115), ((10, 108, 173), 1276), ((10, 109, 12), 457), ((10, 113, 177), 1386), ((10, 114, 61), 671), ((10, 119, 179), 1394), ((10, 120, 172), 1270), ((10, 124, 14), 465), ((10, 127, 193), 1463), ((10, 128, 81), 870), ((10, 130, 194), 1467), ((10, 131, 88), 916), ((10, 134, 212), 1541), ((10, 135, 95), 951), ((10, 137, 218), 1566), ((10, 138, 97), 958), ((10, 140, 219), 1570), ((10, 141, 99), 965), ((10, 144, 221), 1578), ((10, 145, 101), 972), ((10, 148, 222), 1582), ((10, 149, 103), 981), ((10, 151, 224), 1593), ((10, 152, 107), 995), ((10, 155, 226), 1601), ((10, 156, 111), 1010), ((10, 158, 227), 1606), ((10, 159, 113), 1017), ((10, 162, 228), 1611), ((10, 163, 115), 1024), ((10, 165, 263), 1753), ((10, 166, 117), 1031), ((10, 168, 264), 1757), ((10, 169, 119), 1039), ((10, 171, 265), 1762), ((10, 172, 122), 1050), ((10, 174, 266), 1766), ((10, 175, 129), 1085), ((10, 177, 269), 1779), ((10, 178, 140), 1143), ((10, 180, 229), 1616), ((10, 181, 142), 1150), ((10, 183, 234), 1636), ((10, 184, 15), 469), ((10, 188, 235), 1640), ((10, 189, 144), 1157), ((10, 191, 236), 1644), ((10, 192, 146), 1164), ((10, 194, 237), 1648), ((10, 195, 34), 549), ((10, 198, 238), 1652), ((10, 201, 148), 1172), ((10, 204, 239), 1656), ((10, 205, 151), 1186), ((10, 208, 241), 1665), ((10, 209, 153), 1194), ((10, 211, 242), 1669), ((10, 212, 46), 604), ((10, 215, 246), 1685), ((10, 216, 155), 1203), ((10, 218, 249), 1697), ((10, 219, 157), 1210), ((10, 221, 251), 1705), ((10, 222, 159), 1218), ((10, 224, 254), 1717), ((10, 225, 161), 1225), ((10, 227, 255), 1721), ((10, 228, 166), 1245), ((10, 230, 258), 1733), ((10, 231, 53), 638), ((10, 234, 176), 1382), ((10, 235, 55), 646), ((10, 238, 259), 1737), ((10, 239, 60), 667), ((10, 242, 262), 1749)]
set_option maxRecDepth 100000 in
theorem tabM_ok : ∀ q ∈ tabM.map Prod.fst, Cond.methodLink (cn q.1) q.2.1 (yOf q.2.2) ∈ GW := fun q hq => gw_tab tabM (fun q => Cond.methodLink (cn q.1) q.2.1 (yOf q.2.2)) (by decide +kernel) hq
def tabN : List ((Nat × Nat × Nat) × Nat) := [((3, 114, 74), 837), ((6, 93, 30), 534), ((8, 54, 11), 413)]
theorem tabN_ok : ∀ q ∈ tabN, lw_tbl[q.2]? = some (Cond.methodLinkNest (cn q.1.1) q.1.2.1 (yOf q.1.2.2) "SlotKeeper") := by decide +kernel
def tabC : List ((Nat × Nat × Nat) × Nat) := [((0, 9, 1), 397), ((4, 15, 1), 127), ((4, 22, 6), 254), ((4, 31, 7), 310), ((6, 25, 7), 260), ((8, 7, 4), 121), ((8, 19, 2), 330), ((8, 32, 3), 355), ((8, 45, 0), 391), ((8, 52, 5), 411), ((10, 8, 8), 113), ((10, 106, 9), 1274)]
set_option maxRecDepth 100000 in
theorem tabC_ok : ∀ q ∈ tabC.map Prod.fst, Cond.classLink (cn q.1) q.2.1 (cn q.2.2) ∈ GW := fun q hq => gw_tab tabC (fun q => Cond.classLink (cn q.1) q.2.1 (cn q.2.2)) (by decide +kernel) hq
def tabO : List ((Nat × Nat) × Nat) := [((0, 3), 396), ((1, 3), 132), ((2, 3), 335), ((3, 3), 360), ((4, 3), 126), ((5, 3), 416), ((6, 3), 259), ((7, 3), 265), ((8, 1), 118), ((9, 15), 1279)]
set_option maxRecDepth 100000 in
theorem tabO_ok : ∀ q ∈ tabO.map Prod.fst, Cond.methodLink (cn q.1) q.2 objectInit ∈ GW := fun q hq => gw_tab tabO (fun q => Cond.methodLink (cn q.1) q.2 objectInit) (by decide +kernel) hq
def tabP_max : List ((Nat × Nat) × Nat) := [((2, 123), 1112), ((4, 129), 1084), ((7, 53), 489), ((8, 177), 931), ((9, 181), 1492)]
set_option maxRecDepth 100000 in
theorem tabP_max_ok : ∀ q ∈ tabP_max.map Prod.fst, Cond.methodLink (cn q.1) q.2 Lib.Math.max.name ∈ GW := fun q hq => gw_tab tabP_max (fun q => Cond.methodLink (cn q.1) q.2 Lib.Math.max.name) (by decide +kernel) hq
def tabP_min : List ((Nat × Nat) × Nat) := [((1, 83), 564), ((3, 19), 748), ((4, 120), 1083), ((9, 121), 1422)]
set_option maxRecDepth 100000 in
theorem tabP_min_ok : ∀ q ∈ tabP_min.map Prod.fst, Cond.methodLink (cn q.1) q.2 Lib.Math.min.name ∈ GW := fun q hq => gw_tab tabP_min (fun q => Cond.methodLink (cn q.1) q.2 Lib.Math.min.name) (by decide +kernel) hq
def tabP_abs : List ((Nat × Nat) × Nat) := [((4, 84), 634)]
set_option maxRecDepth 100000 in
theorem tabP_abs_ok : ∀ q ∈ tabP_abs.map Prod.fst, Cond.methodLink (cn q.1) q.2 Lib.Math.abs.name ∈ GW := fun q hq => gw_tab tabP_abs (fun q => Cond.methodLink (cn q.1) q.2 Lib.Math.abs.name) (by decide +kernel) hq
def tabP_arraycopy : List ((Nat × Nat) × Nat) := [((1, 89), 567), ((6, 84), 1078)]
set_option maxRecDepth 100000 in
theorem tabP_arraycopy_ok : ∀ q ∈ tabP_arraycopy.map Prod.fst, Cond.methodLink (cn q.1) q.2 arraycopyName ∈ GW := fun q hq => gw_tab tabP_arraycopy (fun q => Cond.methodLink (cn q.1) q.2 arraycopyName) (by decide +kernel) hq
def tabP_length : List ((Nat × Nat) × Nat) := [((3, 132), 767), ((9, 78), 1436)]
set_option maxRecDepth 100000 in
theorem tabP_length_ok : ∀ q ∈ tabP_length.map Prod.fst, Cond.methodLink (cn q.1) q.2 ⟨"java/lang/String", "length", "()I"⟩ ∈ GW := fun q hq => gw_tab tabP_length (fun q => Cond.methodLink (cn q.1) q.2 ⟨"java/lang/String", "length", "()I"⟩) (by decide +kernel) hq
def tabP_charAt : List ((Nat × Nat) × Nat) := [((3, 136), 777), ((9, 86), 1440)]
set_option maxRecDepth 100000 in
theorem tabP_charAt_ok : ∀ q ∈ tabP_charAt.map Prod.fst, Cond.methodLink (cn q.1) q.2 ⟨"java/lang/String", "charAt", "(I)C"⟩ ∈ GW := fun q hq => gw_tab tabP_charAt (fun q => Cond.methodLink (cn q.1) q.2 ⟨"java/lang/String", "charAt", "(I)C"⟩) (by decide +kernel) hq
def tabE : List ((Nat × Nat × Nat) × Nat) := [((8, 295, 0), 682), ((8, 348, 1), 881)]
set_option maxRecDepth 100000 in
theorem tabE_ok : ∀ q ∈ tabE.map Prod.fst, Cond.classLink (cn q.1) q.2.1 (if q.2.2 = 0 then "java/lang/IllegalArgumentException" else "java/util/NoSuchElementException") ∈ GW := fun q hq => gw_tab tabE (fun q => Cond.classLink (cn q.1) q.2.1 (if q.2.2 = 0 then "java/lang/IllegalArgumentException" else "java/util/NoSuchElementException")) (by decide +kernel) hq
def tabYs : List ((Nat) × Nat) := [(5, 142), (30, 535), (37, 562), (61, 672), (63, 680), (66, 755), (74, 838), (81, 871), (83, 879), (88, 917), (95, 952), (97, 959), (99, 966), (101, 973), (103, 982), (106, 993), (107, 996), (111, 1011), (113, 1018), (115, 1025), (117, 1032), (119, 1040), (122, 1051), (129, 1086), (140, 1144), (142, 1151), (144, 1158), (146, 1165), (148, 1173), (151, 1187), (153, 1195), (155, 1204), (157, 1211), (159, 1219), (161, 1226), (166, 1246), (174, 1281), (175, 1286), (183, 1411), (184, 1417), (188, 1438), (220, 1575), (230, 1621)]
set_option maxRecDepth 100000 in
theorem tabYs_ok : ∀ q ∈ tabYs.map Prod.fst, Cond.static (yOf q) ∈ GW := fun q hq => gw_tab tabYs (fun q => Cond.static (yOf q)) (by decide +kernel) hq
def tabYi : List ((Nat) × Nat) := [(0, 116), (1, 124), (2, 130), (3, 134), (4, 138), (6, 257), (7, 263), (8, 333), (9, 358), (10, 394), (11, 414), (12, 458), (13, 463), (14, 466), (15, 470), (16, 474), (17, 478), (18, 482), (19, 486), (20, 493), (21, 497), (22, 501), (23, 505), (24, 509), (25, 514), (26, 517), (27, 521), (28, 527), (29, 532), (31, 539), (32, 543), (33, 547), (34, 550), (35, 554), (36, 558), (38, 571), (39, 577), (40, 581), (41, 585), (42, 589), (43, 593), (44, 597), (45, 601), (46, 605), (47, 609), (48, 615), (49, 618), (50, 622), (51, 626), (52, 630), (53, 639), (54, 643), (55, 647), (56, 651), (57, 656), (58, 659), (59, 664), (60, 668), (62, 676), (64, 745), (65, 752), (67, 760), (68, 765), (69, 817), (70, 821), (71, 827), (72, 831), (73, 835), (75, 843), (76, 846), (77, 850), (78, 857), (79, 860), (80, 867), (82, 875), (84, 900), (85, 905), (86, 909), (87, 913), (89, 920), (90, 926), (91, 933), (92, 937), (93, 944), (94, 947), (96, 955), (98, 962), (100, 969), (102, 976), (104, 985), (105, 989), (108, 999), (109, 1004), (110, 1008), (112, 1014), (114, 1021), (116, 1028), (118, 1035), (120, 1043), (121, 1047), (123, 1054), (124, 1060), (125, 1064), (126, 1071), (127, 1075), (128, 1080), (130, 1089), (131, 1093), (132, 1099), (133, 1104), (134, 1109), (135, 1114), (136, 1118), (137, 1127), (138, 1131), (139, 1135), (141, 1147), (143, 1154), (145, 1161), (147, 1168), (149, 1176), (150, 1181), (152, 1190), (154, 1198), (156, 1207), (158, 1214), (160, 1222), (162, 1229), (163, 1233), (164, 1238), (165, 1243), (167, 1249), (168, 1253), (169, 1257), (170, 1261), (171, 1267), (172, 1271), (173, 1277), (176, 1383), (177, 1387), (178, 1392), (179, 1395), (180, 1400), (181, 1404), (182, 1408), (185, 1425), (186, 1429), (187, 1434), (189, 1443), (190, 1449), (191, 1453), (192, 1458), (193, 1464), (194, 1468), (195, 1474), (196, 1478), (197, 1482), (198, 1486), (199, 1490), (200, 1495), (201, 1499), (202, 1503), (203, 1507), (204, 1511), (205, 1515), (206, 1519), (207, 1523), (208, 1527), (209, 1531), (210, 1535), (211, 1539), (212, 1542), (213, 1547), (214, 1552), (215, 1556), (216, 1560), (217, 1564), (218, 1567), (219, 1571), (221, 1579), (222, 1583), (223, 1591), (224, 1594), (225, 1599), (226, 1602), (227, 1607), (228, 1612), (229, 1617), (231, 1625), (232, 1630), (233, 1634), (234, 1637), (235, 1641), (236, 1645), (237, 1649), (238, 1653), (239, 1657), (240, 1662), (241, 1666), (242, 1670), (243, 1675), (244, 1679), (245, 1683), (246, 1686), (247, 1691), (248, 1695), (249, 1698), (250, 1703), (251, 1706), (252, 1711), (253, 1715), (254, 1718), (255, 1722), (256, 1727), (257, 1731), (258, 1734), (259, 1738), (260, 1743), (261, 1747), (262, 1750), (263, 1754), (264, 1758), (265, 1763), (266, 1767), (267, 1773), (268, 1777), (269, 1780), (270, 1786), (271, 1790), (272, 1795)]
set_option maxRecDepth 100000 in
theorem tabYi_ok : ∀ q ∈ tabYi.map Prod.fst, Cond.instanceMethod (yOf q) ∈ GW := fun q hq => gw_tab tabYi (fun q => Cond.instanceMethod (yOf q)) (by decide +kernel) hq
def tabYv : List ((Nat) × Nat) := [(3, 135), (4, 139), (12, 459), (13, 0), (14, 467), (15, 471), (16, 475), (17, 479), (18, 483), (19, 487), (20, 494), (21, 498), (22, 502), (23, 506), (24, 510), (25, 1), (26, 518), (27, 522), (28, 2), (29, 3), (31, 4), (32, 5), (33, 6), (34, 551), (35, 555), (36, 559), (38, 572), (39, 7), (40, 582), (41, 586), (42, 590), (43, 594), (44, 598), (45, 602), (46, 606), (47, 610), (48, 8), (49, 619), (50, 623), (51, 627), (52, 631), (53, 640), (54, 644), (55, 648), (56, 652), (57, 9), (58, 660), (59, 10), (60, 669), (62, 677), (64, 746), (65, 12), (67, 13), (68, 14), (69, 15), (70, 16), (71, 17), (72, 18), (73, 19), (75, 20), (76, 847), (77, 851), (78, 21), (79, 861), (80, 868), (82, 876), (84, 901), (85, 22), (86, 910), (87, 914), (89, 921), (90, 927), (91, 934), (92, 938), (93, 23), (94, 948), (96, 956), (98, 963), (100, 970), (102, 977), (104, 986), (105, 990), (108, 1000), (109, 24), (110, 25), (112, 1015), (114, 1022), (116, 1029), (118, 1036), (120, 1044), (121, 1048), (123, 1055), (124, 1061), (125, 1065), (126, 26), (127, 27), (128, 1081), (130, 1090), (131, 1094), (132, 28), (133, 29), (134, 1110), (135, 1115), (136, 1119), (137, 30), (138, 1132), (139, 1136), (141, 1148), (143, 1155), (145, 1162), (147, 1169), (149, 1177), (150, 31), (152, 1191), (154, 1199), (156, 1208), (158, 1215), (160, 1223), (162, 1230), (163, 1234), (164, 32), (165, 33), (167, 1250), (168, 1254), (169, 1258), (170, 1262), (171, 1268), (172, 1272), (176, 1384), (177, 1388), (178, 34), (179, 1396), (180, 35), (181, 36), (182, 37), (185, 38), (186, 39), (187, 40), (189, 41), (190, 42), (191, 43), (192, 44), (193, 1465), (194, 1469), (195, 45), (196, 46), (197, 47), (198, 48), (199, 49), (200, 50), (201, 51), (202, 52), (203, 53), (204, 54), (205, 55), (206, 56), (207, 57), (208, 58), (209, 59), (210, 60), (211, 61), (212, 1543), (213, 62), (214, 63), (215, 64), (216, 65), (217, 66), (218, 1568), (219, 1572), (221, 1580), (222, 1584), (223, 67), (224, 1595), (225, 68), (226, 1603), (227, 1608), (228, 1613), (229, 1618), (231, 69), (232, 70), (233, 71), (234, 1638), (235, 1642), (236, 1646), (237, 1650), (238, 1654), (239, 1658), (240, 72), (241, 1667), (242, 1671), (243, 73), (244, 74), (245, 75), (246, 1687), (247, 76), (248, 77), (249, 1699), (250, 78), (251, 1707), (252, 79), (253, 80), (254, 1719), (255, 1723), (256, 81), (257, 82), (258, 1735), (259, 1739), (260, 83), (261, 84), (262, 1751), (263, 1755), (264, 1759), (265, 1764), (266, 1768), (267, 85), (268, 86), (269, 1781), (270, 87), (271, 88), (272, 89)]
set_option maxRecDepth 100000 in
theorem tabYv_ok : ∀ q ∈ tabYv.map Prod.fst, Cond.selects (yOf q).cls (yOf q) (yOf q) ∈ GW := fun q hq => gw_tab tabYv (fun q => Cond.selects (yOf q).cls (yOf q) (yOf q)) (by decide +kernel) hq
def tabIn : List ((Nat) × Nat) := [(0, 99), (1, 93), (2, 97), (3, 98), (4, 92), (5, 100), (6, 95), (7, 96), (8, 91), (9, 101), (10, 90), (11, 94)]
set_option maxRecDepth 100000 in
theorem tabIn_ok : ∀ q ∈ tabIn.map Prod.fst, Cond.initialized (cn q) ∈ GW := fun q hq => gw_tab tabIn (fun q => Cond.initialized (cn q)) (by decide +kernel) hq
def tabIs : List ((Nat) × Nat) := [(0, 392), (1, 128), (2, 331), (3, 356), (4, 122), (5, 412), (6, 255), (7, 261), (8, 114), (9, 1275)]
set_option maxRecDepth 100000 in
theorem tabIs_ok : ∀ q ∈ tabIs.map Prod.fst, Cond.instantiable (cn q) (nf q) ∈ GW := fun q hq => gw_tab tabIs (fun q => Cond.instantiable (cn q) (nf q)) (by decide +kernel) hq
def tabL : List ((Nat × Nat) × Nat) := [((0, 0), 404), ((0, 1), 406), ((0, 2), 408), ((1, 0), 216), ((1, 1), 218), ((1, 2), 220), ((1, 3), 222), ((1, 4), 224), ((1, 5), 226), ((1, 6), 228), ((1, 7), 230), ((1, 8), 232), ((1, 9), 234), ((1, 10), 236), ((1, 11), 238), ((1, 12), 240), ((1, 13), 242), ((1, 14), 244), ((1, 15), 246), ((1, 16), 248), ((1, 17), 250), ((2, 0), 344), ((2, 1), 346), ((2, 2), 348), ((2, 3), 350), ((2, 4), 352), ((3, 0), 371), ((3, 1), 373), ((3, 2), 375), ((3, 3), 377), ((3, 4), 379), ((3, 5), 381), ((3, 6), 383), ((3, 7), 385), ((3, 8), 387), ((4, 0), 321), ((4, 1), 323), ((4, 2), 325), ((4, 3), 327), ((5, 0), 421), ((5, 1), 423), ((6, 0), 293), ((6, 1), 295), ((6, 2), 297), ((6, 3), 299), ((6, 4), 301), ((6, 5), 303), ((6, 6), 305), ((6, 7), 307), ((7, 0), 274), ((7, 1), 276), ((7, 2), 278), ((7, 3), 280), ((8, 0), 436), ((8, 1), 438), ((8, 2), 440), ((8, 3), 442), ((8, 4), 444), ((8, 5), 446), ((8, 6), 448), ((8, 7), 450), ((8, 8), 452), ((8, 9), 454), ((9, 0), 1319), ((9, 1), 1321), ((9, 2), 1323), ((9, 3), 1325), ((9, 4), 1327), ((9, 5), 1329), ((9, 6), 1331), ((9, 7), 1333), ((9, 8), 1335), ((9, 9), 1337), ((9, 10), 1339), ((9, 11), 1341), ((9, 12), 1343), ((9, 13), 1345), ((9, 14), 1347), ((9, 15), 1349), ((9, 16), 1351), ((9, 17), 1353), ((9, 18), 1355), ((9, 19), 1357), ((9, 20), 1359), ((9, 21), 1361), ((9, 22), 1363), ((9, 23), 1365), ((9, 24), 1367), ((9, 25), 1369), ((9, 26), 1371), ((9, 27), 1373), ((9, 28), 1375), ((9, 29), 1377), ((9, 30), 1379)]
set_option maxRecDepth 100000 in
theorem tabL_ok : ∀ q ∈ tabL.map Prod.fst, u_lay (cn q.1) (TT q.1) q.2 ∈ GW := fun q hq => gw_tab tabL (fun q => u_lay (cn q.1) (TT q.1) q.2) (by decide +kernel) hq
