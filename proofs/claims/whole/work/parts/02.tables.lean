/-! the abstract machine: tables (written by program out of the turned claim) -/
def xq_cnl : List String := ["DomeCalendar$Book", "DomeCalendar$Ground", "DomeCalendar$Law", "DomeCalendar$Past", "DomeCalendar$Plan", "DomeCalendar$Reader", "DomeCalendar$Site", "DomeCalendar$Tally", "DomeCalendar$Thought", "DomeCalendar$Works", "DomeCalendar$Yard", "DomeCalendar", "DomeCalendarModel", "DomeCalendarLaw", "java/lang/Math", "java/lang/Integer", "java/util/Arrays"]
def xq_cn (o : Nat) : String := xq_cnl.getD o ""
def xq_T0 : u_T := fun k => match k with
  | 0 => ("DomeCalendar$Book", "room", "I", true)
  | 1 => ("DomeCalendar$Book", "lines", "I", false)
  | 2 => ("DomeCalendar$Book", "week", "[I", true)
  | 3 => ("DomeCalendar$Book", "block", "[I", true)
  | 4 => ("DomeCalendar$Book", "event", "[I", true)
  | _ => ("DomeCalendar$Book", "stretch", "[I", true)
def xq_y0 : List FieldType := [.int, .int, .array .int, .array .int, .array .int, .array .int]
def xq_T1 : u_T := fun k => match k with
  | 0 => ("DomeCalendar$Ground", "blocks", "I", false)
  | 1 => ("DomeCalendar$Ground", "size", "[I", true)
  | 2 => ("DomeCalendar$Ground", "vein", "[I", true)
  | 3 => ("DomeCalendar$Ground", "east", "[I", true)
  | 4 => ("DomeCalendar$Ground", "neighbours", "[I", true)
  | 5 => ("DomeCalendar$Ground", "stretches", "I", false)
  | 6 => ("DomeCalendar$Ground", "sort", "[I", true)
  | _ => ("DomeCalendar$Ground", "span", "[I", true)
def xq_y1 : List FieldType := [.int, .array .int, .array .int, .array .int, .array .int, .int, .array .int, .array .int]
def xq_T2 : u_T := fun k => match k with
  | 0 => ("DomeCalendar$Law", "lines", "I", false)
  | 1 => ("DomeCalendar$Law", "length", "I", false)
  | 2 => ("DomeCalendar$Law", "code", "[I", true)
  | 3 => ("DomeCalendar$Law", "lineEnd", "[I", true)
  | 4 => ("DomeCalendar$Law", "stack", "[I", true)
  | _ => ("DomeCalendar$Law", "known", "[I", true)
def xq_y2 : List FieldType := [.int, .int, .array .int, .array .int, .array .int, .array .int]
def xq_T3 : u_T := fun k => match k with
  | 0 => ("DomeCalendar$Past", "sites", "[LDomeCalendar$Site;", true)
  | 1 => ("DomeCalendar$Past", "lines", "[I", true)
  | 2 => ("DomeCalendar$Past", "next", "I", false)
  | _ => ("DomeCalendar$Past", "count", "I", false)
def xq_y3 : List FieldType := [.array (.object "DomeCalendar$Site"), .array .int, .int, .int]
def xq_T4 : u_T := fun k => match k with
  | 0 => ("DomeCalendar$Plan", "steps", "I", false)
  | 1 => ("DomeCalendar$Plan", "deed", "[I", true)
  | 2 => ("DomeCalendar$Plan", "amount", "[I", true)
  | _ => ("DomeCalendar$Plan", "place", "[I", true)
def xq_y4 : List FieldType := [.int, .array .int, .array .int, .array .int]
def xq_T5 : u_T := fun k => match k with
  | 0 => ("DomeCalendar$Reader", "tape", "[I", true)
  | 1 => ("DomeCalendar$Reader", "length", "I", false)
  | 2 => ("DomeCalendar$Reader", "kinds", "[I", true)
  | 3 => ("DomeCalendar$Reader", "starts", "[I", true)
  | 4 => ("DomeCalendar$Reader", "sizes", "[I", true)
  | 5 => ("DomeCalendar$Reader", "values", "[I", true)
  | 6 => ("DomeCalendar$Reader", "tokens", "I", false)
  | 7 => ("DomeCalendar$Reader", "at", "I", false)
  | 8 => ("DomeCalendar$Reader", "fault", "I", false)
  | _ => ("DomeCalendar$Reader", "faultPlace", "I", false)
def xq_y5 : List FieldType := [.array .int, .int, .array .int, .array .int, .array .int, .array .int, .int, .int, .int, .int]
def xq_T6 : u_T := fun k => match k with
  | 0 => ("DomeCalendar$Site", "told", "[I", true)
  | 1 => ("DomeCalendar$Site", "open", "[I", true)
  | 2 => ("DomeCalendar$Site", "order", "[I", true)
  | 3 => ("DomeCalendar$Site", "where", "[I", true)
  | 4 => ("DomeCalendar$Site", "stretch", "[I", true)
  | 5 => ("DomeCalendar$Site", "done", "[I", true)
  | 6 => ("DomeCalendar$Site", "vein", "[I", true)
  | 7 => ("DomeCalendar$Site", "waited", "[I", true)
  | 8 => ("DomeCalendar$Site", "draws", "I", false)
  | 9 => ("DomeCalendar$Site", "mud", "I", false)
  | 10 => ("DomeCalendar$Site", "week", "I", false)
  | 11 => ("DomeCalendar$Site", "falls", "I", false)
  | 12 => ("DomeCalendar$Site", "since", "I", false)
  | 13 => ("DomeCalendar$Site", "laid", "I", false)
  | _ => ("DomeCalendar$Site", "tilt", "I", false)
def xq_y6 : List FieldType := [.array .int, .array .int, .array .int, .array .int, .array .int, .array .int, .array .int, .array .int, .int, .int, .int, .int, .int, .int, .int]
def xq_T7 : u_T := fun k => match k with
  | 0 => ("DomeCalendar$Tally", "ground", "LDomeCalendar$Ground;", true)
  | 1 => ("DomeCalendar$Tally", "orders", "[J", false)
  | _ => ("DomeCalendar$Tally", "rows", "[I", true)
def xq_y7 : List FieldType := [.object "DomeCalendar$Ground", .array .long, .array .int]
def xq_T8 : u_T := fun k => match k with
  | 0 => ("DomeCalendar$Thought", "yard", "LDomeCalendar$Yard;", true)
  | 1 => ("DomeCalendar$Thought", "site", "LDomeCalendar$Site;", true)
  | 2 => ("DomeCalendar$Thought", "works", "LDomeCalendar$Works;", true)
  | 3 => ("DomeCalendar$Thought", "free", "[I", true)
  | 4 => ("DomeCalendar$Thought", "soonestKnown", "Z", false)
  | 5 => ("DomeCalendar$Thought", "soonest", "I", false)
  | _ => ("DomeCalendar$Thought", "best", "[I", true)
def xq_y8 : List FieldType := [.object "DomeCalendar$Yard", .object "DomeCalendar$Site", .object "DomeCalendar$Works", .array .int, .boolean, .int, .array .int]
def xq_T9 : u_T := fun k => match k with
  | 0 => ("DomeCalendar$Works", "ground", "LDomeCalendar$Ground;", true)
  | 1 => ("DomeCalendar$Works", "law", "LDomeCalendar$Law;", true)
  | 2 => ("DomeCalendar$Works", "site", "LDomeCalendar$Site;", true)
  | 3 => ("DomeCalendar$Works", "book", "LDomeCalendar$Book;", true)
  | 4 => ("DomeCalendar$Works", "real", "Z", true)
  | 5 => ("DomeCalendar$Works", "crossed", "[I", true)
  | 6 => ("DomeCalendar$Works", "freeOxen", "I", false)
  | 7 => ("DomeCalendar$Works", "wet", "Z", false)
  | 8 => ("DomeCalendar$Works", "flood", "Z", false)
  | 9 => ("DomeCalendar$Works", "closedIn", "I", false)
  | 10 => ("DomeCalendar$Works", "heldBlock", "I", false)
  | _ => ("DomeCalendar$Works", "heldUntil", "I", false)
def xq_y9 : List FieldType := [.object "DomeCalendar$Ground", .object "DomeCalendar$Law", .object "DomeCalendar$Site", .object "DomeCalendar$Book", .boolean, .array .int, .int, .boolean, .boolean, .int, .int, .int]
def xq_T10 : u_T := fun k => match k with
  | 0 => ("DomeCalendar$Yard", "ground", "LDomeCalendar$Ground;", true)
  | 1 => ("DomeCalendar$Yard", "law", "LDomeCalendar$Law;", true)
  | 2 => ("DomeCalendar$Yard", "plan", "LDomeCalendar$Plan;", true)
  | 3 => ("DomeCalendar$Yard", "site", "LDomeCalendar$Site;", true)
  | _ => ("DomeCalendar$Yard", "book", "LDomeCalendar$Book;", true)
def xq_y10 : List FieldType := [.object "DomeCalendar$Ground", .object "DomeCalendar$Law", .object "DomeCalendar$Plan", .object "DomeCalendar$Site", .object "DomeCalendar$Book"]
def xq_T11 : u_T := fun k => match k with
  | 0 => ("DomeCalendar", "yard", "LDomeCalendar$Yard;", true)
  | 1 => ("DomeCalendar", "works", "LDomeCalendar$Works;", true)
  | 2 => ("DomeCalendar", "thought", "LDomeCalendar$Thought;", true)
  | 3 => ("DomeCalendar", "tally", "LDomeCalendar$Tally;", true)
  | 4 => ("DomeCalendar", "past", "LDomeCalendar$Past;", true)
  | 5 => ("DomeCalendar", "reader", "LDomeCalendar$Reader;", true)
  | 6 => ("DomeCalendar", "draftGround", "LDomeCalendar$Ground;", true)
  | 7 => ("DomeCalendar", "draftLaw", "LDomeCalendar$Law;", true)
  | 8 => ("DomeCalendar", "draftPlan", "LDomeCalendar$Plan;", true)
  | _ => ("DomeCalendar", "kept", "LDomeCalendar$Yard;", false)
def xq_y11 : List FieldType := [.object "DomeCalendar$Yard", .object "DomeCalendar$Works", .object "DomeCalendar$Thought", .object "DomeCalendar$Tally", .object "DomeCalendar$Past", .object "DomeCalendar$Reader", .object "DomeCalendar$Ground", .object "DomeCalendar$Law", .object "DomeCalendar$Plan", .object "DomeCalendar$Yard"]
def xq_T12 : u_T := fun k => match k with
  | 0 => ("DomeCalendarModel", "w", "[I", true)
  | 1 => ("DomeCalendarModel", "kept", "[I", true)
  | 2 => ("DomeCalendarModel", "back", "[I", true)
  | 3 => ("DomeCalendarModel", "lying", "[I", true)
  | 4 => ("DomeCalendarModel", "backMany", "I", false)
  | 5 => ("DomeCalendarModel", "hasImage", "Z", false)
  | 6 => ("DomeCalendarModel", "freshLine", "[I", true)
  | 7 => ("DomeCalendarModel", "freshStep", "[I", true)
  | 8 => ("DomeCalendarModel", "fresh", "[I", true)
  | 9 => ("DomeCalendarModel", "freshPlan", "[I", true)
  | 10 => ("DomeCalendarModel", "tape", "[I", true)
  | 11 => ("DomeCalendarModel", "pile", "[I", true)
  | 12 => ("DomeCalendarModel", "facts", "[I", true)
  | 13 => ("DomeCalendarModel", "reading", "I", false)
  | 14 => ("DomeCalendarModel", "lines", "I", false)
  | 15 => ("DomeCalendarModel", "steps", "I", false)
  | 16 => ("DomeCalendarModel", "freshMany", "I", false)
  | 17 => ("DomeCalendarModel", "planned", "I", false)
  | 18 => ("DomeCalendarModel", "taped", "I", false)
  | 19 => ("DomeCalendarModel", "at", "I", false)
  | 20 => ("DomeCalendarModel", "token", "I", false)
  | 21 => ("DomeCalendarModel", "tokenAt", "I", false)
  | 22 => ("DomeCalendarModel", "value", "I", false)
  | 23 => ("DomeCalendarModel", "wrong", "I", false)
  | 24 => ("DomeCalendarModel", "wrongAt", "I", false)
  | 25 => ("DomeCalendarModel", "faultKind", "I", false)
  | 26 => ("DomeCalendarModel", "depth", "I", false)
  | 27 => ("DomeCalendarModel", "faultPlace", "I", false)
  | 28 => ("DomeCalendarModel", "numbered", "I", false)
  | 29 => ("DomeCalendarModel", "barred", "I", false)
  | 30 => ("DomeCalendarModel", "free", "I", false)
  | 31 => ("DomeCalendarModel", "went", "[I", true)
  | 32 => ("DomeCalendarModel", "closedIn", "I", false)
  | 33 => ("DomeCalendarModel", "row", "[I", true)
  | 34 => ("DomeCalendarModel", "bestRow", "[I", true)
  | 35 => ("DomeCalendarModel", "bestWeek", "I", false)
  | 36 => ("DomeCalendarModel", "orderings", "[J", true)
  | _ => ("DomeCalendarModel", "chains", "[I", true)
def xq_y12 : List FieldType := [.array .int, .array .int, .array .int, .array .int, .int, .boolean, .array .int, .array .int, .array .int, .array .int, .array .int, .array .int, .array .int, .int, .int, .int, .int, .int, .int, .int, .int, .int, .int, .int, .int, .int, .int, .int, .int, .int, .int, .array .int, .int, .array .int, .array .int, .int, .array .long, .array .int]
def xq_cl : List vw_C := [("DomeCalendar$Book", xq_T0, 6), ("DomeCalendar$Ground", xq_T1, 8), ("DomeCalendar$Law", xq_T2, 6), ("DomeCalendar$Past", xq_T3, 4), ("DomeCalendar$Plan", xq_T4, 4), ("DomeCalendar$Reader", xq_T5, 10), ("DomeCalendar$Site", xq_T6, 15), ("DomeCalendar$Tally", xq_T7, 3), ("DomeCalendar$Thought", xq_T8, 7), ("DomeCalendar$Works", xq_T9, 12), ("DomeCalendar$Yard", xq_T10, 5), ("DomeCalendar", xq_T11, 10), ("DomeCalendarModel", xq_T12, 38)]
def xq_tyl : List (List FieldType) := [xq_y0, xq_y1, xq_y2, xq_y3, xq_y4, xq_y5, xq_y6, xq_y7, xq_y8, xq_y9, xq_y10, xq_y11, xq_y12]
def xq_ty (c k : Nat) : FieldType := (xq_tyl.getD c []).getD k .int
def xq_ftl : List (List Nat) := [[0, 0, 2, 2, 2, 2], [0, 2, 2, 2, 2, 0, 2, 2], [0, 0, 2, 2, 2, 2], [2, 2, 0, 0], [0, 2, 2, 2], [2, 0, 2, 2, 2, 2, 0, 0, 0, 0], [2, 2, 2, 2, 2, 2, 2, 2, 0, 0, 0, 0, 0, 0, 0], [2, 2, 2], [2, 2, 2, 2, 1, 0, 2], [2, 2, 2, 2, 1, 2, 0, 1, 1, 0, 0, 0], [2, 2, 2, 2, 2], [2, 2, 2, 2, 2, 2, 2, 2, 2, 2], [2, 2, 2, 2, 0, 1, 2, 2, 2, 2, 2, 2, 2, 0, 0, 0, 0, 0, 0, 0, 0, 0, 0, 0, 0, 0, 0, 0, 0, 0, 0, 2, 0, 2, 2, 0, 2, 2]]
/-- the sort of a field: 0 int, 1 boolean, 2 a reference -/
def xq_ft (c k : Nat) : Nat := (xq_ftl.getD c []).getD k 0
/-- links of fields: own class, index, class, field -/
def xq_FL : List (Nat × Nat × Nat × Nat) := [(1, 9, 1, 0), (7, 34, 1, 0), (9, 121, 1, 0), (11, 117, 1, 0), (8, 108, 1, 0), (1, 15, 1, 1), (9, 193, 1, 1), (11, 220, 1, 1), (1, 19, 1, 2), (6, 72, 1, 2), (1, 22, 1, 3), (7, 55, 1, 3), (11, 226, 1, 3), (1, 25, 1, 4), (7, 23, 1, 4), (9, 199, 1, 4), (11, 229, 1, 4), (1, 28, 1, 5), (9, 174, 1, 5), (11, 182, 1, 5), (1, 31, 1, 6), (9, 187, 1, 6), (11, 248, 1, 6), (1, 34, 1, 7), (9, 190, 1, 7), (11, 251, 1, 7), (2, 9, 2, 0), (11, 150, 2, 0), (2, 15, 2, 1), (2, 18, 2, 2), (2, 22, 2, 3), (2, 25, 2, 4), (2, 28, 2, 5), (9, 152, 2, 5), (4, 9, 4, 0), (11, 162, 4, 0), (9, 222, 4, 0), (4, 15, 4, 1), (9, 227, 4, 1), (4, 19, 4, 2), (9, 230, 4, 2), (4, 22, 4, 3), (9, 236, 4, 3), (6, 18, 6, 0), (11, 108, 6, 0), (9, 102, 6, 0), (8, 132, 6, 0), (6, 23, 6, 1), (11, 111, 6, 1), (9, 130, 6, 1), (8, 148, 6, 1), (6, 26, 6, 2), (9, 124, 6, 2), (8, 93, 6, 2), (11, 257, 6, 2), (6, 29, 6, 3), (9, 127, 6, 3), (8, 113, 6, 3), (11, 217, 6, 3), (6, 32, 6, 4), (9, 163, 6, 4), (11, 232, 6, 4), (6, 35, 6, 5), (9, 177, 6, 5), (11, 235, 6, 5), (6, 38, 6, 6), (9, 133, 6, 6), (11, 223, 6, 6), (6, 41, 6, 7), (9, 184, 6, 7), (11, 242, 6, 7), (6, 44, 6, 8), (11, 92, 6, 8), (6, 48, 6, 9), (9, 157, 6, 9), (8, 145, 6, 9), (11, 325, 6, 9), (6, 51, 6, 10), (9, 95, 6, 10), (11, 191, 6, 10), (8, 123, 6, 10), (6, 54, 6, 11), (9, 219, 6, 11), (11, 336, 6, 11), (6, 57, 6, 12), (9, 216, 6, 12), (11, 339, 6, 12), (6, 60, 6, 13), (9, 58, 6, 13), (8, 77, 6, 13), (11, 328, 6, 13), (6, 63, 6, 14), (9, 202, 6, 14), (11, 342, 6, 14), (0, 21, 0, 0), (0, 9, 0, 1), (11, 179, 0, 1), (0, 24, 0, 2), (11, 260, 0, 2), (0, 28, 0, 3), (11, 262, 0, 3), (0, 31, 0, 4), (11, 265, 0, 4), (0, 34, 0, 5), (11, 268, 0, 5), (10, 12, 10, 0), (9, 35, 10, 0), (11, 44, 10, 0), (8, 104, 10, 0), (10, 21, 10, 1), (9, 42, 10, 1), (11, 143, 10, 1), (10, 28, 10, 2), (8, 69, 10, 2), (11, 156, 10, 2), (11, 18, 10, 3), (10, 35, 10, 3), (8, 51, 10, 3), (11, 22, 10, 4), (10, 44, 10, 4), (9, 41, 9, 0), (9, 46, 9, 1), (9, 47, 9, 2), (9, 51, 9, 3), (9, 55, 9, 4), (9, 9, 9, 5), (9, 15, 9, 6), (9, 19, 9, 7), (9, 23, 9, 8), (9, 26, 9, 9), (8, 58, 9, 9), (9, 29, 9, 10), (8, 120, 9, 10), (9, 32, 9, 11), (8, 126, 9, 11), (8, 33, 8, 0), (8, 12, 8, 1), (8, 47, 8, 2), (8, 18, 8, 3), (8, 22, 8, 4), (8, 26, 8, 5), (8, 30, 8, 6), (11, 275, 8, 6), (7, 19, 7, 0), (7, 9, 7, 1), (7, 15, 7, 2), (3, 11, 3, 0), (3, 17, 3, 1), (3, 21, 3, 2), (3, 25, 3, 3), (11, 316, 3, 3), (5, 9, 5, 0), (5, 15, 5, 1), (5, 19, 5, 2), (5, 22, 5, 3), (5, 25, 5, 4), (5, 28, 5, 5), (5, 31, 5, 6), (5, 34, 5, 7), (5, 37, 5, 8), (11, 185, 5, 8), (5, 40, 5, 9), (11, 188, 5, 9), (11, 10, 11, 0), (11, 29, 11, 1), (11, 38, 11, 2), (11, 51, 11, 3), (11, 58, 11, 4), (11, 65, 11, 5), (11, 72, 11, 6), (11, 78, 11, 7), (11, 85, 11, 8), (11, 89, 11, 9), (12, 7, 12, 0), (12, 13, 12, 1), (12, 16, 12, 2), (12, 19, 12, 3), (12, 70, 12, 4), (12, 476, 12, 5), (12, 22, 12, 6), (12, 25, 12, 7), (12, 28, 12, 8), (12, 31, 12, 9), (12, 34, 12, 10), (12, 37, 12, 11), (12, 40, 12, 12), (12, 184, 12, 13), (12, 264, 12, 14), (12, 229, 12, 15), (12, 273, 12, 16), (12, 283, 12, 17), (12, 97, 12, 18), (12, 100, 12, 19), (12, 202, 12, 20), (12, 103, 12, 21), (12, 214, 12, 22), (12, 217, 12, 23), (12, 220, 12, 24), (12, 310, 12, 25), (12, 232, 12, 26), (12, 43, 12, 27), (12, 270, 12, 28), (12, 47, 12, 29), (12, 365, 12, 30), (12, 50, 12, 31), (12, 436, 12, 32), (12, 53, 12, 33), (12, 56, 12, 34), (12, 458, 12, 35), (12, 59, 12, 36), (12, 63, 12, 37)]
def xq_FLp : List Nat := [42, 43, 44, 45, 46, 47, 48, 49, 50, 51, 52, 53, 54, 55, 56, 57, 58, 59, 60, 61, 62, 63, 64, 65, 66, 67, 92, 93, 94, 95, 96, 97, 98, 99, 119, 120, 121, 122, 123, 124, 125, 126, 127, 152, 153, 154, 155, 156, 157, 158, 159, 160, 161, 162, 163, 164, 165, 166, 167, 168, 169, 170, 171, 172, 173, 174, 175, 176, 177, 178, 179, 180, 181, 182, 183, 184, 185, 186, 187, 188, 189, 190, 191, 192, 193, 194, 195, 196, 197, 198, 199, 200, 201, 202, 243, 244, 245, 246, 247, 248, 249, 250, 251, 252, 253, 267, 268, 269, 270, 271, 272, 273, 274, 275, 276, 277, 278, 279, 280, 281, 299, 300, 301, 302, 303, 304, 305, 306, 307, 308, 309, 310, 311, 312, 313, 351, 352, 353, 354, 355, 356, 357, 358, 380, 381, 382, 400, 401, 402, 403, 404, 420, 421, 422, 423, 424, 425, 426, 427, 428, 429, 430, 431, 459, 460, 461, 462, 463, 464, 465, 466, 467, 468, 1223, 1224, 1225, 1226, 1227, 1228, 1229, 1230, 1231, 1232, 1233, 1234, 1235, 1236, 1237, 1238, 1239, 1240, 1241, 1242, 1243, 1244, 1245, 1246, 1247, 1248, 1249, 1250, 1251, 1252, 1253, 1254, 1255, 1256, 1257, 1258, 1259, 1260]
/-- static arrays: own class, index, array, by nest -/
def xq_SL : List (Nat × Nat × Nat × Nat) := [(6, 9, 0, 1), (11, 101, 1, 0), (11, 105, 2, 0), (4, 88, 4, 0), (4, 91, 5, 0), (6, 95, 2, 1), (9, 247, 2, 1), (8, 129, 2, 1), (8, 151, 3, 1)]
def xq_snl : List (String × String) := [("DomeCalendar", "AT_FIRST"), ("DomeCalendar", "LEAST"), ("DomeCalendar", "MOST"), ("DomeCalendar", "HELPERS"), ("DomeCalendar$Plan", "LEAST_N"), ("DomeCalendar$Plan", "MOST_N")]
def xq_sv : List (List Int32) := [[10, 100, 10, 1, 1, 0, 0, 0, 0, 52, 999, 0], [0, 0, 0, 0, 0, 0, 0, 0, 0, 1, 0, 0], [99, 9999, 99, 9, 9, 9, 1000, 1000, 1000, 52, 999, 520], [0, 2, 3, 4, 5], [1, 0, 1, 1, 0, 0, 0, 0], [60, 13, 99, 99, 3, 3, 9, 9]]
def xq_CL : List (Nat × Nat × Nat) := [(13, 7, 11), (11, 7, 10), (10, 9, 1), (10, 18, 2), (10, 25, 4), (10, 32, 6), (10, 39, 0), (11, 16, 9), (11, 33, 8), (8, 9, 6), (8, 37, 9), (8, 39, 0), (11, 42, 7), (11, 55, 3), (3, 9, 6), (11, 62, 5), (11, 69, 1), (11, 75, 2), (11, 82, 4), (13, 10, 12)]
/-- methods: name, bytes, room of locals, sort of answer (0 none, 1 int, 2 boolean, 3 long), own class -/
def xq_ml0 : List (MethodName × ByteArray × Nat × Nat × Nat) := [(⟨"DomeCalendar", "<init>", "()V"⟩, prog_1_method_1_code, 1, 0, 11),
  (⟨"DomeCalendar$Yard", "<init>", "()V"⟩, prog_12_method_1_code, 1, 0, 10),
  (⟨"DomeCalendar$Ground", "<init>", "()V"⟩, prog_3_method_1_code, 1, 0, 1),
  (⟨"DomeCalendar$Law", "<init>", "()V"⟩, prog_4_method_1_code, 1, 0, 2),
  (⟨"DomeCalendar$Plan", "<init>", "()V"⟩, prog_6_method_1_code, 1, 0, 4),
  (⟨"DomeCalendar$Site", "<init>", "()V"⟩, prog_8_method_1_code, 1, 0, 6),
  (⟨"DomeCalendar$Book", "<init>", "(I)V"⟩, prog_2_method_1_code, 2, 0, 0),
  (⟨"java/lang/Math", "max", "(II)I"⟩, prog_17_method_65_code, 2, 1, 14),
  (⟨"DomeCalendar$Works", "<init>", "(LDomeCalendar$Yard;LDomeCalendar$Site;LDomeCalendar$Book;Z)V"⟩, prog_11_method_1_code, 5, 0, 9),
  (⟨"DomeCalendar$Thought", "<init>", "(LDomeCalendar$Yard;)V"⟩, prog_10_method_1_code, 2, 0, 8),
  (⟨"DomeCalendar$Tally", "<init>", "(LDomeCalendar$Ground;)V"⟩, prog_9_method_1_code, 2, 0, 7),
  (⟨"DomeCalendar$Past", "<init>", "()V"⟩, prog_5_method_1_code, 2, 0, 3),
  (⟨"DomeCalendar$Reader", "<init>", "()V"⟩, prog_7_method_1_code, 1, 0, 5),
  (⟨"DomeCalendar", "state", "(I)I"⟩, prog_1_method_2_code, 3, 1, 11),
  (⟨"DomeCalendar", "forgetPast", "()V"⟩, prog_1_method_34_code, 1, 0, 11),
  (⟨"DomeCalendar$Thought", "forgetSoonest", "()V"⟩, prog_10_method_2_code, 1, 0, 8),
  (⟨"DomeCalendar", "set", "(II)Z"⟩, prog_1_method_3_code, 3, 2, 11),
  (⟨"DomeCalendar", "vein", "(IZ)Z"⟩, prog_1_method_4_code, 3, 2, 11),
  (⟨"DomeCalendar", "rank", "(II)Z"⟩, prog_1_method_5_code, 3, 2, 11),
  (⟨"DomeCalendar$Site", "moveTo", "(III)Z"⟩, prog_8_method_7_code, 6, 2, 6),
  (⟨"DomeCalendar$Site", "placeOf", "(II)I"⟩, prog_8_method_6_code, 4, 1, 6),
  (⟨"DomeCalendar", "feed", "(IIIII)I"⟩, prog_1_method_6_code, 6, 1, 11),
  (⟨"DomeCalendar$Reader", "takeBytes", "(IIIII)I"⟩, prog_7_method_2_code, 6, 1, 5),
  (⟨"DomeCalendar$Reader", "takeFour", "(I)V"⟩, prog_7_method_3_code, 3, 0, 5),
  (⟨"DomeCalendar", "end", "(I)Z"⟩, prog_1_method_7_code, 2, 2, 11),
  (⟨"DomeCalendar$Reader", "shorten", "(I)Z"⟩, prog_7_method_4_code, 2, 2, 5),
  (⟨"DomeCalendar", "text", "(I)I"⟩, prog_1_method_8_code, 3, 1, 11),
  (⟨"DomeCalendar$Reader", "begin", "()V"⟩, prog_7_method_6_code, 4, 0, 5),
  (⟨"DomeCalendar$Reader", "kindOf", "(I)I"⟩, prog_7_method_7_code, 2, 1, 5),
  (⟨"DomeCalendar$Reader", "lengthenToken", "(I)V"⟩, prog_7_method_9_code, 3, 0, 5),
  (⟨"DomeCalendar$Reader", "beginToken", "(II)V"⟩, prog_7_method_8_code, 3, 0, 5),
  (⟨"DomeCalendar", "tellGround", "(I)I"⟩, prog_1_method_9_code, 3, 1, 11),
  (⟨"DomeCalendar$Ground", "copyFrom", "(LDomeCalendar$Ground;)V"⟩, prog_3_method_2_code, 2, 0, 1),
  (⟨"DomeCalendar$Ground", "readDome", "(LDomeCalendar$Reader;)Z"⟩, prog_3_method_8_code, 3, 2, 1),
  (⟨"DomeCalendar$Reader", "atEnd", "()Z"⟩, prog_7_method_11_code, 1, 2, 5),
  (⟨"DomeCalendar$Reader", "isWord", "(Ljava/lang/String;)Z"⟩, prog_7_method_13_code, 4, 2, 5),
  (⟨"DomeCalendar$Reader", "fail", "(I)Z"⟩, prog_7_method_10_code, 2, 2, 5),
  (⟨"DomeCalendar$Ground", "readBlock", "(LDomeCalendar$Reader;I)Z"⟩, prog_3_method_9_code, 3, 2, 1),
  (⟨"DomeCalendar$Reader", "advance", "()V"⟩, prog_7_method_12_code, 1, 0, 5),
  (⟨"java/lang/Math", "min", "(II)I"⟩, prog_17_method_69_code, 2, 1, 14)]
def xq_ml1 : List (MethodName × ByteArray × Nat × Nat × Nat) := [(⟨"DomeCalendar$Reader", "isNumber", "(II)Z"⟩, prog_7_method_16_code, 3, 2, 5),
  (⟨"DomeCalendar$Reader", "takeNumber", "()I"⟩, prog_7_method_17_code, 2, 1, 5),
  (⟨"DomeCalendar$Reader", "takeWord", "(Ljava/lang/String;)Z"⟩, prog_7_method_18_code, 2, 2, 5),
  (⟨"DomeCalendar$Ground", "readNeighbours", "(LDomeCalendar$Reader;I)Z"⟩, prog_3_method_10_code, 4, 2, 1),
  (⟨"DomeCalendar$Reader", "takeSign", "(C)Z"⟩, prog_7_method_19_code, 2, 2, 5),
  (⟨"DomeCalendar$Reader", "isSign", "(C)Z"⟩, prog_7_method_14_code, 2, 2, 5),
  (⟨"DomeCalendar$Ground", "readWay", "(LDomeCalendar$Reader;)Z"⟩, prog_3_method_11_code, 4, 2, 1),
  (⟨"DomeCalendar$Ground", "stretchKind", "(LDomeCalendar$Reader;)I"⟩, prog_3_method_12_code, 1, 1, 1),
  (⟨"DomeCalendar$Site", "startAnew", "(LDomeCalendar$Ground;)V"⟩, prog_8_method_3_code, 3, 0, 6),
  (⟨"java/util/Arrays", "fill", "([II)V"⟩, prog_22_method_103_code, 4, 0, 16),
  (⟨"DomeCalendar$Law", "readLines", "(LDomeCalendar$Reader;)Z"⟩, prog_4_method_5_code, 3, 2, 2),
  (⟨"DomeCalendar$Law", "readSum", "(LDomeCalendar$Reader;)Z"⟩, prog_4_method_8_code, 4, 2, 2),
  (⟨"DomeCalendar$Law", "readProduct", "(LDomeCalendar$Reader;)Z"⟩, prog_4_method_9_code, 4, 2, 2),
  (⟨"DomeCalendar$Law", "readUnit", "(LDomeCalendar$Reader;)Z"⟩, prog_4_method_10_code, 3, 2, 2),
  (⟨"DomeCalendar$Reader", "isAnyNumber", "()Z"⟩, prog_7_method_15_code, 1, 2, 5),
  (⟨"DomeCalendar$Law", "put", "(I)V"⟩, prog_4_method_11_code, 2, 0, 2),
  (⟨"DomeCalendar$Law", "readChoice", "(LDomeCalendar$Reader;I)Z"⟩, prog_4_method_6_code, 6, 2, 2),
  (⟨"DomeCalendar$Law", "readCondition", "(LDomeCalendar$Reader;I)Z"⟩, prog_4_method_7_code, 5, 2, 2),
  (⟨"DomeCalendar$Law", "copyFrom", "(LDomeCalendar$Law;)V"⟩, prog_4_method_2_code, 2, 0, 2),
  (⟨"DomeCalendar$Plan", "readAllSteps", "(LDomeCalendar$Reader;)Z"⟩, prog_6_method_4_code, 2, 2, 4),
  (⟨"DomeCalendar$Plan", "readSteps", "(LDomeCalendar$Reader;I)Z"⟩, prog_6_method_5_code, 5, 2, 4),
  (⟨"DomeCalendar$Plan", "readAgain", "(LDomeCalendar$Reader;I)Z"⟩, prog_6_method_6_code, 5, 2, 4),
  (⟨"DomeCalendar$Plan", "repeat", "(II)V"⟩, prog_6_method_7_code, 6, 0, 4),
  (⟨"DomeCalendar$Plan", "write", "(IIII)V"⟩, prog_6_method_9_code, 5, 0, 4),
  (⟨"DomeCalendar$Plan", "readStep", "(LDomeCalendar$Reader;)Z"⟩, prog_6_method_8_code, 5, 2, 4),
  (⟨"DomeCalendar$Plan", "deedOf", "(LDomeCalendar$Reader;)I"⟩, prog_6_method_10_code, 1, 1, 4),
  (⟨"DomeCalendar$Plan", "copyFrom", "(LDomeCalendar$Plan;)V"⟩, prog_6_method_2_code, 2, 0, 4),
  (⟨"DomeCalendar$Reader", "clear", "()V"⟩, prog_7_method_5_code, 1, 0, 5),
  (⟨"DomeCalendar", "fault", "(I)I"⟩, prog_1_method_10_code, 2, 1, 11),
  (⟨"DomeCalendar", "weeks", "(I)I"⟩, prog_1_method_11_code, 4, 1, 11),
  (⟨"DomeCalendar$Past", "keep", "(LDomeCalendar$Site;I)V"⟩, prog_5_method_2_code, 3, 0, 3),
  (⟨"DomeCalendar$Site", "copyFrom", "(LDomeCalendar$Site;)V"⟩, prog_8_method_2_code, 2, 0, 6),
  (⟨"DomeCalendar$Works", "oneWeek", "()I"⟩, prog_11_method_3_code, 3, 1, 9),
  (⟨"DomeCalendar$Works", "seeWeather", "()V"⟩, prog_11_method_4_code, 2, 0, 9),
  (⟨"DomeCalendar$Site", "draw", "(I)I"⟩, prog_8_method_4_code, 2, 1, 6),
  (⟨"DomeCalendar$Site", "changeMud", "(Z)V"⟩, prog_8_method_10_code, 2, 0, 6),
  (⟨"DomeCalendar$Site", "graze", "(Z)V"⟩, prog_8_method_11_code, 4, 0, 6),
  (⟨"DomeCalendar$Works", "cutByOrder", "()V"⟩, prog_11_method_5_code, 4, 0, 9),
  (⟨"DomeCalendar$Works", "isHeld", "(I)Z"⟩, prog_11_method_6_code, 2, 2, 9),
  (⟨"DomeCalendar$Book", "write", "(IIII)V"⟩, prog_2_method_3_code, 5, 0, 0)]
def xq_ml2 : List (MethodName × ByteArray × Nat × Nat × Nat) := [(⟨"DomeCalendar$Works", "haulByOrder", "()V"⟩, prog_11_method_7_code, 3, 0, 9),
  (⟨"DomeCalendar$Works", "leaveQuarry", "(I)V"⟩, prog_11_method_8_code, 2, 0, 9),
  (⟨"DomeCalendar$Works", "goesOver", "(II)Z"⟩, prog_11_method_9_code, 5, 2, 9),
  (⟨"DomeCalendar$Ground", "team", "(II)I"⟩, prog_3_method_7_code, 3, 1, 1),
  (⟨"DomeCalendar$Law", "haul", "()I"⟩, prog_4_method_3_code, 5, 1, 2),
  (⟨"DomeCalendar$Law", "joined", "(III)I"⟩, prog_4_method_4_code, 3, 1, 2),
  (⟨"DomeCalendar$Works", "comeBehind", "(II)V"⟩, prog_11_method_10_code, 3, 0, 9),
  (⟨"DomeCalendar$Works", "floodByOrder", "()V"⟩, prog_11_method_11_code, 3, 0, 9),
  (⟨"DomeCalendar$Site", "isFrost", "()Z"⟩, prog_8_method_5_code, 1, 2, 6),
  (⟨"DomeCalendar$Works", "layByOrder", "()I"⟩, prog_11_method_13_code, 4, 1, 9),
  (⟨"DomeCalendar$Works", "couldBeLaid", "(I)Z"⟩, prog_11_method_12_code, 2, 2, 9),
  (⟨"DomeCalendar$Ground", "weight", "(I)I"⟩, prog_3_method_6_code, 2, 1, 1),
  (⟨"java/lang/Math", "abs", "(I)I"⟩, prog_17_method_59_code, 1, 1, 14),
  (⟨"DomeCalendar$Works", "allLaid", "()Z"⟩, prog_11_method_2_code, 1, 2, 9),
  (⟨"DomeCalendar$Ground", "allBlocks", "()I"⟩, prog_3_method_5_code, 1, 1, 1),
  (⟨"DomeCalendar$Works", "countWaiting", "(I)V"⟩, prog_11_method_14_code, 3, 0, 9),
  (⟨"DomeCalendar$Works", "splitByNumber", "()V"⟩, prog_11_method_15_code, 3, 0, 9),
  (⟨"DomeCalendar$Works", "fallIfRotten", "()V"⟩, prog_11_method_16_code, 3, 0, 9),
  (⟨"DomeCalendar$Site", "turnWeek", "()V"⟩, prog_8_method_12_code, 1, 0, 6),
  (⟨"DomeCalendar", "plan", "()I"⟩, prog_1_method_12_code, 2, 1, 11),
  (⟨"DomeCalendar$Plan", "allWeeks", "()I"⟩, prog_6_method_3_code, 3, 1, 4),
  (⟨"DomeCalendar$Works", "follow", "(LDomeCalendar$Plan;)V"⟩, prog_11_method_17_code, 4, 0, 9),
  (⟨"DomeCalendar$Works", "takeStep", "(III)V"⟩, prog_11_method_18_code, 5, 0, 9),
  (⟨"DomeCalendar", "planned", "(I)I"⟩, prog_1_method_13_code, 2, 1, 11),
  (⟨"DomeCalendar$Thought", "laidBehindPlan", "()I"⟩, prog_10_method_5_code, 1, 1, 8),
  (⟨"DomeCalendar$Thought", "beginAnew", "()V"⟩, prog_10_method_3_code, 1, 0, 8),
  (⟨"java/lang/Integer", "bitCount", "(I)I"⟩, prog_16_method_49_code, 1, 1, 15),
  (⟨"DomeCalendar$Thought", "closeBehindPlan", "()I"⟩, prog_10_method_6_code, 1, 1, 8),
  (⟨"DomeCalendar$Works", "closeBy", "(I)I"⟩, prog_11_method_19_code, 5, 1, 9),
  (⟨"DomeCalendar$Works", "isHopeless", "(I)Z"⟩, prog_11_method_20_code, 6, 2, 9),
  (⟨"DomeCalendar$Works", "largestTeam", "(I)I"⟩, prog_11_method_21_code, 4, 1, 9),
  (⟨"DomeCalendar$Works", "largestHerd", "(I)I"⟩, prog_11_method_22_code, 7, 1, 9),
  (⟨"DomeCalendar$Works", "isStuck", "(I)Z"⟩, prog_11_method_23_code, 4, 2, 9),
  (⟨"DomeCalendar", "of", "(II)I"⟩, prog_1_method_14_code, 5, 1, 11),
  (⟨"DomeCalendar$Ground", "hasBlock", "(I)Z"⟩, prog_3_method_3_code, 2, 2, 1),
  (⟨"DomeCalendar", "stretch", "(II)I"⟩, prog_1_method_15_code, 3, 1, 11),
  (⟨"DomeCalendar$Ground", "hasStretch", "(I)Z"⟩, prog_3_method_4_code, 2, 2, 1),
  (⟨"DomeCalendar$Site", "countOn", "(II)I"⟩, prog_8_method_8_code, 5, 1, 6),
  (⟨"DomeCalendar", "order", "(I)I"⟩, prog_1_method_16_code, 2, 1, 11),
  (⟨"DomeCalendar", "book", "(II)I"⟩, prog_1_method_17_code, 3, 1, 11)]
def xq_ml3 : List (MethodName × ByteArray × Nat × Nat × Nat) := [(⟨"DomeCalendar", "closes", "()I"⟩, prog_1_method_18_code, 1, 1, 11),
  (⟨"DomeCalendar$Thought", "closeNow", "()I"⟩, prog_10_method_4_code, 1, 1, 8),
  (⟨"DomeCalendar", "soonest", "(I)I"⟩, prog_1_method_19_code, 4, 1, 11),
  (⟨"DomeCalendar$Thought", "soonestWeek", "()I"⟩, prog_10_method_7_code, 5, 1, 8),
  (⟨"DomeCalendar$Thought", "gatherFree", "()I"⟩, prog_10_method_8_code, 3, 1, 8),
  (⟨"DomeCalendar$Thought", "putOrder", "([II)V"⟩, prog_10_method_9_code, 6, 0, 8),
  (⟨"DomeCalendar$Thought", "nextOrder", "(I)Z"⟩, prog_10_method_10_code, 5, 2, 8),
  (⟨"DomeCalendar$Thought", "swapFree", "(II)V"⟩, prog_10_method_11_code, 4, 0, 8),
  (⟨"DomeCalendar", "slack", "(I)I"⟩, prog_1_method_20_code, 2, 1, 11),
  (⟨"DomeCalendar$Thought", "longestHold", "(I)I"⟩, prog_10_method_12_code, 5, 1, 8),
  (⟨"DomeCalendar", "spare", "()I"⟩, prog_1_method_21_code, 1, 1, 11),
  (⟨"DomeCalendar$Thought", "spareSet", "()I"⟩, prog_10_method_13_code, 4, 1, 8),
  (⟨"DomeCalendar", "fewest", "(I)I"⟩, prog_1_method_22_code, 2, 1, 11),
  (⟨"DomeCalendar$Thought", "fewestOxen", "(I)I"⟩, prog_10_method_14_code, 3, 1, 8),
  (⟨"DomeCalendar", "can", "()I"⟩, prog_1_method_23_code, 3, 1, 11),
  (⟨"DomeCalendar", "ways", "(I)J"⟩, prog_1_method_24_code, 2, 3, 11),
  (⟨"DomeCalendar$Tally", "countOrders", "(II)J"⟩, prog_9_method_3_code, 8, 3, 7),
  (⟨"DomeCalendar$Tally", "westSet", "()I"⟩, prog_9_method_4_code, 3, 1, 7),
  (⟨"DomeCalendar$Tally", "tiltOf", "(I)I"⟩, prog_9_method_5_code, 4, 1, 7),
  (⟨"DomeCalendar", "chain", "(I)I"⟩, prog_1_method_25_code, 2, 1, 11),
  (⟨"DomeCalendar$Tally", "longestRow", "(I)I"⟩, prog_9_method_2_code, 4, 1, 7),
  (⟨"DomeCalendar", "took", "(II)I"⟩, prog_1_method_26_code, 6, 1, 11),
  (⟨"DomeCalendar$Book", "lastBefore", "(IIII)I"⟩, prog_2_method_4_code, 6, 1, 0),
  (⟨"DomeCalendar", "blame", "(I)I"⟩, prog_1_method_27_code, 6, 1, 11),
  (⟨"DomeCalendar$Site", "waitedFor", "(II)I"⟩, prog_8_method_9_code, 5, 1, 6),
  (⟨"DomeCalendar", "herd", "(II)I"⟩, prog_1_method_28_code, 3, 1, 11),
  (⟨"DomeCalendar$Thought", "herdBehind", "(II)I"⟩, prog_10_method_15_code, 4, 1, 8),
  (⟨"DomeCalendar", "without", "(I)I"⟩, prog_1_method_29_code, 2, 1, 11),
  (⟨"DomeCalendar$Thought", "closeWithout", "(I)I"⟩, prog_10_method_16_code, 2, 1, 8),
  (⟨"DomeCalendar", "help", "(I)I"⟩, prog_1_method_30_code, 2, 1, 11),
  (⟨"DomeCalendar$Thought", "bestHelp", "(Z)I"⟩, prog_10_method_17_code, 7, 1, 8),
  (⟨"DomeCalendar", "undo", "()Z"⟩, prog_1_method_31_code, 1, 2, 11),
  (⟨"DomeCalendar$Past", "takeBack", "(LDomeCalendar$Site;)I"⟩, prog_5_method_3_code, 2, 1, 3),
  (⟨"DomeCalendar", "image", "(Z)Z"⟩, prog_1_method_32_code, 2, 2, 11),
  (⟨"DomeCalendar$Yard", "copyFrom", "(LDomeCalendar$Yard;)V"⟩, prog_12_method_2_code, 2, 0, 10),
  (⟨"DomeCalendar$Book", "copyFrom", "(LDomeCalendar$Book;)V"⟩, prog_2_method_2_code, 3, 0, 0),
  (⟨"DomeCalendar", "look", "(I)I"⟩, prog_1_method_33_code, 3, 1, 11),
  (⟨"DomeCalendarModel", "<init>", "()V"⟩, prog_14_method_1_code, 2, 0, 12),
  (⟨"DomeCalendarModel", "state", "(I)I"⟩, prog_14_method_13_code, 3, 1, 12),
  (⟨"DomeCalendarModel", "forgets", "()V"⟩, prog_14_method_12_code, 1, 0, 12)]
def xq_ml4 : List (MethodName × ByteArray × Nat × Nat × Nat) := [(⟨"DomeCalendarModel", "set", "(II)Z"⟩, prog_14_method_16_code, 3, 2, 12),
  (⟨"DomeCalendarModel", "isIn", "(III)Z"⟩, prog_14_method_2_code, 3, 2, 12),
  (⟨"DomeCalendarModel", "most", "(I)I"⟩, prog_14_method_15_code, 1, 1, 12),
  (⟨"DomeCalendarModel", "vein", "(IZ)Z"⟩, prog_14_method_17_code, 3, 2, 12),
  (⟨"DomeCalendarModel", "rank", "(II)Z"⟩, prog_14_method_19_code, 5, 2, 12),
  (⟨"DomeCalendarModel", "isBlock", "(I)Z"⟩, prog_14_method_8_code, 2, 2, 12),
  (⟨"DomeCalendarModel", "placeOf", "(I)I"⟩, prog_14_method_18_code, 3, 1, 12),
  (⟨"DomeCalendarModel", "feed", "(IIIII)I"⟩, prog_14_method_21_code, 8, 1, 12),
  (⟨"DomeCalendarModel", "end", "(I)Z"⟩, prog_14_method_22_code, 2, 2, 12),
  (⟨"DomeCalendarModel", "text", "(I)I"⟩, prog_14_method_59_code, 3, 1, 12),
  (⟨"DomeCalendarModel", "next0", "()V"⟩, prog_14_method_32_code, 3, 0, 12),
  (⟨"DomeCalendarModel", "see", "(I)I"⟩, prog_14_method_23_code, 2, 1, 12),
  (⟨"DomeCalendarModel", "isLetter", "(I)Z"⟩, prog_14_method_24_code, 1, 2, 12),
  (⟨"DomeCalendarModel", "word", "()I"⟩, prog_14_method_31_code, 1, 1, 12),
  (⟨"DomeCalendarModel", "domeWord", "()I"⟩, prog_14_method_28_code, 1, 1, 12),
  (⟨"DomeCalendarModel", "is", "(Ljava/lang/String;)Z"⟩, prog_14_method_26_code, 4, 2, 12),
  (⟨"DomeCalendarModel", "wayWord", "()I"⟩, prog_14_method_29_code, 1, 1, 12),
  (⟨"DomeCalendarModel", "haulWord", "()I"⟩, prog_14_method_27_code, 1, 1, 12),
  (⟨"DomeCalendarModel", "planWord", "()I"⟩, prog_14_method_30_code, 1, 1, 12),
  (⟨"DomeCalendarModel", "isDigit", "(I)Z"⟩, prog_14_method_25_code, 1, 2, 12),
  (⟨"DomeCalendarModel", "readsLaw", "()Z"⟩, prog_14_method_44_code, 2, 2, 12),
  (⟨"DomeCalendarModel", "aLine", "()Z"⟩, prog_14_method_43_code, 1, 2, 12),
  (⟨"DomeCalendarModel", "bad", "(I)Z"⟩, prog_14_method_33_code, 2, 2, 12),
  (⟨"DomeCalendarModel", "sumUp", "()Z"⟩, prog_14_method_37_code, 2, 2, 12),
  (⟨"DomeCalendarModel", "product", "()Z"⟩, prog_14_method_38_code, 3, 2, 12),
  (⟨"DomeCalendarModel", "unit", "()Z"⟩, prog_14_method_39_code, 2, 2, 12),
  (⟨"DomeCalendarModel", "lay", "(II)V"⟩, prog_14_method_35_code, 3, 0, 12),
  (⟨"DomeCalendarModel", "any", "()Z"⟩, prog_14_method_40_code, 1, 2, 12),
  (⟨"DomeCalendarModel", "every", "()Z"⟩, prog_14_method_41_code, 1, 2, 12),
  (⟨"DomeCalendarModel", "oneTest", "()Z"⟩, prog_14_method_42_code, 2, 2, 12),
  (⟨"DomeCalendarModel", "opens", "()Z"⟩, prog_14_method_36_code, 1, 2, 12),
  (⟨"DomeCalendarModel", "need", "(I)Z"⟩, prog_14_method_34_code, 2, 2, 12),
  (⟨"DomeCalendarModel", "readsPlan", "()Z"⟩, prog_14_method_54_code, 1, 2, 12),
  (⟨"DomeCalendarModel", "someSteps", "(I)Z"⟩, prog_14_method_53_code, 3, 2, 12),
  (⟨"DomeCalendarModel", "someAgain", "(I)Z"⟩, prog_14_method_52_code, 7, 2, 12),
  (⟨"DomeCalendarModel", "number", "(II)Z"⟩, prog_14_method_45_code, 3, 2, 12),
  (⟨"DomeCalendarModel", "tells", "(III)V"⟩, prog_14_method_49_code, 4, 0, 12),
  (⟨"DomeCalendarModel", "aStep", "()Z"⟩, prog_14_method_51_code, 4, 2, 12),
  (⟨"DomeCalendarModel", "greatestOf", "(I)I"⟩, prog_14_method_50_code, 2, 1, 12),
  (⟨"DomeCalendarModel", "readsRow", "()Z"⟩, prog_14_method_56_code, 2, 2, 12)]
def xq_ml5 : List (MethodName × ByteArray × Nat × Nat × Nat) := [(⟨"DomeCalendarModel", "aBlock", "()Z"⟩, prog_14_method_47_code, 2, 2, 12),
  (⟨"DomeCalendarModel", "neighbours", "(I)Z"⟩, prog_14_method_46_code, 3, 2, 12),
  (⟨"DomeCalendarModel", "aStretch", "()Z"⟩, prog_14_method_48_code, 2, 2, 12),
  (⟨"DomeCalendarModel", "putsLaw", "()I"⟩, prog_14_method_57_code, 2, 1, 12),
  (⟨"DomeCalendarModel", "putsPlan", "()I"⟩, prog_14_method_55_code, 2, 1, 12),
  (⟨"DomeCalendarModel", "putsRow", "()I"⟩, prog_14_method_58_code, 3, 1, 12),
  (⟨"DomeCalendarModel", "gives", "(III)V"⟩, prog_14_method_7_code, 4, 0, 12),
  (⟨"DomeCalendarModel", "own", "(II)I"⟩, prog_14_method_6_code, 3, 1, 12),
  (⟨"DomeCalendarModel", "beginsAnew", "()V"⟩, prog_14_method_20_code, 3, 0, 12),
  (⟨"DomeCalendarModel", "fault", "(I)I"⟩, prog_14_method_60_code, 2, 1, 12),
  (⟨"DomeCalendarModel", "undo", "()Z"⟩, prog_14_method_84_code, 2, 2, 12),
  (⟨"DomeCalendarModel", "weeks", "(I)I"⟩, prog_14_method_85_code, 4, 1, 12),
  (⟨"DomeCalendarModel", "keeps", "()V"⟩, prog_14_method_83_code, 2, 0, 12),
  (⟨"DomeCalendarModel", "aWeek", "(Z)I"⟩, prog_14_method_82_code, 5, 1, 12),
  (⟨"DomeCalendarModel", "told", "(I)I"⟩, prog_14_method_5_code, 2, 1, 12),
  (⟨"DomeCalendarModel", "draw", "(I)I"⟩, prog_14_method_14_code, 2, 1, 12),
  (⟨"DomeCalendarModel", "lesser", "(II)I"⟩, prog_14_method_3_code, 2, 1, 12),
  (⟨"DomeCalendarModel", "greater", "(II)I"⟩, prog_14_method_4_code, 2, 1, 12),
  (⟨"DomeCalendarModel", "herds", "(Z)V"⟩, prog_14_method_68_code, 4, 0, 12),
  (⟨"DomeCalendarModel", "cuts", "()V"⟩, prog_14_method_69_code, 4, 0, 12),
  (⟨"DomeCalendarModel", "writes", "(III)V"⟩, prog_14_method_63_code, 5, 0, 12),
  (⟨"DomeCalendarModel", "hauls", "(ZZ)V"⟩, prog_14_method_73_code, 5, 0, 12),
  (⟨"DomeCalendarModel", "isOnWay", "(I)Z"⟩, prog_14_method_65_code, 2, 2, 12),
  (⟨"DomeCalendarModel", "comesOn", "(II)V"⟩, prog_14_method_66_code, 4, 0, 12),
  (⟨"DomeCalendarModel", "isStretch", "(I)Z"⟩, prog_14_method_9_code, 2, 2, 12),
  (⟨"DomeCalendarModel", "goesOn", "(IZ)V"⟩, prog_14_method_72_code, 5, 0, 12),
  (⟨"DomeCalendarModel", "teamFor", "(I)I"⟩, prog_14_method_70_code, 3, 1, 12),
  (⟨"DomeCalendarModel", "sortOf", "(I)I"⟩, prog_14_method_10_code, 2, 1, 12),
  (⟨"DomeCalendarModel", "waits", "(II)V"⟩, prog_14_method_64_code, 3, 0, 12),
  (⟨"DomeCalendarModel", "lengthOf", "(I)I"⟩, prog_14_method_11_code, 2, 1, 12),
  (⟨"DomeCalendarModel", "hauled", "(IZ)I"⟩, prog_14_method_71_code, 5, 1, 12),
  (⟨"DomeCalendarModel", "comesTo", "(II)I"⟩, prog_14_method_62_code, 7, 1, 12),
  (⟨"DomeCalendarModel", "both", "(III)I"⟩, prog_14_method_61_code, 3, 1, 12),
  (⟨"DomeCalendarModel", "isOver", "(I)V"⟩, prog_14_method_67_code, 3, 0, 12),
  (⟨"DomeCalendarModel", "lays", "()I"⟩, prog_14_method_79_code, 5, 1, 12),
  (⟨"DomeCalendarModel", "isFrost", "()Z"⟩, prog_14_method_78_code, 1, 2, 12),
  (⟨"DomeCalendarModel", "canLay", "(I)Z"⟩, prog_14_method_77_code, 3, 2, 12),
  (⟨"DomeCalendarModel", "laidSet", "()I"⟩, prog_14_method_74_code, 3, 1, 12),
  (⟨"DomeCalendarModel", "leans", "()I"⟩, prog_14_method_76_code, 3, 1, 12),
  (⟨"DomeCalendarModel", "laidMany", "()I"⟩, prog_14_method_75_code, 3, 1, 12)]
def xq_ml6 : List (MethodName × ByteArray × Nat × Nat × Nat) := [(⟨"DomeCalendarModel", "splits", "()V"⟩, prog_14_method_80_code, 2, 0, 12),
  (⟨"DomeCalendarModel", "falls", "()V"⟩, prog_14_method_81_code, 3, 0, 12),
  (⟨"DomeCalendarModel", "plan", "()I"⟩, prog_14_method_89_code, 3, 1, 12),
  (⟨"DomeCalendarModel", "doesAll", "(Z)V"⟩, prog_14_method_88_code, 3, 0, 12),
  (⟨"DomeCalendarModel", "does", "(IIIZ)V"⟩, prog_14_method_86_code, 5, 0, 12),
  (⟨"DomeCalendarModel", "waitsOn", "(IZ)V"⟩, prog_14_method_87_code, 4, 0, 12),
  (⟨"DomeCalendarModel", "of", "(II)I"⟩, prog_14_method_90_code, 3, 1, 12),
  (⟨"DomeCalendarModel", "stretch", "(II)I"⟩, prog_14_method_91_code, 5, 1, 12),
  (⟨"DomeCalendarModel", "order", "(I)I"⟩, prog_14_method_92_code, 2, 1, 12),
  (⟨"DomeCalendarModel", "book", "(II)I"⟩, prog_14_method_93_code, 3, 1, 12),
  (⟨"DomeCalendarModel", "closes", "()I"⟩, prog_14_method_98_code, 1, 1, 12),
  (⟨"DomeCalendarModel", "closesWith", "(II)I"⟩, prog_14_method_97_code, 4, 1, 12),
  (⟨"DomeCalendarModel", "laysAside", "()V"⟩, prog_14_method_94_code, 2, 0, 12),
  (⟨"DomeCalendarModel", "closesThen", "(II)I"⟩, prog_14_method_96_code, 4, 1, 12),
  (⟨"DomeCalendarModel", "putsBack", "()V"⟩, prog_14_method_95_code, 2, 0, 12),
  (⟨"DomeCalendarModel", "soonest", "(I)I"⟩, prog_14_method_100_code, 7, 1, 12),
  (⟨"DomeCalendarModel", "orders", "(II)V"⟩, prog_14_method_99_code, 5, 0, 12),
  (⟨"DomeCalendarModel", "slack", "(I)I"⟩, prog_14_method_101_code, 4, 1, 12),
  (⟨"DomeCalendarModel", "spare", "()I"⟩, prog_14_method_102_code, 5, 1, 12),
  (⟨"DomeCalendarModel", "fewest", "(I)I"⟩, prog_14_method_103_code, 4, 1, 12),
  (⟨"DomeCalendarModel", "planned", "(I)I"⟩, prog_14_method_104_code, 3, 1, 12),
  (⟨"DomeCalendarModel", "without", "(I)I"⟩, prog_14_method_105_code, 3, 1, 12),
  (⟨"DomeCalendarModel", "herd", "(II)I"⟩, prog_14_method_106_code, 4, 1, 12),
  (⟨"DomeCalendarModel", "help", "(I)I"⟩, prog_14_method_107_code, 6, 1, 12),
  (⟨"DomeCalendarModel", "can", "()I"⟩, prog_14_method_108_code, 3, 1, 12),
  (⟨"DomeCalendarModel", "ways", "(I)J"⟩, prog_14_method_111_code, 5, 3, 12),
  (⟨"DomeCalendarModel", "waysOf", "(IIZ)J"⟩, prog_14_method_109_code, 6, 3, 12),
  (⟨"DomeCalendarModel", "isBalanced", "(I)Z"⟩, prog_14_method_110_code, 4, 2, 12),
  (⟨"DomeCalendarModel", "took", "(II)I"⟩, prog_14_method_112_code, 7, 1, 12),
  (⟨"DomeCalendarModel", "blame", "(I)I"⟩, prog_14_method_113_code, 7, 1, 12),
  (⟨"DomeCalendarModel", "chain", "(I)I"⟩, prog_14_method_114_code, 4, 1, 12),
  (⟨"DomeCalendarModel", "image", "(Z)Z"⟩, prog_14_method_115_code, 3, 2, 12),
  (⟨"DomeCalendarModel", "look", "(I)I"⟩, prog_14_method_116_code, 2, 1, 12)]
def xq_ml : List (MethodName × ByteArray × Nat × Nat × Nat) := xq_ml0 ++ (xq_ml1 ++ (xq_ml2 ++ (xq_ml3 ++ (xq_ml4 ++ (xq_ml5 ++ (xq_ml6))))))
/-- links of methods: own class, index, method (1000 and on: what the machine does itself), arguments with the receiver, room of locals, kind (0 virtual, 1 static, 2 a constructor, 3 a constructor by nest) -/
def xq_KL : List (Nat × Nat × Nat × Nat × Nat × Nat) := [(13, 9, 0, 1, 1, 2), (11, 1, 1000, 1, 0, 9), (11, 9, 1, 1, 1, 3), (10, 3, 1000, 1, 0, 9), (10, 11, 2, 1, 1, 3), (1, 3, 1000, 1, 0, 9), (10, 20, 3, 1, 1, 3), (2, 3, 1000, 1, 0, 9), (10, 27, 4, 1, 1, 3), (4, 3, 1000, 1, 0, 9), (10, 34, 5, 1, 1, 3), (6, 3, 1000, 1, 0, 9), (6, 13, 1002, 1, 0, 9), (10, 41, 6, 2, 2, 2), (0, 3, 1000, 1, 0, 9), (0, 15, 7, 2, 2, 1), (11, 26, 8, 5, 5, 2), (9, 3, 1000, 1, 0, 9), (11, 35, 9, 2, 2, 2), (8, 3, 1000, 1, 0, 9), (8, 11, 5, 1, 1, 3), (8, 41, 6, 2, 2, 2), (8, 44, 8, 5, 5, 2), (11, 48, 10, 2, 2, 2), (7, 3, 1000, 1, 0, 9), (11, 57, 11, 1, 2, 2), (3, 3, 1000, 1, 0, 9), (3, 28, 5, 1, 1, 3), (11, 64, 12, 1, 1, 3), (5, 3, 1000, 1, 0, 9), (11, 71, 2, 1, 1, 3), (11, 77, 3, 1, 1, 3), (11, 84, 4, 1, 1, 3), (13, 13, 13, 2, 3, 0), (11, 98, 14, 1, 1, 0), (11, 114, 15, 1, 1, 0), (13, 18, 16, 3, 3, 0), (13, 23, 17, 3, 3, 0), (13, 28, 18, 3, 3, 0), (11, 120, 19, 4, 6, 0), (6, 83, 20, 3, 4, 0), (13, 32, 21, 6, 6, 0), (11, 124, 22, 6, 6, 0), (5, 43, 23, 2, 3, 0), (13, 37, 24, 2, 2, 0), (11, 128, 25, 2, 2, 0), (13, 42, 26, 2, 3, 0), (11, 132, 27, 1, 4, 0), (5, 47, 28, 1, 2, 1), (5, 51, 29, 2, 3, 0), (5, 58, 7, 2, 2, 1), (5, 54, 30, 3, 3, 0), (11, 135, 31, 2, 3, 0), (11, 168, 32, 2, 2, 0), (1, 37, 1001, 5, 0, 9), (11, 170, 33, 2, 3, 0), (1, 43, 34, 1, 1, 0), (1, 51, 35, 2, 4, 0), (5, 67, 1003, 1, 0, 9), (5, 72, 1004, 2, 0, 9), (1, 55, 36, 2, 2, 0), (1, 59, 37, 3, 3, 0), (1, 63, 38, 1, 1, 0), (5, 64, 39, 2, 2, 1), (1, 66, 40, 3, 3, 0), (5, 76, 36, 2, 2, 0), (1, 70, 41, 1, 2, 0), (1, 76, 42, 2, 2, 0), (5, 80, 35, 2, 4, 0), (1, 84, 43, 3, 4, 0), (1, 87, 44, 2, 2, 0), (5, 84, 45, 2, 2, 0), (11, 173, 46, 2, 4, 0), (1, 93, 47, 1, 1, 1), (11, 176, 48, 2, 3, 0), (6, 75, 49, 2, 4, 1), (11, 139, 50, 2, 3, 0), (2, 50, 34, 1, 1, 0), (2, 58, 35, 2, 4, 0), (2, 62, 36, 2, 2, 0), (2, 66, 38, 1, 1, 0), (2, 69, 51, 2, 4, 0), (2, 99, 52, 2, 4, 0), (2, 102, 53, 2, 3, 0), (2, 109, 54, 1, 1, 0), (2, 112, 41, 1, 2, 0), (2, 86, 55, 2, 2, 0), (2, 96, 45, 2, 2, 0), (2, 105, 40, 3, 3, 0), (2, 75, 56, 3, 6, 0), (2, 83, 57, 3, 5, 0), (2, 79, 44, 2, 2, 0), (11, 146, 58, 2, 2, 0), (2, 31, 1001, 5, 0, 9), (11, 153, 59, 2, 2, 0), (4, 31, 60, 3, 5, 0), (4, 41, 45, 2, 2, 0), (4, 45, 34, 1, 1, 0), (4, 51, 35, 2, 4, 0), (4, 55, 61, 3, 5, 0), (4, 35, 36, 2, 2, 0), (4, 62, 38, 1, 1, 0), (4, 65, 40, 3, 3, 0), (4, 69, 41, 1, 2, 0), (4, 73, 44, 2, 2, 0), (4, 76, 62, 3, 6, 0), (4, 80, 63, 5, 5, 0), (4, 58, 64, 2, 5, 0), (4, 84, 65, 1, 1, 1), (4, 96, 42, 2, 2, 0), (11, 159, 66, 2, 2, 0), (4, 25, 1001, 5, 0, 9), (11, 165, 67, 1, 1, 0), (13, 46, 68, 2, 2, 0), (13, 50, 69, 2, 4, 0), (11, 194, 70, 3, 3, 0), (3, 29, 71, 2, 2, 0), (6, 66, 1001, 5, 0, 9), (3, 33, 39, 2, 2, 1), (11, 198, 72, 1, 3, 0), (9, 69, 73, 1, 2, 0), (9, 114, 74, 2, 2, 0), (9, 118, 75, 2, 2, 0), (6, 87, 39, 2, 2, 1), (6, 92, 7, 2, 2, 1), (9, 72, 76, 2, 4, 0), (9, 76, 77, 1, 4, 0), (9, 136, 78, 2, 2, 0), (9, 140, 79, 5, 5, 0), (9, 79, 80, 1, 3, 0), (9, 146, 49, 2, 4, 1), (9, 160, 81, 2, 2, 0), (9, 166, 82, 3, 5, 0), (9, 180, 83, 3, 3, 0), (9, 196, 84, 1, 5, 0), (2, 37, 85, 3, 3, 1), (2, 41, 39, 2, 2, 1), (2, 47, 7, 2, 2, 1), (9, 170, 86, 3, 3, 0), (9, 82, 87, 1, 3, 0), (9, 85, 88, 1, 1, 0), (9, 89, 89, 1, 4, 0), (9, 213, 90, 2, 2, 0), (9, 205, 91, 2, 2, 0), (9, 208, 92, 1, 1, 1), (9, 92, 93, 1, 1, 0), (9, 63, 94, 1, 1, 0), (9, 98, 95, 2, 3, 0), (9, 105, 96, 1, 3, 0), (9, 108, 97, 1, 3, 0), (9, 111, 98, 1, 1, 0), (13, 54, 99, 1, 2, 0), (11, 202, 100, 1, 3, 0), (11, 205, 101, 2, 4, 0), (9, 233, 72, 1, 3, 0), (9, 239, 102, 4, 5, 0), (9, 243, 19, 4, 6, 0), (9, 250, 39, 2, 2, 1), (9, 253, 7, 2, 2, 1), (13, 59, 103, 2, 2, 0), (11, 208, 104, 1, 1, 0), (8, 61, 105, 1, 1, 0), (8, 54, 71, 2, 2, 0), (8, 73, 101, 2, 4, 0), (8, 80, 106, 1, 1, 1), (11, 211, 107, 1, 1, 0), (8, 85, 93, 1, 1, 0), (8, 65, 108, 2, 5, 0), (9, 256, 109, 2, 6, 0), (9, 262, 110, 2, 4, 0), (9, 265, 111, 2, 7, 0), (9, 259, 112, 2, 4, 0), (13, 63, 113, 3, 5, 0), (11, 214, 114, 2, 2, 0), (11, 238, 20, 3, 4, 0), (13, 68, 115, 3, 3, 0), (11, 245, 116, 2, 2, 0), (11, 254, 117, 3, 5, 0), (13, 72, 118, 2, 2, 0), (13, 76, 119, 3, 3, 0), (13, 80, 120, 1, 1, 0), (11, 269, 121, 1, 1, 0), (13, 84, 122, 2, 4, 0), (11, 272, 123, 1, 5, 0), (8, 89, 124, 1, 3, 0), (8, 96, 125, 3, 6, 0), (8, 100, 126, 2, 5, 0), (8, 116, 127, 3, 4, 0), (13, 88, 128, 2, 2, 0), (11, 278, 129, 2, 5, 0), (13, 92, 130, 1, 1, 0), (11, 281, 131, 1, 4, 0), (13, 96, 132, 2, 2, 0), (11, 284, 133, 2, 3, 0), (13, 100, 134, 1, 3, 0), (11, 287, 90, 2, 2, 0), (13, 104, 135, 2, 2, 0), (11, 292, 136, 3, 8, 0), (7, 38, 1005, 2, 0, 9), (7, 44, 137, 1, 3, 0), (7, 48, 138, 2, 4, 0), (7, 58, 91, 2, 2, 0), (7, 52, 92, 1, 1, 1), (13, 109, 139, 2, 2, 0), (11, 296, 140, 2, 4, 0), (7, 28, 7, 2, 2, 1), (13, 113, 141, 3, 6, 0), (11, 299, 142, 5, 6, 0), (0, 37, 39, 2, 2, 1), (13, 117, 143, 2, 6, 0), (11, 303, 144, 3, 5, 0), (13, 121, 145, 3, 3, 0), (11, 306, 146, 3, 4, 0), (8, 135, 75, 2, 2, 0), (8, 139, 76, 2, 4, 0), (8, 142, 98, 1, 1, 0), (13, 125, 147, 2, 2, 0), (11, 309, 148, 2, 2, 0), (13, 129, 149, 2, 2, 0), (11, 312, 150, 2, 7, 0), (13, 133, 151, 1, 1, 0), (11, 319, 152, 2, 2, 0), (13, 138, 153, 2, 2, 0), (11, 323, 154, 2, 2, 0), (10, 48, 32, 2, 2, 0), (10, 52, 58, 2, 2, 0), (10, 55, 66, 2, 2, 0), (10, 58, 71, 2, 2, 0), (10, 61, 155, 2, 3, 0), (0, 40, 1001, 5, 0, 9), (13, 143, 156, 2, 3, 0), (11, 331, 106, 1, 1, 1), (13, 12, 157, 1, 2, 2), (12, 1, 1000, 1, 0, 9), (13, 17, 158, 2, 3, 0), (12, 73, 159, 1, 1, 0), (13, 22, 160, 3, 3, 0), (12, 66, 161, 3, 3, 1), (12, 78, 162, 1, 1, 1), (13, 27, 163, 3, 3, 0), (13, 31, 164, 3, 5, 0), (12, 82, 165, 2, 2, 0), (12, 86, 166, 2, 3, 0), (13, 36, 167, 6, 8, 0), (13, 41, 168, 2, 2, 0), (13, 45, 169, 2, 3, 0), (12, 226, 170, 1, 3, 0), (12, 199, 171, 2, 2, 0), (12, 205, 172, 1, 1, 1), (12, 208, 173, 1, 1, 0), (12, 187, 174, 1, 1, 0), (12, 118, 175, 2, 4, 0), (12, 106, 1003, 1, 0, 9), (12, 112, 1004, 2, 0, 9), (12, 190, 176, 1, 1, 0), (12, 193, 177, 1, 1, 0), (12, 196, 178, 1, 1, 0), (12, 211, 179, 1, 1, 1), (12, 313, 180, 1, 2, 0), (12, 267, 181, 1, 1, 0), (12, 223, 182, 2, 2, 0), (12, 261, 183, 1, 2, 0), (12, 235, 184, 1, 3, 0), (12, 243, 185, 1, 2, 0), (12, 239, 186, 3, 3, 0), (12, 255, 187, 1, 1, 0), (12, 246, 188, 1, 1, 0), (12, 249, 189, 1, 2, 0), (12, 252, 190, 1, 1, 0), (12, 258, 191, 2, 2, 0), (12, 316, 192, 1, 1, 0), (12, 292, 193, 2, 3, 0), (12, 295, 194, 2, 7, 0), (12, 276, 195, 3, 3, 0), (12, 289, 196, 4, 4, 0), (12, 298, 197, 1, 4, 0), (12, 286, 198, 2, 2, 0), (12, 319, 199, 1, 2, 0), (12, 301, 200, 1, 2, 0), (12, 280, 201, 2, 3, 0), (12, 304, 202, 1, 2, 0), (12, 322, 203, 1, 2, 0), (12, 325, 204, 1, 2, 0), (12, 328, 205, 1, 3, 0), (12, 89, 206, 4, 4, 0), (12, 93, 207, 3, 3, 0), (12, 307, 208, 1, 3, 0), (13, 49, 209, 2, 2, 0), (13, 137, 210, 1, 2, 0), (13, 53, 211, 2, 4, 0), (12, 424, 212, 1, 2, 0), (12, 427, 213, 2, 5, 0), (12, 344, 214, 2, 2, 0), (12, 401, 215, 2, 2, 0), (12, 347, 216, 2, 2, 1), (12, 350, 217, 2, 2, 1), (12, 404, 218, 2, 4, 0), (12, 408, 219, 1, 4, 0), (12, 338, 220, 4, 5, 0), (12, 411, 221, 3, 5, 0), (12, 379, 222, 2, 2, 0), (12, 341, 223, 3, 4, 0), (12, 335, 224, 2, 2, 0), (12, 382, 225, 3, 5, 0), (12, 362, 226, 2, 3, 0), (12, 353, 227, 2, 2, 0), (12, 368, 228, 3, 3, 0), (12, 356, 229, 2, 2, 0), (12, 371, 230, 3, 5, 0), (12, 359, 231, 3, 7, 0), (12, 331, 232, 3, 3, 1), (12, 375, 233, 2, 3, 0), (12, 415, 234, 1, 5, 0), (12, 392, 235, 1, 1, 0), (12, 395, 236, 2, 3, 0), (12, 386, 237, 1, 3, 0), (12, 389, 238, 1, 3, 0), (12, 398, 239, 1, 3, 0), (12, 418, 240, 1, 2, 0), (12, 421, 241, 1, 3, 0), (13, 58, 242, 1, 3, 0), (12, 443, 243, 2, 3, 0), (12, 439, 244, 5, 5, 0), (12, 431, 164, 3, 5, 0), (12, 433, 245, 3, 4, 0), (13, 67, 246, 3, 3, 0), (13, 71, 247, 3, 5, 0), (13, 75, 248, 2, 2, 0), (13, 79, 249, 3, 3, 0), (13, 83, 250, 1, 1, 0), (12, 455, 251, 3, 4, 0), (12, 446, 252, 1, 2, 0), (12, 449, 253, 3, 4, 0), (12, 452, 254, 1, 2, 0), (13, 87, 255, 2, 7, 0), (12, 461, 256, 3, 5, 0), (13, 91, 257, 2, 4, 0), (12, 464, 250, 1, 1, 0), (13, 95, 258, 1, 5, 0), (13, 99, 259, 2, 4, 0), (13, 62, 260, 2, 3, 0), (13, 128, 261, 2, 3, 0), (13, 124, 262, 3, 4, 0), (13, 132, 263, 2, 6, 0), (13, 103, 264, 1, 3, 0), (13, 108, 265, 2, 5, 0), (12, 472, 266, 4, 6, 0), (12, 467, 267, 2, 4, 0), (13, 116, 268, 3, 7, 0), (13, 120, 269, 2, 7, 0), (13, 112, 270, 2, 4, 0), (13, 142, 271, 2, 3, 0), (13, 146, 272, 2, 2, 0)]
def xq_IC : List (Nat × Nat × Nat) := [(6, 81, 1664525), (6, 82, 1013904223), (15, 265, 1431655765), (15, 266, 858993459), (15, 267, 252645135), (8, 64, 1000000), (12, 76, 1664525), (12, 77, 1013904223)]
def xq_JC : List (Nat × Nat × Nat) := [(11, 290, 1), (12, 470, 1)]
def xq_SR : List (Nat × Nat × Nat) := [(1, 49, 0), (1, 74, 1), (1, 79, 2), (1, 80, 3), (1, 82, 4), (1, 91, 5), (1, 97, 6), (1, 99, 7), (1, 101, 8), (1, 103, 9), (2, 56, 10), (2, 116, 11), (2, 118, 12), (2, 120, 13), (2, 122, 14), (2, 124, 15), (2, 126, 16), (2, 128, 17), (2, 130, 18), (2, 73, 19), (2, 94, 20), (2, 90, 5), (2, 92, 21), (4, 49, 22), (4, 99, 23), (4, 101, 24), (4, 103, 25), (4, 105, 26), (4, 107, 27), (4, 109, 28), (4, 111, 29), (4, 113, 30), (4, 94, 31), (12, 146, 0), (12, 148, 1), (12, 150, 3), (12, 152, 2), (12, 154, 4), (12, 124, 5), (12, 156, 6), (12, 158, 7), (12, 160, 8), (12, 162, 9), (12, 116, 19), (12, 122, 21), (12, 126, 20), (12, 128, 10), (12, 130, 11), (12, 132, 12), (12, 134, 13), (12, 136, 14), (12, 138, 15), (12, 140, 16), (12, 142, 17), (12, 144, 18), (12, 164, 23), (12, 166, 24), (12, 168, 25), (12, 170, 26), (12, 172, 27), (12, 174, 28), (12, 176, 29), (12, 178, 30), (12, 180, 22), (12, 182, 31)]
def xq_txl : List String := ["block", "of", "east", "west", "after", "and", "road", "hill", "river", "bridge", "haul", "sort", "size", "mud", "wet", "left", "week", "grease", "oxen", "when", "not", "or", "again", "wait", "rank", "hire", "sell", "open", "shut", "cutters", "masons", "to"]
def xq_tx : List (List Int32) := [[98, 108, 111, 99, 107], [111, 102], [101, 97, 115, 116], [119, 101, 115, 116], [97, 102, 116, 101, 114], [97, 110, 100], [114, 111, 97, 100], [104, 105, 108, 108], [114, 105, 118, 101, 114], [98, 114, 105, 100, 103, 101], [104, 97, 117, 108], [115, 111, 114, 116], [115, 105, 122, 101], [109, 117, 100], [119, 101, 116], [108, 101, 102, 116], [119, 101, 101, 107], [103, 114, 101, 97, 115, 101], [111, 120, 101, 110], [119, 104, 101, 110], [110, 111, 116], [111, 114], [97, 103, 97, 105, 110], [119, 97, 105, 116], [114, 97, 110, 107], [104, 105, 114, 101], [115, 101, 108, 108], [111, 112, 101, 110], [115, 104, 117, 116], [99, 117, 116, 116, 101, 114, 115], [109, 97, 115, 111, 110, 115], [116, 111]]
