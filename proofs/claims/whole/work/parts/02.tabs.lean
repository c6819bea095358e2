def RX0 : String := "FrameRound$Clock"
def TX0 : u_T := fun k => match k with
  | 0 => ("FrameRound$Clock", "now", "I", false)
  | 1 => ("FrameRound$Clock", "mode", "I", false)
  | 2 => ("FrameRound$Clock", "frame", "I", false)
  | 3 => ("FrameRound$Clock", "waiting", "I", false)
  | 4 => ("FrameRound$Clock", "done", "I", false)
  | 5 => ("FrameRound$Clock", "overran", "I", false)
  | 6 => ("FrameRound$Clock", "cutOff", "I", false)
  | 7 => ("FrameRound$Clock", "nextMode", "I", false)
  | 8 => ("FrameRound$Clock", "nextTime", "I", false)
  | 9 => ("FrameRound$Clock", "leastLeft", "I", false)
  | 10 => ("FrameRound$Clock", "need", "[I", true)
  | _ => ("FrameRound$Clock", "due", "[I", true)
def tyX0 : Nat → FieldType := fun k => match k with
  | 0 => .int
  | 1 => .int
  | 2 => .int
  | 3 => .int
  | 4 => .int
  | 5 => .int
  | 6 => .int
  | 7 => .int
  | 8 => .int
  | 9 => .int
  | 10 => .array .int
  | _ => .array .int
def RX1 : String := "FrameRound$Flow"
def TX1 : u_T := fun k => match k with
  | 0 => ("FrameRound$Flow", "length", "I", false)
  | 1 => ("FrameRound$Flow", "room", "I", false)
  | 2 => ("FrameRound$Flow", "frames", "I", false)
  | 3 => ("FrameRound$Flow", "jobs", "I", false)
  | 4 => ("FrameRound$Flow", "task", "[I", true)
  | 5 => ("FrameRound$Flow", "release", "[I", true)
  | 6 => ("FrameRound$Flow", "due", "[I", true)
  | 7 => ("FrameRound$Flow", "cost", "[I", true)
  | 8 => ("FrameRound$Flow", "first", "[I", true)
  | 9 => ("FrameRound$Flow", "last", "[I", true)
  | 10 => ("FrameRound$Flow", "left", "[I", true)
  | 11 => ("FrameRound$Flow", "slack", "[I", true)
  | _ => ("FrameRound$Flow", "units", "[[I", true)
def tyX1 : Nat → FieldType := fun k => match k with
  | 0 => .int
  | 1 => .int
  | 2 => .int
  | 3 => .int
  | 4 => .array .int
  | 5 => .array .int
  | 6 => .array .int
  | 7 => .array .int
  | 8 => .array .int
  | 9 => .array .int
  | 10 => .array .int
  | 11 => .array .int
  | _ => .array (.array .int)
def RX2 : String := "FrameRound$Mode"
def TX2 : u_T := fun k => match k with
  | 0 => ("FrameRound$Mode", "frame", "I", false)
  | 1 => ("FrameRound$Mode", "reserve", "I", false)
  | 2 => ("FrameRound$Mode", "tasks", "I", false)
  | 3 => ("FrameRound$Mode", "jobs", "I", false)
  | 4 => ("FrameRound$Mode", "common", "I", false)
  | 5 => ("FrameRound$Mode", "phase", "[I", true)
  | 6 => ("FrameRound$Mode", "period", "[I", true)
  | 7 => ("FrameRound$Mode", "cost", "[I", true)
  | 8 => ("FrameRound$Mode", "span", "[I", true)
  | 9 => ("FrameRound$Mode", "jobTask", "[I", true)
  | _ => ("FrameRound$Mode", "jobRelease", "[I", true)
def tyX2 : Nat → FieldType := fun k => match k with
  | 0 => .int
  | 1 => .int
  | 2 => .int
  | 3 => .int
  | 4 => .int
  | 5 => .array .int
  | 6 => .array .int
  | 7 => .array .int
  | 8 => .array .int
  | 9 => .array .int
  | _ => .array .int
def RX3 : String := "FrameRound$Plan"
def TX3 : u_T := fun k => match k with
  | 0 => ("FrameRound$Plan", "modes", "I", false)
  | _ => ("FrameRound$Plan", "mode", "[LFrameRound$Mode;", true)
def tyX3 : Nat → FieldType := fun k => match k with
  | 0 => .int
  | _ => .array (.object "FrameRound$Mode")
def RX4 : String := "FrameRound$Reader"
def TX4 : u_T := fun k => match k with
  | 0 => ("FrameRound$Reader", "tape", "[B", true)
  | 1 => ("FrameRound$Reader", "bytes", "I", false)
  | 2 => ("FrameRound$Reader", "length", "I", false)
  | 3 => ("FrameRound$Reader", "at", "I", false)
  | 4 => ("FrameRound$Reader", "kind", "I", false)
  | 5 => ("FrameRound$Reader", "start", "I", false)
  | 6 => ("FrameRound$Reader", "number", "I", false)
  | 7 => ("FrameRound$Reader", "fault", "I", false)
  | 8 => ("FrameRound$Reader", "place", "I", false)
  | _ => ("FrameRound$Reader", "draft", "LFrameRound$Plan;", false)
def tyX4 : Nat → FieldType := fun k => match k with
  | 0 => .array .byte
  | 1 => .int
  | 2 => .int
  | 3 => .int
  | 4 => .int
  | 5 => .int
  | 6 => .int
  | 7 => .int
  | 8 => .int
  | _ => .object "FrameRound$Plan"
def RX5 : String := "FrameRound$Supply"
def TX5 : u_T := fun k => match k with
  | 0 => ("FrameRound$Supply", "own", "[I", true)
  | 1 => ("FrameRound$Supply", "other", "[I", true)
  | _ => ("FrameRound$Supply", "switchAfter", "I", false)
def tyX5 : Nat → FieldType := fun k => match k with
  | 0 => .array .int
  | 1 => .array .int
  | _ => .int
def RX6 : String := "FrameRound$Table"
def TX6 : u_T := fun k => match k with
  | 0 => ("FrameRound$Table", "flow", "LFrameRound$Flow;", true)
  | 1 => ("FrameRound$Table", "isMade", "Z", false)
  | 2 => ("FrameRound$Table", "pieces", "I", false)
  | _ => ("FrameRound$Table", "swaps", "I", false)
def tyX6 : Nat → FieldType := fun k => match k with
  | 0 => .object "FrameRound$Flow"
  | 1 => .boolean
  | 2 => .int
  | _ => .int
def RX8 : String := "FrameRound"
def TX8 : u_T := fun k => match k with
  | 0 => ("FrameRound", "reader", "LFrameRound$Reader;", true)
  | 1 => ("FrameRound", "plan", "LFrameRound$Plan;", false)
  | 2 => ("FrameRound", "tables", "[LFrameRound$Table;", true)
  | 3 => ("FrameRound", "trial", "LFrameRound$Table;", true)
  | 4 => ("FrameRound", "supply", "LFrameRound$Supply;", true)
  | 5 => ("FrameRound", "clock", "LFrameRound$Clock;", true)
  | 6 => ("FrameRound", "kept", "LFrameRound$Clock;", true)
  | 7 => ("FrameRound", "isKept", "Z", false)
  | 8 => ("FrameRound", "trouble", "I", false)
  | 9 => ("FrameRound", "fault", "I", false)
  | _ => ("FrameRound", "place", "I", false)
def tyX8 : Nat → FieldType := fun k => match k with
  | 0 => .object "FrameRound$Reader"
  | 1 => .object "FrameRound$Plan"
  | 2 => .array (.object "FrameRound$Table")
  | 3 => .object "FrameRound$Table"
  | 4 => .object "FrameRound$Supply"
  | 5 => .object "FrameRound$Clock"
  | 6 => .object "FrameRound$Clock"
  | 7 => .boolean
  | 8 => .int
  | 9 => .int
  | _ => .int
def RX9 : String := "FrameRoundModel"
def TX9 : u_T := fun k => match k with
  | 0 => ("FrameRoundModel", "thrown", "I", false)
  | 1 => ("FrameRoundModel", "trouble", "I", false)
  | 2 => ("FrameRoundModel", "fault", "I", false)
  | 3 => ("FrameRoundModel", "where", "I", false)
  | 4 => ("FrameRoundModel", "tape", "[I", true)
  | 5 => ("FrameRoundModel", "taped", "I", false)
  | 6 => ("FrameRoundModel", "modeMany", "I", false)
  | 7 => ("FrameRoundModel", "readMany", "I", false)
  | 8 => ("FrameRoundModel", "frame", "[I", true)
  | 9 => ("FrameRoundModel", "reserve", "[I", true)
  | 10 => ("FrameRoundModel", "taskMany", "[I", true)
  | 11 => ("FrameRoundModel", "round", "[I", true)
  | 12 => ("FrameRoundModel", "phase", "[I", true)
  | 13 => ("FrameRoundModel", "period", "[I", true)
  | 14 => ("FrameRoundModel", "cost", "[I", true)
  | 15 => ("FrameRoundModel", "span", "[I", true)
  | 16 => ("FrameRoundModel", "textLong", "I", false)
  | 17 => ("FrameRoundModel", "at", "I", false)
  | 18 => ("FrameRoundModel", "spot", "I", false)
  | 19 => ("FrameRoundModel", "token", "I", false)
  | 20 => ("FrameRoundModel", "whole", "I", false)
  | 21 => ("FrameRoundModel", "readFault", "I", false)
  | 22 => ("FrameRoundModel", "readPlace", "I", false)
  | 23 => ("FrameRoundModel", "jobMany", "[I", true)
  | 24 => ("FrameRoundModel", "jobTask", "[I", true)
  | 25 => ("FrameRoundModel", "jobAt", "[I", true)
  | 26 => ("FrameRoundModel", "frames", "I", false)
  | 27 => ("FrameRoundModel", "roomEach", "I", false)
  | 28 => ("FrameRoundModel", "asksMany", "I", false)
  | 29 => ("FrameRoundModel", "first", "[I", true)
  | 30 => ("FrameRoundModel", "last", "[I", true)
  | 31 => ("FrameRoundModel", "asks", "[I", true)
  | 32 => ("FrameRoundModel", "overUpTo", "[I", true)
  | 33 => ("FrameRoundModel", "units", "[I", true)
  | 34 => ("FrameRoundModel", "left", "[I", true)
  | 35 => ("FrameRoundModel", "tidied", "I", false)
  | 36 => ("FrameRoundModel", "wants", "[I", true)
  | 37 => ("FrameRoundModel", "known", "[I", true)
  | 38 => ("FrameRoundModel", "table", "[I", true)
  | 39 => ("FrameRoundModel", "tidiedOf", "[I", true)
  | 40 => ("FrameRoundModel", "slacks", "[I", true)
  | 41 => ("FrameRoundModel", "clock", "[I", true)
  | 42 => ("FrameRoundModel", "kept", "[I", true)
  | 43 => ("FrameRoundModel", "isKept", "Z", false)
  | 44 => ("FrameRoundModel", "seenTime", "I", false)
  | 45 => ("FrameRoundModel", "seenMode", "I", false)
  | 46 => ("FrameRoundModel", "seenFrame", "I", false)
  | 47 => ("FrameRoundModel", "turnTo", "I", false)
  | _ => ("FrameRoundModel", "turnAt", "I", false)
def tyX9 : Nat → FieldType := fun k => match k with
  | 0 => .int
  | 1 => .int
  | 2 => .int
  | 3 => .int
  | 4 => .array .int
  | 5 => .int
  | 6 => .int
  | 7 => .int
  | 8 => .array .int
  | 9 => .array .int
  | 10 => .array .int
  | 11 => .array .int
  | 12 => .array .int
  | 13 => .array .int
  | 14 => .array .int
  | 15 => .array .int
  | 16 => .int
  | 17 => .int
  | 18 => .int
  | 19 => .int
  | 20 => .int
  | 21 => .int
  | 22 => .int
  | 23 => .array .int
  | 24 => .array .int
  | 25 => .array .int
  | 26 => .int
  | 27 => .int
  | 28 => .int
  | 29 => .array .int
  | 30 => .array .int
  | 31 => .array .int
  | 32 => .array .int
  | 33 => .array .int
  | 34 => .array .int
  | 35 => .int
  | 36 => .array .int
  | 37 => .array .int
  | 38 => .array .int
  | 39 => .array .int
  | 40 => .array .int
  | 41 => .array .int
  | 42 => .array .int
  | 43 => .boolean
  | 44 => .int
  | 45 => .int
  | 46 => .int
  | 47 => .int
  | _ => .int
abbrev jm_cl : List vw_C := [(RX0, TX0, 12), (RX1, TX1, 13), (RX2, TX2, 11), (RX3, TX3, 2), (RX4, TX4, 10), (RX5, TX5, 3), (RX6, TX6, 4), (RX8, TX8, 11), (RX9, TX9, 49)]
def jm_nf : Nat → Nat := fun K => ([12, 13, 11, 2, 10, 3, 4, 11, 49] : List Nat).getD K 0
/-- how many things of a kind there are: objects 0 to 8, arrays 10 to 58, texts 60 -/
def jm_cnt : Nat → Nat := fun K => ([2, 4, 6, 2, 1, 1, 4, 1, 1, 0, 2, 2, 4, 4, 4, 4, 4, 4, 4, 4, 4, 96, 6, 6, 6, 6, 6, 6, 2, 1, 1, 1, 1, 1, 1, 1, 1, 1, 1, 1, 1, 1, 1, 1, 1, 1, 1, 1, 1, 1, 1, 1, 1, 1, 1, 1, 1, 1, 1, 0, 8, 8, 1] : List Nat).getD K 0
def jm_ln : Nat → Nat := fun K => ([0, 0, 0, 0, 0, 0, 0, 0, 0, 0, 8, 8, 24, 24, 24, 24, 24, 24, 24, 24, 24, 24, 6, 6, 6, 6, 24, 24, 3, 700, 401, 401, 3, 700, 6, 6, 6, 6, 36, 36, 36, 36, 3, 72, 72, 24, 24, 24, 25, 576, 24, 576, 3, 1728, 3, 72, 28, 28, 1] : List Nat).getD K 0
/-- what an array holds: 0 ints, 1 bytes, 2 longs, 3 references to things of a kind, so many to an array -/
def jm_el : Nat → Nat × Nat × Nat := fun K => ([(9, 0, 0), (9, 0, 0), (9, 0, 0), (9, 0, 0), (9, 0, 0), (9, 0, 0), (9, 0, 0), (9, 0, 0), (9, 0, 0), (9, 0, 0), (0, 0, 0), (0, 0, 0), (0, 0, 0), (0, 0, 0), (0, 0, 0), (0, 0, 0), (0, 0, 0), (0, 0, 0), (0, 0, 0), (0, 0, 0), (3, 21, 24), (0, 0, 0), (0, 0, 0), (0, 0, 0), (0, 0, 0), (0, 0, 0), (0, 0, 0), (0, 0, 0), (3, 2, 3), (1, 0, 0), (0, 0, 0), (0, 0, 0), (3, 6, 3), (0, 0, 0), (0, 0, 0), (0, 0, 0), (0, 0, 0), (0, 0, 0), (0, 0, 0), (0, 0, 0), (0, 0, 0), (0, 0, 0), (0, 0, 0), (0, 0, 0), (0, 0, 0), (0, 0, 0), (0, 0, 0), (0, 0, 0), (0, 0, 0), (0, 0, 0), (0, 0, 0), (0, 0, 0), (0, 0, 0), (0, 0, 0), (0, 0, 0), (0, 0, 0), (0, 0, 0), (0, 0, 0), (2, 0, 0)] : List (Nat × Nat × Nat)).getD K (9, 0, 0)
def jm_ety : Nat → FieldType := fun K => ([.int, .int, .int, .int, .int, .int, .int, .int, .int, .int, .int, .int, .int, .int, .int, .int, .int, .int, .int, .int, .array .int, .int, .int, .int, .int, .int, .int, .int, .object "FrameRound$Mode", .byte, .int, .int, .object "FrameRound$Table", .int, .int, .int, .int, .int, .int, .int, .int, .int, .int, .int, .int, .int, .int, .int, .int, .int, .int, .int, .int, .int, .int, .int, .int, .int, .long] : List FieldType).getD K .int
/-- a field: 0 an int; 1 a reference that stays, to which thing of the kind; 2 one that changes -/
def jm_ft : Nat → Nat → Nat × Nat × (Nat → Nat) := fun K j => (([[(0, 0, fun i => i), (0, 0, fun i => i), (0, 0, fun i => i), (0, 0, fun i => i), (0, 0, fun i => i), (0, 0, fun i => i), (0, 0, fun i => i), (0, 0, fun i => i), (0, 0, fun i => i), (0, 0, fun i => i), (1, 10, fun i => i), (1, 11, fun i => i)], [(0, 0, fun i => i), (0, 0, fun i => i), (0, 0, fun i => i), (0, 0, fun i => i), (1, 12, fun i => i), (1, 13, fun i => i), (1, 14, fun i => i), (1, 15, fun i => i), (1, 16, fun i => i), (1, 17, fun i => i), (1, 18, fun i => i), (1, 19, fun i => i), (1, 20, fun i => i)], [(0, 0, fun i => i), (0, 0, fun i => i), (0, 0, fun i => i), (0, 0, fun i => i), (0, 0, fun i => i), (1, 22, fun i => i), (1, 23, fun i => i), (1, 24, fun i => i), (1, 25, fun i => i), (1, 26, fun i => i), (1, 27, fun i => i)], [(0, 0, fun i => i), (1, 28, fun i => i)], [(1, 29, fun i => i), (0, 0, fun i => i), (0, 0, fun i => i), (0, 0, fun i => i), (0, 0, fun i => i), (0, 0, fun i => i), (0, 0, fun i => i), (0, 0, fun i => i), (0, 0, fun i => i), (2, 3, fun i => i)], [(1, 30, fun i => i), (1, 31, fun i => i), (0, 0, fun i => i)], [(1, 1, fun i => i), (0, 0, fun i => i), (0, 0, fun i => i), (0, 0, fun i => i)], [(1, 4, fun _ => 0), (2, 3, fun i => i), (1, 32, fun i => i), (1, 6, fun _ => 3), (1, 5, fun _ => 0), (1, 0, fun _ => 0), (1, 0, fun _ => 1), (0, 0, fun i => i), (0, 0, fun i => i), (0, 0, fun i => i), (0, 0, fun i => i)], [(0, 0, fun i => i), (0, 0, fun i => i), (0, 0, fun i => i), (0, 0, fun i => i), (1, 33, fun i => i), (0, 0, fun i => i), (0, 0, fun i => i), (0, 0, fun i => i), (1, 34, fun i => i), (1, 35, fun i => i), (1, 36, fun i => i), (1, 37, fun i => i), (1, 38, fun i => i), (1, 39, fun i => i), (1, 40, fun i => i), (1, 41, fun i => i), (0, 0, fun i => i), (0, 0, fun i => i), (0, 0, fun i => i), (0, 0, fun i => i), (0, 0, fun i => i), (0, 0, fun i => i), (0, 0, fun i => i), (1, 42, fun i => i), (1, 43, fun i => i), (1, 44, fun i => i), (0, 0, fun i => i), (0, 0, fun i => i), (0, 0, fun i => i), (1, 45, fun i => i), (1, 46, fun i => i), (1, 47, fun i => i), (1, 48, fun i => i), (1, 49, fun i => i), (1, 50, fun i => i), (0, 0, fun i => i), (1, 51, fun i => i), (1, 52, fun i => i), (1, 53, fun i => i), (1, 54, fun i => i), (1, 55, fun i => i), (1, 56, fun i => i), (1, 57, fun i => i), (0, 0, fun i => i), (0, 0, fun i => i), (0, 0, fun i => i), (0, 0, fun i => i), (0, 0, fun i => i), (0, 0, fun i => i)]] : List (List (Nat × Nat × (Nat → Nat)))).getD K []).getD j (9, 0, fun i => i)
