/-! THE START: what the first memory holds -/
def sInts : List (Nat × Nat × Int32) := [(3, 0, 0), (3, 1, 0), (6, 1, 0), (9, 1, 0), (492, 1, 0), (492, 2, 0), (492, 3, -1), (492, 4, -1), (33, 0, 0), (38, 0, 0), (38, 1, 0), (492, 36, 0), (240, 0, 0), (492, 49, 0), (0, 10, 0), (492, 54, 0), (0, 1, 0), (492, 8, 0), (492, 41, -1), (492, 45, 0)] ++ ((List.range 6).flatMap fun d => [(4, d, 0), (35, d, -1), (36, d, -1), (37, d, 0)]) ++ ((List.range 3).flatMap fun d => [(2, d, 0), (496, d, 0)]) ++ ((List.range 48).map fun d => (34, d, 0)) ++ ((List.range 79).map fun d => (502, d, 0))
def chkS : Bool := match fpre mem0 with
  | none => false
  | some q => sInts.all (fun e => q.2.2.2.2.1 e.1 e.2.1 == e.2.2) && q.2.2.2.2.1 0 2 == q.2.2.2.2.1 492 10 && q.2.2.2.2.2.1 3 2 == 0 && q.2.2.2.2.2.1 33 1 == 0 && q.2.2.2.2.2.1 33 2 == 0
theorem chkS_ok : chkS = true := by decide +kernel
