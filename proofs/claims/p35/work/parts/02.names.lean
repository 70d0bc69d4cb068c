def RX0 : String := "ProxyVotes$Committee"
def TX0 : u_T := fun k => match k with
  | 0 => ("ProxyVotes$Committee", "minute", "I", false)
  | 1 => ("ProxyVotes$Committee", "memberCount", "I", false)
  | 2 => ("ProxyVotes$Committee", "itemCount", "I", false)
  | 3 => ("ProxyVotes$Committee", "present", "I", false)
  | 4 => ("ProxyVotes$Committee", "chairNamed", "I", false)
  | 5 => ("ProxyVotes$Committee", "settings", "[I", true)
  | 6 => ("ProxyVotes$Committee", "weights", "[I", true)
  | 7 => ("ProxyVotes$Committee", "groups", "[I", true)
  | 8 => ("ProxyVotes$Committee", "holders", "[I", true)
  | 9 => ("ProxyVotes$Committee", "items", "[LProxyVotes$Item;", true)
  | _ => ("ProxyVotes$Committee", "movements", "LProxyVotes$Movements;", true)
def tyX0 : Nat → FieldType := fun k => match k with
  | 0 => .int
  | 1 => .int
  | 2 => .int
  | 3 => .int
  | 4 => .int
  | 5 => .array .int
  | 6 => .array .int
  | 7 => .array .int
  | 8 => .array .int
  | 9 => .array (.object "ProxyVotes$Item")
  | _ => .object "ProxyVotes$Movements"
theorem nmX0 : ∀ a, a < 11 → ∀ b, b < 11 → a ≠ b → (TX0 a).2.1 ≠ (TX0 b).2.1 := by decide +kernel
theorem tyX0_ok : ∀ k, k < 11 → parseFieldDescriptor (TX0 k).2.2.1 = some (tyX0 k) := by decide +kernel
def RX1 : String := "ProxyVotes$Hearing"
def TX1 : u_T := fun k => match k with
  | 0 => ("ProxyVotes$Hearing", "speakers", "[I", true)
  | 1 => ("ProxyVotes$Hearing", "loads", "[I", true)
  | _ => ("ProxyVotes$Hearing", "sums", "[I", true)
def tyX1 : Nat → FieldType := fun k => match k with
  | 0 => .array .int
  | 1 => .array .int
  | _ => .array .int
theorem nmX1 : ∀ a, a < 3 → ∀ b, b < 3 → a ≠ b → (TX1 a).2.1 ≠ (TX1 b).2.1 := by decide +kernel
theorem tyX1_ok : ∀ k, k < 3 → parseFieldDescriptor (TX1 k).2.2.1 = some (tyX1 k) := by decide +kernel
def RX2 : String := "ProxyVotes$History"
def TX2 : u_T := fun k => match k with
  | 0 => ("ProxyVotes$History", "states", "[LProxyVotes$Committee;", true)
  | 1 => ("ProxyVotes$History", "spare", "I", false)
  | _ => ("ProxyVotes$History", "kept", "I", false)
def tyX2 : Nat → FieldType := fun k => match k with
  | 0 => .array (.object "ProxyVotes$Committee")
  | 1 => .int
  | _ => .int
theorem nmX2 : ∀ a, a < 3 → ∀ b, b < 3 → a ≠ b → (TX2 a).2.1 ≠ (TX2 b).2.1 := by decide +kernel
theorem tyX2_ok : ∀ k, k < 3 → parseFieldDescriptor (TX2 k).2.2.1 = some (tyX2 k) := by decide +kernel
def RX3 : String := "ProxyVotes$Item"
def TX3 : u_T := fun k => match k with
  | 0 => ("ProxyVotes$Item", "kind", "I", false)
  | 1 => ("ProxyVotes$Item", "touched", "I", false)
  | 2 => ("ProxyVotes$Item", "state", "I", false)
  | 3 => ("ProxyVotes$Item", "recusedByHand", "I", false)
  | 4 => ("ProxyVotes$Item", "breaker", "I", false)
  | 5 => ("ProxyVotes$Item", "timesPutOff", "I", false)
  | 6 => ("ProxyVotes$Item", "sums", "[I", true)
  | 7 => ("ProxyVotes$Item", "votes", "[I", true)
  | 8 => ("ProxyVotes$Item", "told", "[I", true)
  | _ => ("ProxyVotes$Item", "holders", "[I", true)
def tyX3 : Nat → FieldType := fun k => match k with
  | 0 => .int
  | 1 => .int
  | 2 => .int
  | 3 => .int
  | 4 => .int
  | 5 => .int
  | 6 => .array .int
  | 7 => .array .int
  | 8 => .array .int
  | _ => .array .int
theorem nmX3 : ∀ a, a < 10 → ∀ b, b < 10 → a ≠ b → (TX3 a).2.1 ≠ (TX3 b).2.1 := by decide +kernel
theorem tyX3_ok : ∀ k, k < 10 → parseFieldDescriptor (TX3 k).2.2.1 = some (tyX3 k) := by decide +kernel
def RX4 : String := "ProxyVotes$Movements"
def TX4 : u_T := fun k => match k with
  | 0 => ("ProxyVotes$Movements", "number", "I", false)
  | 1 => ("ProxyVotes$Movements", "minutes", "[I", true)
  | 2 => ("ProxyVotes$Movements", "movers", "[I", true)
  | _ => ("ProxyVotes$Movements", "comings", "[I", true)
def tyX4 : Nat → FieldType := fun k => match k with
  | 0 => .int
  | 1 => .array .int
  | 2 => .array .int
  | _ => .array .int
theorem nmX4 : ∀ a, a < 4 → ∀ b, b < 4 → a ≠ b → (TX4 a).2.1 ≠ (TX4 b).2.1 := by decide +kernel
theorem tyX4_ok : ∀ k, k < 4 → parseFieldDescriptor (TX4 k).2.2.1 = some (tyX4 k) := by decide +kernel
def RX5 : String := "ProxyVotes$Pad"
def TX5 : u_T := fun k => match k with
  | 0 => ("ProxyVotes$Pad", "text", "[C", true)
  | 1 => ("ProxyVotes$Pad", "length", "I", false)
  | 2 => ("ProxyVotes$Pad", "place", "I", false)
  | 3 => ("ProxyVotes$Pad", "orders", "I", false)
  | 4 => ("ProxyVotes$Pad", "signs", "[C", true)
  | 5 => ("ProxyVotes$Pad", "members", "[I", true)
  | _ => ("ProxyVotes$Pad", "numbers", "[I", true)
def tyX5 : Nat → FieldType := fun k => match k with
  | 0 => .array .char
  | 1 => .int
  | 2 => .int
  | 3 => .int
  | 4 => .array .char
  | 5 => .array .int
  | _ => .array .int
theorem nmX5 : ∀ a, a < 7 → ∀ b, b < 7 → a ≠ b → (TX5 a).2.1 ≠ (TX5 b).2.1 := by decide +kernel
theorem tyX5_ok : ∀ k, k < 7 → parseFieldDescriptor (TX5 k).2.2.1 = some (tyX5 k) := by decide +kernel
def RX6 : String := "ProxyVotes"
def TX6 : u_T := fun k => match k with
  | 0 => ("ProxyVotes", "now", "LProxyVotes$Committee;", true)
  | 1 => ("ProxyVotes", "trial", "LProxyVotes$Committee;", true)
  | 2 => ("ProxyVotes", "hearing", "LProxyVotes$Hearing;", true)
  | 3 => ("ProxyVotes", "history", "LProxyVotes$History;", true)
  | 4 => ("ProxyVotes", "pad", "LProxyVotes$Pad;", true)
  | 5 => ("ProxyVotes", "slots", "[LProxyVotes$Committee;", true)
  | 6 => ("ProxyVotes", "saved", "[Z", true)
  | 7 => ("ProxyVotes", "gains", "[I", true)
  | _ => ("ProxyVotes", "setsOfWeight", "[I", true)
def tyX6 : Nat → FieldType := fun k => match k with
  | 0 => .object "ProxyVotes$Committee"
  | 1 => .object "ProxyVotes$Committee"
  | 2 => .object "ProxyVotes$Hearing"
  | 3 => .object "ProxyVotes$History"
  | 4 => .object "ProxyVotes$Pad"
  | 5 => .array (.object "ProxyVotes$Committee")
  | 6 => .array .boolean
  | 7 => .array .int
  | _ => .array .int
theorem nmX6 : ∀ a, a < 9 → ∀ b, b < 9 → a ≠ b → (TX6 a).2.1 ≠ (TX6 b).2.1 := by decide +kernel
theorem tyX6_ok : ∀ k, k < 9 → parseFieldDescriptor (TX6 k).2.2.1 = some (tyX6 k) := by decide +kernel
def RX7 : String := "ProxyVotesModel"
def TX7 : u_T := fun k => match k with
  | _ => ("", "", "", false)
def tyX7 : Nat → FieldType := fun k => match k with
  | _ => .int
theorem nmX7 : ∀ a, a < 0 → ∀ b, b < 0 → a ≠ b → (TX7 a).2.1 ≠ (TX7 b).2.1 := by decide +kernel
theorem tyX7_ok : ∀ k, k < 0 → parseFieldDescriptor (TX7 k).2.2.1 = some (tyX7 k) := by decide +kernel
