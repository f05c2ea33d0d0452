/-! ===== BEGIN printed: names, fields, word lists, decode rows ===== -/
def RX0 : String := "MailSessions$1"
def TX0 : u_T := fun k => match k with
  | _ => ("", "", "", false)
def tyX0 : Nat → FieldType := fun k => match k with
  | _ => .int
abbrev wsX00 : List Cond := u_ws RX0 TX0 0
theorem nmX0 : ∀ a, a < 0 → ∀ b, b < 0 → a ≠ b → (TX0 a).2.1 ≠ (TX0 b).2.1 := by decide +kernel
theorem tyX0_ok : ∀ k, k < 0 → parseFieldDescriptor (TX0 k).2.2.1 = some (tyX0 k) := by decide +kernel
def RX1 : String := "MailSessions$Command"
def TX1 : u_T := fun k => match k with
  | 0 => ("MailSessions$Command", "tag", "Ljava/lang/String;", false)
  | 1 => ("MailSessions$Command", "verb", "LMailSessions$Verb;", false)
  | 2 => ("MailSessions$Command", "uid", "Z", false)
  | 3 => ("MailSessions$Command", "mailbox", "I", false)
  | 4 => ("MailSessions$Command", "flags", "I", false)
  | 5 => ("MailSessions$Command", "text", "Ljava/lang/String;", false)
  | 6 => ("MailSessions$Command", "change", "I", false)
  | 7 => ("MailSessions$Command", "item", "I", false)
  | 8 => ("MailSessions$Command", "places", "J", false)
  | _ => ("MailSessions$Command", "wrong", "Z", false)
def tyX1 : Nat → FieldType := fun k => match k with
  | 0 => .object "java/lang/String"
  | 1 => .object "MailSessions$Verb"
  | 2 => .boolean
  | 3 => .int
  | 4 => .int
  | 5 => .object "java/lang/String"
  | 6 => .int
  | 7 => .int
  | 8 => .long
  | _ => .boolean
abbrev wsX10 : List Cond := u_ws RX1 TX1 10
theorem nmX1 : ∀ a, a < 10 → ∀ b, b < 10 → a ≠ b → (TX1 a).2.1 ≠ (TX1 b).2.1 := by decide +kernel
theorem tyX1_ok : ∀ k, k < 10 → parseFieldDescriptor (TX1 k).2.2.1 = some (tyX1 k) := by decide +kernel
abbrev cX1_init : ByteArray := prog_3_method_1_code
def yX1_init : MethodName := ⟨RX1, "<init>", "()V"⟩
def RX2 : String := "MailSessions$Mailbox"
def TX2 : u_T := fun k => match k with
  | 0 => ("MailSessions$Mailbox", "row", "[LMailSessions$Message;", true)
  | 1 => ("MailSessions$Mailbox", "there", "Z", false)
  | 2 => ("MailSessions$Mailbox", "validity", "I", false)
  | 3 => ("MailSessions$Mailbox", "next", "I", false)
  | _ => ("MailSessions$Mailbox", "count", "I", false)
def tyX2 : Nat → FieldType := fun k => match k with
  | 0 => .array (.object "MailSessions$Message")
  | 1 => .boolean
  | 2 => .int
  | 3 => .int
  | _ => .int
abbrev wsX20 : List Cond := u_ws RX2 TX2 5
theorem nmX2 : ∀ a, a < 5 → ∀ b, b < 5 → a ≠ b → (TX2 a).2.1 ≠ (TX2 b).2.1 := by decide +kernel
theorem tyX2_ok : ∀ k, k < 5 → parseFieldDescriptor (TX2 k).2.2.1 = some (tyX2 k) := by decide +kernel
abbrev cX2_init : ByteArray := prog_4_method_1_code
def yX2_init : MethodName := ⟨RX2, "<init>", "()V"⟩
abbrev cX2_create : ByteArray := prog_4_method_2_code
def yX2_create : MethodName := ⟨RX2, "create", "(I)V"⟩
abbrev cX2_add : ByteArray := prog_4_method_3_code
def yX2_add : MethodName := ⟨RX2, "add", "(ILjava/lang/String;)V"⟩
abbrev cX2_expunge : ByteArray := prog_4_method_4_code
def yX2_expunge : MethodName := ⟨RX2, "expunge", "()V"⟩
def RX3 : String := "MailSessions$Message"
def TX3 : u_T := fun k => match k with
  | 0 => ("MailSessions$Message", "number", "I", true)
  | 1 => ("MailSessions$Message", "text", "Ljava/lang/String;", true)
  | 2 => ("MailSessions$Message", "flags", "I", false)
  | _ => ("MailSessions$Message", "gone", "Z", false)
def tyX3 : Nat → FieldType := fun k => match k with
  | 0 => .int
  | 1 => .object "java/lang/String"
  | 2 => .int
  | _ => .boolean
abbrev wsX30 : List Cond := u_ws RX3 TX3 4
theorem nmX3 : ∀ a, a < 4 → ∀ b, b < 4 → a ≠ b → (TX3 a).2.1 ≠ (TX3 b).2.1 := by decide +kernel
theorem tyX3_ok : ∀ k, k < 4 → parseFieldDescriptor (TX3 k).2.2.1 = some (tyX3 k) := by decide +kernel
abbrev cX3_init : ByteArray := prog_5_method_1_code
def yX3_init : MethodName := ⟨RX3, "<init>", "(IILjava/lang/String;)V"⟩
def RX4 : String := "MailSessions$Reader"
def TX4 : u_T := fun k => match k with
  | 0 => ("MailSessions$Reader", "line", "[C", true)
  | 1 => ("MailSessions$Reader", "length", "I", true)
  | 2 => ("MailSessions$Reader", "view", "LMailSessions$View;", true)
  | 3 => ("MailSessions$Reader", "at", "I", false)
  | 4 => ("MailSessions$Reader", "bad", "Z", false)
  | _ => ("MailSessions$Reader", "wrong", "Z", false)
def tyX4 : Nat → FieldType := fun k => match k with
  | 0 => .array .char
  | 1 => .int
  | 2 => .object "MailSessions$View"
  | 3 => .int
  | 4 => .boolean
  | _ => .boolean
abbrev wsX40 : List Cond := u_ws RX4 TX4 6
theorem nmX4 : ∀ a, a < 6 → ∀ b, b < 6 → a ≠ b → (TX4 a).2.1 ≠ (TX4 b).2.1 := by decide +kernel
theorem tyX4_ok : ∀ k, k < 6 → parseFieldDescriptor (TX4 k).2.2.1 = some (tyX4 k) := by decide +kernel
abbrev cX4_init : ByteArray := prog_6_method_1_code
def yX4_init : MethodName := ⟨RX4, "<init>", "([CILMailSessions$View;)V"⟩
abbrev cX4_readCommand : ByteArray := prog_6_method_2_code
def yX4_readCommand : MethodName := ⟨RX4, "readCommand", "()LMailSessions$Command;"⟩
abbrev cX4_readVerb : ByteArray := prog_6_method_3_code
def yX4_readVerb : MethodName := ⟨RX4, "readVerb", "()LMailSessions$Verb;"⟩
abbrev cX4_readRest : ByteArray := prog_6_method_4_code
def yX4_readRest : MethodName := ⟨RX4, "readRest", "(LMailSessions$Command;)V"⟩
abbrev cX4_readMailbox : ByteArray := prog_6_method_5_code
def yX4_readMailbox : MethodName := ⟨RX4, "readMailbox", "()I"⟩
abbrev cX4_readChange : ByteArray := prog_6_method_6_code
def yX4_readChange : MethodName := ⟨RX4, "readChange", "()I"⟩
abbrev cX4_readItem : ByteArray := prog_6_method_7_code
def yX4_readItem : MethodName := ⟨RX4, "readItem", "()I"⟩
abbrev cX4_readFlags : ByteArray := prog_6_method_8_code
def yX4_readFlags : MethodName := ⟨RX4, "readFlags", "()I"⟩
abbrev cX4_readFlag : ByteArray := prog_6_method_9_code
def yX4_readFlag : MethodName := ⟨RX4, "readFlag", "()I"⟩
abbrev cX4_readLetters : ByteArray := prog_6_method_10_code
def yX4_readLetters : MethodName := ⟨RX4, "readLetters", "(IZ)Ljava/lang/String;"⟩
abbrev cX4_isLetter : ByteArray := prog_6_method_11_code
def yX4_isLetter : MethodName := ⟨RX4, "isLetter", "(IZ)Z"⟩
abbrev cX4_readSearch : ByteArray := prog_6_method_12_code
def yX4_readSearch : MethodName := ⟨RX4, "readSearch", "(I)J"⟩
abbrev cX4_readKey : ByteArray := prog_6_method_13_code
def yX4_readKey : MethodName := ⟨RX4, "readKey", "(I)J"⟩
abbrev cX4_readSet : ByteArray := prog_6_method_14_code
def yX4_readSet : MethodName := ⟨RX4, "readSet", "(Z)J"⟩
abbrev cX4_readPoint : ByteArray := prog_6_method_15_code
def yX4_readPoint : MethodName := ⟨RX4, "readPoint", "(Z)I"⟩
abbrev cX4_sign : ByteArray := prog_6_method_16_code
def yX4_sign : MethodName := ⟨RX4, "sign", "()C"⟩
abbrev cX4_takeSign : ByteArray := prog_6_method_17_code
def yX4_takeSign : MethodName := ⟨RX4, "takeSign", "(C)Z"⟩
abbrev cX4_need : ByteArray := prog_6_method_18_code
def yX4_need : MethodName := ⟨RX4, "need", "(C)V"⟩
abbrev cX4_takeWord : ByteArray := prog_6_method_19_code
def yX4_takeWord : MethodName := ⟨RX4, "takeWord", "(Ljava/lang/String;)Z"⟩
def RX5 : String := "MailSessions$Reply"
def TX5 : u_T := fun k => match k with
  | 0 => ("MailSessions$Reply", "signs", "[C", true)
  | _ => ("MailSessions$Reply", "length", "I", false)
def tyX5 : Nat → FieldType := fun k => match k with
  | 0 => .array .char
  | _ => .int
abbrev wsX50 : List Cond := u_ws RX5 TX5 2
theorem nmX5 : ∀ a, a < 2 → ∀ b, b < 2 → a ≠ b → (TX5 a).2.1 ≠ (TX5 b).2.1 := by decide +kernel
theorem tyX5_ok : ∀ k, k < 2 → parseFieldDescriptor (TX5 k).2.2.1 = some (tyX5 k) := by decide +kernel
abbrev cX5_init : ByteArray := prog_7_method_1_code
def yX5_init : MethodName := ⟨RX5, "<init>", "()V"⟩
abbrev cX5_putSign : ByteArray := prog_7_method_2_code
def yX5_putSign : MethodName := ⟨RX5, "putSign", "(C)V"⟩
abbrev cX5_putText : ByteArray := prog_7_method_3_code
def yX5_putText : MethodName := ⟨RX5, "putText", "(Ljava/lang/String;)V"⟩
abbrev cX5_putNumber : ByteArray := prog_7_method_4_code
def yX5_putNumber : MethodName := ⟨RX5, "putNumber", "(I)V"⟩
abbrev cX5_startLine : ByteArray := prog_7_method_5_code
def yX5_startLine : MethodName := ⟨RX5, "startLine", "(ILjava/lang/String;)V"⟩
abbrev cX5_putLine : ByteArray := prog_7_method_6_code
def yX5_putLine : MethodName := ⟨RX5, "putLine", "(ILjava/lang/String;)V"⟩
abbrev cX5_putFlags : ByteArray := prog_7_method_7_code
def yX5_putFlags : MethodName := ⟨RX5, "putFlags", "(I)V"⟩
def RX6 : String := "MailSessions$Session"
def TX6 : u_T := fun k => match k with
  | 0 => ("MailSessions$Session", "line", "[C", true)
  | 1 => ("MailSessions$Session", "reply", "LMailSessions$Reply;", true)
  | 2 => ("MailSessions$Session", "view", "LMailSessions$View;", true)
  | 3 => ("MailSessions$Session", "connected", "Z", false)
  | 4 => ("MailSessions$Session", "typed", "I", false)
  | 5 => ("MailSessions$Session", "selected", "LMailSessions$Mailbox;", false)
  | _ => ("MailSessions$Session", "writes", "Z", false)
def tyX6 : Nat → FieldType := fun k => match k with
  | 0 => .array .char
  | 1 => .object "MailSessions$Reply"
  | 2 => .object "MailSessions$View"
  | 3 => .boolean
  | 4 => .int
  | 5 => .object "MailSessions$Mailbox"
  | _ => .boolean
abbrev wsX60 : List Cond := u_ws RX6 TX6 7
theorem nmX6 : ∀ a, a < 7 → ∀ b, b < 7 → a ≠ b → (TX6 a).2.1 ≠ (TX6 b).2.1 := by decide +kernel
theorem tyX6_ok : ∀ k, k < 7 → parseFieldDescriptor (TX6 k).2.2.1 = some (tyX6 k) := by decide +kernel
abbrev cX6_init : ByteArray := prog_8_method_1_code
def yX6_init : MethodName := ⟨RX6, "<init>", "()V"⟩
abbrev cX6_select : ByteArray := prog_8_method_2_code
def yX6_select : MethodName := ⟨RX6, "select", "(LMailSessions$Mailbox;Z)V"⟩
abbrev cX6_unselect : ByteArray := prog_8_method_3_code
def yX6_unselect : MethodName := ⟨RX6, "unselect", "()V"⟩
abbrev cX6_expunge : ByteArray := prog_8_method_4_code
def yX6_expunge : MethodName := ⟨RX6, "expunge", "()V"⟩
abbrev cX6_store : ByteArray := prog_8_method_5_code
def yX6_store : MethodName := ⟨RX6, "store", "(LMailSessions$Command;)V"⟩
abbrev cX6_fetch : ByteArray := prog_8_method_6_code
def yX6_fetch : MethodName := ⟨RX6, "fetch", "(LMailSessions$Command;)V"⟩
abbrev cX6_copy : ByteArray := prog_8_method_7_code
def yX6_copy : MethodName := ⟨RX6, "copy", "(JLMailSessions$Mailbox;)V"⟩
abbrev cX6_search : ByteArray := prog_8_method_8_code
def yX6_search : MethodName := ⟨RX6, "search", "(LMailSessions$Command;)V"⟩
abbrev cX6_tellChanges : ByteArray := prog_8_method_9_code
def yX6_tellChanges : MethodName := ⟨RX6, "tellChanges", "(Z)V"⟩
abbrev cX6_tellGone : ByteArray := prog_8_method_10_code
def yX6_tellGone : MethodName := ⟨RX6, "tellGone", "()V"⟩
abbrev cX6_tellFlags : ByteArray := prog_8_method_11_code
def yX6_tellFlags : MethodName := ⟨RX6, "tellFlags", "(I)V"⟩
def RX7 : String := "MailSessions$Verb"
def TX7 : u_T := fun k => match k with
  | _ => ("", "", "", false)
def tyX7 : Nat → FieldType := fun k => match k with
  | _ => .int
abbrev wsX70 : List Cond := u_ws RX7 TX7 0
theorem nmX7 : ∀ a, a < 0 → ∀ b, b < 0 → a ≠ b → (TX7 a).2.1 ≠ (TX7 b).2.1 := by decide +kernel
theorem tyX7_ok : ∀ k, k < 0 → parseFieldDescriptor (TX7 k).2.2.1 = some (tyX7 k) := by decide +kernel
def RX8 : String := "MailSessions$View"
def TX8 : u_T := fun k => match k with
  | 0 => ("MailSessions$View", "row", "[LMailSessions$Message;", true)
  | 1 => ("MailSessions$View", "told", "[I", true)
  | 2 => ("MailSessions$View", "count", "I", false)
  | _ => ("MailSessions$View", "newest", "I", false)
def tyX8 : Nat → FieldType := fun k => match k with
  | 0 => .array (.object "MailSessions$Message")
  | 1 => .array .int
  | 2 => .int
  | _ => .int
abbrev wsX80 : List Cond := u_ws RX8 TX8 4
theorem nmX8 : ∀ a, a < 4 → ∀ b, b < 4 → a ≠ b → (TX8 a).2.1 ≠ (TX8 b).2.1 := by decide +kernel
theorem tyX8_ok : ∀ k, k < 4 → parseFieldDescriptor (TX8 k).2.2.1 = some (tyX8 k) := by decide +kernel
abbrev cX8_init : ByteArray := prog_10_method_1_code
def yX8_init : MethodName := ⟨RX8, "<init>", "()V"⟩
abbrev cX8_empty : ByteArray := prog_10_method_2_code
def yX8_empty : MethodName := ⟨RX8, "empty", "()V"⟩
abbrev cX8_takeNew : ByteArray := prog_10_method_3_code
def yX8_takeNew : MethodName := ⟨RX8, "takeNew", "(LMailSessions$Mailbox;)Z"⟩
abbrev cX8_last : ByteArray := prog_10_method_4_code
def yX8_last : MethodName := ⟨RX8, "last", "(Z)I"⟩
abbrev cX8_present : ByteArray := prog_10_method_5_code
def yX8_present : MethodName := ⟨RX8, "present", "()J"⟩
abbrev cX8_between : ByteArray := prog_10_method_6_code
def yX8_between : MethodName := ⟨RX8, "between", "(IIZ)J"⟩
abbrev cX8_withFlag : ByteArray := prog_10_method_7_code
def yX8_withFlag : MethodName := ⟨RX8, "withFlag", "(I)J"⟩
abbrev cX8_withText : ByteArray := prog_10_method_8_code
def yX8_withText : MethodName := ⟨RX8, "withText", "(Ljava/lang/String;)J"⟩
abbrev cX8_contains : ByteArray := prog_10_method_9_code
def yX8_contains : MethodName := ⟨RX8, "contains", "(Ljava/lang/String;Ljava/lang/String;)Z"⟩
def RX9 : String := "MailSessions"
def TX9 : u_T := fun k => match k with
  | 0 => ("MailSessions", "mailboxes", "[LMailSessions$Mailbox;", true)
  | 1 => ("MailSessions", "sessions", "[LMailSessions$Session;", true)
  | _ => ("MailSessions", "latestValidity", "I", false)
def tyX9 : Nat → FieldType := fun k => match k with
  | 0 => .array (.object "MailSessions$Mailbox")
  | 1 => .array (.object "MailSessions$Session")
  | _ => .int
abbrev wsX90 : List Cond := u_ws RX9 TX9 3
theorem nmX9 : ∀ a, a < 3 → ∀ b, b < 3 → a ≠ b → (TX9 a).2.1 ≠ (TX9 b).2.1 := by decide +kernel
theorem tyX9_ok : ∀ k, k < 3 → parseFieldDescriptor (TX9 k).2.2.1 = some (tyX9 k) := by decide +kernel
abbrev cX9_init : ByteArray := prog_1_method_1_code
def yX9_init : MethodName := ⟨RX9, "<init>", "()V"⟩
abbrev cX9_type : ByteArray := prog_1_method_2_code
def yX9_type : MethodName := ⟨RX9, "type", "(II)Z"⟩
abbrev cX9_enter : ByteArray := prog_1_method_3_code
def yX9_enter : MethodName := ⟨RX9, "enter", "(I)I"⟩
abbrev cX9_connect : ByteArray := prog_1_method_4_code
def yX9_connect : MethodName := ⟨RX9, "connect", "(I)V"⟩
abbrev cX9_replied : ByteArray := prog_1_method_5_code
def yX9_replied : MethodName := ⟨RX9, "replied", "(I)I"⟩
abbrev cX9_reply : ByteArray := prog_1_method_6_code
def yX9_reply : MethodName := ⟨RX9, "reply", "(II)C"⟩
abbrev cX9_view : ByteArray := prog_1_method_7_code
def yX9_view : MethodName := ⟨RX9, "view", "(I)I"⟩
abbrev cX9_messages : ByteArray := prog_1_method_8_code
def yX9_messages : MethodName := ⟨RX9, "messages", "(I)I"⟩
abbrev cX9_message : ByteArray := prog_1_method_9_code
def yX9_message : MethodName := ⟨RX9, "message", "(III)I"⟩
abbrev cX9_anySession : ByteArray := prog_1_method_10_code
def yX9_anySession : MethodName := ⟨RX9, "anySession", "(I)LMailSessions$Session;"⟩
abbrev cX9_connectedSession : ByteArray := prog_1_method_11_code
def yX9_connectedSession : MethodName := ⟨RX9, "connectedSession", "(I)LMailSessions$Session;"⟩
abbrev cX9_isThere : ByteArray := prog_1_method_12_code
def yX9_isThere : MethodName := ⟨RX9, "isThere", "(I)Z"⟩
abbrev cX9_byteOf : ByteArray := prog_1_method_13_code
def yX9_byteOf : MethodName := ⟨RX9, "byteOf", "(II)I"⟩
abbrev cX9_isRefused : ByteArray := prog_1_method_14_code
def yX9_isRefused : MethodName := ⟨RX9, "isRefused", "(LMailSessions$Session;LMailSessions$Command;)Z"⟩
abbrev cX9_isSelected : ByteArray := prog_1_method_15_code
def yX9_isSelected : MethodName := ⟨RX9, "isSelected", "(LMailSessions$Mailbox;)Z"⟩
abbrev cX9_perform : ByteArray := prog_1_method_16_code
def yX9_perform : MethodName := ⟨RX9, "perform", "(LMailSessions$Session;LMailSessions$Command;)V"⟩
def RX10 : String := "MailSessionsModel"
def TX10 : u_T := fun k => match k with
  | 0 => ("MailSessionsModel", "thrown", "I", false)
  | 1 => ("MailSessionsModel", "there", "[Z", true)
  | 2 => ("MailSessionsModel", "validity", "[I", true)
  | 3 => ("MailSessionsModel", "next", "[I", true)
  | 4 => ("MailSessionsModel", "count", "[I", true)
  | 5 => ("MailSessionsModel", "numbers", "[I", true)
  | 6 => ("MailSessionsModel", "flags", "[I", true)
  | 7 => ("MailSessionsModel", "lengths", "[I", true)
  | 8 => ("MailSessionsModel", "texts", "[I", true)
  | 9 => ("MailSessionsModel", "created", "I", false)
  | 10 => ("MailSessionsModel", "connected", "[Z", true)
  | 11 => ("MailSessionsModel", "selected", "[I", true)
  | 12 => ("MailSessionsModel", "writes", "[Z", true)
  | 13 => ("MailSessionsModel", "places", "[I", true)
  | 14 => ("MailSessionsModel", "viewed", "[I", true)
  | 15 => ("MailSessionsModel", "told", "[I", true)
  | 16 => ("MailSessionsModel", "lines", "[I", true)
  | 17 => ("MailSessionsModel", "lineLength", "[I", true)
  | 18 => ("MailSessionsModel", "replies", "[I", true)
  | 19 => ("MailSessionsModel", "replyLength", "[I", true)
  | 20 => ("MailSessionsModel", "s", "I", false)
  | 21 => ("MailSessionsModel", "at", "I", false)
  | 22 => ("MailSessionsModel", "bad", "Z", false)
  | 23 => ("MailSessionsModel", "wrong", "Z", false)
  | 24 => ("MailSessionsModel", "tags", "I", false)
  | 25 => ("MailSessionsModel", "uid", "Z", false)
  | 26 => ("MailSessionsModel", "box", "I", false)
  | 27 => ("MailSessionsModel", "setAt", "I", false)
  | 28 => ("MailSessionsModel", "setEnd", "I", false)
  | 29 => ("MailSessionsModel", "mask", "I", false)
  | 30 => ("MailSessionsModel", "sign", "I", false)
  | 31 => ("MailSessionsModel", "textAt", "I", false)
  | 32 => ("MailSessionsModel", "textLength", "I", false)
  | 33 => ("MailSessionsModel", "what", "J", false)
  | 34 => ("MailSessionsModel", "searchAt", "I", false)
  | 35 => ("MailSessionsModel", "top", "I", false)
  | 36 => ("MailSessionsModel", "kinds", "[I", true)
  | 37 => ("MailSessionsModel", "done", "[I", true)
  | _ => ("MailSessionsModel", "holds", "[Z", true)
def tyX10 : Nat → FieldType := fun k => match k with
  | 0 => .int
  | 1 => .array .boolean
  | 2 => .array .int
  | 3 => .array .int
  | 4 => .array .int
  | 5 => .array .int
  | 6 => .array .int
  | 7 => .array .int
  | 8 => .array .int
  | 9 => .int
  | 10 => .array .boolean
  | 11 => .array .int
  | 12 => .array .boolean
  | 13 => .array .int
  | 14 => .array .int
  | 15 => .array .int
  | 16 => .array .int
  | 17 => .array .int
  | 18 => .array .int
  | 19 => .array .int
  | 20 => .int
  | 21 => .int
  | 22 => .boolean
  | 23 => .boolean
  | 24 => .int
  | 25 => .boolean
  | 26 => .int
  | 27 => .int
  | 28 => .int
  | 29 => .int
  | 30 => .int
  | 31 => .int
  | 32 => .int
  | 33 => .long
  | 34 => .int
  | 35 => .int
  | 36 => .array .int
  | 37 => .array .int
  | _ => .array .boolean
abbrev wsX100 : List Cond := u_ws RX10 TX10 39
theorem nmX10 : ∀ a, a < 39 → ∀ b, b < 39 → a ≠ b → (TX10 a).2.1 ≠ (TX10 b).2.1 := by decide +kernel
theorem tyX10_ok : ∀ k, k < 39 → parseFieldDescriptor (TX10 k).2.2.1 = some (tyX10 k) := by decide +kernel
abbrev cX10_init : ByteArray := prog_12_method_1_code
def yX10_init : MethodName := ⟨RX10, "<init>", "()V"⟩
abbrev cX10_thrown : ByteArray := prog_12_method_2_code
def yX10_thrown : MethodName := ⟨RX10, "thrown", "()I"⟩
abbrev cX10_isSession : ByteArray := prog_12_method_3_code
def yX10_isSession : MethodName := ⟨RX10, "isSession", "(I)Z"⟩
abbrev cX10_letter : ByteArray := prog_12_method_4_code
def yX10_letter : MethodName := ⟨RX10, "letter", "(I)J"⟩
abbrev cX10_word : ByteArray := prog_12_method_5_code
def yX10_word : MethodName := ⟨RX10, "word", "(IIIIIII)J"⟩
abbrev cX10_look : ByteArray := prog_12_method_6_code
def yX10_look : MethodName := ⟨RX10, "look", "(I)I"⟩
abbrev cX10_isDigit : ByteArray := prog_12_method_7_code
def yX10_isDigit : MethodName := ⟨RX10, "isDigit", "(I)Z"⟩
abbrev cX10_isSmall : ByteArray := prog_12_method_8_code
def yX10_isSmall : MethodName := ⟨RX10, "isSmall", "(I)Z"⟩
abbrev cX10_isLarge : ByteArray := prog_12_method_9_code
def yX10_isLarge : MethodName := ⟨RX10, "isLarge", "(I)Z"⟩
abbrev cX10_readWord : ByteArray := prog_12_method_10_code
def yX10_readWord : MethodName := ⟨RX10, "readWord", "()J"⟩
abbrev cX10_need : ByteArray := prog_12_method_11_code
def yX10_need : MethodName := ⟨RX10, "need", "(I)V"⟩
abbrev cX10_readBox : ByteArray := prog_12_method_12_code
def yX10_readBox : MethodName := ⟨RX10, "readBox", "()V"⟩
abbrev cX10_bitOf : ByteArray := prog_12_method_13_code
def yX10_bitOf : MethodName := ⟨RX10, "bitOf", "(I)I"⟩
abbrev cX10_readFlags : ByteArray := prog_12_method_14_code
def yX10_readFlags : MethodName := ⟨RX10, "readFlags", "()V"⟩
abbrev cX10_readText : ByteArray := prog_12_method_15_code
def yX10_readText : MethodName := ⟨RX10, "readText", "()V"⟩
abbrev cX10_readPoint : ByteArray := prog_12_method_16_code
def yX10_readPoint : MethodName := ⟨RX10, "readPoint", "()V"⟩
abbrev cX10_readSet : ByteArray := prog_12_method_17_code
def yX10_readSet : MethodName := ⟨RX10, "readSet", "()V"⟩
abbrev cX10_valueAt : ByteArray := prog_12_method_18_code
def yX10_valueAt : MethodName := ⟨RX10, "valueAt", "(II)I"⟩
abbrev cX10_behindPoint : ByteArray := prog_12_method_19_code
def yX10_behindPoint : MethodName := ⟨RX10, "behindPoint", "(I)I"⟩
abbrev cX10_covers : ByteArray := prog_12_method_20_code
def yX10_covers : MethodName := ⟨RX10, "covers", "(IIII)Z"⟩
abbrev cX10_isWrong : ByteArray := prog_12_method_21_code
def yX10_isWrong : MethodName := ⟨RX10, "isWrong", "(II)Z"⟩
abbrev cX10_greatest : ByteArray := prog_12_method_22_code
def yX10_greatest : MethodName := ⟨RX10, "greatest", "()I"⟩
abbrev cX10_inSet : ByteArray := prog_12_method_23_code
def yX10_inSet : MethodName := ⟨RX10, "inSet", "(IZ)Z"⟩
abbrev cX10_messageAt : ByteArray := prog_12_method_24_code
def yX10_messageAt : MethodName := ⟨RX10, "messageAt", "(I)I"⟩
abbrev cX10_within : ByteArray := prog_12_method_25_code
def yX10_within : MethodName := ⟨RX10, "within", "(I)Z"⟩
abbrev cX10_leaf : ByteArray := prog_12_method_26_code
def yX10_leaf : MethodName := ⟨RX10, "leaf", "(I)Z"⟩
abbrev cX10_push : ByteArray := prog_12_method_27_code
def yX10_push : MethodName := ⟨RX10, "push", "(I)V"⟩
abbrev cX10_descend : ByteArray := prog_12_method_28_code
def yX10_descend : MethodName := ⟨RX10, "descend", "()V"⟩
abbrev cX10_rise : ByteArray := prog_12_method_29_code
def yX10_rise : MethodName := ⟨RX10, "rise", "(Z)Z"⟩
abbrev cX10_search : ByteArray := prog_12_method_30_code
def yX10_search : MethodName := ⟨RX10, "search", "(I)Z"⟩
abbrev cX10_commandOf : ByteArray := prog_12_method_31_code
def yX10_commandOf : MethodName := ⟨RX10, "commandOf", "(J)I"⟩
abbrev cX10_readRest : ByteArray := prog_12_method_32_code
def yX10_readRest : MethodName := ⟨RX10, "readRest", "(I)V"⟩
abbrev cX10_read : ByteArray := prog_12_method_33_code
def yX10_read : MethodName := ⟨RX10, "read", "()I"⟩
abbrev cX10_say : ByteArray := prog_12_method_34_code
def yX10_say : MethodName := ⟨RX10, "say", "(I)V"⟩
abbrev cX10_sayNumber : ByteArray := prog_12_method_35_code
def yX10_sayNumber : MethodName := ⟨RX10, "sayNumber", "(I)V"⟩
abbrev cX10_sayLetters : ByteArray := prog_12_method_36_code
def yX10_sayLetters : MethodName := ⟨RX10, "sayLetters", "(J)V"⟩
abbrev cX10_sayFlags : ByteArray := prog_12_method_37_code
def yX10_sayFlags : MethodName := ⟨RX10, "sayFlags", "(I)V"⟩
abbrev cX10_sayCount : ByteArray := prog_12_method_38_code
def yX10_sayCount : MethodName := ⟨RX10, "sayCount", "(IJ)V"⟩
abbrev cX10_sayFetched : ByteArray := prog_12_method_39_code
def yX10_sayFetched : MethodName := ⟨RX10, "sayFetched", "(II)V"⟩
abbrev cX10_close : ByteArray := prog_12_method_40_code
def yX10_close : MethodName := ⟨RX10, "close", "(Z)V"⟩
abbrev cX10_isSelected : ByteArray := prog_12_method_41_code
def yX10_isSelected : MethodName := ⟨RX10, "isSelected", "(I)Z"⟩
abbrev cX10_meant : ByteArray := prog_12_method_42_code
def yX10_meant : MethodName := ⟨RX10, "meant", "(I)Z"⟩
abbrev cX10_meantPlaces : ByteArray := prog_12_method_43_code
def yX10_meantPlaces : MethodName := ⟨RX10, "meantPlaces", "()I"⟩
abbrev cX10_refused : ByteArray := prog_12_method_44_code
def yX10_refused : MethodName := ⟨RX10, "refused", "(I)Z"⟩
abbrev cX10_bring : ByteArray := prog_12_method_45_code
def yX10_bring : MethodName := ⟨RX10, "bring", "(II)I"⟩
abbrev cX10_clean : ByteArray := prog_12_method_46_code
def yX10_clean : MethodName := ⟨RX10, "clean", "()V"⟩
abbrev cX10_select : ByteArray := prog_12_method_47_code
def yX10_select : MethodName := ⟨RX10, "select", "(Z)V"⟩
abbrev cX10_store : ByteArray := prog_12_method_48_code
def yX10_store : MethodName := ⟨RX10, "store", "(I)V"⟩
abbrev cX10_fetch : ByteArray := prog_12_method_49_code
def yX10_fetch : MethodName := ⟨RX10, "fetch", "(I)V"⟩
abbrev cX10_copyTo : ByteArray := prog_12_method_50_code
def yX10_copyTo : MethodName := ⟨RX10, "copyTo", "(I)V"⟩
abbrev cX10_append : ByteArray := prog_12_method_51_code
def yX10_append : MethodName := ⟨RX10, "append", "()V"⟩
abbrev cX10_find : ByteArray := prog_12_method_52_code
def yX10_find : MethodName := ⟨RX10, "find", "()V"⟩
abbrev cX10_overSet : ByteArray := prog_12_method_53_code
def yX10_overSet : MethodName := ⟨RX10, "overSet", "(I)V"⟩
abbrev cX10_create : ByteArray := prog_12_method_54_code
def yX10_create : MethodName := ⟨RX10, "create", "()V"⟩
abbrev cX10_leave : ByteArray := prog_12_method_55_code
def yX10_leave : MethodName := ⟨RX10, "leave", "()V"⟩
abbrev cX10_perform : ByteArray := prog_12_method_56_code
def yX10_perform : MethodName := ⟨RX10, "perform", "(I)V"⟩
abbrev cX10_dropGone : ByteArray := prog_12_method_57_code
def yX10_dropGone : MethodName := ⟨RX10, "dropGone", "()V"⟩
abbrev cX10_isViewed : ByteArray := prog_12_method_58_code
def yX10_isViewed : MethodName := ⟨RX10, "isViewed", "(I)Z"⟩
abbrev cX10_tell : ByteArray := prog_12_method_59_code
def yX10_tell : MethodName := ⟨RX10, "tell", "(I)V"⟩
abbrev cX10_type : ByteArray := prog_12_method_60_code
def yX10_type : MethodName := ⟨RX10, "type", "(II)Z"⟩
abbrev cX10_enter : ByteArray := prog_12_method_61_code
def yX10_enter : MethodName := ⟨RX10, "enter", "(I)I"⟩
abbrev cX10_connect : ByteArray := prog_12_method_62_code
def yX10_connect : MethodName := ⟨RX10, "connect", "(I)V"⟩
abbrev cX10_replied : ByteArray := prog_12_method_63_code
def yX10_replied : MethodName := ⟨RX10, "replied", "(I)I"⟩
abbrev cX10_reply : ByteArray := prog_12_method_64_code
def yX10_reply : MethodName := ⟨RX10, "reply", "(II)C"⟩
abbrev cX10_view : ByteArray := prog_12_method_65_code
def yX10_view : MethodName := ⟨RX10, "view", "(I)I"⟩
abbrev cX10_isBox : ByteArray := prog_12_method_66_code
def yX10_isBox : MethodName := ⟨RX10, "isBox", "(I)Z"⟩
abbrev cX10_messages : ByteArray := prog_12_method_67_code
def yX10_messages : MethodName := ⟨RX10, "messages", "(I)I"⟩
abbrev cX10_message : ByteArray := prog_12_method_68_code
def yX10_message : MethodName := ⟨RX10, "message", "(III)I"⟩
def RJx145de : String := "java/io/Serializable"
def TJx145de : u_T := fun k => match k with
  | _ => ("", "", "", false)
def tyJx145de : Nat → FieldType := fun k => match k with
  | _ => .int
abbrev wsJx145de0 : List Cond := u_ws RJx145de TJx145de 0
theorem nmJx145de : ∀ a, a < 0 → ∀ b, b < 0 → a ≠ b → (TJx145de a).2.1 ≠ (TJx145de b).2.1 := by decide +kernel
theorem tyJx145de_ok : ∀ k, k < 0 → parseFieldDescriptor (TJx145de k).2.2.1 = some (tyJx145de k) := by decide +kernel
def RJx9f9b0 : String := "java/lang/CharSequence"
def TJx9f9b0 : u_T := fun k => match k with
  | _ => ("", "", "", false)
def tyJx9f9b0 : Nat → FieldType := fun k => match k with
  | _ => .int
abbrev wsJx9f9b00 : List Cond := u_ws RJx9f9b0 TJx9f9b0 0
theorem nmJx9f9b0 : ∀ a, a < 0 → ∀ b, b < 0 → a ≠ b → (TJx9f9b0 a).2.1 ≠ (TJx9f9b0 b).2.1 := by decide +kernel
theorem tyJx9f9b0_ok : ∀ k, k < 0 → parseFieldDescriptor (TJx9f9b0 k).2.2.1 = some (tyJx9f9b0 k) := by decide +kernel
def RJ11 : String := "java/lang/Character"
def TJ11 : u_T := fun k => match k with
  | _ => ("", "", "", false)
def tyJ11 : Nat → FieldType := fun k => match k with
  | _ => .int
abbrev wsJ110 : List Cond := u_ws RJ11 TJ11 0
theorem nmJ11 : ∀ a, a < 0 → ∀ b, b < 0 → a ≠ b → (TJ11 a).2.1 ≠ (TJ11 b).2.1 := by decide +kernel
theorem tyJ11_ok : ∀ k, k < 0 → parseFieldDescriptor (TJ11 k).2.2.1 = some (tyJ11 k) := by decide +kernel
abbrev cJ11_isValidCodePoint_9a6ad : ByteArray := prog_15_method_11_code
def yJ11_isValidCodePoint_9a6ad : MethodName := ⟨RJ11, "isValidCodePoint", "(I)Z"⟩
abbrev cJ11_highSurrogate_5068e : ByteArray := prog_15_method_28_code
def yJ11_highSurrogate_5068e : MethodName := ⟨RJ11, "highSurrogate", "(I)C"⟩
abbrev cJ11_lowSurrogate_5068e : ByteArray := prog_15_method_29_code
def yJ11_lowSurrogate_5068e : MethodName := ⟨RJ11, "lowSurrogate", "(I)C"⟩
def RJxb160c : String := "java/lang/Comparable"
def TJxb160c : u_T := fun k => match k with
  | _ => ("", "", "", false)
def tyJxb160c : Nat → FieldType := fun k => match k with
  | _ => .int
abbrev wsJxb160c0 : List Cond := u_ws RJxb160c TJxb160c 0
theorem nmJxb160c : ∀ a, a < 0 → ∀ b, b < 0 → a ≠ b → (TJxb160c a).2.1 ≠ (TJxb160c b).2.1 := by decide +kernel
theorem tyJxb160c_ok : ∀ k, k < 0 → parseFieldDescriptor (TJxb160c k).2.2.1 = some (tyJxb160c k) := by decide +kernel
def RJx29ce0 : String := "java/lang/Enum"
def TJx29ce0 : u_T := fun k => match k with
  | _ => ("", "", "", false)
def tyJx29ce0 : Nat → FieldType := fun k => match k with
  | _ => .int
abbrev wsJx29ce00 : List Cond := u_ws RJx29ce0 TJx29ce0 0
theorem nmJx29ce0 : ∀ a, a < 0 → ∀ b, b < 0 → a ≠ b → (TJx29ce0 a).2.1 ≠ (TJx29ce0 b).2.1 := by decide +kernel
theorem tyJx29ce0_ok : ∀ k, k < 0 → parseFieldDescriptor (TJx29ce0 k).2.2.1 = some (tyJx29ce0 k) := by decide +kernel
abbrev cJx29ce0_ordinal_8abf5 : ByteArray := prog_17_method_2_code
def yJx29ce0_ordinal_8abf5 : MethodName := ⟨RJx29ce0, "ordinal", "()I"⟩
def RJ13 : String := "java/lang/Long"
def TJ13 : u_T := fun k => match k with
  | _ => ("", "", "", false)
def tyJ13 : Nat → FieldType := fun k => match k with
  | _ => .int
abbrev wsJ130 : List Cond := u_ws RJ13 TJ13 0
theorem nmJ13 : ∀ a, a < 0 → ∀ b, b < 0 → a ≠ b → (TJ13 a).2.1 ≠ (TJ13 b).2.1 := by decide +kernel
theorem tyJ13_ok : ∀ k, k < 0 → parseFieldDescriptor (TJ13 k).2.2.1 = some (tyJ13 k) := by decide +kernel
abbrev cJ13_bitCount_95d88 : ByteArray := prog_22_method_50_code
def yJ13_bitCount_95d88 : MethodName := ⟨RJ13, "bitCount", "(J)I"⟩
def RJ9 : String := "java/lang/Math"
def TJ9 : u_T := fun k => match k with
  | _ => ("", "", "", false)
def tyJ9 : Nat → FieldType := fun k => match k with
  | _ => .int
abbrev wsJ90 : List Cond := u_ws RJ9 TJ9 0
theorem nmJ9 : ∀ a, a < 0 → ∀ b, b < 0 → a ≠ b → (TJ9 a).2.1 ≠ (TJ9 b).2.1 := by decide +kernel
theorem tyJ9_ok : ∀ k, k < 0 → parseFieldDescriptor (TJ9 k).2.2.1 = some (tyJ9 k) := by decide +kernel
abbrev cJ9_max_7cf53 : ByteArray := prog_23_method_65_code
def yJ9_max_7cf53 : MethodName := ⟨RJ9, "max", "(II)I"⟩
abbrev cJ9_min_7cf53 : ByteArray := prog_23_method_69_code
def yJ9_min_7cf53 : MethodName := ⟨RJ9, "min", "(II)I"⟩
def RJ0 : String := "java/lang/String"
def TJ0 : u_T := fun k => match k with
  | 0 => ("java/lang/String", "value", "[B", true)
  | 1 => ("java/lang/String", "coder", "B", true)
  | 2 => ("java/lang/String", "hash", "I", false)
  | _ => ("java/lang/String", "hashIsZero", "Z", false)
def tyJ0 : Nat → FieldType := fun k => match k with
  | 0 => .array .byte
  | 1 => .byte
  | 2 => .int
  | _ => .boolean
abbrev wsJ00 : List Cond := u_ws RJ0 TJ0 4
theorem nmJ0 : ∀ a, a < 4 → ∀ b, b < 4 → a ≠ b → (TJ0 a).2.1 ≠ (TJ0 b).2.1 := by decide +kernel
theorem tyJ0_ok : ∀ k, k < 4 → parseFieldDescriptor (TJ0 k).2.2.1 = some (tyJ0 k) := by decide +kernel
abbrev cJ0_init_905df : ByteArray := prog_25_method_3_code
def yJ0_init_905df : MethodName := ⟨RJ0, "<init>", "([C)V"⟩
abbrev cJ0_length_8abf5 : ByteArray := prog_25_method_54_code
def yJ0_length_8abf5 : MethodName := ⟨RJ0, "length", "()I"⟩
abbrev cJ0_charAt_5068e : ByteArray := prog_25_method_56_code
def yJ0_charAt_5068e : MethodName := ⟨RJ0, "charAt", "(I)C"⟩
abbrev cJ0_indexOf_0f7a4 : ByteArray := prog_25_method_79_code
def yJ0_indexOf_0f7a4 : MethodName := ⟨RJ0, "indexOf", "(I)I"⟩
abbrev cJ0_indexOf_7cf53 : ByteArray := prog_25_method_80_code
def yJ0_indexOf_7cf53 : MethodName := ⟨RJ0, "indexOf", "(II)I"⟩
abbrev cJ0_init_bb550 : ByteArray := prog_25_method_149_code
def yJ0_init_bb550 : MethodName := ⟨RJ0, "<init>", "([CIILjava/lang/Void;)V"⟩
abbrev cJ0_coder_7d493 : ByteArray := prog_25_method_152_code
def yJ0_coder_7d493 : MethodName := ⟨RJ0, "coder", "()B"⟩
abbrev cJ0_isLatin1_aae02 : ByteArray := prog_25_method_154_code
def yJ0_isLatin1_aae02 : MethodName := ⟨RJ0, "isLatin1", "()Z"⟩
abbrev cJ0_checkIndex_df160 : ByteArray := prog_25_method_155_code
def yJ0_checkIndex_df160 : MethodName := ⟨RJ0, "checkIndex", "(II)V"⟩
abbrev cJ0_checkBoundsOffCount_cabcc : ByteArray := prog_25_method_157_code
def yJ0_checkBoundsOffCount_cabcc : MethodName := ⟨RJ0, "checkBoundsOffCount", "(III)I"⟩
abbrev cJ0_checkBoundsBeginEnd_23922 : ByteArray := prog_25_method_158_code
def yJ0_checkBoundsBeginEnd_23922 : MethodName := ⟨RJ0, "checkBoundsBeginEnd", "(III)V"⟩
def RJ1 : String := "java/lang/StringLatin1"
def TJ1 : u_T := fun k => match k with
  | _ => ("", "", "", false)
def tyJ1 : Nat → FieldType := fun k => match k with
  | _ => .int
abbrev wsJ10 : List Cond := u_ws RJ1 TJ1 0
theorem nmJ1 : ∀ a, a < 0 → ∀ b, b < 0 → a ≠ b → (TJ1 a).2.1 ≠ (TJ1 b).2.1 := by decide +kernel
theorem tyJ1_ok : ∀ k, k < 0 → parseFieldDescriptor (TJ1 k).2.2.1 = some (tyJ1 k) := by decide +kernel
abbrev cJ1_charAt_3b067 : ByteArray := prog_26_method_2_code
def yJ1_charAt_3b067 : MethodName := ⟨RJ1, "charAt", "([BI)C"⟩
abbrev cJ1_canEncode_9a6ad : ByteArray := prog_26_method_4_code
def yJ1_canEncode_9a6ad : MethodName := ⟨RJ1, "canEncode", "(I)Z"⟩
abbrev cJ1_indexOf_4cfef : ByteArray := prog_26_method_22_code
def yJ1_indexOf_4cfef : MethodName := ⟨RJ1, "indexOf", "([BIII)I"⟩
abbrev cJ1_indexOfChar_4cfef : ByteArray := prog_26_method_23_code
def yJ1_indexOfChar_4cfef : MethodName := ⟨RJ1, "indexOfChar", "([BIII)I"⟩
def RJ2 : String := "java/lang/StringUTF16"
def TJ2 : u_T := fun k => match k with
  | _ => ("", "", "", false)
def tyJ2 : Nat → FieldType := fun k => match k with
  | _ => .int
abbrev wsJ20 : List Cond := u_ws RJ2 TJ2 0
theorem nmJ2 : ∀ a, a < 0 → ∀ b, b < 0 → a ≠ b → (TJ2 a).2.1 ≠ (TJ2 b).2.1 := by decide +kernel
theorem tyJ2_ok : ∀ k, k < 0 → parseFieldDescriptor (TJ2 k).2.2.1 = some (tyJ2 k) := by decide +kernel
abbrev cJ2_newBytesFor_77867 : ByteArray := prog_27_method_2_code
def yJ2_newBytesFor_77867 : MethodName := ⟨RJ2, "newBytesFor", "(I)[B"⟩
abbrev cJ2_newBytesLength_0f7a4 : ByteArray := prog_27_method_3_code
def yJ2_newBytesLength_0f7a4 : MethodName := ⟨RJ2, "newBytesLength", "(I)I"⟩
abbrev cJ2_putChar_b72d1 : ByteArray := prog_27_method_4_code
def yJ2_putChar_b72d1 : MethodName := ⟨RJ2, "putChar", "([BII)V"⟩
abbrev cJ2_getChar_3b067 : ByteArray := prog_27_method_5_code
def yJ2_getChar_3b067 : MethodName := ⟨RJ2, "getChar", "([BI)C"⟩
abbrev cJ2_length_9d52b : ByteArray := prog_27_method_6_code
def yJ2_length_9d52b : MethodName := ⟨RJ2, "length", "([B)I"⟩
abbrev cJ2_toBytes_dfd3c : ByteArray := prog_27_method_14_code
def yJ2_toBytes_dfd3c : MethodName := ⟨RJ2, "toBytes", "([CII)[B"⟩
abbrev cJ2_coderFromArrayLen_85cad : ByteArray := prog_27_method_15_code
def yJ2_coderFromArrayLen_85cad : MethodName := ⟨RJ2, "coderFromArrayLen", "([BI)B"⟩
abbrev cJ2_compress_dfd3c : ByteArray := prog_27_method_16_code
def yJ2_compress_dfd3c : MethodName := ⟨RJ2, "compress", "([CII)[B"⟩
abbrev cJ2_compress_fe38e : ByteArray := prog_27_method_21_code
def yJ2_compress_fe38e : MethodName := ⟨RJ2, "compress", "([CI[BII)I"⟩
abbrev cJ2_compress_5af95 : ByteArray := prog_27_method_22_code
def yJ2_compress_5af95 : MethodName := ⟨RJ2, "compress", "([BI[BII)I"⟩
abbrev cJ2_indexOf_4cfef : ByteArray := prog_27_method_40_code
def yJ2_indexOf_4cfef : MethodName := ⟨RJ2, "indexOf", "([BIII)I"⟩
abbrev cJ2_indexOfChar_4cfef : ByteArray := prog_27_method_47_code
def yJ2_indexOfChar_4cfef : MethodName := ⟨RJ2, "indexOfChar", "([BIII)I"⟩
abbrev cJ2_indexOfCharUnsafe_4cfef : ByteArray := prog_27_method_48_code
def yJ2_indexOfCharUnsafe_4cfef : MethodName := ⟨RJ2, "indexOfCharUnsafe", "([BIII)I"⟩
abbrev cJ2_indexOfSupplementary_4cfef : ByteArray := prog_27_method_49_code
def yJ2_indexOfSupplementary_4cfef : MethodName := ⟨RJ2, "indexOfSupplementary", "([BIII)I"⟩
abbrev cJ2_charAt_3b067 : ByteArray := prog_27_method_83_code
def yJ2_charAt_3b067 : MethodName := ⟨RJ2, "charAt", "([BI)C"⟩
abbrev cJ2_checkIndex_2214a : ByteArray := prog_27_method_91_code
def yJ2_checkIndex_2214a : MethodName := ⟨RJ2, "checkIndex", "(I[B)V"⟩
abbrev cJ2_checkBoundsBeginEnd_d044e : ByteArray := prog_27_method_93_code
def yJ2_checkBoundsBeginEnd_d044e : MethodName := ⟨RJ2, "checkBoundsBeginEnd", "(II[B)V"⟩
abbrev cJ2_checkBoundsOffCount_d044e : ByteArray := prog_27_method_94_code
def yJ2_checkBoundsOffCount_d044e : MethodName := ⟨RJ2, "checkBoundsOffCount", "(II[B)V"⟩
def RJxfd54e : String := "java/lang/constant/Constable"
def TJxfd54e : u_T := fun k => match k with
  | _ => ("", "", "", false)
def tyJxfd54e : Nat → FieldType := fun k => match k with
  | _ => .int
abbrev wsJxfd54e0 : List Cond := u_ws RJxfd54e TJxfd54e 0
theorem nmJxfd54e : ∀ a, a < 0 → ∀ b, b < 0 → a ≠ b → (TJxfd54e a).2.1 ≠ (TJxfd54e b).2.1 := by decide +kernel
theorem tyJxfd54e_ok : ∀ k, k < 0 → parseFieldDescriptor (TJxfd54e k).2.2.1 = some (tyJxfd54e k) := by decide +kernel
def RJx3cf43 : String := "java/lang/constant/ConstantDesc"
def TJx3cf43 : u_T := fun k => match k with
  | _ => ("", "", "", false)
def tyJx3cf43 : Nat → FieldType := fun k => match k with
  | _ => .int
abbrev wsJx3cf430 : List Cond := u_ws RJx3cf43 TJx3cf43 0
theorem nmJx3cf43 : ∀ a, a < 0 → ∀ b, b < 0 → a ≠ b → (TJx3cf43 a).2.1 ≠ (TJx3cf43 b).2.1 := by decide +kernel
theorem tyJx3cf43_ok : ∀ k, k < 0 → parseFieldDescriptor (TJx3cf43 k).2.2.1 = some (tyJx3cf43 k) := by decide +kernel
def RJ3 : String := "jdk/internal/util/Preconditions"
def TJ3 : u_T := fun k => match k with
  | _ => ("", "", "", false)
def tyJ3 : Nat → FieldType := fun k => match k with
  | _ => .int
abbrev wsJ30 : List Cond := u_ws RJ3 TJ3 0
theorem nmJ3 : ∀ a, a < 0 → ∀ b, b < 0 → a ≠ b → (TJ3 a).2.1 ≠ (TJ3 b).2.1 := by decide +kernel
theorem tyJ3_ok : ∀ k, k < 0 → parseFieldDescriptor (TJ3 k).2.2.1 = some (tyJ3 k) := by decide +kernel
abbrev cJ3_checkIndex_8e157 : ByteArray := prog_32_method_11_code
def yJ3_checkIndex_8e157 : MethodName := ⟨RJ3, "checkIndex", "(IILjava/util/function/BiFunction;)I"⟩
abbrev cJ3_checkFromToIndex_8c36e : ByteArray := prog_32_method_12_code
def yJ3_checkFromToIndex_8c36e : MethodName := ⟨RJ3, "checkFromToIndex", "(IIILjava/util/function/BiFunction;)I"⟩
abbrev cJ3_checkFromIndexSize_8c36e : ByteArray := prog_32_method_13_code
def yJ3_checkFromIndexSize_8c36e : MethodName := ⟨RJ3, "checkFromIndexSize", "(IIILjava/util/function/BiFunction;)I"⟩
def RL : String := "MailSessionsLaw"
abbrev cL_type : ByteArray := method_3_code
def yL_type : MethodName := ⟨RL, "type", "(LMailSessions;II[J)I"⟩
abbrev cL_enter : ByteArray := method_4_code
def yL_enter : MethodName := ⟨RL, "enter", "(LMailSessions;I[J)I"⟩
abbrev cL_connect : ByteArray := method_5_code
def yL_connect : MethodName := ⟨RL, "connect", "(LMailSessions;I)I"⟩
abbrev cL_replied : ByteArray := method_6_code
def yL_replied : MethodName := ⟨RL, "replied", "(LMailSessions;I[J)I"⟩
abbrev cL_reply : ByteArray := method_7_code
def yL_reply : MethodName := ⟨RL, "reply", "(LMailSessions;II[J)I"⟩
abbrev cL_message : ByteArray := method_8_code
def yL_message : MethodName := ⟨RL, "message", "(LMailSessions;III[J)I"⟩
abbrev cL_law : ByteArray := code
def yL_law : MethodName := ⟨RL, "law", "([I)Z"⟩
def wsX1_init : List Cond := .code yX1_init cX1_init 1 none :: ([.methodLink RX1 1 objectInit, .instanceMethod objectInit, .code objectInit ⟨#[0xb1]⟩ 1 none])
def wsX2_init : List Cond := .code yX2_init cX2_init 1 none :: ([.methodLink RX2 3 objectInit, .instanceMethod objectInit, .code objectInit ⟨#[0xb1]⟩ 1 none, .classLink RX2 9 RX3, .fieldLink RX2 11 "MailSessions$Mailbox" "row" "[LMailSessions$Message;"] ++ wsX20)
abbrev vwCl : List vw_C := [(RJ0, TJ0, 4), (RX1, TX1, 10), (RX2, TX2, 5), (RX3, TX3, 4), (RX4, TX4, 6), (RX5, TX5, 2), (RX6, TX6, 7), (RX8, TX8, 4), (RX9, TX9, 3), (RX10, TX10, 39)]
