/-! the state of the whole system: ints, longs, arrays by number; the cells at fixed places; made by wip/gen/mkstate.py -/
/-- the classes' numbers, the cells' addresses, the arrays' classes -/
abbrev CX : Type := va_G × (Nat → Nat) × (Nat → ClassId)
def wG (g : CX) (k0 n : Nat) : Nat → Option Nat := fun i => ((List.range n).map (fun j => g.2.1 (k0 + j)))[i]?
def wW (g : CX) (σ : ST) : va_W := [
  (g.2.1 0, .inr (11, [.ref (g.2.1 1), .ref (g.2.1 5), .ref (g.2.1 10), .ref (g.2.1 16), .ref (g.2.1 25), .ref (g.2.1 47), .ref (g.2.1 54), .ref (g.2.1 58), .ref (g.2.1 62), .ref (g.2.1 65), .ref (g.2.1 77), .ref (g.2.1 78), .int (σ.1 21), .int (σ.1 22), .int (σ.1 23), .int (σ.1 24)])),
  (g.2.1 1, .inr (8, [.ref (g.2.1 2), .ref (g.2.1 3), .ref (g.2.1 4), .int (σ.1 0), .int (σ.1 1)])),
  (g.2.1 2, .inl (g.2.2 0, 200, .inl (σ.2.2 0))),
  (g.2.1 3, .inl (g.2.2 1, 6, .inl (σ.2.2 1))),
  (g.2.1 4, .inl (g.2.2 2, 6, .inl (σ.2.2 2))),
  (g.2.1 5, .inr (7, [.ref (g.2.1 6), .ref (g.2.1 7), .ref (g.2.1 8), .ref (g.2.1 9), .int (σ.1 2)])),
  (g.2.1 6, .inl (g.2.2 3, 192, .inl (σ.2.2 3))),
  (g.2.1 7, .inl (g.2.2 4, 48, .inl (σ.2.2 4))),
  (g.2.1 8, .inl (g.2.2 5, 48, .inl (σ.2.2 5))),
  (g.2.1 9, .inl (g.2.2 6, 48, .inl (σ.2.2 6))),
  (g.2.1 10, .inr (3, [.ref (g.2.1 11), .int (σ.1 3), .int (σ.1 4)])),
  (g.2.1 11, .inl (g.2.2 7, 4, .inr (.inr (.inr (.inr (wG g 12 4)))))),
  (g.2.1 12, .inl (g.2.2 8, 48, .inl (σ.2.2 8))),
  (g.2.1 13, .inl (g.2.2 9, 48, .inl (σ.2.2 9))),
  (g.2.1 14, .inl (g.2.2 10, 48, .inl (σ.2.2 10))),
  (g.2.1 15, .inl (g.2.2 11, 48, .inl (σ.2.2 11))),
  (g.2.1 16, .inr (2, [.ref (g.2.1 17), .ref (g.2.1 18), .ref (g.2.1 19), .ref (g.2.1 20), .ref (g.2.1 21), .ref (g.2.1 22), .ref (g.2.1 23), .ref (g.2.1 24), .int (σ.1 5), .int (σ.1 6), .int (σ.1 7), .int (σ.1 8)])),
  (g.2.1 17, .inl (g.2.2 12, 48, .inl (σ.2.2 12))),
  (g.2.1 18, .inl (g.2.2 13, 48, .inl (σ.2.2 13))),
  (g.2.1 19, .inl (g.2.2 14, 48, .inl (σ.2.2 14))),
  (g.2.1 20, .inl (g.2.2 15, 192, .inl (σ.2.2 15))),
  (g.2.1 21, .inl (g.2.2 16, 48, .inl (σ.2.2 16))),
  (g.2.1 22, .inl (g.2.2 17, 48, .inl (σ.2.2 17))),
  (g.2.1 23, .inl (g.2.2 18, 49, .inl (σ.2.2 18))),
  (g.2.1 24, .inl (g.2.2 19, 48, .inl (σ.2.2 19))),
  (g.2.1 25, .inr (1, [.ref (g.2.1 26), .ref (g.2.1 36), .ref (g.2.1 46), .int (σ.1 9)])),
  (g.2.1 26, .inl (g.2.2 20, 9, .inr (.inr (.inr (.inr (wG g 27 9)))))),
  (g.2.1 27, .inl (g.2.2 21, 9, .inl (σ.2.2 21))),
  (g.2.1 28, .inl (g.2.2 22, 9, .inl (σ.2.2 22))),
  (g.2.1 29, .inl (g.2.2 23, 9, .inl (σ.2.2 23))),
  (g.2.1 30, .inl (g.2.2 24, 9, .inl (σ.2.2 24))),
  (g.2.1 31, .inl (g.2.2 25, 9, .inl (σ.2.2 25))),
  (g.2.1 32, .inl (g.2.2 26, 9, .inl (σ.2.2 26))),
  (g.2.1 33, .inl (g.2.2 27, 9, .inl (σ.2.2 27))),
  (g.2.1 34, .inl (g.2.2 28, 9, .inl (σ.2.2 28))),
  (g.2.1 35, .inl (g.2.2 29, 9, .inl (σ.2.2 29))),
  (g.2.1 36, .inl (g.2.2 30, 9, .inr (.inr (.inr (.inr (wG g 37 9)))))),
  (g.2.1 37, .inl (g.2.2 31, 9, .inl (σ.2.2 31))),
  (g.2.1 38, .inl (g.2.2 32, 9, .inl (σ.2.2 32))),
  (g.2.1 39, .inl (g.2.2 33, 9, .inl (σ.2.2 33))),
  (g.2.1 40, .inl (g.2.2 34, 9, .inl (σ.2.2 34))),
  (g.2.1 41, .inl (g.2.2 35, 9, .inl (σ.2.2 35))),
  (g.2.1 42, .inl (g.2.2 36, 9, .inl (σ.2.2 36))),
  (g.2.1 43, .inl (g.2.2 37, 9, .inl (σ.2.2 37))),
  (g.2.1 44, .inl (g.2.2 38, 9, .inl (σ.2.2 38))),
  (g.2.1 45, .inl (g.2.2 39, 9, .inl (σ.2.2 39))),
  (g.2.1 46, .inl (g.2.2 40, 512, .inl (σ.2.2 40))),
  (g.2.1 47, .inr (0, [.ref (g.2.1 48), .ref (g.2.1 52), .ref (g.2.1 53), .int (σ.1 12), .int (σ.1 13), .int (σ.1 14), .int (σ.1 15), .int (σ.1 16), .long (σ.2.1 0), .long (σ.2.1 1)])),
  (g.2.1 48, .inr (4, [.ref (g.2.1 49), .ref (g.2.1 50), .ref (g.2.1 51), .int (σ.1 10), .int (σ.1 11)])),
  (g.2.1 49, .inl (g.2.2 41, 9, .inl (σ.2.2 41))),
  (g.2.1 50, .inl (g.2.2 42, 9, .inl (σ.2.2 42))),
  (g.2.1 51, .inl (g.2.2 43, 36, .inl (σ.2.2 43))),
  (g.2.1 52, .inl (g.2.2 44, 9, .inl (σ.2.2 44))),
  (g.2.1 53, .inl (g.2.2 45, 9, .inl (σ.2.2 45))),
  (g.2.1 54, .inr (4, [.ref (g.2.1 55), .ref (g.2.1 56), .ref (g.2.1 57), .int (σ.1 17), .int (σ.1 18)])),
  (g.2.1 55, .inl (g.2.2 46, 9, .inl (σ.2.2 46))),
  (g.2.1 56, .inl (g.2.2 47, 9, .inl (σ.2.2 47))),
  (g.2.1 57, .inl (g.2.2 48, 36, .inl (σ.2.2 48))),
  (g.2.1 58, .inr (5, [.ref (g.2.1 59), .ref (g.2.1 60), .ref (g.2.1 61), .int (σ.1 19)])),
  (g.2.1 59, .inl (g.2.2 49, 6, .inl (σ.2.2 49))),
  (g.2.1 60, .inl (g.2.2 50, 24, .inl (σ.2.2 50))),
  (g.2.1 61, .inl (g.2.2 51, 512, .inl (σ.2.2 51))),
  (g.2.1 62, .inr (10, [.ref (g.2.1 63), .ref (g.2.1 64), .int (σ.1 20)])),
  (g.2.1 63, .inl (g.2.2 52, 12, .inl (σ.2.2 52))),
  (g.2.1 64, .inl (g.2.2 53, 12, .inl (σ.2.2 53))),
  (g.2.1 65, .inr (9, [.ref (g.2.1 66), .ref (g.2.1 76)])),
  (g.2.1 66, .inl (g.2.2 54, 9, .inr (.inr (.inr (.inr (wG g 67 9)))))),
  (g.2.1 67, .inl (g.2.2 55, 5, .inl (σ.2.2 55))),
  (g.2.1 68, .inl (g.2.2 56, 5, .inl (σ.2.2 56))),
  (g.2.1 69, .inl (g.2.2 57, 5, .inl (σ.2.2 57))),
  (g.2.1 70, .inl (g.2.2 58, 5, .inl (σ.2.2 58))),
  (g.2.1 71, .inl (g.2.2 59, 5, .inl (σ.2.2 59))),
  (g.2.1 72, .inl (g.2.2 60, 5, .inl (σ.2.2 60))),
  (g.2.1 73, .inl (g.2.2 61, 5, .inl (σ.2.2 61))),
  (g.2.1 74, .inl (g.2.2 62, 5, .inl (σ.2.2 62))),
  (g.2.1 75, .inl (g.2.2 63, 5, .inl (σ.2.2 63))),
  (g.2.1 76, .inl (g.2.2 64, 32, .inl (σ.2.2 64))),
  (g.2.1 77, .inr (6, [.long (σ.2.1 2)])),
  (g.2.1 78, .inl (g.2.2 65, 48, .inl (σ.2.2 65))),
  (g.2.1 79, .inr (12, [.long (σ.2.1 3), .ref (g.2.1 80), .ref (g.2.1 81), .int (σ.1 25), .int (σ.1 26), .int (σ.1 27), .int (σ.1 28), .int (σ.1 29), .int (σ.1 30), .int (σ.1 31), .ref (g.2.1 82), .ref (g.2.1 83), .ref (g.2.1 84), .ref (g.2.1 85), .int (σ.1 32), .ref (g.2.1 86), .ref (g.2.1 87), .int (σ.1 33), .int (σ.1 34), .ref (g.2.1 88), .int (σ.1 35), .int (σ.1 36), .int (σ.1 37), .ref (g.2.1 89), .ref (g.2.1 90), .ref (g.2.1 91), .ref (g.2.1 92), .ref (g.2.1 93), .ref (g.2.1 94), .ref (g.2.1 95), .int (σ.1 38), .ref (g.2.1 96), .ref (g.2.1 97), .ref (g.2.1 98), .ref (g.2.1 99), .ref (g.2.1 100), .ref (g.2.1 101), .int (σ.1 39), .ref (g.2.1 102), .ref (g.2.1 103), .int (σ.1 40), .ref (g.2.1 104), .ref (g.2.1 105), .ref (g.2.1 106), .ref (g.2.1 107)])),
  (g.2.1 80, .inl (g.2.2 66, 12, .inl (σ.2.2 66))),
  (g.2.1 81, .inl (g.2.2 67, 200, .inl (σ.2.2 67))),
  (g.2.1 82, .inl (g.2.2 68, 192, .inl (σ.2.2 68))),
  (g.2.1 83, .inl (g.2.2 69, 48, .inl (σ.2.2 69))),
  (g.2.1 84, .inl (g.2.2 70, 48, .inl (σ.2.2 70))),
  (g.2.1 85, .inl (g.2.2 71, 48, .inl (σ.2.2 71))),
  (g.2.1 86, .inl (g.2.2 72, 12, .inl (σ.2.2 72))),
  (g.2.1 87, .inl (g.2.2 73, 12, .inl (σ.2.2 73))),
  (g.2.1 88, .inl (g.2.2 74, 48, .inl (σ.2.2 74))),
  (g.2.1 89, .inl (g.2.2 75, 48, .inl (σ.2.2 75))),
  (g.2.1 90, .inl (g.2.2 76, 48, .inl (σ.2.2 76))),
  (g.2.1 91, .inl (g.2.2 77, 48, .inl (σ.2.2 77))),
  (g.2.1 92, .inl (g.2.2 78, 192, .inl (σ.2.2 78))),
  (g.2.1 93, .inl (g.2.2 79, 48, .inl (σ.2.2 79))),
  (g.2.1 94, .inl (g.2.2 80, 48, .inl (σ.2.2 80))),
  (g.2.1 95, .inl (g.2.2 81, 4, .inl (σ.2.2 81))),
  (g.2.1 96, .inl (g.2.2 82, 48, .inl (σ.2.2 82))),
  (g.2.1 97, .inl (g.2.2 83, 49, .inl (σ.2.2 83))),
  (g.2.1 98, .inl (g.2.2 84, 48, .inl (σ.2.2 84))),
  (g.2.1 99, .inl (g.2.2 85, 10, .inl (σ.2.2 85))),
  (g.2.1 100, .inl (g.2.2 86, 10, .inl (σ.2.2 86))),
  (g.2.1 101, .inl (g.2.2 87, 10, .inl (σ.2.2 87))),
  (g.2.1 102, .inl (g.2.2 88, 81, .inl (σ.2.2 88))),
  (g.2.1 103, .inl (g.2.2 89, 36, .inl (σ.2.2 89))),
  (g.2.1 104, .inl (g.2.2 90, 6, .inl (σ.2.2 90))),
  (g.2.1 105, .inl (g.2.2 91, 24, .inl (σ.2.2 91))),
  (g.2.1 106, .inl (g.2.2 92, 3072, .inl (σ.2.2 92))),
  (g.2.1 107, .inl (g.2.2 93, 54, .inl (σ.2.2 93)))]
def tysW (g : CX) : List (ClassId × FieldType) := [(g.2.2 0, .int), (g.2.2 1, .int), (g.2.2 2, .int), (g.2.2 3, .int), (g.2.2 4, .boolean), (g.2.2 5, .boolean), (g.2.2 6, .int), (g.2.2 7, (.array .int)), (g.2.2 8, .int), (g.2.2 9, .int), (g.2.2 10, .int), (g.2.2 11, .int), (g.2.2 12, .int), (g.2.2 13, .int), (g.2.2 14, .int), (g.2.2 15, .int), (g.2.2 16, .int), (g.2.2 17, .int), (g.2.2 18, .int), (g.2.2 19, .int), (g.2.2 20, (.array .int)), (g.2.2 21, .int), (g.2.2 22, .int), (g.2.2 23, .int), (g.2.2 24, .int), (g.2.2 25, .int), (g.2.2 26, .int), (g.2.2 27, .int), (g.2.2 28, .int), (g.2.2 29, .int), (g.2.2 30, (.array .int)), (g.2.2 31, .int), (g.2.2 32, .int), (g.2.2 33, .int), (g.2.2 34, .int), (g.2.2 35, .int), (g.2.2 36, .int), (g.2.2 37, .int), (g.2.2 38, .int), (g.2.2 39, .int), (g.2.2 40, .int), (g.2.2 41, .int), (g.2.2 42, .int), (g.2.2 43, .int), (g.2.2 44, .int), (g.2.2 45, .int), (g.2.2 46, .int), (g.2.2 47, .int), (g.2.2 48, .int), (g.2.2 49, .int), (g.2.2 50, .int), (g.2.2 51, .int), (g.2.2 52, .int), (g.2.2 53, .int), (g.2.2 54, (.array .int)), (g.2.2 55, .int), (g.2.2 56, .int), (g.2.2 57, .int), (g.2.2 58, .int), (g.2.2 59, .int), (g.2.2 60, .int), (g.2.2 61, .int), (g.2.2 62, .int), (g.2.2 63, .int), (g.2.2 64, .int), (g.2.2 65, .int), (g.2.2 66, .int), (g.2.2 67, .byte), (g.2.2 68, .int), (g.2.2 69, .boolean), (g.2.2 70, .boolean), (g.2.2 71, .int), (g.2.2 72, .int), (g.2.2 73, .int), (g.2.2 74, .int), (g.2.2 75, .int), (g.2.2 76, .int), (g.2.2 77, .int), (g.2.2 78, .int), (g.2.2 79, .int), (g.2.2 80, .boolean), (g.2.2 81, .int), (g.2.2 82, .int), (g.2.2 83, .int), (g.2.2 84, .int), (g.2.2 85, .int), (g.2.2 86, .int), (g.2.2 87, .int), (g.2.2 88, .int), (g.2.2 89, .int), (g.2.2 90, .int), (g.2.2 91, .int), (g.2.2 92, .int), (g.2.2 93, .int)]
def Aw (g : CX) : Nat → Prop := fun q => ∃ k, k < 108 ∧ q = g.2.1 k
def AD (g : CX) : Prop := ∀ i j, i < 108 → j < 108 → g.2.1 i = g.2.1 j → i = j
def nestF : List Cond := [.fieldLinkNest RX11 112 "VoiceHeaps$RuleText" "length" "I" "VoiceHeaps", .fieldLinkNest RX11 130 "VoiceHeaps$RowBook" "rows" "I" "VoiceHeaps", .fieldLinkNest RX11 148 "VoiceHeaps$WordBook" "words" "I" "VoiceHeaps", .fieldLinkNest RX11 154 "VoiceHeaps$Cutting" "pieces" "I" "VoiceHeaps", .fieldLinkNest RX11 157 "VoiceHeaps$Cutting" "stretches" "I" "VoiceHeaps", .fieldLinkNest RX11 160 "VoiceHeaps$Cutting" "total" "I" "VoiceHeaps", .fieldLinkNest RX11 163 "VoiceHeaps$Cutting" "heardRows" "I" "VoiceHeaps", .fieldLinkNest RX11 169 "VoiceHeaps$Cutting" "first" "[I" "VoiceHeaps", .fieldLinkNest RX11 172 "VoiceHeaps$Cutting" "size" "[I" "VoiceHeaps", .fieldLinkNest RX11 175 "VoiceHeaps$Cutting" "spread" "[I" "VoiceHeaps", .fieldLinkNest RX11 182 "VoiceHeaps$Cutting" "pieceOf" "[I" "VoiceHeaps", .fieldLinkNest RX11 198 "VoiceHeaps$Heaping" "heapOf" "[I" "VoiceHeaps", .fieldLinkNest RX11 201 "VoiceHeaps$Heaping" "value" "I" "VoiceHeaps", .fieldLinkNest RX11 204 "VoiceHeaps$Heaping" "heaps" "I" "VoiceHeaps", .fieldLinkNest RX11 210 "VoiceHeaps$AllHeapings" "nearOnes" "I" "VoiceHeaps", .fieldLinkNest RX11 213 "VoiceHeaps$AllHeapings" "fewest" "I" "VoiceHeaps", .fieldLinkNest RX11 216 "VoiceHeaps$AllHeapings" "most" "I" "VoiceHeaps", .fieldLinkNest RX11 228 "VoiceHeaps$AllHeapings" "best" "LVoiceHeaps$Heaping;" "VoiceHeaps", .fieldLinkNest RX11 249 "VoiceHeaps$KeptVoices" "names" "[I" "VoiceHeaps", .fieldLinkNest RX11 285 "VoiceHeaps$KeptVoices" "voices" "I" "VoiceHeaps", .fieldLinkNest RX11 298 "VoiceHeaps$Kinds" "asked" "J" "VoiceHeaps", .fieldLinkNest RX0 30 "VoiceHeaps$Heaping" "value" "I" "VoiceHeaps", .fieldLinkNest RX0 65 "VoiceHeaps$Bonds" "pieces" "I" "VoiceHeaps", .fieldLinkNest RX0 91 "VoiceHeaps$Heaping" "heaps" "I" "VoiceHeaps", .fieldLinkNest RX0 94 "VoiceHeaps$Heaping" "heapOf" "[I" "VoiceHeaps", .fieldLinkNest RX1 23 "VoiceHeaps$Cutting" "pieces" "I" "VoiceHeaps", .fieldLinkNest RX1 48 "VoiceHeaps$Heaping" "heapOf" "[I" "VoiceHeaps", .fieldLinkNest RX1 64 "VoiceHeaps$Heaping" "value" "I" "VoiceHeaps", .fieldLinkNest RX2 55 "VoiceHeaps$RowBook" "rows" "I" "VoiceHeaps", .fieldLinkNest RX2 82 "VoiceHeaps$Gathering" "spread" "I" "VoiceHeaps", .fieldLinkNest RX3 23 "VoiceHeaps$RowBook" "numbers" "[I" "VoiceHeaps", .fieldLinkNest RX4 36 "VoiceHeaps$RowBook" "rows" "I" "VoiceHeaps", .fieldLinkNest RX4 41 "VoiceHeaps$Cutting" "pieceOf" "[I" "VoiceHeaps", .fieldLinkNest RX4 58 "VoiceHeaps$Cutting" "middles" "[I" "VoiceHeaps", .fieldLinkNest RX5 35 "VoiceHeaps$Heaping" "middles" "[I" "VoiceHeaps", .fieldLinkNest RX5 40 "VoiceHeaps$Cutting" "pieces" "I" "VoiceHeaps", .fieldLinkNest RX5 60 "VoiceHeaps$Cutting" "middles" "[I" "VoiceHeaps", .fieldLinkNest RX6 39 "VoiceHeaps$Cutting" "size" "[I" "VoiceHeaps", .fieldLinkNest RX6 53 "VoiceHeaps$Cutting" "spread" "[I" "VoiceHeaps", .fieldLinkNest RX9 20 "VoiceHeaps$RowBook" "rows" "I" "VoiceHeaps", .fieldLinkNest RX9 26 "VoiceHeaps$RowBook" "truthOf" "[I" "VoiceHeaps", .fieldLinkNest RX9 29 "VoiceHeaps$Cutting" "pieceOf" "[I" "VoiceHeaps", .fieldLinkNest RX9 44 "VoiceHeaps$Heaping" "heaps" "I" "VoiceHeaps", .fieldLinkNest RX9 59 "VoiceHeaps$Heaping" "heapOf" "[I" "VoiceHeaps", .fieldLinkNest RX10 22 "VoiceHeaps$Cutting" "pieces" "I" "VoiceHeaps", .fieldLinkNest RX10 31 "VoiceHeaps$Cutting" "first" "[I" "VoiceHeaps", .fieldLinkNest RX10 40 "VoiceHeaps$Cutting" "size" "[I" "VoiceHeaps"]
def nestM : List Cond := [.methodLinkNest RX2 96 yX11_off "VoiceHeaps", .methodLinkNest RX4 59 yX11_off "VoiceHeaps", .methodLinkNest RX5 36 yX11_off "VoiceHeaps"]
/-- the six words -/
def txS (i : Nat) : String := cond (Nat.beq i 0) "price" (cond (Nat.beq i 1) "hush" (cond (Nat.beq i 2) "like" (cond (Nat.beq i 3) "near" (cond (Nat.beq i 4) "turn" "twice"))))
def STR (g : CX) (U : State) (H : Heap) : Prop := vk_S 6 lenS bytS (fun i => g.2.1 (210 + i)) (fun i => g.2.1 (220 + i)) (Aw g) U H ∧ va_Z "java/lang/String" "COMPACT_STRINGS" "Z" (.int 1) (Aw g) U H ∧ va_Zq "jdk/internal/util/Preconditions" "SIOOBE_FORMATTER" "Ljava/util/function/BiFunction;" (Aw g) U H
theorem STR.kept {g : CX} {U : State} {H H1 : Heap} (h : STR g U H) (hq : ∀ a : Nat, a < H.size → ¬ Aw g a → H1[a]? = H[a]?) : STR g U H1 := ⟨h.1.kept hq, h.2.1.kept hq, h.2.2.kept hq⟩
theorem STR.moved {g : CX} {u U : State} {H : Heap} (hvm : u.vm.Alike U.vm) (h : STR g u H) : STR g U H := ⟨h.1.moved hvm, h.2.1.moved hvm, h.2.2.moved hvm⟩
def NW (g : CX) (U : State) : Prop := (∀ w ∈ nestF, va_Nw w U) ∧ (∀ w ∈ nestM, va_Nw w U) ∧ (∀ i, i < 6 → vk_R RX8 (84 + 2 * i) (txS i) (g.2.1 (210 + i)) U)
theorem NW.warm {g : CX} {s U : State} (hW : s.WarmedH U.vm) (h : NW g s) : NW g U := by
  refine ⟨fun w hw => ?_, fun w hw => ?_, fun i hi => vk_R.warm hW (h.2.2 i hi)⟩
  · have h1 := h.1 w hw
    simp only [nestF, List.mem_cons, List.not_mem_nil, or_false] at hw
    rcases hw with rfl | rfl | rfl | rfl | rfl | rfl | rfl | rfl | rfl | rfl | rfl | rfl | rfl | rfl | rfl | rfl | rfl | rfl | rfl | rfl | rfl | rfl | rfl | rfl | rfl | rfl | rfl | rfl | rfl | rfl | rfl | rfl | rfl | rfl | rfl | rfl | rfl | rfl | rfl | rfl | rfl | rfl | rfl | rfl | rfl | rfl | rfl <;> exact va_Nw.warmF hW h1
  · have h1 := h.2.1 w hw
    simp only [nestM, List.mem_cons, List.not_mem_nil, or_false] at hw
    rcases hw with rfl | rfl | rfl <;> exact va_Nw.warmM hW h1
theorem NW.calling {g : CX} {U : State} {f : JFrame} {mk : MethodId} {a : Array Value} (h : NW g U) : NW g (U.calling f mk a) := by
  refine ⟨fun w hw => ?_, fun w hw => ?_, fun i hi => vk_R.same (u := U) rfl (h.2.2 i hi)⟩
  · have h1 := h.1 w hw
    simp only [nestF, List.mem_cons, List.not_mem_nil, or_false] at hw
    rcases hw with rfl | rfl | rfl | rfl | rfl | rfl | rfl | rfl | rfl | rfl | rfl | rfl | rfl | rfl | rfl | rfl | rfl | rfl | rfl | rfl | rfl | rfl | rfl | rfl | rfl | rfl | rfl | rfl | rfl | rfl | rfl | rfl | rfl | rfl | rfl | rfl | rfl | rfl | rfl | rfl | rfl | rfl | rfl | rfl | rfl | rfl | rfl <;> exact va_Nw.same rfl rfl h1
  · have h1 := h.2.1 w hw
    simp only [nestM, List.mem_cons, List.not_mem_nil, or_false] at hw
    rcases hw with rfl | rfl | rfl <;> exact va_Nw.same rfl rfl h1
/-- the two static tables of RuleText -/
def STA (g : CX) (U : State) (H : Heap) : Prop := va_Z "VoiceHeaps$RuleText" "AT_FIRST" "[I" (.ref (g.2.1 200)) (Aw g) U H ∧ va_T .int (g.2.1 200) 6 atFirst (Aw g) U H ∧ va_Z "VoiceHeaps$RuleText" "MOST" "[I" (.ref (g.2.1 201)) (Aw g) U H ∧ va_T .int (g.2.1 201) 6 atMost (Aw g) U H ∧ STR g U H
theorem STA.kept {g : CX} {U : State} {H H1 : Heap} (h : STA g U H) (hq : ∀ a : Nat, a < H.size → ¬ Aw g a → H1[a]? = H[a]?) : STA g U H1 := ⟨h.1.kept hq, h.2.1.kept hq, h.2.2.1.kept hq, h.2.2.2.1.kept hq, h.2.2.2.2.kept hq⟩
theorem STA.moved {g : CX} {u U : State} {H : Heap} (hvm : u.vm.Alike U.vm) (h : STA g u H) : STA g U H := ⟨h.1.moved hvm, h.2.1.moved hvm, h.2.2.1.moved hvm, h.2.2.2.1.moved hvm, h.2.2.2.2.moved hvm⟩
/-- what holds of every state from which a method starts: classes, nest links, statics, places apart -/
def GS (g : CX) (U : State) : Prop := va_K g.1 vwCl (tysW g) U ∧ NW g U ∧ AD g ∧ STA g U U.heap
/-- the world holds the state σ; since the entry nothing else was written -/
def HW (g : CX) (σ : ST) (s : State) (H : Heap) (locs : List Loc) : Prop := va_P g.1 vwCl (wW g σ) H ∧ va_S (Aw g) s.heap H locs
def XPre (g : CX) (av : List Value) (σ : ST) : Array Value → State → Prop := va_Pc av (fun U => va_P g.1 vwCl (wW g σ) U.heap ∧ GS g U)
def XB (g : CX) (σ : ST) (t : State) : Prop := va_P g.1 vwCl (wW g σ) t.heap
abbrev XQi (g : CX) (post : Int32 → ST → Prop) : Array Value → State → Outcome → State → Prop := va_Qi post (XB g) (Aw g)
abbrev XQl (g : CX) (post : Int64 → ST → Prop) : Array Value → State → Outcome → State → Prop := va_Ql post (XB g) (Aw g)
abbrev XQv (g : CX) (post : ST → Prop) : Array Value → State → Outcome → State → Prop := va_Qv post (XB g) (Aw g)
abbrev XQr (g : CX) (post : Nat → ST → Prop) : Array Value → State → Outcome → State → Prop := va_Qr (S := Nat × ST) (fun u => post u.1 u.2) (fun u a t => a = g.2.1 u.1 ∧ XB g u.2 t) (Aw g)
/-- a contract of a method that makes no cells -/
def XM (l : Launch) (g : CX) (y : MethodName) (ws : List Cond) (rm : Room) (av : List Value) (σ : ST) (Qc : Array Value → State → Outcome → State → Prop) : Prop := Met l y ws rm (XPre g av σ) Qc 0 0 (Aw g)
theorem GS.go {g : CX} {s U : State} {H : Heap} {locs : List Loc} (h : GS g s) (hS : va_S (Aw g) s.heap H locs) (hU : U.heap = H) (hW : s.WarmedH U.vm) : GS g U := by
  refine ⟨va_K.moved hW.alike h.1, NW.warm hW h.2.1, h.2.2.1, ?_⟩
  rw [hU]
  exact (h.2.2.2.kept hS.2.1).moved hW.alike
theorem XPre.blind {g : CX} {av : List Value} {σ : ST} : FrameBlind (XPre g av σ) := by
  intro a U f mk q
  obtain ⟨q1, q2, q3, q4, q5, q6⟩ := q
  exact ⟨q1, q2, va_K.moved (u := U) (U := U.calling f mk a) (Vm.Alike.refl U.vm) q3, q4.calling, q5, q6.moved (u := U) (U := U.calling f mk a) (Vm.Alike.refl U.vm)⟩
theorem wW_len (g : CX) (σ : ST) : (wW g σ).length = 108 := rfl
theorem wW_ad (g : CX) (σ : ST) : (wW g σ).map (fun q => q.1) = (List.range 108).map g.2.1 := rfl
theorem wW_D {g : CX} (h : AD g) (σ : ST) : va_D (Aw g) (wW g σ) := by
  have key : ∀ (i : Nat) (p : Nat × va_E), (wW g σ)[i]? = some p → i < 108 ∧ p.1 = g.2.1 i := by
    intro i p hp
    have hi : i < 108 := by
      have := (List.getElem?_eq_some_iff.mp hp).1
      rw [wW_len] at this
      exact this
    have h1 : ((wW g σ).map (fun q => q.1))[i]? = some p.1 := by rw [List.getElem?_map, hp]; rfl
    rw [wW_ad, List.getElem?_map, List.getElem?_range hi] at h1
    exact ⟨hi, (Option.some.inj h1).symm⟩
  refine ⟨fun i j p q hp hq e => ?_, fun k q hq => ?_⟩
  · obtain ⟨a1, a2⟩ := key i p hp
    obtain ⟨b1, b2⟩ := key j q hq
    exact h i j a1 b1 (by rw [← a2, ← b2]; exact e)
  · obtain ⟨a1, a2⟩ := key k q hq
    exact ⟨k, a1, a2⟩
/-- the array in cell k, of n places, is the state's array a -/
def IA (g : CX) (k n a : Nat) (ty : FieldType) : Prop := (∀ σ : ST, (wW g σ)[k]? = some (g.2.1 k, .inl (g.2.2 a, n, .inl (σ.2.2 a))) ∧ ∀ f : Nat → Int32, (wW g σ).set k (g.2.1 k, .inl (g.2.2 a, n, .inl f)) = wW g (sA σ a f)) ∧ (tysW g)[a]? = some (g.2.2 a, ty)
/-- field j of the object in cell k is the state's int i; its long; the cell k2 -/
def FI (g : CX) (k ci j i : Nat) : Prop := ∀ σ : ST, ∃ fs : List Value, (wW g σ)[k]? = some (g.2.1 k, .inr (ci, fs)) ∧ fs[j]? = some (.int (σ.1 i)) ∧ j < fs.length ∧ ∀ v : Int32, (wW g σ).set k (g.2.1 k, .inr (ci, fs.set j (.int v))) = wW g (sI σ i v)
def FL (g : CX) (k ci j i : Nat) : Prop := ∀ σ : ST, ∃ fs : List Value, (wW g σ)[k]? = some (g.2.1 k, .inr (ci, fs)) ∧ fs[j]? = some (.long (σ.2.1 i)) ∧ j < fs.length ∧ ∀ v : Int64, (wW g σ).set k (g.2.1 k, .inr (ci, fs.set j (.long v))) = wW g (sL σ i v)
def FR (g : CX) (k ci j k2 : Nat) : Prop := ∀ σ : ST, ∃ fs : List Value, (wW g σ)[k]? = some (g.2.1 k, .inr (ci, fs)) ∧ fs[j]? = some (.ref (g.2.1 k2))
def FG (g : CX) (k n a k0 : Nat) : Prop := (∀ σ : ST, (wW g σ)[k]? = some (g.2.1 k, .inl (g.2.2 a, n, .inr (.inr (.inr (.inr (wG g k0 n))))))) ∧ (tysW g)[a]? = some (g.2.2 a, .array .int)
def OC (g : CX) (k ci : Nat) : Prop := ∀ σ : ST, ∃ fs : List Value, (wW g σ)[k]? = some (g.2.1 k, .inr (ci, fs))
theorem ia_rt_bytes (g : CX) : IA g 2 200 0 .int := ⟨fun σ => ⟨rfl, fun f => rfl⟩, rfl⟩
theorem ia_rt_now (g : CX) : IA g 3 6 1 .int := ⟨fun σ => ⟨rfl, fun f => rfl⟩, rfl⟩
theorem ia_rt_told (g : CX) : IA g 4 6 2 .int := ⟨fun σ => ⟨rfl, fun f => rfl⟩, rfl⟩
theorem ia_bk_numbers (g : CX) : IA g 6 192 3 .int := ⟨fun σ => ⟨rfl, fun f => rfl⟩, rfl⟩
theorem ia_bk_isDeaf (g : CX) : IA g 7 48 4 .boolean := ⟨fun σ => ⟨rfl, fun f => rfl⟩, rfl⟩
theorem ia_bk_isOut (g : CX) : IA g 8 48 5 .boolean := ⟨fun σ => ⟨rfl, fun f => rfl⟩, rfl⟩
theorem ia_bk_truthOf (g : CX) : IA g 9 48 6 .int := ⟨fun σ => ⟨rfl, fun f => rfl⟩, rfl⟩
theorem ia_ga_sorted_0 (g : CX) : IA g 12 48 8 .int := ⟨fun σ => ⟨rfl, fun f => rfl⟩, rfl⟩
theorem ia_ga_sorted_1 (g : CX) : IA g 13 48 9 .int := ⟨fun σ => ⟨rfl, fun f => rfl⟩, rfl⟩
theorem ia_ga_sorted_2 (g : CX) : IA g 14 48 10 .int := ⟨fun σ => ⟨rfl, fun f => rfl⟩, rfl⟩
theorem ia_ga_sorted_3 (g : CX) : IA g 15 48 11 .int := ⟨fun σ => ⟨rfl, fun f => rfl⟩, rfl⟩
theorem ia_cu_first (g : CX) : IA g 17 48 12 .int := ⟨fun σ => ⟨rfl, fun f => rfl⟩, rfl⟩
theorem ia_cu_size (g : CX) : IA g 18 48 13 .int := ⟨fun σ => ⟨rfl, fun f => rfl⟩, rfl⟩
theorem ia_cu_spread (g : CX) : IA g 19 48 14 .int := ⟨fun σ => ⟨rfl, fun f => rfl⟩, rfl⟩
theorem ia_cu_middles (g : CX) : IA g 20 192 15 .int := ⟨fun σ => ⟨rfl, fun f => rfl⟩, rfl⟩
theorem ia_cu_stretchOf (g : CX) : IA g 21 48 16 .int := ⟨fun σ => ⟨rfl, fun f => rfl⟩, rfl⟩
theorem ia_cu_pieceOf (g : CX) : IA g 22 48 17 .int := ⟨fun σ => ⟨rfl, fun f => rfl⟩, rfl⟩
theorem ia_cu_cost (g : CX) : IA g 23 49 18 .int := ⟨fun σ => ⟨rfl, fun f => rfl⟩, rfl⟩
theorem ia_cu_most (g : CX) : IA g 24 48 19 .int := ⟨fun σ => ⟨rfl, fun f => rfl⟩, rfl⟩
theorem ia_bo_bond_0 (g : CX) : IA g 27 9 21 .int := ⟨fun σ => ⟨rfl, fun f => rfl⟩, rfl⟩
theorem ia_bo_bond_1 (g : CX) : IA g 28 9 22 .int := ⟨fun σ => ⟨rfl, fun f => rfl⟩, rfl⟩
theorem ia_bo_bond_2 (g : CX) : IA g 29 9 23 .int := ⟨fun σ => ⟨rfl, fun f => rfl⟩, rfl⟩
theorem ia_bo_bond_3 (g : CX) : IA g 30 9 24 .int := ⟨fun σ => ⟨rfl, fun f => rfl⟩, rfl⟩
theorem ia_bo_bond_4 (g : CX) : IA g 31 9 25 .int := ⟨fun σ => ⟨rfl, fun f => rfl⟩, rfl⟩
theorem ia_bo_bond_5 (g : CX) : IA g 32 9 26 .int := ⟨fun σ => ⟨rfl, fun f => rfl⟩, rfl⟩
theorem ia_bo_bond_6 (g : CX) : IA g 33 9 27 .int := ⟨fun σ => ⟨rfl, fun f => rfl⟩, rfl⟩
theorem ia_bo_bond_7 (g : CX) : IA g 34 9 28 .int := ⟨fun σ => ⟨rfl, fun f => rfl⟩, rfl⟩
theorem ia_bo_bond_8 (g : CX) : IA g 35 9 29 .int := ⟨fun σ => ⟨rfl, fun f => rfl⟩, rfl⟩
theorem ia_bo_link_0 (g : CX) : IA g 37 9 31 .int := ⟨fun σ => ⟨rfl, fun f => rfl⟩, rfl⟩
theorem ia_bo_link_1 (g : CX) : IA g 38 9 32 .int := ⟨fun σ => ⟨rfl, fun f => rfl⟩, rfl⟩
theorem ia_bo_link_2 (g : CX) : IA g 39 9 33 .int := ⟨fun σ => ⟨rfl, fun f => rfl⟩, rfl⟩
theorem ia_bo_link_3 (g : CX) : IA g 40 9 34 .int := ⟨fun σ => ⟨rfl, fun f => rfl⟩, rfl⟩
theorem ia_bo_link_4 (g : CX) : IA g 41 9 35 .int := ⟨fun σ => ⟨rfl, fun f => rfl⟩, rfl⟩
theorem ia_bo_link_5 (g : CX) : IA g 42 9 36 .int := ⟨fun σ => ⟨rfl, fun f => rfl⟩, rfl⟩
theorem ia_bo_link_6 (g : CX) : IA g 43 9 37 .int := ⟨fun σ => ⟨rfl, fun f => rfl⟩, rfl⟩
theorem ia_bo_link_7 (g : CX) : IA g 44 9 38 .int := ⟨fun σ => ⟨rfl, fun f => rfl⟩, rfl⟩
theorem ia_bo_link_8 (g : CX) : IA g 45 9 39 .int := ⟨fun σ => ⟨rfl, fun f => rfl⟩, rfl⟩
theorem ia_bo_gain (g : CX) : IA g 46 512 40 .int := ⟨fun σ => ⟨rfl, fun f => rfl⟩, rfl⟩
theorem ia_be_heapOf (g : CX) : IA g 49 9 41 .int := ⟨fun σ => ⟨rfl, fun f => rfl⟩, rfl⟩
theorem ia_be_renamed (g : CX) : IA g 50 9 42 .int := ⟨fun σ => ⟨rfl, fun f => rfl⟩, rfl⟩
theorem ia_be_middles (g : CX) : IA g 51 36 43 .int := ⟨fun σ => ⟨rfl, fun f => rfl⟩, rfl⟩
theorem ia_al_heapOf (g : CX) : IA g 52 9 44 .int := ⟨fun σ => ⟨rfl, fun f => rfl⟩, rfl⟩
theorem ia_al_members (g : CX) : IA g 53 9 45 .int := ⟨fun σ => ⟨rfl, fun f => rfl⟩, rfl⟩
theorem ia_jo_heapOf (g : CX) : IA g 55 9 46 .int := ⟨fun σ => ⟨rfl, fun f => rfl⟩, rfl⟩
theorem ia_jo_renamed (g : CX) : IA g 56 9 47 .int := ⟨fun σ => ⟨rfl, fun f => rfl⟩, rfl⟩
theorem ia_jo_middles (g : CX) : IA g 57 36 48 .int := ⟨fun σ => ⟨rfl, fun f => rfl⟩, rfl⟩
theorem ia_ke_names (g : CX) : IA g 59 6 49 .int := ⟨fun σ => ⟨rfl, fun f => rfl⟩, rfl⟩
theorem ia_ke_middles (g : CX) : IA g 60 24 50 .int := ⟨fun σ => ⟨rfl, fun f => rfl⟩, rfl⟩
theorem ia_ke_offs (g : CX) : IA g 61 512 51 .int := ⟨fun σ => ⟨rfl, fun f => rfl⟩, rfl⟩
theorem ia_wb_from (g : CX) : IA g 63 12 52 .int := ⟨fun σ => ⟨rfl, fun f => rfl⟩, rfl⟩
theorem ia_wb_to (g : CX) : IA g 64 12 53 .int := ⟨fun σ => ⟨rfl, fun f => rfl⟩, rfl⟩
theorem ia_ve_together_0 (g : CX) : IA g 67 5 55 .int := ⟨fun σ => ⟨rfl, fun f => rfl⟩, rfl⟩
theorem ia_ve_together_1 (g : CX) : IA g 68 5 56 .int := ⟨fun σ => ⟨rfl, fun f => rfl⟩, rfl⟩
theorem ia_ve_together_2 (g : CX) : IA g 69 5 57 .int := ⟨fun σ => ⟨rfl, fun f => rfl⟩, rfl⟩
theorem ia_ve_together_3 (g : CX) : IA g 70 5 58 .int := ⟨fun σ => ⟨rfl, fun f => rfl⟩, rfl⟩
theorem ia_ve_together_4 (g : CX) : IA g 71 5 59 .int := ⟨fun σ => ⟨rfl, fun f => rfl⟩, rfl⟩
theorem ia_ve_together_5 (g : CX) : IA g 72 5 60 .int := ⟨fun σ => ⟨rfl, fun f => rfl⟩, rfl⟩
theorem ia_ve_together_6 (g : CX) : IA g 73 5 61 .int := ⟨fun σ => ⟨rfl, fun f => rfl⟩, rfl⟩
theorem ia_ve_together_7 (g : CX) : IA g 74 5 62 .int := ⟨fun σ => ⟨rfl, fun f => rfl⟩, rfl⟩
theorem ia_ve_together_8 (g : CX) : IA g 75 5 63 .int := ⟨fun σ => ⟨rfl, fun f => rfl⟩, rfl⟩
theorem ia_ve_right (g : CX) : IA g 76 32 64 .int := ⟨fun σ => ⟨rfl, fun f => rfl⟩, rfl⟩
theorem ia_vh_shownHeap (g : CX) : IA g 78 48 65 .int := ⟨fun σ => ⟨rfl, fun f => rfl⟩, rfl⟩
theorem ia_mo_rule (g : CX) : IA g 80 12 66 .int := ⟨fun σ => ⟨rfl, fun f => rfl⟩, rfl⟩
theorem ia_mo_text (g : CX) : IA g 81 200 67 .byte := ⟨fun σ => ⟨rfl, fun f => rfl⟩, rfl⟩
theorem ia_mo_number (g : CX) : IA g 82 192 68 .int := ⟨fun σ => ⟨rfl, fun f => rfl⟩, rfl⟩
theorem ia_mo_isDeaf (g : CX) : IA g 83 48 69 .boolean := ⟨fun σ => ⟨rfl, fun f => rfl⟩, rfl⟩
theorem ia_mo_isOut (g : CX) : IA g 84 48 70 .boolean := ⟨fun σ => ⟨rfl, fun f => rfl⟩, rfl⟩
theorem ia_mo_truth (g : CX) : IA g 85 48 71 .int := ⟨fun σ => ⟨rfl, fun f => rfl⟩, rfl⟩
theorem ia_mo_wordFrom (g : CX) : IA g 86 12 72 .int := ⟨fun σ => ⟨rfl, fun f => rfl⟩, rfl⟩
theorem ia_mo_wordTo (g : CX) : IA g 87 12 73 .int := ⟨fun σ => ⟨rfl, fun f => rfl⟩, rfl⟩
theorem ia_mo_shownHeap (g : CX) : IA g 88 48 74 .int := ⟨fun σ => ⟨rfl, fun f => rfl⟩, rfl⟩
theorem ia_mo_first (g : CX) : IA g 89 48 75 .int := ⟨fun σ => ⟨rfl, fun f => rfl⟩, rfl⟩
theorem ia_mo_many (g : CX) : IA g 90 48 76 .int := ⟨fun σ => ⟨rfl, fun f => rfl⟩, rfl⟩
theorem ia_mo_pieceOf (g : CX) : IA g 91 48 77 .int := ⟨fun σ => ⟨rfl, fun f => rfl⟩, rfl⟩
theorem ia_mo_middle (g : CX) : IA g 92 192 78 .int := ⟨fun σ => ⟨rfl, fun f => rfl⟩, rfl⟩
theorem ia_mo_spread (g : CX) : IA g 93 48 79 .int := ⟨fun σ => ⟨rfl, fun f => rfl⟩, rfl⟩
theorem ia_mo_isAsked (g : CX) : IA g 94 48 80 .boolean := ⟨fun σ => ⟨rfl, fun f => rfl⟩, rfl⟩
theorem ia_mo_mid (g : CX) : IA g 95 4 81 .int := ⟨fun σ => ⟨rfl, fun f => rfl⟩, rfl⟩
theorem ia_mo_line (g : CX) : IA g 96 48 82 .int := ⟨fun σ => ⟨rfl, fun f => rfl⟩, rfl⟩
theorem ia_mo_least (g : CX) : IA g 97 49 83 .int := ⟨fun σ => ⟨rfl, fun f => rfl⟩, rfl⟩
theorem ia_mo_taken (g : CX) : IA g 98 48 84 .int := ⟨fun σ => ⟨rfl, fun f => rfl⟩, rfl⟩
theorem ia_mo_heap (g : CX) : IA g 99 10 85 .int := ⟨fun σ => ⟨rfl, fun f => rfl⟩, rfl⟩
theorem ia_mo_best (g : CX) : IA g 100 10 86 .int := ⟨fun σ => ⟨rfl, fun f => rfl⟩, rfl⟩
theorem ia_mo_joined (g : CX) : IA g 101 10 87 .int := ⟨fun σ => ⟨rfl, fun f => rfl⟩, rfl⟩
theorem ia_mo_gain (g : CX) : IA g 102 81 88 .int := ⟨fun σ => ⟨rfl, fun f => rfl⟩, rfl⟩
theorem ia_mo_heapMiddle (g : CX) : IA g 103 36 89 .int := ⟨fun σ => ⟨rfl, fun f => rfl⟩, rfl⟩
theorem ia_mo_name (g : CX) : IA g 104 6 90 .int := ⟨fun σ => ⟨rfl, fun f => rfl⟩, rfl⟩
theorem ia_mo_voice (g : CX) : IA g 105 24 91 .int := ⟨fun σ => ⟨rfl, fun f => rfl⟩, rfl⟩
theorem ia_mo_right (g : CX) : IA g 106 3072 92 .int := ⟨fun σ => ⟨rfl, fun f => rfl⟩, rfl⟩
theorem ia_mo_pairs (g : CX) : IA g 107 54 93 .int := ⟨fun σ => ⟨rfl, fun f => rfl⟩, rfl⟩
theorem fg_ga_sorted (g : CX) : FG g 11 4 7 12 := ⟨fun σ => rfl, rfl⟩
theorem fg_bo_bond (g : CX) : FG g 26 9 20 27 := ⟨fun σ => rfl, rfl⟩
theorem fg_bo_link (g : CX) : FG g 36 9 30 37 := ⟨fun σ => rfl, rfl⟩
theorem fg_ve_together (g : CX) : FG g 66 9 54 67 := ⟨fun σ => rfl, rfl⟩
theorem fr_rt_bytes (g : CX) : FR g 1 8 0 2 := fun σ => ⟨_, rfl, rfl⟩
theorem fr_rt_now (g : CX) : FR g 1 8 1 3 := fun σ => ⟨_, rfl, rfl⟩
theorem fr_rt_told (g : CX) : FR g 1 8 2 4 := fun σ => ⟨_, rfl, rfl⟩
theorem fi_rt_length (g : CX) : FI g 1 8 3 0 := fun σ => ⟨_, rfl, rfl, Nat.le_of_ble_eq_true rfl, fun v => rfl⟩
theorem fi_rt_at (g : CX) : FI g 1 8 4 1 := fun σ => ⟨_, rfl, rfl, Nat.le_of_ble_eq_true rfl, fun v => rfl⟩
theorem fr_vh_ruleText (g : CX) : FR g 0 11 0 1 := fun σ => ⟨_, rfl, rfl⟩
theorem fr_bk_numbers (g : CX) : FR g 5 7 0 6 := fun σ => ⟨_, rfl, rfl⟩
theorem fr_bk_isDeaf (g : CX) : FR g 5 7 1 7 := fun σ => ⟨_, rfl, rfl⟩
theorem fr_bk_isOut (g : CX) : FR g 5 7 2 8 := fun σ => ⟨_, rfl, rfl⟩
theorem fr_bk_truthOf (g : CX) : FR g 5 7 3 9 := fun σ => ⟨_, rfl, rfl⟩
theorem fi_bk_rows (g : CX) : FI g 5 7 4 2 := fun σ => ⟨_, rfl, rfl, Nat.le_of_ble_eq_true rfl, fun v => rfl⟩
theorem fr_vh_book (g : CX) : FR g 0 11 1 5 := fun σ => ⟨_, rfl, rfl⟩
theorem fr_ga_sorted (g : CX) : FR g 10 3 0 11 := fun σ => ⟨_, rfl, rfl⟩
theorem fi_ga_rows (g : CX) : FI g 10 3 1 3 := fun σ => ⟨_, rfl, rfl, Nat.le_of_ble_eq_true rfl, fun v => rfl⟩
theorem fi_ga_spread (g : CX) : FI g 10 3 2 4 := fun σ => ⟨_, rfl, rfl, Nat.le_of_ble_eq_true rfl, fun v => rfl⟩
theorem fr_vh_gathering (g : CX) : FR g 0 11 2 10 := fun σ => ⟨_, rfl, rfl⟩
theorem fr_cu_first (g : CX) : FR g 16 2 0 17 := fun σ => ⟨_, rfl, rfl⟩
theorem fr_cu_size (g : CX) : FR g 16 2 1 18 := fun σ => ⟨_, rfl, rfl⟩
theorem fr_cu_spread (g : CX) : FR g 16 2 2 19 := fun σ => ⟨_, rfl, rfl⟩
theorem fr_cu_middles (g : CX) : FR g 16 2 3 20 := fun σ => ⟨_, rfl, rfl⟩
theorem fr_cu_stretchOf (g : CX) : FR g 16 2 4 21 := fun σ => ⟨_, rfl, rfl⟩
theorem fr_cu_pieceOf (g : CX) : FR g 16 2 5 22 := fun σ => ⟨_, rfl, rfl⟩
theorem fr_cu_cost (g : CX) : FR g 16 2 6 23 := fun σ => ⟨_, rfl, rfl⟩
theorem fr_cu_most (g : CX) : FR g 16 2 7 24 := fun σ => ⟨_, rfl, rfl⟩
theorem fi_cu_pieces (g : CX) : FI g 16 2 8 5 := fun σ => ⟨_, rfl, rfl, Nat.le_of_ble_eq_true rfl, fun v => rfl⟩
theorem fi_cu_stretches (g : CX) : FI g 16 2 9 6 := fun σ => ⟨_, rfl, rfl, Nat.le_of_ble_eq_true rfl, fun v => rfl⟩
theorem fi_cu_total (g : CX) : FI g 16 2 10 7 := fun σ => ⟨_, rfl, rfl, Nat.le_of_ble_eq_true rfl, fun v => rfl⟩
theorem fi_cu_heardRows (g : CX) : FI g 16 2 11 8 := fun σ => ⟨_, rfl, rfl, Nat.le_of_ble_eq_true rfl, fun v => rfl⟩
theorem fr_vh_cutting (g : CX) : FR g 0 11 3 16 := fun σ => ⟨_, rfl, rfl⟩
theorem fr_bo_bond (g : CX) : FR g 25 1 0 26 := fun σ => ⟨_, rfl, rfl⟩
theorem fr_bo_link (g : CX) : FR g 25 1 1 36 := fun σ => ⟨_, rfl, rfl⟩
theorem fr_bo_gain (g : CX) : FR g 25 1 2 46 := fun σ => ⟨_, rfl, rfl⟩
theorem fi_bo_pieces (g : CX) : FI g 25 1 3 9 := fun σ => ⟨_, rfl, rfl, Nat.le_of_ble_eq_true rfl, fun v => rfl⟩
theorem fr_vh_bonds (g : CX) : FR g 0 11 4 25 := fun σ => ⟨_, rfl, rfl⟩
theorem fr_be_heapOf (g : CX) : FR g 48 4 0 49 := fun σ => ⟨_, rfl, rfl⟩
theorem fr_be_renamed (g : CX) : FR g 48 4 1 50 := fun σ => ⟨_, rfl, rfl⟩
theorem fr_be_middles (g : CX) : FR g 48 4 2 51 := fun σ => ⟨_, rfl, rfl⟩
theorem fi_be_heaps (g : CX) : FI g 48 4 3 10 := fun σ => ⟨_, rfl, rfl, Nat.le_of_ble_eq_true rfl, fun v => rfl⟩
theorem fi_be_value (g : CX) : FI g 48 4 4 11 := fun σ => ⟨_, rfl, rfl, Nat.le_of_ble_eq_true rfl, fun v => rfl⟩
theorem fr_al_best (g : CX) : FR g 47 0 0 48 := fun σ => ⟨_, rfl, rfl⟩
theorem fr_al_heapOf (g : CX) : FR g 47 0 1 52 := fun σ => ⟨_, rfl, rfl⟩
theorem fr_al_members (g : CX) : FR g 47 0 2 53 := fun σ => ⟨_, rfl, rfl⟩
theorem fi_al_isForNear (g : CX) : FI g 47 0 3 12 := fun σ => ⟨_, rfl, rfl, Nat.le_of_ble_eq_true rfl, fun v => rfl⟩
theorem fi_al_least (g : CX) : FI g 47 0 4 13 := fun σ => ⟨_, rfl, rfl, Nat.le_of_ble_eq_true rfl, fun v => rfl⟩
theorem fi_al_nearOnes (g : CX) : FI g 47 0 5 14 := fun σ => ⟨_, rfl, rfl, Nat.le_of_ble_eq_true rfl, fun v => rfl⟩
theorem fi_al_fewest (g : CX) : FI g 47 0 6 15 := fun σ => ⟨_, rfl, rfl, Nat.le_of_ble_eq_true rfl, fun v => rfl⟩
theorem fi_al_most (g : CX) : FI g 47 0 7 16 := fun σ => ⟨_, rfl, rfl, Nat.le_of_ble_eq_true rfl, fun v => rfl⟩
theorem fl_al_always (g : CX) : FL g 47 0 8 0 := fun σ => ⟨_, rfl, rfl, Nat.le_of_ble_eq_true rfl, fun v => rfl⟩
theorem fl_al_ever (g : CX) : FL g 47 0 9 1 := fun σ => ⟨_, rfl, rfl, Nat.le_of_ble_eq_true rfl, fun v => rfl⟩
theorem fr_vh_all (g : CX) : FR g 0 11 5 47 := fun σ => ⟨_, rfl, rfl⟩
theorem fr_jo_heapOf (g : CX) : FR g 54 4 0 55 := fun σ => ⟨_, rfl, rfl⟩
theorem fr_jo_renamed (g : CX) : FR g 54 4 1 56 := fun σ => ⟨_, rfl, rfl⟩
theorem fr_jo_middles (g : CX) : FR g 54 4 2 57 := fun σ => ⟨_, rfl, rfl⟩
theorem fi_jo_heaps (g : CX) : FI g 54 4 3 17 := fun σ => ⟨_, rfl, rfl, Nat.le_of_ble_eq_true rfl, fun v => rfl⟩
theorem fi_jo_value (g : CX) : FI g 54 4 4 18 := fun σ => ⟨_, rfl, rfl, Nat.le_of_ble_eq_true rfl, fun v => rfl⟩
theorem fr_vh_joined (g : CX) : FR g 0 11 6 54 := fun σ => ⟨_, rfl, rfl⟩
theorem fr_ke_names (g : CX) : FR g 58 5 0 59 := fun σ => ⟨_, rfl, rfl⟩
theorem fr_ke_middles (g : CX) : FR g 58 5 1 60 := fun σ => ⟨_, rfl, rfl⟩
theorem fr_ke_offs (g : CX) : FR g 58 5 2 61 := fun σ => ⟨_, rfl, rfl⟩
theorem fi_ke_voices (g : CX) : FI g 58 5 3 19 := fun σ => ⟨_, rfl, rfl, Nat.le_of_ble_eq_true rfl, fun v => rfl⟩
theorem fr_vh_kept (g : CX) : FR g 0 11 7 58 := fun σ => ⟨_, rfl, rfl⟩
theorem fr_wb_from (g : CX) : FR g 62 10 0 63 := fun σ => ⟨_, rfl, rfl⟩
theorem fr_wb_to (g : CX) : FR g 62 10 1 64 := fun σ => ⟨_, rfl, rfl⟩
theorem fi_wb_words (g : CX) : FI g 62 10 2 20 := fun σ => ⟨_, rfl, rfl, Nat.le_of_ble_eq_true rfl, fun v => rfl⟩
theorem fr_vh_wordBook (g : CX) : FR g 0 11 8 62 := fun σ => ⟨_, rfl, rfl⟩
theorem fr_ve_together (g : CX) : FR g 65 9 0 66 := fun σ => ⟨_, rfl, rfl⟩
theorem fr_ve_right (g : CX) : FR g 65 9 1 76 := fun σ => ⟨_, rfl, rfl⟩
theorem fr_vh_verdict (g : CX) : FR g 0 11 9 65 := fun σ => ⟨_, rfl, rfl⟩
theorem fl_ki_asked (g : CX) : FL g 77 6 0 2 := fun σ => ⟨_, rfl, rfl, Nat.le_of_ble_eq_true rfl, fun v => rfl⟩
theorem fr_vh_kinds (g : CX) : FR g 0 11 10 77 := fun σ => ⟨_, rfl, rfl⟩
theorem fr_vh_shownHeap (g : CX) : FR g 0 11 11 78 := fun σ => ⟨_, rfl, rfl⟩
theorem fi_vh_shownRows (g : CX) : FI g 0 11 12 21 := fun σ => ⟨_, rfl, rfl, Nat.le_of_ble_eq_true rfl, fun v => rfl⟩
theorem fi_vh_cutIsOld (g : CX) : FI g 0 11 13 22 := fun σ => ⟨_, rfl, rfl, Nat.le_of_ble_eq_true rfl, fun v => rfl⟩
theorem fi_vh_heapsAreOld (g : CX) : FI g 0 11 14 23 := fun σ => ⟨_, rfl, rfl, Nat.le_of_ble_eq_true rfl, fun v => rfl⟩
theorem fi_vh_nearIsOld (g : CX) : FI g 0 11 15 24 := fun σ => ⟨_, rfl, rfl, Nat.le_of_ble_eq_true rfl, fun v => rfl⟩
theorem fl_mo_trace (g : CX) : FL g 79 12 0 3 := fun σ => ⟨_, rfl, rfl, Nat.le_of_ble_eq_true rfl, fun v => rfl⟩
theorem fr_mo_rule (g : CX) : FR g 79 12 1 80 := fun σ => ⟨_, rfl, rfl⟩
theorem fr_mo_text (g : CX) : FR g 79 12 2 81 := fun σ => ⟨_, rfl, rfl⟩
theorem fi_mo_typed (g : CX) : FI g 79 12 3 25 := fun σ => ⟨_, rfl, rfl, Nat.le_of_ble_eq_true rfl, fun v => rfl⟩
theorem fi_mo_at (g : CX) : FI g 79 12 4 26 := fun σ => ⟨_, rfl, rfl, Nat.le_of_ble_eq_true rfl, fun v => rfl⟩
theorem fi_mo_start (g : CX) : FI g 79 12 5 27 := fun σ => ⟨_, rfl, rfl, Nat.le_of_ble_eq_true rfl, fun v => rfl⟩
theorem fi_mo_sort (g : CX) : FI g 79 12 6 28 := fun σ => ⟨_, rfl, rfl, Nat.le_of_ble_eq_true rfl, fun v => rfl⟩
theorem fi_mo_value (g : CX) : FI g 79 12 7 29 := fun σ => ⟨_, rfl, rfl, Nat.le_of_ble_eq_true rfl, fun v => rfl⟩
theorem fi_mo_fault (g : CX) : FI g 79 12 8 30 := fun σ => ⟨_, rfl, rfl, Nat.le_of_ble_eq_true rfl, fun v => rfl⟩
theorem fi_mo_rows (g : CX) : FI g 79 12 9 31 := fun σ => ⟨_, rfl, rfl, Nat.le_of_ble_eq_true rfl, fun v => rfl⟩
theorem fr_mo_number (g : CX) : FR g 79 12 10 82 := fun σ => ⟨_, rfl, rfl⟩
theorem fr_mo_isDeaf (g : CX) : FR g 79 12 11 83 := fun σ => ⟨_, rfl, rfl⟩
theorem fr_mo_isOut (g : CX) : FR g 79 12 12 84 := fun σ => ⟨_, rfl, rfl⟩
theorem fr_mo_truth (g : CX) : FR g 79 12 13 85 := fun σ => ⟨_, rfl, rfl⟩
theorem fi_mo_words (g : CX) : FI g 79 12 14 32 := fun σ => ⟨_, rfl, rfl, Nat.le_of_ble_eq_true rfl, fun v => rfl⟩
theorem fr_mo_wordFrom (g : CX) : FR g 79 12 15 86 := fun σ => ⟨_, rfl, rfl⟩
theorem fr_mo_wordTo (g : CX) : FR g 79 12 16 87 := fun σ => ⟨_, rfl, rfl⟩
theorem fi_mo_shown (g : CX) : FI g 79 12 17 33 := fun σ => ⟨_, rfl, rfl, Nat.le_of_ble_eq_true rfl, fun v => rfl⟩
theorem fi_mo_isShown (g : CX) : FI g 79 12 18 34 := fun σ => ⟨_, rfl, rfl, Nat.le_of_ble_eq_true rfl, fun v => rfl⟩
theorem fr_mo_shownHeap (g : CX) : FR g 79 12 19 88 := fun σ => ⟨_, rfl, rfl⟩
theorem fi_mo_pieces (g : CX) : FI g 79 12 20 35 := fun σ => ⟨_, rfl, rfl, Nat.le_of_ble_eq_true rfl, fun v => rfl⟩
theorem fi_mo_stretches (g : CX) : FI g 79 12 21 36 := fun σ => ⟨_, rfl, rfl, Nat.le_of_ble_eq_true rfl, fun v => rfl⟩
theorem fi_mo_price (g : CX) : FI g 79 12 22 37 := fun σ => ⟨_, rfl, rfl, Nat.le_of_ble_eq_true rfl, fun v => rfl⟩
theorem fr_mo_first (g : CX) : FR g 79 12 23 89 := fun σ => ⟨_, rfl, rfl⟩
theorem fr_mo_many (g : CX) : FR g 79 12 24 90 := fun σ => ⟨_, rfl, rfl⟩
theorem fr_mo_pieceOf (g : CX) : FR g 79 12 25 91 := fun σ => ⟨_, rfl, rfl⟩
theorem fr_mo_middle (g : CX) : FR g 79 12 26 92 := fun σ => ⟨_, rfl, rfl⟩
theorem fr_mo_spread (g : CX) : FR g 79 12 27 93 := fun σ => ⟨_, rfl, rfl⟩
theorem fr_mo_isAsked (g : CX) : FR g 79 12 28 94 := fun σ => ⟨_, rfl, rfl⟩
theorem fr_mo_mid (g : CX) : FR g 79 12 29 95 := fun σ => ⟨_, rfl, rfl⟩
theorem fi_mo_apart (g : CX) : FI g 79 12 30 38 := fun σ => ⟨_, rfl, rfl, Nat.le_of_ble_eq_true rfl, fun v => rfl⟩
theorem fr_mo_line (g : CX) : FR g 79 12 31 96 := fun σ => ⟨_, rfl, rfl⟩
theorem fr_mo_least (g : CX) : FR g 79 12 32 97 := fun σ => ⟨_, rfl, rfl⟩
theorem fr_mo_taken (g : CX) : FR g 79 12 33 98 := fun σ => ⟨_, rfl, rfl⟩
theorem fr_mo_heap (g : CX) : FR g 79 12 34 99 := fun σ => ⟨_, rfl, rfl⟩
theorem fr_mo_best (g : CX) : FR g 79 12 35 100 := fun σ => ⟨_, rfl, rfl⟩
theorem fr_mo_joined (g : CX) : FR g 79 12 36 101 := fun σ => ⟨_, rfl, rfl⟩
theorem fi_mo_bestWorth (g : CX) : FI g 79 12 37 39 := fun σ => ⟨_, rfl, rfl, Nat.le_of_ble_eq_true rfl, fun v => rfl⟩
theorem fr_mo_gain (g : CX) : FR g 79 12 38 102 := fun σ => ⟨_, rfl, rfl⟩
theorem fr_mo_heapMiddle (g : CX) : FR g 79 12 39 103 := fun σ => ⟨_, rfl, rfl⟩
theorem fi_mo_kept (g : CX) : FI g 79 12 40 40 := fun σ => ⟨_, rfl, rfl, Nat.le_of_ble_eq_true rfl, fun v => rfl⟩
theorem fr_mo_name (g : CX) : FR g 79 12 41 104 := fun σ => ⟨_, rfl, rfl⟩
theorem fr_mo_voice (g : CX) : FR g 79 12 42 105 := fun σ => ⟨_, rfl, rfl⟩
theorem fr_mo_right (g : CX) : FR g 79 12 43 106 := fun σ => ⟨_, rfl, rfl⟩
theorem fr_mo_pairs (g : CX) : FR g 79 12 44 107 := fun σ => ⟨_, rfl, rfl⟩
theorem oc_vh (g : CX) : OC g 0 11 := fun σ => ⟨_, rfl⟩
theorem oc_rt (g : CX) : OC g 1 8 := fun σ => ⟨_, rfl⟩
theorem oc_bk (g : CX) : OC g 5 7 := fun σ => ⟨_, rfl⟩
theorem oc_ga (g : CX) : OC g 10 3 := fun σ => ⟨_, rfl⟩
theorem oc_cu (g : CX) : OC g 16 2 := fun σ => ⟨_, rfl⟩
theorem oc_bo (g : CX) : OC g 25 1 := fun σ => ⟨_, rfl⟩
theorem oc_al (g : CX) : OC g 47 0 := fun σ => ⟨_, rfl⟩
theorem oc_be (g : CX) : OC g 48 4 := fun σ => ⟨_, rfl⟩
theorem oc_jo (g : CX) : OC g 54 4 := fun σ => ⟨_, rfl⟩
theorem oc_ke (g : CX) : OC g 58 5 := fun σ => ⟨_, rfl⟩
theorem oc_wb (g : CX) : OC g 62 10 := fun σ => ⟨_, rfl⟩
theorem oc_ve (g : CX) : OC g 65 9 := fun σ => ⟨_, rfl⟩
theorem oc_ki (g : CX) : OC g 77 6 := fun σ => ⟨_, rfl⟩
theorem oc_mo (g : CX) : OC g 79 12 := fun σ => ⟨_, rfl⟩
