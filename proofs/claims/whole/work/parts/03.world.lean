/-! the world: numbered cells; an int at each (cell, place) -/
abbrev Mm : Type := Nat → Nat → Int32
def up2 (μ : Mm) (c k : Nat) (v : Int32) : Mm := fun c2 => if c2 = c then upd (μ c) k v else μ c2
/-- a cell: an array (type, length); an array of references (type, which cells); an object (class, fields: none an int, some a reference) -/
abbrev LE : Type := (Nat × Nat) ⊕ ((Nat × List (Option Nat)) ⊕ (Nat × List (Option Nat)))
def lays : List LE := [
  .inr (.inr (7, [some 1, some 2, some 3, some 4, some 5, some 59, none, none])),
  .inr (.inr (2, [some 7, some 8, some 9, some 10, some 57, some 11, none, none, none])),
  .inr (.inr (0, [some 1, some 12, some 13, some 14, some 15, some 58])),
  .inr (.inr (6, [some 1, some 2, some 52, some 16, some 17, some 18, some 19, none, none])),
  .inr (.inr (4, [some 1, some 2, some 3, some 54])),
  .inr (.inr (3, [some 1, some 2, some 20, none])),
  .inr (.inr (8, [none, none, some 21, none, some 22, some 23, some 24, some 25, none, some 26, some 27, some 28, some 29, some 30, some 31, some 32, some 33, some 34, some 35, some 36, some 37, some 38, some 39, some 40, some 41, some 42, some 43, some 44, some 45, some 46, some 47, some 48, some 49, some 50, some 51, none])),
  .inl (0, 6),
  .inl (0, 9),
  .inl (0, 9),
  .inl (0, 9),
  .inl (0, 36),
  .inl (0, 6),
  .inl (0, 6),
  .inl (0, 9),
  .inl (0, 9),
  .inl (0, 3),
  .inl (0, 4),
  .inl (0, 3),
  .inl (0, 3),
  .inl (0, 3),
  .inl (0, 6),
  .inl (0, 9),
  .inl (0, 9),
  .inl (0, 9),
  .inl (1, 9),
  .inl (0, 13),
  .inl (0, 13),
  .inl (0, 39),
  .inl (0, 39),
  .inl (0, 39),
  .inl (0, 39),
  .inl (0, 39),
  .inl (0, 39),
  .inl (0, 39),
  .inl (0, 39),
  .inl (0, 39),
  .inl (0, 39),
  .inl (1, 13),
  .inl (0, 13),
  .inl (0, 13),
  .inl (0, 6),
  .inl (0, 9),
  .inl (0, 192),
  .inl (0, 3),
  .inl (0, 7),
  .inl (0, 7),
  .inl (0, 7),
  .inl (0, 3),
  .inl (0, 3),
  .inl (0, 3),
  .inl (0, 3),
  .inr (.inr (1, [some 1, some 2, some 53])),
  .inl (0, 3),
  .inr (.inr (1, [some 1, some 2, some 55])),
  .inl (0, 3),
  .inl (2, 1),
  .inr (.inl (3, [some 60, some 61, some 62, some 63, some 64, some 65, some 66, some 67, some 68, some 69, some 70, some 71, some 72, some 73, some 74, some 75, some 76, some 77, some 78, some 79, some 80, some 81, some 82, some 83, some 84, some 85, some 86, some 87, some 88, some 89, some 90, some 91, some 92, some 93, some 94, some 95])),
  .inr (.inl (3, [some 96, some 97, some 98, some 99, some 100, some 101, some 102, some 103, some 104])),
  .inr (.inl (4, [some 105, some 116, some 127, some 138, some 149, some 160, some 171, some 182, some 193, some 204, some 215, some 226, some 237])),
  .inl (0, 15),
  .inl (0, 15),
  .inl (0, 15),
  .inl (0, 15),
  .inl (0, 15),
  .inl (0, 15),
  .inl (0, 15),
  .inl (0, 15),
  .inl (0, 15),
  .inl (0, 15),
  .inl (0, 15),
  .inl (0, 15),
  .inl (0, 15),
  .inl (0, 15),
  .inl (0, 15),
  .inl (0, 15),
  .inl (0, 15),
  .inl (0, 15),
  .inl (0, 15),
  .inl (0, 15),
  .inl (0, 15),
  .inl (0, 15),
  .inl (0, 15),
  .inl (0, 15),
  .inl (0, 15),
  .inl (0, 15),
  .inl (0, 15),
  .inl (0, 15),
  .inl (0, 15),
  .inl (0, 15),
  .inl (0, 15),
  .inl (0, 15),
  .inl (0, 15),
  .inl (0, 15),
  .inl (0, 15),
  .inl (0, 15),
  .inl (0, 9),
  .inl (0, 9),
  .inl (0, 9),
  .inl (0, 9),
  .inl (0, 9),
  .inl (0, 9),
  .inl (0, 9),
  .inl (0, 9),
  .inl (0, 9),
  .inr (.inr (5, [some 106, some 107, some 108, some 109, some 110, some 111, some 112, some 113, some 114, some 115, none, none, none, none, none])),
  .inl (0, 3),
  .inl (0, 3),
  .inl (0, 3),
  .inl (0, 3),
  .inl (0, 3),
  .inl (0, 3),
  .inl (0, 3),
  .inl (0, 3),
  .inl (0, 3),
  .inl (0, 3),
  .inr (.inr (5, [some 117, some 118, some 119, some 120, some 121, some 122, some 123, some 124, some 125, some 126, none, none, none, none, none])),
  .inl (0, 3),
  .inl (0, 3),
  .inl (0, 3),
  .inl (0, 3),
  .inl (0, 3),
  .inl (0, 3),
  .inl (0, 3),
  .inl (0, 3),
  .inl (0, 3),
  .inl (0, 3),
  .inr (.inr (5, [some 128, some 129, some 130, some 131, some 132, some 133, some 134, some 135, some 136, some 137, none, none, none, none, none])),
  .inl (0, 3),
  .inl (0, 3),
  .inl (0, 3),
  .inl (0, 3),
  .inl (0, 3),
  .inl (0, 3),
  .inl (0, 3),
  .inl (0, 3),
  .inl (0, 3),
  .inl (0, 3),
  .inr (.inr (5, [some 139, some 140, some 141, some 142, some 143, some 144, some 145, some 146, some 147, some 148, none, none, none, none, none])),
  .inl (0, 3),
  .inl (0, 3),
  .inl (0, 3),
  .inl (0, 3),
  .inl (0, 3),
  .inl (0, 3),
  .inl (0, 3),
  .inl (0, 3),
  .inl (0, 3),
  .inl (0, 3),
  .inr (.inr (5, [some 150, some 151, some 152, some 153, some 154, some 155, some 156, some 157, some 158, some 159, none, none, none, none, none])),
  .inl (0, 3),
  .inl (0, 3),
  .inl (0, 3),
  .inl (0, 3),
  .inl (0, 3),
  .inl (0, 3),
  .inl (0, 3),
  .inl (0, 3),
  .inl (0, 3),
  .inl (0, 3),
  .inr (.inr (5, [some 161, some 162, some 163, some 164, some 165, some 166, some 167, some 168, some 169, some 170, none, none, none, none, none])),
  .inl (0, 3),
  .inl (0, 3),
  .inl (0, 3),
  .inl (0, 3),
  .inl (0, 3),
  .inl (0, 3),
  .inl (0, 3),
  .inl (0, 3),
  .inl (0, 3),
  .inl (0, 3),
  .inr (.inr (5, [some 172, some 173, some 174, some 175, some 176, some 177, some 178, some 179, some 180, some 181, none, none, none, none, none])),
  .inl (0, 3),
  .inl (0, 3),
  .inl (0, 3),
  .inl (0, 3),
  .inl (0, 3),
  .inl (0, 3),
  .inl (0, 3),
  .inl (0, 3),
  .inl (0, 3),
  .inl (0, 3),
  .inr (.inr (5, [some 183, some 184, some 185, some 186, some 187, some 188, some 189, some 190, some 191, some 192, none, none, none, none, none])),
  .inl (0, 3),
  .inl (0, 3),
  .inl (0, 3),
  .inl (0, 3),
  .inl (0, 3),
  .inl (0, 3),
  .inl (0, 3),
  .inl (0, 3),
  .inl (0, 3),
  .inl (0, 3),
  .inr (.inr (5, [some 194, some 195, some 196, some 197, some 198, some 199, some 200, some 201, some 202, some 203, none, none, none, none, none])),
  .inl (0, 3),
  .inl (0, 3),
  .inl (0, 3),
  .inl (0, 3),
  .inl (0, 3),
  .inl (0, 3),
  .inl (0, 3),
  .inl (0, 3),
  .inl (0, 3),
  .inl (0, 3),
  .inr (.inr (5, [some 205, some 206, some 207, some 208, some 209, some 210, some 211, some 212, some 213, some 214, none, none, none, none, none])),
  .inl (0, 3),
  .inl (0, 3),
  .inl (0, 3),
  .inl (0, 3),
  .inl (0, 3),
  .inl (0, 3),
  .inl (0, 3),
  .inl (0, 3),
  .inl (0, 3),
  .inl (0, 3),
  .inr (.inr (5, [some 216, some 217, some 218, some 219, some 220, some 221, some 222, some 223, some 224, some 225, none, none, none, none, none])),
  .inl (0, 3),
  .inl (0, 3),
  .inl (0, 3),
  .inl (0, 3),
  .inl (0, 3),
  .inl (0, 3),
  .inl (0, 3),
  .inl (0, 3),
  .inl (0, 3),
  .inl (0, 3),
  .inr (.inr (5, [some 227, some 228, some 229, some 230, some 231, some 232, some 233, some 234, some 235, some 236, none, none, none, none, none])),
  .inl (0, 3),
  .inl (0, 3),
  .inl (0, 3),
  .inl (0, 3),
  .inl (0, 3),
  .inl (0, 3),
  .inl (0, 3),
  .inl (0, 3),
  .inl (0, 3),
  .inl (0, 3),
  .inr (.inr (5, [some 238, some 239, some 240, some 241, some 242, some 243, some 244, some 245, some 246, some 247, none, none, none, none, none])),
  .inl (0, 3),
  .inl (0, 3),
  .inl (0, 3),
  .inl (0, 3),
  .inl (0, 3),
  .inl (0, 3),
  .inl (0, 3),
  .inl (0, 3),
  .inl (0, 3),
  .inl (0, 3)]
abbrev p_ML : Nat := 0
abbrev p_GR : Nat := 1
abbrev p_BK : Nat := 2
abbrev p_SE : Nat := 3
abbrev p_PL : Nat := 4
abbrev p_MV : Nat := 5
abbrev p_MO : Nat := 6
abbrev p_GR_nodeRooms : Nat := 7
abbrev p_GR_linkRooms : Nat := 8
abbrev p_GR_linkStarts : Nat := 9
abbrev p_GR_linkEnds : Nat := 10
abbrev p_GR_wayCounts : Nat := 11
abbrev p_BK_nodeNeeds : Nat := 12
abbrev p_BK_nodeParts : Nat := 13
abbrev p_BK_linkNeeds : Nat := 14
abbrev p_BK_reserved : Nat := 15
abbrev p_SE_tried : Nat := 16
abbrev p_SE_floors : Nat := 17
abbrev p_SE_leastPlaces : Nat := 18
abbrev p_SE_leastWays : Nat := 19
abbrev p_MV_waysBefore : Nat := 20
abbrev p_MO_nodeRoom : Nat := 21
abbrev p_MO_one : Nat := 22
abbrev p_MO_other : Nat := 23
abbrev p_MO_linkRoom : Nat := 24
abbrev p_MO_hasFailed : Nat := 25
abbrev p_MO_parts : Nat := 26
abbrev p_MO_lines : Nat := 27
abbrev p_MO_partNeed : Nat := 28
abbrev p_MO_partSet : Nat := 29
abbrev p_MO_at : Nat := 30
abbrev p_MO_lineFrom : Nat := 31
abbrev p_MO_lineTo : Nat := 32
abbrev p_MO_lineNeed : Nat := 33
abbrev p_MO_amount : Nat := 34
abbrev p_MO_way : Nat := 35
abbrev p_MO_rest : Nat := 36
abbrev p_MO_second : Nat := 37
abbrev p_MO_hasEnded : Nat := 38
abbrev p_MO_manner : Nat := 39
abbrev p_MO_time : Nat := 40
abbrev p_MO_left : Nat := 41
abbrev p_MO_free : Nat := 42
abbrev p_MO_found : Nat := 43
abbrev p_MO_many : Nat := 44
abbrev p_MO_spot : Nat := 45
abbrev p_MO_next : Nat := 46
abbrev p_MO_gone : Nat := 47
abbrev p_MO_tries : Nat := 48
abbrev p_MO_bestAt : Nat := 49
abbrev p_MO_bestWay : Nat := 50
abbrev p_MO_oldWay : Nat := 51
abbrev p_CS : Nat := 52
abbrev p_CS_fitting : Nat := 53
abbrev p_CP : Nat := 54
abbrev p_CP_fitting : Nat := 55
abbrev p_OUT : Nat := 56
abbrev p_GR_ways : Nat := 57
abbrev p_BK_behind : Nat := 58
abbrev p_ML_requests : Nat := 59
abbrev p_WY : Nat := 60
abbrev p_BH : Nat := 96
abbrev p_RQ : Nat := 105
