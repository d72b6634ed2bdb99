/-! what a call of the class answers, as whole's law has it: thrown as a number, the answer in a cell of its own -/
def Wp_L_node (x1 : Int32) (μ : Mm) (q : Int32 → Mm → Prop) : Prop :=
  Wp_X7_node x1 μ (fun z μ2 => q (0 : Int32) (up2 μ2 p_OUT 0 z)) (fun E μx => (E = "java/lang/IllegalArgumentException" ∧ q (1 : Int32) μx) ∨ (E = "java/lang/IllegalStateException" ∧ q (2 : Int32) μx))
def Wp_L_link (x1 : Int32) (x2 : Int32) (x3 : Int32) (μ : Mm) (q : Int32 → Mm → Prop) : Prop :=
  Wp_X7_link x1 x2 x3 μ (fun z μ2 => q (0 : Int32) (up2 μ2 p_OUT 0 z)) (fun E μx => (E = "java/lang/IndexOutOfBoundsException" ∧ q (1 : Int32) μx) ∨ (E = "java/lang/IllegalArgumentException" ∧ q (2 : Int32) μx) ∨ (E = "java/lang/IllegalStateException" ∧ q (3 : Int32) μx))
def Wp_L_fail (x1 : Int32) (x2 : Int32) (μ : Mm) (q : Int32 → Mm → Prop) : Prop :=
  Wp_X7_fail x1 x2 μ (fun z μ2 => q (0 : Int32) (up2 μ2 p_OUT 0 z)) (fun E μx => (E = "java/lang/IndexOutOfBoundsException" ∧ q (1 : Int32) μx))
def Wp_L_part (x1 : Int32) (x2 : Int32) (μ : Mm) (q : Int32 → Mm → Prop) : Prop :=
  Wp_X7_part x1 x2 μ (fun z μ2 => q (0 : Int32) (up2 μ2 p_OUT 0 z)) (fun E μx => (E = "java/lang/IllegalArgumentException" ∧ q (1 : Int32) μx) ∨ (E = "java/lang/IllegalStateException" ∧ q (2 : Int32) μx))
def Wp_L_line (x1 : Int32) (x2 : Int32) (x3 : Int32) (μ : Mm) (q : Int32 → Mm → Prop) : Prop :=
  Wp_X7_line x1 x2 x3 μ (fun z μ2 => q (0 : Int32) (up2 μ2 p_OUT 0 z)) (fun E μx => (E = "java/lang/IndexOutOfBoundsException" ∧ q (1 : Int32) μx) ∨ (E = "java/lang/IllegalArgumentException" ∧ q (2 : Int32) μx) ∨ (E = "java/lang/IllegalStateException" ∧ q (3 : Int32) μx))
def Wp_L_place (x1 : Int32) (x2 : Int32) (μ : Mm) (q : Int32 → Mm → Prop) : Prop :=
  Wp_X7_place x1 x2 μ (fun z μ2 => q (0 : Int32) (up2 μ2 p_OUT 0 z)) (fun E μx => (E = "java/lang/IllegalArgumentException" ∧ q (1 : Int32) μx) ∨ (E = "java/lang/IllegalStateException" ∧ q (2 : Int32) μx))
def Wp_L_end (x1 : Int32) (μ : Mm) (q : Int32 → Mm → Prop) : Prop :=
  Wp_X7_end x1 μ (fun μ2 => q (0 : Int32) μ2) (fun E μx => (E = "java/lang/IndexOutOfBoundsException" ∧ q (1 : Int32) μx) ∨ (E = "java/lang/IllegalStateException" ∧ q (2 : Int32) μx))
def Wp_L_move (x1 : Int32) (x2 : Int32) (x3 : Int32) (μ : Mm) (q : Int32 → Mm → Prop) : Prop :=
  Wp_X7_move x1 x2 x3 μ (fun z μ2 => q (0 : Int32) (up2 μ2 p_OUT 0 z)) (fun E μx => (E = "java/lang/IndexOutOfBoundsException" ∧ q (1 : Int32) μx) ∨ (E = "java/lang/IllegalArgumentException" ∧ q (2 : Int32) μx) ∨ (E = "java/lang/IllegalStateException" ∧ q (3 : Int32) μx))
def Wp_L_pass (x1 : Int32) (μ : Mm) (q : Int32 → Mm → Prop) : Prop :=
  Wp_X7_pass x1 μ (fun z μ2 => q (0 : Int32) (up2 μ2 p_OUT 0 z)) (fun E μx => (E = "java/lang/IllegalArgumentException" ∧ q (1 : Int32) μx))
def Wp_L_ofNode (x1 : Int32) (x2 : Int32) (μ : Mm) (q : Int32 → Mm → Prop) : Prop :=
  Wp_X7_ofNode x1 x2 μ (fun z μ2 => q (0 : Int32) (up2 μ2 p_OUT 0 z)) (fun E μx => (E = "java/lang/IndexOutOfBoundsException" ∧ q (1 : Int32) μx) ∨ (E = "java/lang/IllegalArgumentException" ∧ q (2 : Int32) μx))
def Wp_L_ofLink (x1 : Int32) (x2 : Int32) (μ : Mm) (q : Int32 → Mm → Prop) : Prop :=
  Wp_X7_ofLink x1 x2 μ (fun z μ2 => q (0 : Int32) (up2 μ2 p_OUT 0 z)) (fun E μx => (E = "java/lang/IndexOutOfBoundsException" ∧ q (1 : Int32) μx) ∨ (E = "java/lang/IllegalArgumentException" ∧ q (2 : Int32) μx))
def Wp_L_load (x1 : Int32) (x2 : Int32) (μ : Mm) (q : Int32 → Mm → Prop) : Prop :=
  Wp_X7_load x1 x2 μ (fun z μ2 => q (0 : Int32) (up2 μ2 p_OUT 0 z)) (fun E μx => (E = "java/lang/IndexOutOfBoundsException" ∧ q (1 : Int32) μx) ∨ (E = "java/lang/IllegalArgumentException" ∧ q (2 : Int32) μx))
def Wp_L_told (x1 : Int32) (x2 : Int32) (μ : Mm) (q : Int32 → Mm → Prop) : Prop :=
  Wp_X7_told x1 x2 μ (fun z μ2 => q (0 : Int32) (up2 μ2 p_OUT 0 z)) (fun E μx => (E = "java/lang/IndexOutOfBoundsException" ∧ q (1 : Int32) μx) ∨ (E = "java/lang/IllegalArgumentException" ∧ q (2 : Int32) μx))
def Wp_L_at (x1 : Int32) (x2 : Int32) (μ : Mm) (q : Int32 → Mm → Prop) : Prop :=
  Wp_X7_at x1 x2 μ (fun z μ2 => q (0 : Int32) (up2 μ2 p_OUT 0 z)) (fun E μx => (E = "java/lang/IndexOutOfBoundsException" ∧ q (1 : Int32) μx))
def Wp_L_way (x1 : Int32) (x2 : Int32) (x3 : Int32) (μ : Mm) (q : Int32 → Mm → Prop) : Prop :=
  Wp_X7_way x1 x2 x3 μ (fun z μ2 => q (0 : Int32) (up2 μ2 p_OUT 0 z)) (fun E μx => (E = "java/lang/IndexOutOfBoundsException" ∧ q (1 : Int32) μx) ∨ (E = "java/lang/IllegalArgumentException" ∧ q (2 : Int32) μx))
