/-- a text that omega passes over -/
def Hd (p : Prop) : Prop := p
theorem Hd.un {p : Prop} (h : Hd p) : p := h
