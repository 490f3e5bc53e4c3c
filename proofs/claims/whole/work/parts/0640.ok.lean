theorem am_kl7 : (List.range 120).all (fun k => am_okA 299 (840 + k)) = true := by decide +kernel
