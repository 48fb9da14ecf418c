/** Promises 4 and 5: FAULTS 6 and 7, of NAMES and TYPES, in the order in which they come. */
final class TypesTest {
    private static final String ID = "id (x : 'a) : 'a = x; ";
    private static final String TWO = "two (x : 'a) (y : 'b) : 'b * 'a = (y, x); ";
    private static final String SAME = "same (x : 'a) (y : 'a) : 'a = y; ";

    private final Check check = new Check();

    public static void main(String[] args) {
        TypesTest test = new TypesTest();
        test.names();
        test.plainExprs();
        test.functions();
        test.callsOfDefs();
        test.fits();
        test.ownLetters();
        test.places();
        test.order();
        test.greatTypes();
        test.manyTypes();
        test.check.end();
    }

    private void names() {
        check.faultAt("x : long = @y;", 6);
        check.faultAt("x : long = let y = @y in y;", 6);
        check.faultAt("x : long = (let y = 1 in y) + @y;", 6);
        check.faultAt("x : long = (fn (y : long) -> y) @y;", 6);
        check.faultAt("x (y : long) : long = y; z : long = @y;", 6);
        check.faultAt("x : long = @y 1;", 6);
        check.faultAt("x : long = @y z;", 6);
        check.faultAt("x : long = fst @y;", 6);
        check.compiled("x : long = y; y : long = x;", 2);
        check.compiled("x (y : long) : long = y; y : double = #1;", 2);
        check.faultAt("@x (y : long) : double = y; y : double = #1;", 7);
        check.compiled("x : double = let x = #1 in x;", 1);
        check.compiled("x : long = let y = 1 in let y = (y, #2) in fst y;", 1);
        check.compiled("x : double = let y = 1 in (let y = #1 in fn (z : long) -> y) y;", 1);
        check.compiled("x (x : long -> long) : long = x 1;", 1);
    }

    private void plainExprs() {
        check.faultAt("@x : double = 1;", 7);
        check.faultAt("@x : long = #1;", 7);
        check.faultAt("x : long = 1 @+ #1;", 7);
        check.faultAt("x : long = #1 @- 1;", 7);
        check.faultAt("x : long = #1 @< #1;", 7);
        check.faultAt("x : long = 1 + 2 @+ (3, 4) + 5;", 7);
        check.faultAt("x : long = @if #1 then 1 else 1;", 7);
        check.faultAt("x : long = @if 1 then 1 else #1;", 7);
        check.faultAt("x : long = @if (1, 1) then 1 else 1;", 7);
        check.faultAt("@x : long = if 1 then #1 else #1;", 7);
        check.compiled("x : double = if 1 < 2 then #1 else #2;", 1);
        check.faultAt("x : long = @fst 1;", 7);
        check.faultAt("x : long = @snd (fn (y : long) -> y);", 7);
        check.faultAt("@x : long = snd (1, #1);", 7);
        check.compiled("x : double = snd (1, #1);", 1);
        check.compiled("x : long * (double * long) = (1, (#1, 1));", 1);
        check.compiled("x : long * double * long = (1, (#1, 1));", 1);
        check.faultAt("@x : long * double * long = ((1, #1), 1);", 7);
        check.compiled("x : (long * double) * long = ((1, #1), 1);", 1);
        check.faultAt("@x : long = let y = 1 in #1;", 7);
    }

    private void functions() {
        check.compiled("x : long -> double = fn (y : long) -> #1;", 1);
        check.faultAt("@x : long -> double = fn (y : double) -> #1;", 7);
        check.compiled("x : long -> (long -> double) = fn (y : long) -> fn (z : long) -> #1;", 1);
        check.faultAt("@x : (long -> long) -> double = fn (y : long) -> fn (z : long) -> #1;", 7);
        check.faultAt("x : long = @1 2;", 7);
        check.faultAt("x : long = @#1 2;", 7);
        check.faultAt("x (f : long -> long) : long = @f #1;", 7);
        check.faultAt("x (f : long -> long) : long = @f 1 2;", 7);
        check.faultAt("@x (f : long -> long -> long) : long = f 1;", 7);
        check.compiled("x (f : long -> long -> long) : long = f 1 2;", 1);
        check.compiled("x (f : long -> long -> long) : long -> long = f 1;", 1);
        check.faultAt("x (p : long * long) : long = @p 1;", 7);
        check.compiled("f : long -> long = fn (y : long) -> y; x : long = f 4;", 2);
        check.faultAt("f : long -> long = fn (y : long) -> y; x : long = @f #4;", 7);
        check.compiled("f : long -> long = fn (y : long) -> y; x : long = (f) 4;", 2);
    }

    private void callsOfDefs() {
        check.faultAt(ID + "x : long = @id;", 7);
        check.faultAt(ID + "x : long = (@id);", 7);
        check.faultAt(ID + "x : long = (@id) 1;", 7);
        check.faultAt(ID + "x : long = id @id 1;", 7);
        check.faultAt(ID + "x : long = fst @id;", 7);
        check.faultAt(ID + "x : long = let f = @id in 1;", 7);
        check.faultAt(TWO + "x : long = @two 1;", 7);
        check.faultAt(TWO + "x : long = (@two 1) 2;", 7);
        check.faultAt(TWO + "x : long = @two (1 + 1);", 7);
        // The ATOMS come before the CALL that has too few.
        check.faultAt(TWO + "x : long = two (1 @+ #1);", 7);
        check.faultAt(TWO + "x : long = two @nowhere;", 6);
        check.compiled(TWO + "x : double * long = two 1 #1;", 2);
        check.faultAt(TWO + "@x : long * double = two 1 #1;", 7);
        check.faultAt(TWO + "x : long = @two 1 2 3;", 7);
        check.compiled(ID + "x (f : long -> double) : double = id f 1;", 2);
        check.compiled(ID + "x (f : long -> double) : double = id (id f) (id 1);", 2);
        check.faultAt(ID + "x (f : long -> double) : double = @id f #1;", 7);
        // A local hides a DEF, and then needs no ATOMS.
        check.compiled(ID + "x (id : long) : long = id;", 2);
        check.faultAt(ID + "x (id : long) : long = @id 1;", 7);
        check.compiled(ID + "x : long = let id = 1 in id;", 2);
        check.faultAt("plain (x : long) : long = x; y : long = @plain #1;", 7);
        check.compiled("plain (x : long) : long = plain (plain x);", 1);
        check.faultAt("zero : long = 1; y : long = @zero 1;", 7);
    }

    private void fits() {
        check.compiled(SAME + "x : long = same 1 2;", 2);
        check.faultAt(SAME + "x : long = @same 1 #2;", 7);
        check.faultAt(SAME + "x : double = @same 1 #2;", 7);
        check.compiled(SAME + "x : long * double = same (1, #1) (2, #2);", 2);
        check.faultAt(SAME + "x : long * double = @same (1, #1) (#1, 1);", 7);
        String sw = "sw (p : 'a * 'b) : 'b * 'a = (snd p, fst p); ";
        check.compiled(sw + "x : long * double = sw (#1, 1);", 2);
        check.faultAt(sw + "x : long * double = @sw 1;", 7);
        check.faultAt(sw + "x (f : long -> long) : long * double = @sw f;", 7);
        String ap = "ap (f : 'a -> 'b) (x : 'a) : 'b = f x; ";
        check.compiled(ap + "x : double = ap (fn (y : long) -> #1) 1;", 2);
        check.faultAt(ap + "x : double = @ap (fn (y : long) -> #1) #1;", 7);
        check.faultAt(ap + "x : double = @ap (1, #1) 1;", 7);
        check.faultAt("f (p : 'a * long) : 'a = fst p; x : long = @f (1, #1);", 7);
        check.compiled("f (p : 'a * 'a) : 'a = fst p; x : long = f (1, 1);", 2);
        check.faultAt("f (p : 'a * 'a) : 'a = fst p; x : long = @f (1, #1);", 7);
        check.compiled("f (p : 'd) (q : 'd -> 'd) : 'd = q p; x : long = f 1 (fn (z : long) -> z);", 2);
    }

    private void ownLetters() {
        check.faultAt("f (x : 'a) : long = x @+ 1;", 7);
        check.faultAt("@f (x : 'a) : long = x;", 7);
        check.faultAt("@f (x : 'a) (y : 'b) : 'a = y;", 7);
        check.faultAt("f (x : 'a) (y : 'b) : 'a = @if 1 then x else y;", 7);
        check.faultAt("f (x : 'a) : 'a = @x 1;", 7);
        check.faultAt("f (x : 'a) : 'a = @fst x;", 7);
        check.faultAt("f (x : 'a) : 'a = @if x then x else x;", 7);
        check.compiled("f (x : 'a) : 'a = let y = f 1 in f x;", 1);
        check.compiled(SAME + "f (x : 'b) (y : 'c) : 'c = let z = same x x in same y y;", 2);
        check.faultAt(SAME + "f (x : 'b) (y : 'c) : 'c = @same x y;", 7);
        // The LETTERS of who calls and of who is called are not the same ones.
        check.compiled("f (x : 'a) (y : 'b) : 'a = f x (f y x);", 1);
        check.compiled("f (x : 'a) (y : 'b) : 'b = fst (f (x, y) (y, x));", 1);
    }

    private void places() {
        check.faultAt("x : long = (1 @+ 2) 3;", 7);
        check.faultAt("x : long = (1 @< 2) 3;", 7);
        check.faultAt("x : long = (1 @, 2) 3;", 7);
        check.faultAt("x : long = (@let y = 1 in y) 3;", 7);
        check.faultAt("x : long = (@if 1 then 2 else 3) 4;", 7);
        check.faultAt("x : long = (@fn (y : long) -> y) #4;", 7);
        check.faultAt("x : long = (@fst (1, 2)) 4;", 7);
        check.faultAt("x : long = (((1 @+ 2))) 3;", 7);
        check.faultAt("x (f : long -> long) : long = (@f 1) 3;", 7);
        check.faultAt("x (f : long -> long) : long = ((@f) 1) 3;", 7);
        check.faultAt("x : long = 1 + (@2 3);", 7);
    }

    private void order() {
        // Each EXPR's parts first, from left to right, then itself.
        check.faultAt("x : long = (1 @+ #1) + nowhere;", 7);
        check.faultAt("x : long = @nowhere + (1 + #1);", 6);
        check.faultAt("x : long = #1 + @nowhere;", 6);
        check.faultAt("x : long = if #1 then 1 else @nowhere;", 6);
        check.faultAt("x : long = @f (1 + #1);", 6);
        check.faultAt("x : long = (1 @+ #1) nowhere;", 7);
        check.faultAt("x : long = let y = 1 @+ #1 in nowhere;", 7);
        check.faultAt("x : long = let y = 1 in @nowhere + #1;", 6);
        check.faultAt("x : long = fst (1, @nowhere) + fst 1;", 6);
        // DEF by DEF: a DEF's own TYPE comes behind its EXPR, before the next DEF.
        check.faultAt("@x : double = 1; y : long = nowhere;", 7);
        check.faultAt("x : double = @nowhere; y : long = #1;", 6);
        check.faultAt("x : long = y; y : long = @nowhere; z : long = nowhere;", 6);
    }

    private void greatTypes() {
        // a .. g have 2, 4 .. 128 leaves, h 192, i 200.
        StringBuilder text = new StringBuilder("x : long = let a = (1, #1) in ");
        for (char name = 'b'; name <= 'g'; name++) {
            char before = (char) (name - 1);
            text.append("let ").append(name).append(" = (").append(before).append(", ");
            text.append(before).append(") in ");
        }
        text.append("let h = (g, f) in let i = (h, c) in ");
        check.compiled(text + "1;", 1);
        check.compiled(text + "let j = i in 1;", 1);
        check.faultAt(text + "let j = (i @, 1) in 1;", 7);
        check.faultAt(text + "let j = (1 @, i) in 1;", 7);
        check.faultAt(text + "let j = (g @, g) in 1;", 7);
        check.faultAt(text + "let j = @fn (y : long) -> i in 1;", 7);
        check.compiled(text + "let j = fn (y : long) -> h in 1;", 1);
        check.faultAt("dup (x : 'a) : 'a * 'a = (x, x); " + text + "let j = @dup g in 1;", 7);
        check.compiled("dup (x : 'a) : 'a * 'a = (x, x); " + text + "let j = dup f in 1;", 2);
        check.compiled(ID + text + "let j = id i in 1;", 2);
    }

    /** A TYPE of 98 leaves, each pair of which has in it what stands at its end. */
    private static String chain(String end) {
        String type = "long->" + end;
        for (int level = 0; level < 12; level++) {
            type = Check.times(8, "long*") + "(" + type + ")";
        }
        return type;
    }

    private void manyTypes() {
        // 24 TYPES for 'a, and with each of them 97 that are not like any others.
        StringBuilder text = new StringBuilder("big (x : 'a) : " + chain("'a") + " = big x;");
        for (int d = 0; d < 4; d++) {
            text.append(" d" + d + " : long = ");
            for (int i = 6 * d; i < 6 * d + 6; i++) {
                text.append("let b = big " + pairOf(i + 2) + " in ");
            }
            text.append("1; ");
        }
        check.compiled(text + "z : " + chain("long*double") + " = big (1, #1);", 6);
        check.faultAt(text + "@z : " + chain("double*long") + " = big (1, #1);", 7);
        String deep = "deep (p : " + chain("'a") + ") : 'a = deep p; ";
        check.compiled(deep + "x (p : " + chain("double") + ") : double = deep p;", 2);
        check.faultAt(deep + "@x (p : " + chain("double") + ") : long = deep p;", 7);
        check.faultAt(deep + "x (p : " + chain("long").replaceFirst("long", "double")
                + ") : long = @deep p;", 7);
    }

    /** As many numbers as i has bits behind the highest, which tell longs from doubles. */
    private static String pairOf(int i) {
        String pair = (i & 1) == 0 ? "1" : "#1";
        for (int rest = i >> 1; rest > 1; rest >>= 1) {
            pair = ((rest & 1) == 0 ? "(1, " : "(#1, ") + pair + ")";
        }
        return pair;
    }
}
