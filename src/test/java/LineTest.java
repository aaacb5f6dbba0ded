/** Promises 2 and 3: type and erase. */
public final class LineTest {
    public static void main(String[] args) {
        IdlCaller x = new IdlCaller();
        Check.due("nothing typed", x.type(0, 0, 0, 0, 0), 0);
        Check.due("a byte 0 is none", x.type(0x61002800, 0, 0x29, 0, 0), 3);
        Check.due("highest byte first, and numbers in their order", x.define(), 0);
        Check.due("the LINE stays", x.erase(), 3);
        Check.due("erased", x.erase(), 0);
        Check.due("negative numbers have characters too", x.type(-1, -1, -1, -1, -1), 20);
        Check.due("255 cannot be there", x.define(), IdlCaller.SIGN);
        Check.due("erase", x.erase(), 20);

        Check.typeMore(x, "a(lo");
        Check.due("more behind it", Check.typeMore(x, "ng)"), 7);
        Check.due("a FORM typed in two", x.define(), 0 + 1);
        x.erase();

        String blanks = " ".repeat(96);
        Check.due("96", Check.typeMore(x, blanks), 96);
        Check.refusesState("101", () -> x.type(0x20202020, 0x20, 0, 0, 0));
        Check.refusesState("116", () -> x.type(-1, -1, -1, -1, -1));
        Check.due("what throws changes nothing", x.type(0, 0, 0, 0, 0), 96);
        Check.due("100", x.type(0, 0, 0, 0, 0x20202020), 100);
        Check.refusesState("101 by one", () -> x.type(0, 0, 1, 0, 0));
        Check.refusesState("101 by the second", () -> x.type(0, 1 << 8, 0, 0, 0));
        Check.refusesState("101 by the fourth", () -> x.type(0, 0, 0, 1 << 16, 0));
        Check.refusesState("101 by the fifth", () -> x.type(0, 0, 0, 0, 1 << 24));
        Check.due("none more", x.type(0, 0, 0, 0, 0), 100);
        Check.due("define of 100 blanks", x.define(), IdlCaller.SIGN);
        Check.due("place behind 100 blanks", x.place(), 100);
        Check.refusesState("full", () -> x.type(32, 0, 0, 0, 0));
        Check.due("what throws leaves the place", x.place(), 100);
        Check.due("erase all", x.erase(), 100);
        Check.due("room again", x.type(-1, -1, -1, -1, -1), 20);
        Check.due("erase leaves the place", x.place(), 100);

        IdlCaller full = new IdlCaller();
        Check.due("a FORM of 100 characters", Check.define(full, "c(enum(abcdefgh,bcdefghi,cdefghij,defghijk)"
                + ",list<string?>?,[E]octet?,[C]long,optional boolean  )"), 0);
        Check.due("its length", full.erase(), 43 + 53);
        Check.end("LineTest");
    }
}
