/** Promise 1, and the constants of the face. */
public final class NewObjectTest {
    public static void main(String[] args) {
        Check.due("NONE", IdlCaller.NONE, -1);
        Check.due("SIGN", IdlCaller.SIGN, -2);
        Check.due("SAME", IdlCaller.SAME, -3);
        Check.due("FULL", IdlCaller.FULL, -4);
        Check.due("KIND", IdlCaller.KIND, -5);

        IdlCaller x = new IdlCaller();
        Check.due("place of a new object", x.place(), IdlCaller.NONE);
        for (int k = -1; k <= 8; k++) {
            Check.due("kind of a new object", x.kind(k), IdlCaller.NONE);
            Check.due("item of a new object", x.item(k, 0), IdlCaller.NONE);
            Check.due("whole of a new object", x.whole(k, -1), 0);
            Check.dueReal("real of a new object", x.real(k, -1), 0);
            Check.due("sign of a new object", x.sign(k, -1, 0), ' ');
        }
        for (int operation = 0; operation < 6; operation++) {
            Check.due("FORMS of a new object", x.operation(operation, 0), 0);
        }
        Check.due("erase of a new object", x.erase(), 0);
        Check.due("define of an empty LINE", x.define(), IdlCaller.SIGN);
        Check.due("place of an empty LINE", x.place(), 0);

        Check.define(x, "a(any, any, any, any, any...)");
        Check.due("call with new SLOTS", x.call(0, 8), 0);
        Check.dueText("new SLOTS", Check.showAll(x),
                "undefined; undefined; undefined; undefined; missing; missing; missing; missing");
        Check.due("another object has no part in it", new IdlCaller().operation(0, 0), 0);
        Check.end("NewObjectTest");
    }
}
