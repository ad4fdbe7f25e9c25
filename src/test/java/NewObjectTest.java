/** Promise 1: all registers of a new object have 0. */
public final class NewObjectTest {
    private NewObjectTest() {
    }

    public static void main(String[] args) {
        Due due = new Due("NewObjectTest");
        RealDesk used = Desks.filled();
        RealDesk fresh = new RealDesk();
        for (int r = 0; r < Desks.REGISTERS; r++) {
            Desks.holds(due, "register " + r, fresh, r, 0.0);
            due.same("whole(" + r + ")", fresh.whole(r), 0);
            due.same("order(0, " + r + ")", fresh.order(0, r), 0);
        }
        for (int r = 0; r < Desks.REGISTERS; r++) {
            due.same("the other object's register " + r, used.value(r), Desks.filling(r));
        }
        Desks.put(fresh, 3, 7.0);
        due.same("another new object's register 3", new RealDesk().value(3), 0.0);
        due.end();
    }
}
