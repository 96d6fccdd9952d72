/** A new object answers as one that is empty. */
public final class SmokeTest {
    public static void main(String[] args) {
        Checks checks = new Checks();
        TwoChoices map = new TwoChoices();
        checks.due("count(0)", map.count(0), 0);
        checks.due("put(1, 2)", map.put(1, 2), 1);
        checks.due("get(1)", map.get(1), 2);
        checks.end();
    }
}
