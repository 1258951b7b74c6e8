/** The example of README.md answers what is written there. */
public final class ReadmeTest {
    public static void main(String[] args) {
        TwoWayDesk desk = new TwoWayDesk();
        int long0 = 0 + 4 * 0 + 128 * 4;
        int long1 = 1 + 4 * 0 + 128 * 4;
        int job = desk.offer(long0, long1);
        Checks.due("the first offer", job, 0);
        int other = desk.offer(long0, long1);
        Checks.due("the second offer", other, 1);
        Checks.due("planned(other)", desk.planned(other), 1);
        Checks.due("the third offer", desk.offer(long0, long1), TwoWayDesk.REFUSED);
        Checks.due("pin(other, 0)", desk.pin(other, 0), 0);
        Checks.due("forced(job)", desk.forced(job), 1);
        Checks.end();
    }
}
