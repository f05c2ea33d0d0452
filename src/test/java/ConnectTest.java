/** Promise 4, with LOGOUT. */
final class ConnectTest {
    public static void main(String[] args) {
        Talk x = new Talk();
        int[] nobody = {-1, 3, Integer.MAX_VALUE, Integer.MIN_VALUE};
        for (int session : nobody) {
            Check.same("session " + session, "IndexOutOfBoundsException", Check.thrown(() -> x.mail.connect(session)));
        }
        Check.same("connected", "IllegalStateException", Check.thrown(() -> x.mail.connect(0)));
        x.mail.connect(2);
        Check.same("connected", "IllegalStateException", Check.thrown(() -> x.mail.connect(2)));
        Check.same("session 1 still is not", "IllegalStateException", Check.thrown(() -> x.mail.type(1, 'a')));
        x.enter(0, "a APPEND a (D) xyz");
        x.enter(2, "a SELECT a");
        Check.same("view", 1, x.mail.view(2));
        Check.same("logout", "zz OK", x.ask(2, "zz LOGOUT"));
        Check.same("view", -1, x.mail.view(2));
        Check.same("logout takes nothing away", "1:8:3", x.listed(0));
        Check.same("not connected", "IllegalStateException", Check.thrown(() -> x.mail.type(2, 'a')));
        Check.same("not connected", "IllegalStateException", Check.thrown(() -> x.mail.enter(2)));
        Check.same("nothing selects a", "b OK", x.ask(0, "b DELETE a"));
        x.mail.connect(2);
        Check.same("the reply stays", "zz OK", x.reply(2));
        Check.same("none selected", -1, x.mail.view(2));
        Check.same("none selected", "c NO", x.ask(2, "c EXPUNGE"));
        x.enter(2, "a LOGOUT");
        x.mail.connect(2);
        Check.same("the line is empty", "IllegalArgumentException", x.enter(2, ""));
        Check.end();
    }
}
