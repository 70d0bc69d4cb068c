/** Promises 6 to 11. */
public final class MembersTest {
    private static final int NO_SUCH = -1, BAD_VALUE = -2, TOO_MANY = -4, NOT_POSSIBLE = -5, NONE = -6;
    private static final int[] NO_MEMBERS = {-1, 3, 12, 31, 32, NONE, Integer.MAX_VALUE, Integer.MIN_VALUE};
    private static final Check CHECK = new Check();

    public static void main(String[] args) {
        promise6Come();
        promise7Go();
        promise8Later();
        promise8Order();
        promise9Proxy();
        promise10Tell();
        promise11Recuse();
        CHECK.end();
    }

    private static void promise6Come() {
        ProxyVotes x = Check.committee(1, 1, 1);
        for (int member : NO_MEMBERS) {
            CHECK.due("6: come(" + member + ")", NO_SUCH, x.come(member));
        }
        CHECK.due("6: the first", 1, x.come(2));
        CHECK.due("6: the second", 2, x.come(0));
        CHECK.due("6: present", NOT_POSSIBLE, x.come(0));
        CHECK.due("6: who is present", 5, x.count(3));
        CHECK.due("6: present", 1, x.ofMember(2, 2));
        CHECK.due("6: changes", 5, x.count(15));
    }

    private static void promise7Go() {
        ProxyVotes x = Check.committee(1, 1, 1);
        Check.come(x, 0, 1);
        for (int member : NO_MEMBERS) {
            CHECK.due("7: go(" + member + ")", NO_SUCH, x.go(member));
        }
        CHECK.due("7: absent", NOT_POSSIBLE, x.go(2));
        CHECK.due("7: changes", 5, x.count(15));
        CHECK.due("7: one is left", 1, x.go(0));
        CHECK.due("7: none is left", 0, x.go(1));
        CHECK.due("7: absent", NOT_POSSIBLE, x.go(1));
        CHECK.due("7: who is present", 0, x.count(3));
        CHECK.due("7: changes", 6, x.count(15));
    }

    private static void promise8Later() {
        ProxyVotes x = Check.committee(1, 1, 1);
        x.pass(100);
        for (int member : NO_MEMBERS) {
            CHECK.due("8: member " + member, NO_SUCH, x.later(101, member, 1));
        }
        CHECK.due("8: no such first", NO_SUCH, x.later(100, 3, 2));
        int[] minutes = {100, 99, 0, -1, 701, NONE, Integer.MAX_VALUE, Integer.MIN_VALUE};
        for (int minute : minutes) {
            CHECK.due("8: minute " + minute, BAD_VALUE, x.later(minute, 0, 1));
        }
        int[] comes = {-1, 2, NONE, Integer.MAX_VALUE, Integer.MIN_VALUE};
        for (int is : comes) {
            CHECK.due("8: comes " + is, BAD_VALUE, x.later(101, 0, is));
        }
        CHECK.due("8: changes", 4, x.count(15));
        CHECK.due("8: the first minute", 1, x.later(101, 0, 1));
        CHECK.due("8: the last minute", 2, x.later(700, 1, 1));
        CHECK.due("8: two changes", 6, x.count(15));
        for (int number = 3; number <= 20; number++) {
            CHECK.due("8: how many wait", number, x.later(200 + number, 2, number % 2));
        }
        CHECK.due("8: twenty wait", TOO_MANY, x.later(201, 0, 1));
        CHECK.due("8: bad before too many", BAD_VALUE, x.later(100, 0, 1));
        CHECK.due("8: no such before too many", NO_SUCH, x.later(201, 3, 1));
        CHECK.due("8: how many wait", 20, x.count(13));
        x.pass(1);
        CHECK.due("8: one has happened", 19, x.count(13));
        CHECK.due("8: it came", 1, x.count(3));
        CHECK.due("8: there is place again", 20, x.later(701, 0, 0));
        x.pass(101);
        CHECK.due("8: 202 brings nothing", 20, x.count(13));
        x.pass(1);
        CHECK.due("8: 203", 5, x.count(3));
        x.pass(496);
        CHECK.due("8: 699", 2, x.count(13));
        CHECK.due("8: the last of member 2 is going", 1, x.count(3));
        x.pass(1);
        CHECK.due("8: 700", 3, x.count(3));
        x.pass(1);
        CHECK.due("8: 701", 2, x.count(3));
        CHECK.due("8: none waits", 0, x.count(13));
        CHECK.due("8: no first fault", NO_SUCH, new ProxyVotes().later(1, 0, 1));
    }

    private static void promise8Order() {
        ProxyVotes x = Check.committee(1, 1, 1, 1);
        x.come(3);
        // In one minute they happen as they were told; earlier minutes first, however they were told.
        x.later(20, 0, 0);
        x.later(10, 0, 1);
        x.later(10, 1, 1);
        x.later(10, 1, 0);
        x.later(10, 2, 0);
        x.later(10, 2, 1);
        x.later(15, 3, 1);
        x.pass(10);
        CHECK.due("8: in the order told", 1 | 4 | 8, x.count(3));
        x.pass(5);
        CHECK.due("8: coming when present", 1 | 4 | 8, x.count(3));
        CHECK.due("8: and it is over", 1, x.count(13));
        x.go(0);
        x.pass(5);
        CHECK.due("8: going when absent", 4 | 8, x.count(3));
        ProxyVotes y = Check.committee(1, 1);
        y.later(5, 0, 0);
        y.later(3, 0, 1);
        y.later(4, 1, 1);
        y.pass(600);
        CHECK.due("8: all of them in one pass", 2, y.count(3));
        CHECK.due("8: none waits", 0, y.count(13));
    }

    private static void promise9Proxy() {
        ProxyVotes x = Check.committee(1, 1, 1);
        x.item(0, 0);
        x.item(0, 0);
        for (int no : NO_MEMBERS) {
            CHECK.due("9: member " + no, NO_SUCH, x.proxy(no, 0, 1));
            if (no != NONE) {
                CHECK.due("9: item " + no, NO_SUCH, x.proxy(0, no, 1));
                CHECK.due("9: holder " + no, NO_SUCH, x.proxy(0, 0, no));
            }
        }
        CHECK.due("9: item 2", NO_SUCH, x.proxy(0, 2, 1));
        CHECK.due("9: the holder is the member", NO_SUCH, x.proxy(1, 0, 1));
        CHECK.due("9: the holder is the member, for all", NO_SUCH, x.proxy(1, NONE, 1));
        CHECK.due("9: the member is none", NO_SUCH, x.proxy(NONE, NONE, NONE));
        CHECK.due("9: changes", 5, x.count(15));
        CHECK.due("9: for all", NONE, x.proxy(0, NONE, 1));
        CHECK.due("9: a change", 6, x.count(15));
        CHECK.due("9: for one", NONE, x.proxy(0, 1, 2));
        CHECK.due("9: for all again", 1, x.proxy(0, NONE, 2));
        CHECK.due("9: for one again", 2, x.proxy(0, 1, 1));
        CHECK.due("9: for all", 2, x.ofMember(0, 3));
        CHECK.due("9: for the other one", NONE, x.at(0, 0, 4));
        CHECK.due("9: for just this one", 1, x.at(0, 1, 4));
        x.come(1);
        CHECK.due("9: the one for this item first", 1, x.at(0, 1, 0));
        CHECK.due("9: else the one for all", NONE, x.at(0, 0, 0));
        CHECK.due("9: take back for one", 1, x.proxy(0, 1, NONE));
        CHECK.due("9: none for one", NONE, x.at(0, 1, 4));
        CHECK.due("9: the one for all is left", 2, x.ofMember(0, 3));
        CHECK.due("9: take back for all", 2, x.proxy(0, NONE, NONE));
        CHECK.due("9: none for all", NONE, x.ofMember(0, 3));
        CHECK.due("9: take back again", NONE, x.proxy(0, NONE, NONE));
        x.proxy(2, NONE, 0);
        x.proxy(2, 0, 1);
        CHECK.due("9: the one of this member", 0, x.proxy(2, NONE, 1));
        CHECK.due("9: the one of this member", 1, x.proxy(2, 0, NONE));
        x.open(0);
        x.close();
        CHECK.due("9: also for an item that is closed", NONE, x.proxy(0, 0, 1));
    }

    private static void promise10Tell() {
        ProxyVotes x = Check.committee(1, 1, 1);
        x.item(0, 0);
        for (int no : NO_MEMBERS) {
            CHECK.due("10: member " + no, NO_SUCH, x.tell(no, 0, 1));
            CHECK.due("10: item " + no, NO_SUCH, x.tell(0, no, 1));
        }
        CHECK.due("10: item 1", NO_SUCH, x.tell(0, 1, 9));
        int[] choices = {3, -1, -5, -7, Integer.MAX_VALUE, Integer.MIN_VALUE};
        for (int choice : choices) {
            CHECK.due("10: choice " + choice, BAD_VALUE, x.tell(0, 0, choice));
        }
        CHECK.due("10: changes", 4, x.count(15));
        CHECK.due("10: the first", NONE, x.tell(0, 0, 2));
        CHECK.due("10: another", 2, x.tell(0, 0, 0));
        CHECK.due("10: another", 0, x.tell(0, 0, 1));
        CHECK.due("10: it is told", 1, x.at(0, 0, 2));
        CHECK.due("10: not of the others", NONE, x.at(1, 0, 2));
        CHECK.due("10: none any more", 1, x.tell(0, 0, NONE));
        CHECK.due("10: none", NONE, x.at(0, 0, 2));
        x.tell(2, 0, 2);
        CHECK.due("10: the one of this member", 2, x.tell(2, 0, 0));
        x.come(1);
        x.come(2);
        x.open(0);
        CHECK.due("10: while it is open", NONE, x.tell(0, 0, 1));
        CHECK.due("10: by one who is present", NONE, x.tell(1, 0, 2));
        CHECK.due("10: it does not count then", ProxyVotes.SILENT, x.at(1, 0, 3));
        x.close();
        CHECK.due("10: tied", NOT_POSSIBLE, x.tell(0, 0, 1));
        CHECK.due("10: bad first", BAD_VALUE, x.tell(0, 0, 3));
        x.cast(1);
        CHECK.due("10: carried", NOT_POSSIBLE, x.tell(0, 0, 1));
        CHECK.due("10: also to take it back", NOT_POSSIBLE, x.tell(0, 0, NONE));
        CHECK.due("10: it is still told", 1, x.at(0, 0, 2));
        x.undo();
        x.cast(2);
        CHECK.due("10: lost", NOT_POSSIBLE, x.tell(0, 0, 1));
    }

    private static void promise11Recuse() {
        ProxyVotes x = Check.committee(1, 1);
        x.member(1, 2);
        x.item(0, 4);
        x.item(0, 0);
        for (int no : NO_MEMBERS) {
            CHECK.due("11: member " + no, NO_SUCH, x.recuse(no, 0, 1));
            CHECK.due("11: item " + no, NO_SUCH, x.recuse(0, no, 1));
        }
        CHECK.due("11: item 2", NO_SUCH, x.recuse(0, 2, 3));
        int[] wrong = {2, -1, NONE, Integer.MAX_VALUE, Integer.MIN_VALUE};
        for (int is : wrong) {
            CHECK.due("11: is " + is, BAD_VALUE, x.recuse(0, 0, is));
        }
        CHECK.due("11: changes", 5, x.count(15));
        CHECK.due("11: by hand", 1, x.recuse(0, 0, 1));
        CHECK.due("11: again", 1, x.recuse(0, 0, 1));
        CHECK.due("11: recused", 1, x.at(0, 0, 5));
        CHECK.due("11: not the other", 0, x.at(1, 0, 5));
        CHECK.due("11: not for the other item", 0, x.at(0, 1, 5));
        CHECK.due("11: taken back", 0, x.recuse(0, 0, 0));
        CHECK.due("11: not recused", 0, x.at(0, 0, 5));
        CHECK.due("11: by the group", 1, x.at(2, 0, 5));
        CHECK.due("11: the group stays", 1, x.recuse(2, 0, 0));
        CHECK.due("11: both", 1, x.recuse(2, 0, 1));
        CHECK.due("11: the group is left", 1, x.recuse(2, 0, 0));
        Check.come(x, 0, 1);
        x.open(1);
        x.vote(0, 1);
        CHECK.due("11: while it is open", 1, x.recuse(0, 1, 1));
        CHECK.due("11: the vote does not count", ProxyVotes.RECUSED, x.at(0, 1, 3));
        CHECK.due("11: the vote stands", 1, x.at(0, 1, 1));
        CHECK.due("11: taken back", 0, x.recuse(0, 1, 0));
        CHECK.due("11: the vote counts again", ProxyVotes.FOR, x.at(0, 1, 3));
        x.close();
        CHECK.due("11: carried", NOT_POSSIBLE, x.recuse(0, 1, 1));
        CHECK.due("11: bad first", BAD_VALUE, x.recuse(0, 1, 2));
        x.open(0);
        x.close();
        CHECK.due("11: tied", NOT_POSSIBLE, x.recuse(0, 0, 1));
        CHECK.due("11: tied", 2, x.ofItem(0, 2));
    }
}
