import java.util.ArrayList;
import java.util.List;
import java.util.Map;
import java.util.Set;
import java.util.TreeMap;
import java.util.TreeSet;
import java.util.function.IntSupplier;

/**
 * What the document says, a second time: in the plainest form, however slow, with lists, maps and copies of all. It has
 * the methods of the program, by the same names, so that LongRunsTest can ask both the same.
 */
final class Model {
    private static final int NO_SUCH = -1, BAD_VALUE = -2, BAD_TEXT = -3, TOO_MANY = -4, NOT_POSSIBLE = -5, NONE = -6;
    private static final int WAITING = 0, OPEN = 1, TIED = 2, CARRIED = 3, LOST = 4;

    /** A member. */
    private static final class Person {
        int weight;
        int group;
        boolean present;
        int holder = NONE;
    }

    /** An item. The maps hold what there is for a member; who is not in them has none. */
    private static final class Matter {
        int kind;
        int groups;
        int state = WAITING;
        final Map<Integer, Integer> holders = new TreeMap<>();
        final Map<Integer, Integer> told = new TreeMap<>();
        final Map<Integer, Integer> votes = new TreeMap<>();
        final Set<Integer> byHand = new TreeSet<>();
        int[] closedWith;
        int breaker = NONE;
        int putOff;
    }

    /** Everything that undo() brings back. */
    private static final class State {
        int[] settings = {50, 34, 240, 2, 1, 1};
        int minute;
        int chair = NONE;
        final List<Person> people = new ArrayList<>();
        final List<Matter> matters = new ArrayList<>();
        final List<int[]> movements = new ArrayList<>();

        State copy() {
            State copy = new State();
            copy.settings = settings.clone();
            copy.minute = minute;
            copy.chair = chair;
            for (Person person : people) {
                Person one = new Person();
                one.weight = person.weight;
                one.group = person.group;
                one.present = person.present;
                one.holder = person.holder;
                copy.people.add(one);
            }
            for (Matter matter : matters) {
                copy.matters.add(copyOf(matter));
            }
            copy.movements.addAll(movements);
            return copy;
        }

        private static Matter copyOf(Matter matter) {
            Matter copy = new Matter();
            copy.kind = matter.kind;
            copy.groups = matter.groups;
            copy.state = matter.state;
            copy.holders.putAll(matter.holders);
            copy.told.putAll(matter.told);
            copy.votes.putAll(matter.votes);
            copy.byHand.addAll(matter.byHand);
            copy.closedWith = matter.closedWith;
            copy.breaker = matter.breaker;
            copy.putOff = matter.putOff;
            return copy;
        }
    }

    private State now = new State();
    private final List<State> history = new ArrayList<>();
    private final State[] slots = new State[2];
    private String pad = "";

    private static boolean isError(int answer) {
        return -5 <= answer && answer <= -1;
    }

    /** A method that is a change. */
    private int change(IntSupplier call) {
        State before = now.copy();
        int answer = call.getAsInt();
        if (isError(answer)) {
            now = before;
            return answer;
        }
        history.add(before);
        if (history.size() == 7) {
            history.remove(0);
        }
        return answer;
    }

    private boolean noMember(int member) {
        return member < 0 || member >= now.people.size();
    }

    private boolean noItem(int item) {
        return item < 0 || item >= now.matters.size();
    }

    private static boolean out(long value, int lowest, int highest) {
        return value < lowest || value > highest;
    }

    private boolean isOver(int item) {
        return now.matters.get(item).state != WAITING && now.matters.get(item).state != OPEN;
    }

    // ---- setting up

    public int set(int setting, int value) {
        int[] highest = {100, 100, 600, 6, 1, 1};
        return change(() -> {
            if (out(setting, 0, 5) || out(value, 0, highest[setting])) {
                return BAD_VALUE;
            }
            int before = now.settings[setting];
            now.settings[setting] = value;
            return before;
        });
    }

    public int member(int weight, int group) {
        return change(() -> {
            if (out(weight, 1, 9) || out(group, 0, 3)) {
                return BAD_VALUE;
            }
            if (now.people.size() == 12) {
                return TOO_MANY;
            }
            Person person = new Person();
            person.weight = weight;
            person.group = group;
            now.people.add(person);
            now.chair = now.people.size() == 1 ? 0 : now.chair;
            return now.people.size() - 1;
        });
    }

    public int item(int kind, int groups) {
        return change(() -> {
            if (out(kind, 0, 2) || out(groups, 0, 15)) {
                return BAD_VALUE;
            }
            if (now.matters.size() == 12) {
                return TOO_MANY;
            }
            Matter matter = new Matter();
            matter.kind = kind;
            matter.groups = groups;
            now.matters.add(matter);
            return now.matters.size() - 1;
        });
    }

    public int chair(int member) {
        return change(() -> {
            if (noMember(member)) {
                return NO_SUCH;
            }
            int before = now.chair;
            now.chair = member;
            return before;
        });
    }

    // ---- members

    private int moved(int member, boolean comes) {
        if (noMember(member)) {
            return NO_SUCH;
        }
        if (now.people.get(member).present == comes) {
            return NOT_POSSIBLE;
        }
        now.people.get(member).present = comes;
        int present = 0;
        for (Person person : now.people) {
            present += person.present ? 1 : 0;
        }
        return present;
    }

    public int come(int member) {
        return change(() -> moved(member, true));
    }

    public int go(int member) {
        return change(() -> moved(member, false));
    }

    public int later(int minute, int member, int comes) {
        return change(() -> {
            if (noMember(member)) {
                return NO_SUCH;
            }
            if (out((long) minute - now.minute, 1, 600) || out(comes, 0, 1)) {
                return BAD_VALUE;
            }
            if (now.movements.size() == 20) {
                return TOO_MANY;
            }
            now.movements.add(new int[] {minute, member, comes});
            return now.movements.size();
        });
    }

    public int proxy(int member, int item, int holder) {
        return change(() -> {
            if (noMember(member) || item != NONE && noItem(item) || holder != NONE && noMember(holder)
                || holder == member) {
                return NO_SUCH;
            }
            if (item == NONE) {
                int before = now.people.get(member).holder;
                now.people.get(member).holder = holder;
                return before;
            }
            return exchanged(now.matters.get(item).holders, member, holder);
        });
    }

    private static int exchanged(Map<Integer, Integer> map, int member, int value) {
        Integer before = value == NONE ? map.remove(member) : map.put(member, value);
        return before == null ? NONE : before;
    }

    public int tell(int member, int item, int choice) {
        return change(() -> {
            if (noMember(member) || noItem(item)) {
                return NO_SUCH;
            }
            if (choice != NONE && out(choice, 0, 2)) {
                return BAD_VALUE;
            }
            return isOver(item) ? NOT_POSSIBLE : exchanged(now.matters.get(item).told, member, choice);
        });
    }

    public int recuse(int member, int item, int is) {
        return change(() -> {
            if (noMember(member) || noItem(item)) {
                return NO_SUCH;
            }
            if (out(is, 0, 1)) {
                return BAD_VALUE;
            }
            if (isOver(item)) {
                return NOT_POSSIBLE;
            }
            now.matters.get(item).byHand.remove(member);
            if (is == 1) {
                now.matters.get(item).byHand.add(member);
            }
            return recused(member, item) ? 1 : 0;
        });
    }

    // ---- who speaks for whom, counting

    private boolean present(int member) {
        return now.people.get(member).present;
    }

    private boolean recused(int member, int item) {
        Matter matter = now.matters.get(item);
        boolean touched = matter.groups / (1 << now.people.get(member).group) % 2 == 1;
        return touched || matter.byHand.contains(member);
    }

    /** The member with whom the way of an absent one ends, NONE if it ends with nobody. */
    private int end(int member, int item) {
        Set<Integer> met = new TreeSet<>();
        int place = member;
        do {
            met.add(place);
            Integer own = now.matters.get(item).holders.get(place);
            place = own == null ? now.people.get(place).holder : own;
            if (place == NONE || met.contains(place)) {
                return NONE;
            }
            if (!present(place) && now.settings[4] == 0) {
                return NONE;
            }
        } while (!present(place));
        return recused(place, item) ? NONE : place;
    }

    /** The absent ones for whom a member who is present speaks. */
    private List<Integer> spokenFor(int speaker, int item) {
        List<Integer> all = new ArrayList<>();
        for (int member = 0; member < now.people.size(); member++) {
            if (!present(member) && !recused(member, item) && end(member, item) == speaker) {
                all.add(member);
            }
        }
        return all.subList(0, Math.min(all.size(), now.settings[3]));
    }

    private int speaker(int member, int item) {
        if (recused(member, item)) {
            return NONE;
        }
        if (present(member)) {
            return member;
        }
        int end = end(member, item);
        return end != NONE && spokenFor(end, item).contains(member) ? end : NONE;
    }

    private int way(int member, int item) {
        Matter matter = now.matters.get(item);
        if (recused(member, item)) {
            return 5;
        }
        if (matter.votes.containsKey(member)) {
            return matter.votes.get(member);
        }
        if (present(member)) {
            return 3;
        }
        int speaker = speaker(member, item);
        if (speaker == NONE) {
            return 4;
        }
        if (matter.told.containsKey(member)) {
            return matter.told.get(member);
        }
        return matter.votes.getOrDefault(speaker, 3);
    }

    private int[] sums(int item) {
        int[] sums = new int[6];
        for (int member = 0; member < now.people.size(); member++) {
            sums[way(member, item)] += now.people.get(member).weight;
        }
        return sums;
    }

    private int all() {
        int weight = 0;
        for (Person person : now.people) {
            weight += person.weight;
        }
        return weight;
    }

    private int there(int item) {
        int weight = 0;
        for (int member = 0; member < now.people.size(); member++) {
            if (present(member) || speaker(member, item) != NONE) {
                weight += now.people.get(member).weight;
            }
        }
        return weight;
    }

    private boolean quorum(int item) {
        int percent = now.minute < now.settings[2] ? now.settings[0] : now.settings[1];
        return there(item) * 100 >= all() * percent;
    }

    private int counted(int item) {
        int[] sums = sums(item);
        int kind = now.matters.get(item).kind;
        if (kind == 0 && sums[1] == sums[2]) {
            return now.settings[5] == 1 ? TIED : LOST;
        }
        boolean carried = kind == 0 ? sums[1] > sums[2]
            : kind == 1 ? sums[1] > 0 && 3 * sums[1] >= 2 * (sums[1] + sums[2])
            : sums[1] > 0 && sums[0] == 0 && sums[2] == 0;
        return carried ? CARRIED : LOST;
    }

    private int theOneIn(int state) {
        for (int item = 0; item < now.matters.size(); item++) {
            if (now.matters.get(item).state == state) {
                return item;
            }
        }
        return NONE;
    }

    private int chairOfTheMoment() {
        if (now.chair != NONE && present(now.chair)) {
            return now.chair;
        }
        for (int member = 0; member < now.people.size(); member++) {
            if (present(member)) {
                return member;
            }
        }
        return NONE;
    }

    // ---- votes

    public int open(int item) {
        return change(() -> opened(item));
    }

    private int opened(int item) {
        if (noItem(item)) {
            return NO_SUCH;
        }
        if (now.matters.get(item).state != WAITING || theOneIn(OPEN) != NONE || !quorum(item)) {
            return NOT_POSSIBLE;
        }
        now.matters.get(item).state = OPEN;
        return there(item);
    }

    public int vote(int member, int choice) {
        return change(() -> voted(member, choice));
    }

    private int voted(int member, int choice) {
        if (noMember(member)) {
            return NO_SUCH;
        }
        if (out(choice, 0, 2)) {
            return BAD_VALUE;
        }
        int item = theOneIn(OPEN);
        if (item == NONE || !present(member) || recused(member, item)) {
            return NOT_POSSIBLE;
        }
        return exchanged(now.matters.get(item).votes, member, choice);
    }

    public int close() {
        return change(this::closed);
    }

    private int closed() {
        int item = theOneIn(OPEN);
        if (item == NONE) {
            return NOT_POSSIBLE;
        }
        Matter matter = now.matters.get(item);
        if (quorum(item)) {
            matter.closedWith = sums(item);
            matter.state = counted(item);
        } else {
            matter.state = WAITING;
            matter.votes.clear();
            matter.putOff++;
        }
        return matter.state;
    }

    public int cast(int choice) {
        return change(() -> casted(choice));
    }

    private int casted(int choice) {
        if (out(choice, 1, 2)) {
            return BAD_VALUE;
        }
        int item = theOneIn(TIED);
        int chair = chairOfTheMoment();
        if (item == NONE || chair == NONE || recused(chair, item)) {
            return NOT_POSSIBLE;
        }
        now.matters.get(item).breaker = chair;
        now.matters.get(item).state = choice == 1 ? CARRIED : LOST;
        return now.matters.get(item).state;
    }

    public int pass(int minutes) {
        return change(() -> passed(minutes));
    }

    private int passed(int minutes) {
        if (out(minutes, 1, 600)) {
            return BAD_VALUE;
        }
        if (now.minute + minutes > 9000) {
            return NOT_POSSIBLE;
        }
        for (int passing = 0; passing < minutes; passing++) {
            nextMinute();
        }
        return now.minute;
    }

    private void nextMinute() {
        now.minute++;
        List<int[]> waiting = new ArrayList<>(now.movements);
        for (int[] movement : waiting) {
            if (movement[0] == now.minute) {
                now.people.get(movement[1]).present = movement[2] == 1;
                now.movements.remove(movement);
            }
        }
    }

    // ---- what there is

    private static int number(boolean is) {
        return is ? 1 : 0;
    }

    public int ofMember(int member, int what) {
        if (noMember(member)) {
            return NO_SUCH;
        }
        if (out(what, 0, 5)) {
            return BAD_VALUE;
        }
        Person person = now.people.get(member);
        int votes = 0;
        int ties = 0;
        for (Matter matter : now.matters) {
            votes += number(matter.votes.containsKey(member));
            ties += number(matter.breaker == member);
        }
        return new int[] {person.weight, person.group, number(person.present), person.holder, votes, ties}[what];
    }

    public int ofItem(int item, int what) {
        if (noItem(item)) {
            return NO_SUCH;
        }
        if (out(what, 0, 11)) {
            return BAD_VALUE;
        }
        Matter matter = now.matters.get(item);
        int[] s = isOver(item) ? matter.closedWith : sums(item);
        return new int[] {matter.kind, matter.groups, matter.state, s[0], s[1], s[2], s[3], s[4], s[5], matter.breaker,
            matter.putOff, number(quorum(item))}[what];
    }

    public int at(int member, int item, int what) {
        if (noMember(member) || noItem(item)) {
            return NO_SUCH;
        }
        if (out(what, 0, 6)) {
            return BAD_VALUE;
        }
        Matter matter = now.matters.get(item);
        int set = 0;
        if (present(member)) {
            for (int absent : spokenFor(member, item)) {
                set += 1 << absent;
            }
        }
        return new int[] {speaker(member, item), matter.votes.getOrDefault(member, NONE),
            matter.told.getOrDefault(member, NONE), way(member, item), matter.holders.getOrDefault(member, NONE),
            number(recused(member, item)), set}[what];
    }

    public int count(int what) {
        if (out(what, 0, 21)) {
            return BAD_VALUE;
        }
        if (what >= 16) {
            return now.settings[what - 16];
        }
        int present = 0;
        for (int member = 0; member < now.people.size(); member++) {
            present += present(member) ? 1 << member : 0;
        }
        int[] in = new int[5];
        for (Matter matter : now.matters) {
            in[matter.state]++;
        }
        return new int[] {now.minute, now.people.size(), now.matters.size(), present, theOneIn(OPEN), now.chair,
            chairOfTheMoment(), all(), in[0], in[1], in[2], in[3], in[4], now.movements.size(), pad.length(),
            history.size()}[what];
    }

    // ---- what if; nothing changes

    /** Tries something out, and forgets it. */
    private int tried(IntSupplier trial) {
        State before = now;
        now = before.copy();
        int answer = trial.getAsInt();
        now = before;
        return answer;
    }

    public int wouldBe(int item) {
        if (noItem(item)) {
            return NO_SUCH;
        }
        return isOver(item) ? NOT_POSSIBLE : counted(item);
    }

    private boolean couldVote(int member, int item) {
        return present(member) && !recused(member, item);
    }

    private int countedWith(int item, int voters, int choice) {
        return tried(() -> {
            for (int member = 0; member < now.people.size(); member++) {
                if (voters / (1 << member) % 2 == 1) {
                    now.matters.get(item).votes.put(member, choice);
                }
            }
            return counted(item);
        });
    }

    public int decisive(int item) {
        if (noItem(item)) {
            return NO_SUCH;
        }
        if (isOver(item)) {
            return NOT_POSSIBLE;
        }
        int set = 0;
        for (int member = 0; member < now.people.size(); member++) {
            boolean could = false;
            for (int choice = 0; choice <= 2 && couldVote(member, item); choice++) {
                could = could || countedWith(item, 1 << member, choice) != counted(item);
            }
            set += could ? 1 << member : 0;
        }
        return set;
    }

    public int needed(int item, int what) {
        if (noItem(item)) {
            return NO_SUCH;
        }
        if (out(what, 0, 1)) {
            return BAD_VALUE;
        }
        if (isOver(item)) {
            return NOT_POSSIBLE;
        }
        int free = 0;
        for (int member = 0; member < now.people.size(); member++) {
            boolean silent = !now.matters.get(item).votes.containsKey(member);
            free += couldVote(member, item) && silent ? 1 << member : 0;
        }
        for (int size = 0; size <= 12; size++) {
            for (int set = 0; set <= free; set++) {
                if ((set & free) == set && Integer.bitCount(set) == size && countedWith(item, set, 1) == CARRIED) {
                    return what == 0 ? size : set;
                }
            }
        }
        return NONE;
    }

    public int power(int member) {
        if (noMember(member)) {
            return NO_SUCH;
        }
        int sets = 0;
        for (int set = 0; set < 1 << now.people.size(); set++) {
            int without = 0;
            for (int other = 0; other < now.people.size(); other++) {
                without += set / (1 << other) % 2 == 1 ? now.people.get(other).weight : 0;
            }
            boolean apart = set / (1 << member) % 2 == 0;
            int with = without + now.people.get(member).weight;
            sets += apart && 2 * without <= all() && 2 * with > all() ? 1 : 0;
        }
        return sets;
    }

    public int quorumAt(int item) {
        if (noItem(item)) {
            return NO_SUCH;
        }
        return tried(() -> {
            while (!quorum(item)) {
                if (now.movements.isEmpty() && now.minute >= now.settings[2]) {
                    return NONE;
                }
                nextMinute();
            }
            return now.minute;
        });
    }

    public int bestHolder(int member, int item) {
        if (noMember(member) || noItem(item)) {
            return NO_SUCH;
        }
        if (present(member) || recused(member, item) || now.matters.get(item).holders.containsKey(member)) {
            return NOT_POSSIBLE;
        }
        int best = NONE;
        int fewest = 0;
        for (int holder = 0; holder < now.people.size(); holder++) {
            if (!couldVote(holder, item)) {
                continue;
            }
            int named = holder;
            int burden = tried(() -> {
                now.people.get(member).holder = named;
                return speaker(member, item) == NONE ? NONE : spokenFor(named, item).size();
            });
            if (burden != NONE && (best == NONE || burden < fewest)) {
                best = holder;
                fewest = burden;
            }
        }
        return best;
    }

    // ---- texts

    public int put(long characters) {
        StringBuilder text = new StringBuilder();
        boolean ended = false;
        for (int place = 7; place >= 0; place--) {
            int code = (int) (characters >>> 8 * place) & 255;
            if (code == 0) {
                // Zeros stand above all characters, or there is a bit above one of them.
                ended = ended || text.length() > 0;
            } else if (out(code, 33, 126)) {
                return BAD_VALUE;
            } else {
                text.append((char) code);
            }
        }
        if (ended || text.length() == 0) {
            return BAD_VALUE;
        }
        if (pad.length() + text.length() > 80) {
            return TOO_MANY;
        }
        pad += text;
        return pad.length();
    }

    public int wipe() {
        int before = pad.length();
        pad = "";
        return before;
    }

    /** What can stand behind a beginning that has no fault: the characters, and a space where the text may end. */
    private static String behind(String order) {
        if (order.isEmpty()) {
            return "+-ovcxm";
        }
        String letters = "ABCDEFGHIJKL";
        int length = order.length();
        switch (order.charAt(0)) {
            case '+':
            case '-':
                return length == 1 ? letters : "; ";
            case 'v':
                return length == 1 ? letters : length == 2 ? "012" : "; ";
            case 'c':
                return "; ";
            case 'x':
                return length == 1 ? "12" : "; ";
            default:
                return length == 1 ? "0123456789" : order.charAt(1) == '0' || length == 4 ? "; " : "0123456789; ";
        }
    }

    public int fault() {
        String order = "";
        for (int place = 0; place < pad.length(); place++) {
            char sign = pad.charAt(place);
            if (behind(order).indexOf(sign) < 0) {
                return place;
            }
            order = sign == ';' ? "" : order + sign;
        }
        return behind(order).endsWith(" ") ? NONE : pad.length();
    }

    public int carryOut() {
        return change(() -> {
            if (fault() != NONE) {
                return BAD_TEXT;
            }
            int carried = 0;
            for (String order : pad.split(";")) {
                if (isError(ordered(order))) {
                    break;
                }
                carried++;
            }
            pad = "";
            return carried;
        });
    }

    private int ordered(String order) {
        String rest = order.substring(1);
        switch (order.charAt(0)) {
            case '+':
                return moved(rest.charAt(0) - 'A', true);
            case '-':
                return moved(rest.charAt(0) - 'A', false);
            case 'v':
                return voted(rest.charAt(0) - 'A', Integer.parseInt(rest.substring(1)));
            case 'o':
                return opened(Integer.parseInt(rest));
            case 'c':
                return closed();
            case 'x':
                return casted(Integer.parseInt(rest));
            default:
                return passed(Integer.parseInt(rest));
        }
    }

    // ---- undo, saving

    public int undo() {
        if (history.isEmpty()) {
            return NOT_POSSIBLE;
        }
        now = history.remove(history.size() - 1);
        return history.size();
    }

    public int save(int slot) {
        if (out(slot, 0, 1)) {
            return BAD_VALUE;
        }
        slots[slot] = now.copy();
        return now.minute;
    }

    public int restore(int slot) {
        return change(() -> {
            if (out(slot, 0, 1)) {
                return BAD_VALUE;
            }
            if (slots[slot] == null) {
                return NOT_POSSIBLE;
            }
            now = slots[slot].copy();
            return now.minute;
        });
    }
}
