import java.util.ArrayList;
import java.util.List;
import java.util.NoSuchElementException;
import java.util.TreeSet;

/** The document once more, written for reading alone; random runs compare Raidline with it. */
final class Oracle {
    private static final class Person {
        int reach;
        int speed;
        int grip;
        int base;
        int squad = -1;
        int former = -1;
        int[] told = new int[4];
        boolean isGreen;
        int sits;
    }

    private static final class Team {
        int squad = -1;
        int points;
        int empty;
        int changes;
        boolean hasReview;
        TreeSet<Integer> mat = new TreeSet<>();
        List<Integer> out = new ArrayList<>();
        List<Integer> bench = new ArrayList<>();
    }

    private final List<Person> people = new ArrayList<>();
    private final List<int[]> clubs = new ArrayList<>();
    private int up = -1;
    private int bidder;
    private int price;
    private int bids;
    private int standing = 7;
    private int bonusFrom = 6;
    private boolean revived = true;
    private int half = 10;
    private boolean on;
    private boolean must;
    private int matches;
    private int over;
    private Team[] teams = {new Team(), new Team()};
    private int raider = -1;
    private boolean doOrDie;
    private int seconds;
    private int stood;
    private boolean tookBonus;
    private int steps;
    private boolean canReview;
    private int lastRaiders;
    private final List<int[]> touched = new ArrayList<>();
    private int allRaids;
    private int allEmpty;
    private int allPoints;

    private Person person(int player) {
        if (player < 0 || player >= people.size()) {
            throw new IndexOutOfBoundsException();
        }
        return people.get(player);
    }

    private int[] club(int squad) {
        if (squad < 0 || squad >= clubs.size()) {
            throw new IndexOutOfBoundsException();
        }
        return clubs.get(squad);
    }

    private static void require(boolean holds, RuntimeException otherwise) {
        if (!holds) {
            throw otherwise;
        }
    }

    private static RuntimeException state() {
        return new IllegalStateException();
    }

    private static RuntimeException argument() {
        return new IllegalArgumentException();
    }

    private static RuntimeException unsupported() {
        return new UnsupportedOperationException();
    }

    int player(int reach, int speed, int grip, char sort) {
        int least = Math.min(reach, Math.min(speed, grip));
        int most = Math.max(reach, Math.max(speed, grip));
        require(least >= 1 && most <= 9 && "abc".indexOf(sort) >= 0, argument());
        require(people.size() < 40, state());
        Person one = new Person();
        one.reach = reach;
        one.speed = speed;
        one.grip = grip;
        one.base = 30 - 10 * (sort - 'a');
        people.add(one);
        return people.size() - 1;
    }

    /** A squad is its purse, whether it has matched, its points and its difference. */
    int squad() {
        require(clubs.size() < 4, state());
        clubs.add(new int[] {200, 0, 0, 0});
        return clubs.size() - 1;
    }

    int putUp(int player) {
        Person one = person(player);
        require(one.squad < 0 && !on, unsupported());
        require(up < 0, state());
        up = player;
        bidder = -1;
        bids = 0;
        return one.base;
    }

    private int members(int squad) {
        return (int) people.stream().filter(one -> one.squad == squad).count();
    }

    int bid(int squad, int offer) {
        int[] club = club(squad);
        require(up >= 0, state());
        require(offer >= (bids == 0 ? people.get(up).base : price + 5), argument());
        require(squad != bidder && members(squad) < 12 && offer <= club[0], unsupported());
        bidder = squad;
        price = offer;
        return ++bids;
    }

    int match(int squad) {
        int[] club = club(squad);
        require(up >= 0 && bids > 0, state());
        Person one = people.get(up);
        boolean may = one.former == squad && bidder != squad && club[1] == 0;
        require(may && members(squad) < 12 && price <= club[0], unsupported());
        club[1] = 1;
        club[0] -= price;
        one.squad = squad;
        up = -1;
        return price;
    }

    int knockDown() {
        require(up >= 0, state());
        if (bidder >= 0) {
            people.get(up).squad = bidder;
            clubs.get(bidder)[0] -= price;
        }
        up = -1;
        return bidder;
    }

    int squadOf(int player) {
        return person(player).squad;
    }

    int purse(int squad) {
        return club(squad)[0];
    }

    int season() {
        require(!on && up < 0, state());
        int lost = 0;
        for (Person one : people) {
            if (one.squad >= 0) {
                one.former = one.squad;
                one.squad = -1;
                lost++;
            }
        }
        for (int[] club : clubs) {
            club[0] = 200;
            club[2] = 0;
            club[3] = 0;
        }
        return lost;
    }

    int edition(int mat, int from, boolean isRevived, int raids) {
        require(mat >= 3 && mat <= 7 && from >= 1 && from <= 7, argument());
        require(raids >= 2 && raids <= 20 && raids % 2 == 0, argument());
        require(!on, state());
        int before = standing;
        standing = mat;
        bonusFrom = from;
        revived = isRevived;
        half = raids;
        return before;
    }

    int begin(int squad, int other, boolean mustBeWon) {
        club(squad);
        club(other);
        require(squad != other, argument());
        require(Math.min(members(squad), members(other)) >= standing, unsupported());
        require(!on && up < 0, state());
        on = true;
        must = mustBeWon;
        over = 0;
        canReview = false;
        teams = new Team[] {new Team(), new Team()};
        for (Person one : people) {
            one.isGreen = false;
            one.sits = 0;
        }
        for (int side = 0; side < 2; side++) {
            Team team = teams[side];
            team.squad = side == 0 ? squad : other;
            team.hasReview = true;
            for (int player = 0; player < people.size(); player++) {
                if (people.get(player).squad == team.squad && team.mat.size() < standing) {
                    team.mat.add(player);
                } else if (people.get(player).squad == team.squad) {
                    team.bench.add(player);
                }
            }
        }
        return ++matches;
    }

    private int inTurn() {
        boolean isTurned = over >= half && over < 2 * half;
        return isTurned ? (over + 1) % 2 : over % 2;
    }

    int turn() {
        require(on, state());
        return inTurn();
    }

    int raids() {
        return over;
    }

    private static void requireSide(int side) {
        require(side == 0 || side == 1, argument());
    }

    int points(int side) {
        requireSide(side);
        return teams[side].points;
    }

    int onMat(int side) {
        requireSide(side);
        require(on, state());
        return teams[side].mat.size();
    }

    private int at(List<Integer> line, int index) {
        require(index >= 0 && index < line.size(), new NoSuchElementException());
        return line.get(index);
    }

    int matAt(int side, int index) {
        onMat(side);
        return at(new ArrayList<>(teams[side].mat), index);
    }

    int outAt(int side, int index) {
        onMat(side);
        return at(teams[side].out, index);
    }

    int benchAt(int side, int index) {
        onMat(side);
        return at(teams[side].bench, index);
    }

    boolean raid(int player) {
        person(player);
        require(on && raider < 0, state());
        require(teams[inTurn()].mat.contains(player), unsupported());
        raider = player;
        seconds = 0;
        tookBonus = false;
        steps = 0;
        touched.clear();
        canReview = false;
        stood = teams[1 - inTurn()].mat.size();
        doOrDie = teams[inTurn()].empty == 2;
        return doOrDie;
    }

    /** A touch is the player, whether it is real, called, told as a touch, and reviewed. */
    private int[] touchOf(int player) {
        for (int[] touch : touched) {
            if (touch[0] == player) {
                return touch;
            }
        }
        return null;
    }

    private boolean isBreathless(int more) {
        if (seconds + more > 30) {
            end(false);
            return true;
        }
        seconds += more;
        return false;
    }

    int touch(int player, boolean isReal, boolean isCalled) {
        person(player);
        require(raider >= 0, state());
        require(teams[1 - inTurn()].mat.contains(player) && touchOf(player) == null, unsupported());
        if (isBreathless(people.get(raider).speed >= 7 ? 2 : 3)) {
            return -1;
        }
        touched.add(new int[] {player, isReal ? 1 : 0, isCalled ? 1 : 0, 1, 0});
        return seconds;
    }

    int bonus() {
        require(raider >= 0, state());
        require(!tookBonus && stood >= bonusFrom, unsupported());
        if (isBreathless(4)) {
            return -1;
        }
        tookBonus = true;
        teams[inTurn()].points++;
        people.get(raider).told[0]++;
        return seconds;
    }

    int struggle(int bits) {
        require(raider >= 0, state());
        List<Integer> mat = new ArrayList<>(teams[1 - inTurn()].mat);
        List<Integer> holders = new ArrayList<>();
        for (int i = 0; i < 32; i++) {
            if ((bits & 1 << i) != 0) {
                require(i < mat.size(), argument());
                holders.add(mat.get(i));
            }
        }
        require(holders.size() >= 1 && holders.size() <= 3, argument());
        if (isBreathless(5)) {
            return -1;
        }
        Person one = people.get(raider);
        int hold = 2 * holders.size() - 2;
        for (int holder : holders) {
            hold += people.get(holder).grip;
        }
        if (one.reach + 2 * one.speed < hold) {
            for (int holder : holders) {
                people.get(holder).told[1] += stood <= 3 ? 2 : 1;
            }
            end(false);
            return -1;
        }
        for (int holder : holders) {
            if (touchOf(holder) == null) {
                touched.add(new int[] {holder, 1, 1, 0, 0});
            }
        }
        return seconds;
    }

    int stepOut(int player) {
        person(player);
        require(raider >= 0, state());
        Team defenders = teams[1 - inTurn()];
        require(defenders.mat.remove(player), unsupported());
        defenders.out.add(player);
        teams[inTurn()].points++;
        steps++;
        return defenders.mat.size();
    }

    int comeBack() {
        require(raider >= 0, state());
        int atOnce = steps + (tookBonus ? 1 : 0);
        return isBreathless(2) ? atOnce : atOnce + end(true);
    }

    private void back(Team team, int most) {
        for (int i = 0; i < most && !team.out.isEmpty(); i++) {
            team.mat.add(team.out.remove(0));
        }
    }

    private int end(boolean isReturn) {
        Team raiders = teams[inTurn()];
        Team defenders = teams[1 - inTurn()];
        int before = teams[0].points + teams[1].points - steps - (tookBonus ? 1 : 0);
        int touches = 0;
        boolean isOut = !isReturn;
        boolean isEmpty = false;
        if (isReturn) {
            for (int player : new ArrayList<>(defenders.mat)) {
                int[] touch = touchOf(player);
                if (touch != null && touch[2] == 1) {
                    defenders.mat.remove(player);
                    defenders.out.add(player);
                    touches++;
                }
            }
            raiders.points += touches;
            people.get(raider).told[0] += touches;
            people.get(raider).told[2] += touches + (tookBonus ? 1 : 0) >= 3 ? 1 : 0;
            isEmpty = touches + steps == 0 && !tookBonus;
            isOut = isEmpty && doOrDie;
            defenders.points += isOut ? 1 : 0;
        } else {
            defenders.points += stood <= 3 ? 2 : 1;
        }
        if (isOut) {
            raiders.mat.remove(raider);
            raiders.out.add(raider);
        }
        raiders.empty = isEmpty && !isOut ? raiders.empty + 1 : 0;
        if (revived) {
            back(raiders, touches + steps);
            back(defenders, isOut ? 1 : 0);
        }
        lastRaiders = inTurn();
        canReview = isReturn;
        over++;
        freeSitters();
        lookForAllOuts();
        people.get(raider).told[3]++;
        raider = -1;
        allRaids++;
        allEmpty += isEmpty ? 1 : 0;
        allPoints += teams[0].points + teams[1].points - before;
        lookForTheEnd();
        return touches;
    }

    private void freeSitters() {
        for (int player = 0; player < people.size(); player++) {
            Person one = people.get(player);
            if (one.sits > 0 && --one.sits == 0) {
                teams[one.squad == teams[0].squad ? 0 : 1].out.add(player);
            }
        }
    }

    private void lookForAllOuts() {
        for (int side = 0; side < 2; side++) {
            if (teams[side].mat.isEmpty()) {
                canReview = false;
                teams[1 - side].points += 2;
                on = on && !teams[side].out.isEmpty();
                back(teams[side], 40);
            }
        }
    }

    private void lookForTheEnd() {
        boolean isLevel = teams[0].points == teams[1].points;
        if (over == 2 * half) {
            on = on && must && isLevel;
        } else if (over >= 2 * half + 4) {
            on = on && isLevel;
        }
        for (int side = 0; side < 2 && !on; side++) {
            int difference = teams[side].points - teams[1 - side].points;
            int[] club = clubs.get(teams[side].squad);
            club[2] += difference > 0 ? 5 : difference == 0 ? 3 : difference >= -7 ? 1 : 0;
            club[3] += difference;
        }
    }

    char card(int player, char card) {
        Person one = person(player);
        require("gyr".indexOf(card) >= 0, argument());
        require(on && raider < 0, state());
        Team team = teams[one.squad == teams[0].squad ? 0 : 1];
        boolean isOnMat = team.mat.contains(player);
        require(isOnMat || team.out.contains(player), unsupported());
        char counts = card == 'g' && one.isGreen ? 'y' : card;
        if (counts == 'g') {
            one.isGreen = true;
            return 'g';
        }
        require(!isOnMat || team.mat.size() > 1, unsupported());
        team.mat.remove(player);
        team.out.remove(Integer.valueOf(player));
        one.sits = counts == 'y' ? 4 : -1;
        return counts;
    }

    int substitute(int player, int other) {
        Person one = person(player);
        person(other);
        require(on && raider < 0, state());
        Team team = teams[one.squad == teams[0].squad ? 0 : 1];
        require(team.mat.contains(player) && team.bench.contains(other) && team.changes < 5, unsupported());
        team.mat.remove(player);
        team.mat.add(other);
        team.bench.remove(Integer.valueOf(other));
        team.bench.add(player);
        return ++team.changes;
    }

    boolean review(int side, int player) {
        person(player);
        requireSide(side);
        require(on && raider < 0 && canReview, state());
        int[] touch = touchOf(player);
        require(teams[side].hasReview && touch != null && touch[3] == 1 && touch[4] == 0, unsupported());
        Team defenders = teams[1 - lastRaiders];
        boolean isOnMat = defenders.mat.contains(player);
        boolean isMissed = touch[1] == 1 && touch[2] == 0;
        require(!(isMissed && isOnMat && defenders.mat.size() == 1), unsupported());
        touch[4] = 1;
        if (touch[1] == touch[2]) {
            teams[side].hasReview = false;
            return false;
        }
        teams[lastRaiders].points += isMissed ? 1 : -1;
        if (isMissed && isOnMat) {
            defenders.mat.remove(player);
            defenders.out.add(player);
        } else if (!isMissed && defenders.out.remove(Integer.valueOf(player))) {
            defenders.mat.add(player);
        }
        return true;
    }

    boolean goesOn() {
        return on;
    }

    int told(int player, char what) {
        Person one = person(player);
        int index = "rtsn".indexOf(what);
        require(index >= 0, argument());
        return one.told[index];
    }

    int league(int squad) {
        return club(squad)[2];
    }

    private List<Integer> table() {
        List<Integer> table = new ArrayList<>();
        for (int squad = 0; squad < clubs.size(); squad++) {
            table.add(squad);
        }
        table.sort((a, b) -> {
            int[] one = clubs.get(a);
            int[] other = clubs.get(b);
            return one[2] != other[2] ? other[2] - one[2] : one[3] != other[3] ? other[3] - one[3] : a - b;
        });
        return table;
    }

    int placed(int place) {
        return at(table(), place);
    }

    private int strength(int squad) {
        return people.stream().filter(one -> one.squad == squad).mapToInt(one -> one.reach + one.speed + one.grip).sum();
    }

    int champion() {
        require(clubs.size() >= 3, unsupported());
        List<Integer> table = table();
        int second = strength(table.get(2)) > strength(table.get(1)) ? table.get(2) : table.get(1);
        return strength(second) > strength(table.get(0)) ? second : table.get(0);
    }

    float emptyShare() {
        require(allRaids > 0, new ArithmeticException());
        return (float) allEmpty / allRaids;
    }

    double meanPoints() {
        require(allRaids > 0, new ArithmeticException());
        return (double) allPoints / allRaids;
    }

    long checksum() {
        long sum = 7;
        if (matches == 0) {
            return sum;
        }
        for (Team team : teams) {
            sum = 31 * sum + team.points;
            for (int player : team.mat) {
                sum = 31 * sum + player;
            }
            for (int player : team.out) {
                sum = 31 * sum + player + 100;
            }
        }
        return sum;
    }

    boolean isTrue() {
        return true;
    }
}
