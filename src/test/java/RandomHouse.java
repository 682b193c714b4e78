import java.util.Random;

/** A house by chance: its text, and the same as a world of the model. */
final class RandomHouse {
    final Model.World world = new Model.World();
    final String text;
    private final Random chance;
    private final StringBuilder written = new StringBuilder();

    RandomHouse(Random chance, int mostMonks) {
        this.chance = chance;
        int rooms = 1 + chance.nextInt(9);
        for (int i = 0; i < rooms; i++) {
            Model.Room room = new Model.Room();
            room.verse = chance.nextInt(chance.nextBoolean() ? 100 : 4);
            int door = chance.nextInt(9);
            int wet = chance.nextInt(9);
            room.doors = new int[] {door % rooms, wet % rooms};
            world.rooms.add(room);
            put("room", room.verse, door, wet);
        }
        int monks = chance.nextInt(mostMonks + 1);
        String[] voices = {"bass", "tenor", "alto", "treble"};
        for (int i = 0; i < monks; i++) {
            Model.Monk monk = new Model.Monk();
            monk.number = i;
            monk.voice = chance.nextInt(4);
            monk.sleep = chance.nextInt(100);
            monk.fish = chance.nextInt(10);
            monk.room = chance.nextInt(rooms);
            world.monks.add(monk);
            put(voices[monk.voice], monk.sleep, monk.fish, monk.room);
        }
        if (chance.nextBoolean()) {
            world.tires = 1 + chance.nextInt(50);
            put("tires", world.tires);
        }
        if (chance.nextBoolean()) {
            world.rests = chance.nextInt(51);
            put("rests", world.rests);
        }
        if (chance.nextInt(4) != 0) {
            written.append("dreams ");
            world.dreams = or(0);
            written.append(";");
        }
        text = written.toString();
    }

    private void put(String word, int... numbers) {
        written.append(word);
        for (int number : numbers) {
            written.append(' ').append(number);
        }
        written.append(chance.nextInt(5) == 0 ? " ;\n" : ";");
    }

    private Model.Expr or(int depth) {
        Model.Expr left = and(depth);
        while (chance.nextInt(5) == 0 && written.length() < 600) {
            written.append(" or ");
            Model.Expr a = left;
            Model.Expr b = and(depth);
            left = (w, m) -> a.of(w, m) != 0 | b.of(w, m) != 0 ? 1 : 0;
        }
        return left;
    }

    private Model.Expr and(int depth) {
        Model.Expr left = not(depth);
        while (chance.nextInt(5) == 0 && written.length() < 600) {
            written.append(" and ");
            Model.Expr a = left;
            Model.Expr b = not(depth);
            left = (w, m) -> a.of(w, m) != 0 & b.of(w, m) != 0 ? 1 : 0;
        }
        return left;
    }

    private Model.Expr not(int depth) {
        if (chance.nextInt(8) == 0) {
            boolean twice = chance.nextInt(3) == 0;
            written.append(twice ? "not not " : "not ");
            Model.Expr a = test(depth);
            return (w, m) -> (a.of(w, m) == 0) == twice ? 0 : 1;
        }
        return test(depth);
    }

    private Model.Expr test(int depth) {
        Model.Expr a = sum(depth);
        if (chance.nextInt(3) != 0) {
            return a;
        }
        boolean less = chance.nextInt(3) != 0;
        written.append(less ? "<" : "=");
        Model.Expr b = sum(depth);
        return (w, m) -> (less ? a.of(w, m) < b.of(w, m) : a.of(w, m) == b.of(w, m)) ? 1 : 0;
    }

    private Model.Expr sum(int depth) {
        Model.Expr left = product(depth);
        while (chance.nextInt(4) == 0 && written.length() < 600) {
            boolean plus = chance.nextInt(3) == 0;
            written.append(plus ? "+" : "-");
            Model.Expr a = left;
            Model.Expr b = product(depth);
            left = (w, m) -> plus ? a.of(w, m) + b.of(w, m) : a.of(w, m) - b.of(w, m);
        }
        return left;
    }

    private Model.Expr product(int depth) {
        Model.Expr left = part(depth);
        while (chance.nextInt(6) == 0 && written.length() < 600) {
            boolean times = chance.nextBoolean();
            written.append(times ? " * " : "/");
            Model.Expr a = left;
            Model.Expr b = part(depth);
            left = (w, m) -> times ? a.of(w, m) * b.of(w, m) : cut(a.of(w, m), b.of(w, m));
        }
        return left;
    }

    private static int cut(int a, int b) {
        return b == 0 ? 0 : (int) ((long) a / b);
    }

    private Model.Expr part(int depth) {
        if (depth < 5 && chance.nextInt(4) == 0 && written.length() < 560) {
            written.append("(");
            Model.Expr a = or(depth + 1);
            written.append(")");
            return a;
        }
        if (chance.nextInt(3) == 0) {
            int number = chance.nextInt(chance.nextInt(9) == 0 ? 10000 : 60);
            written.append(number);
            return (w, m) -> number;
        }
        String[] names = {"sleep", "fish", "voice", "room", "verse", "night", "met", "last", "sleep", "fish"};
        int which = chance.nextInt(names.length);
        written.append(names[which]);
        return (w, m) -> value(which, w, m);
    }

    private static int value(int which, Model.World w, Model.Monk m) {
        switch (which) {
            case 1: case 9: return m.fish;
            case 2: return m.voice;
            case 3: return m.room;
            case 4: return w.rooms.get(m.room).verse;
            case 5: return w.night;
            case 6: return (int) w.monks.stream().filter(o -> o != m && o.room == m.room).count();
            case 7: return m.last ? 1 : 0;
            default: return m.sleep;
        }
    }
}
